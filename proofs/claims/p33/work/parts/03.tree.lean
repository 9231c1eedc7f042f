/-! 03: BracketTree.get and put, by hand; then the mirrors and walks of the leaves, by program (wip/whole/gen.py) -/
def mX4_get (len : Nat) (f : Nat → Int32) (i : Int32) : Int32 := if i < 0 then iI 0 else if Int32.ofNat len ≤ i then iI 0 else f i.toNatClampNeg
def mX4_put (len : Nat) (f : Nat → Int32) (i x : Int32) : Nat → Int32 := if i < 0 then f else if Int32.ofNat len ≤ i then f else upd f i.toNatClampNeg x
theorem inb_of {i : Int32} {len : Nat} (hlen : len < 2147483648) (h1 : ¬ i < 0) (h2 : ¬ Int32.ofNat len ≤ i) : vp_in i len := by
  obtain ⟨j, hj, rfl⟩ := nI_of h1
  have h3 : ¬ len ≤ j := fun h => h2 (nI_le h hj)
  exact vp_in_nI (by omega) (by omega)
theorem hdX4_get : yX4_get.cls ≠ "java/lang/invoke/MethodHandle" ∧ yX4_get.cls ≠ "java/lang/invoke/VarHandle" ∧ (parseMethodDescriptor yX4_get.desc).map (fun d => d.parameters.length) = some 2 := by decide +kernel
theorem hdX4_put : yX4_put.cls ≠ "java/lang/invoke/MethodHandle" ∧ yX4_put.cls ≠ "java/lang/invoke/VarHandle" ∧ (parseMethodDescriptor yX4_put.desc).map (fun d => d.parameters.length) = some 3 := by decide +kernel
abbrev rmX4_get : Room := { frames := 0, cells := 0, slots := 0, locals := 0 }
abbrev rmX4_put : Room := { frames := 0, cells := 0, slots := 0, locals := 0 }
set_option maxHeartbeats 4000000 in
set_option maxRecDepth 100000 in
theorem zX4_get (l : Launch) (D : va_G) (cI cC : ClassId) (a : Nat) (len : Nat) (f : Nat → Int32) (i : Int32) (hlen : len < 2147483648 := by decide) : Met l yX4_get wsX4_get rmX4_get (va_Pc [.ref a, .int i] (BW D cI cC [(a, .inl (cI, len, .inl f))])) (rdQ (mX4_get len f i)) 0 0 (fun _ => False) := by
  refine MetI RX4 (by decide +kernel) rfl rfl (Nat.le_of_ble_eq_true rfl) ?_
  intro p e s m below meth c ls X _ hB hl
  obtain ⟨hP, hKK⟩ := hB
  have hx := X.1
  have hb := X.2.1
  replace hl : lv_has ls 2 [(0, .ref a), (1, .int i)] := hl
  obtain ⟨r, h⟩ : ∃ r, mX4_get len f i = r := ⟨_, rfl⟩
  rw [h]
  unfold mX4_get at h
  refine lv_iload_n hx hb dX4_get_0 rfl (lv_at hl 1 rfl) ?_
  refine lv_if_lt (tgt := 16) hx hb dX4_get_1 (by decide) (fun c1 => ?_) (fun c1 => ?_)
  · replace h := ifp c1 h
    refine lv_iconst (v := iI 0) hx hb dX4_get_16 rfl ?_
    exact rd_ret X rfl h dX4_get_17
  · replace h := ifn c1 h
    refine lv_iload_n hx hb dX4_get_4 rfl (lv_at hl 1 rfl) ?_
    refine lv_aload_n hx hb dX4_get_5 rfl (lv_at hl 0 rfl) ?_
    refine va_alen (v := Int32.ofNat len) hx hb hKK.1 hP 0 0 rfl rfl rfl dX4_get_6 ?_
    refine lv_icmp_ge (tgt := 16) hx hb dX4_get_7 (by decide) (fun c2 => ?_) (fun c2 => ?_)
    · replace h := ifp c2 h
      refine lv_iconst (v := iI 0) hx hb dX4_get_16 rfl ?_
      exact rd_ret X rfl h dX4_get_17
    · replace h := ifn c2 h
      refine lv_aload_n hx hb dX4_get_10 rfl (lv_at hl 0 rfl) ?_
      refine lv_iload_n hx hb dX4_get_11 rfl (lv_at hl 1 rfl) ?_
      refine va_iald hx hb hKK.1 hP 0 0 rfl rfl (inb_of hlen c1 c2) dX4_get_12 ?_
      refine lv_goto (tgt := 17) hx hb dX4_get_13 (by decide) ?_
      exact rd_ret X rfl h dX4_get_17
set_option maxHeartbeats 4000000 in
set_option maxRecDepth 100000 in
theorem zX4_put (l : Launch) (D : va_G) (cI cC : ClassId) (a : Nat) (len : Nat) (f : Nat → Int32) (i x : Int32) (sz : Nat) (hlen : len < 2147483648 := by decide) : Met l yX4_put wsX4_put rmX4_put (va_Pc [.ref a, .int i, .int x] (MB D cI cC sz [(a, .inl (cI, len, .inl f))])) (muQ D none [(a, .inl (cI, len, .inl (mX4_put len f i x)))] (va_A [(a, .inl (cI, len, .inl f))] sz)) 0 0 (va_A [(a, .inl (cI, len, .inl f))] sz) := by
  refine MetI RX4 (by decide +kernel) rfl rfl (Nat.le_of_ble_eq_true rfl) ?_
  intro p e s m below meth c ls X _ hB hl
  obtain ⟨hsz, ⟨hP, hKK⟩, hD0⟩ := hB
  subst hsz
  have hD := hD0.self (sz := s.heap.size)
  generalize hAe : va_A [(a, .inl (cI, len, .inl f))] s.heap.size = A at hD ⊢
  have hS : va_S A s.heap s.heap [] := va_S.rf
  have hx := X.1
  have hb := X.2.1
  replace hl : lv_has ls 3 [(0, .ref a), (1, .int i), (2, .int x)] := hl
  obtain ⟨r, h⟩ : ∃ r, mX4_put len f i x = r := ⟨_, rfl⟩
  rw [h]
  unfold mX4_put at h
  refine lv_iload_n hx hb dX4_put_0 rfl (lv_at hl 1 rfl) ?_
  refine lv_if_lt (tgt := 14) hx hb dX4_put_1 (by decide) (fun c1 => ?_) (fun c1 => ?_)
  · replace h := ifp c1 h
    subst h
    exact mu_vret X hP rfl hS dX4_put_14
  · replace h := ifn c1 h
    refine lv_iload_n hx hb dX4_put_4 rfl (lv_at hl 1 rfl) ?_
    refine lv_aload_n hx hb dX4_put_5 rfl (lv_at hl 0 rfl) ?_
    refine va_alen (v := Int32.ofNat len) hx hb hKK.1 hP 0 0 rfl rfl rfl dX4_put_6 ?_
    refine lv_icmp_ge (tgt := 14) hx hb dX4_put_7 (by decide) (fun c2 => ?_) (fun c2 => ?_)
    · replace h := ifp c2 h
      subst h
      exact mu_vret X hP rfl hS dX4_put_14
    · replace h := ifn c2 h
      refine lv_aload_n hx hb dX4_put_10 rfl (lv_at hl 0 rfl) ?_
      refine lv_iload_n hx hb dX4_put_11 rfl (lv_at hl 1 rfl) ?_
      refine lv_iload_n hx hb dX4_put_12 rfl (lv_at hl 2 rfl) ?_
      refine va_iast hx hb hKK.1 hP hD hS 0 0 rfl rfl (inb_of hlen c1 c2) dX4_put_13 (fun H locs hP hD hS => ?_)
      replace hP : va_P D vwCl [(a, .inl (cI, len, .inl (upd f i.toNatClampNeg x)))] H := hP
      subst h
      exact mu_vret X hP rfl hS dX4_put_14
abbrev wT (cI : ClassId) (q : Nat → Nat) (n : Int32) (d : Nat → Int32) (lb : Nat → Int32) (xd : Nat → Int32) (xl : Nat → Int32) : va_W := [(q 8, .inr (3, [.ref (q 9), .ref (q 10), .ref (q 11), .ref (q 12), .int n])), (q 9, .inl (cI, 100, .inl d)), (q 10, .inl (cI, 100, .inl lb)), (q 11, .inl (cI, 100, .inl xd)), (q 12, .inl (cI, 100, .inl xl))]
abbrev wB (cI : ClassId) (q : Nat → Nat) (n : Int32) (d : Nat → Int32) (lb : Nat → Int32) (xd : Nat → Int32) (xl : Nat → Int32) (wi : Int32) : va_W := [(q 1, .inr (0, [.int wi])), (q 8, .inr (3, [.ref (q 9), .ref (q 10), .ref (q 11), .ref (q 12), .int n])), (q 9, .inl (cI, 100, .inl d)), (q 10, .inl (cI, 100, .inl lb)), (q 11, .inl (cI, 100, .inl xd)), (q 12, .inl (cI, 100, .inl xl))]
abbrev wH (cI : ClassId) (q : Nat → Nat) (n : Int32) (d : Nat → Int32) (lb : Nat → Int32) (xd : Nat → Int32) (xl : Nat → Int32) (sl : Int32) (kp : Int32) (ct : Nat → Int32) (gd : Nat → Int32) (gl : Nat → Int32) : va_W := [(q 2, .inr (1, [.ref (q 3), .ref (q 4), .ref (q 5), .int sl, .int kp])), (q 3, .inl (cI, 15, .inl ct)), (q 4, .inl (cI, 1500, .inl gd)), (q 5, .inl (cI, 1500, .inl gl)), (q 8, .inr (3, [.ref (q 9), .ref (q 10), .ref (q 11), .ref (q 12), .int n])), (q 9, .inl (cI, 100, .inl d)), (q 10, .inl (cI, 100, .inl lb)), (q 11, .inl (cI, 100, .inl xd)), (q 12, .inl (cI, 100, .inl xl))]
abbrev wX (cI : ClassId) (q : Nat → Nat) (n : Int32) (d : Nat → Int32) (lb : Nat → Int32) (xd : Nat → Int32) (xl : Nat → Int32) (ln : Int32) (ch : Nat → Int32) : va_W := [(q 6, .inr (2, [.ref (q 7), .int ln])), (q 7, .inl (cI, 300, .inl ch)), (q 8, .inr (3, [.ref (q 9), .ref (q 10), .ref (q 11), .ref (q 12), .int n])), (q 9, .inl (cI, 100, .inl d)), (q 10, .inl (cI, 100, .inl lb)), (q 11, .inl (cI, 100, .inl xd)), (q 12, .inl (cI, 100, .inl xl))]
abbrev wA (cI : ClassId) (q : Nat → Nat) (n : Int32) (d : Nat → Int32) (lb : Nat → Int32) (xd : Nat → Int32) (xl : Nat → Int32) (wi : Int32) (sl : Int32) (kp : Int32) (ct : Nat → Int32) (gd : Nat → Int32) (gl : Nat → Int32) (ln : Int32) (ch : Nat → Int32) : va_W := [(q 0, .inr (4, [.ref (q 8), .ref (q 1), .ref (q 2), .ref (q 6)])), (q 1, .inr (0, [.int wi])), (q 2, .inr (1, [.ref (q 3), .ref (q 4), .ref (q 5), .int sl, .int kp])), (q 3, .inl (cI, 15, .inl ct)), (q 4, .inl (cI, 1500, .inl gd)), (q 5, .inl (cI, 1500, .inl gl)), (q 6, .inr (2, [.ref (q 7), .int ln])), (q 7, .inl (cI, 300, .inl ch)), (q 8, .inr (3, [.ref (q 9), .ref (q 10), .ref (q 11), .ref (q 12), .int n])), (q 9, .inl (cI, 100, .inl d)), (q 10, .inl (cI, 100, .inl lb)), (q 11, .inl (cI, 100, .inl xd)), (q 12, .inl (cI, 100, .inl xl))]
def mX3_positionCount (n : Int32)  : (Int32) := ((iI 2) * n)
theorem hdX3_positionCount : yX3_positionCount.cls = RX3 ∧ yX3_positionCount.cls ≠ "java/lang/invoke/MethodHandle" ∧ yX3_positionCount.cls ≠ "java/lang/invoke/VarHandle" ∧ (parseMethodDescriptor yX3_positionCount.desc).map (fun d => d.parameters.length) = some 0 := by decide +kernel
theorem flX3_positionCount_28 : Cond.fieldLink RX3 28 "BracketTree$Tree" "count" "I" ∈ wsX3_positionCount := by decide +kernel
theorem iwX3_positionCount_3 : ∀ w ∈ wsX30, w ∈ wsX3_positionCount := by decide +kernel
abbrev rmX3_positionCount : Room := { frames := 0, cells := 0, slots := 0, locals := 0 }
set_option maxHeartbeats 4000000 in
set_option maxRecDepth 100000 in
theorem zX3_positionCount (l : Launch) (D : va_G) (cI cC : ClassId) (q : Nat → Nat) (n : Int32) (d : Nat → Int32) (lb : Nat → Int32) (xd : Nat → Int32) (xl : Nat → Int32)  (r : Int32) (h : mX3_positionCount n = r) : Met l yX3_positionCount wsX3_positionCount rmX3_positionCount (va_Pc [.ref (q 8)] (BW D cI cC (wT cI q n d lb xd xl))) (rdQ r) 0 0 (fun _ => False) := by
  refine MetI RX3 (by decide +kernel) rfl rfl (Nat.le_of_ble_eq_true rfl) ?_
  intro p e s m below meth c ls X _ hB hl
  obtain ⟨hP, hKK⟩ := hB
  have hx := X.1
  have hb := X.2.1
  replace hl : lv_has ls 1 [(0, .ref (q 8))] := hl
  unfold mX3_positionCount at h
  refine lv_iconst (v := iI 2) hx hb dX3_positionCount_0 rfl ?_
  refine lv_aload_n hx hb dX3_positionCount_1 rfl (lv_at hl 0 rfl) ?_
  refine va_get (D := D) (ci := 3) (v := .int n) (C := RX3) (T := TX3) (N := 5) hx hb X.2.2.2.2.1 iwX3_positionCount_3 X.2.2.2.1 hKK.1 hP 0 rfl rfl 4 (by decide) (X.2.2.2.2.1 _ flX3_positionCount_28) (fun _ h9 => h9) rfl dX3_positionCount_2 ?_
  refine lv_imul hx hb dX3_positionCount_5 ?_
  exact rd_ret X rfl h dX3_positionCount_6
def mX3_has (n : Int32) (x1 : Int32) : (Int32) := (if x1 < 0 then (iI 0) else (if n ≤ x1 then (iI 0) else (iI 1)))
theorem hdX3_has : yX3_has.cls = RX3 ∧ yX3_has.cls ≠ "java/lang/invoke/MethodHandle" ∧ yX3_has.cls ≠ "java/lang/invoke/VarHandle" ∧ (parseMethodDescriptor yX3_has.desc).map (fun d => d.parameters.length) = some 1 := by decide +kernel
theorem flX3_has_28 : Cond.fieldLink RX3 28 "BracketTree$Tree" "count" "I" ∈ wsX3_has := by decide +kernel
theorem iwX3_has_3 : ∀ w ∈ wsX30, w ∈ wsX3_has := by decide +kernel
abbrev rmX3_has : Room := { frames := 0, cells := 0, slots := 0, locals := 0 }
set_option maxHeartbeats 4000000 in
set_option maxRecDepth 100000 in
theorem zX3_has (l : Launch) (D : va_G) (cI cC : ClassId) (q : Nat → Nat) (n : Int32) (d : Nat → Int32) (lb : Nat → Int32) (xd : Nat → Int32) (xl : Nat → Int32) (x1 : Int32) (r : Int32) (h : mX3_has n x1 = r) : Met l yX3_has wsX3_has rmX3_has (va_Pc [.ref (q 8), .int x1] (BW D cI cC (wT cI q n d lb xd xl))) (rdQ r) 0 0 (fun _ => False) := by
  refine MetI RX3 (by decide +kernel) rfl rfl (Nat.le_of_ble_eq_true rfl) ?_
  intro p e s m below meth c ls X _ hB hl
  obtain ⟨hP, hKK⟩ := hB
  have hx := X.1
  have hb := X.2.1
  replace hl : lv_has ls 2 [(0, .ref (q 8)), (1, .int x1)] := hl
  unfold mX3_has at h
  refine lv_iload_n hx hb dX3_has_0 rfl (lv_at hl 1 rfl) ?_
  refine lv_if_lt (tgt := 16) hx hb dX3_has_1 (by decide) (fun c1 => ?_) (fun c1 => ?_)
  · replace h := ifp c1 h
    refine lv_iconst (v := iI 0) hx hb dX3_has_16 rfl ?_
    exact rd_ret X rfl h dX3_has_17
  · replace h := ifn c1 h
    refine lv_iload_n hx hb dX3_has_4 rfl (lv_at hl 1 rfl) ?_
    refine lv_aload_n hx hb dX3_has_5 rfl (lv_at hl 0 rfl) ?_
    refine va_get (D := D) (ci := 3) (v := .int n) (C := RX3) (T := TX3) (N := 5) hx hb X.2.2.2.2.1 iwX3_has_3 X.2.2.2.1 hKK.1 hP 0 rfl rfl 4 (by decide) (X.2.2.2.2.1 _ flX3_has_28) (fun _ h9 => h9) rfl dX3_has_6 ?_
    refine lv_icmp_ge (tgt := 16) hx hb dX3_has_9 (by decide) (fun c2 => ?_) (fun c2 => ?_)
    · replace h := ifp c2 h
      refine lv_iconst (v := iI 0) hx hb dX3_has_16 rfl ?_
      exact rd_ret X rfl h dX3_has_17
    · replace h := ifn c2 h
      refine lv_iconst (v := iI 1) hx hb dX3_has_12 rfl ?_
      refine lv_goto (tgt := 17) hx hb dX3_has_13 (by decide) ?_
      exact rd_ret X rfl h dX3_has_17
def mX3_depthOf (n : Int32) (d : Nat → Int32) (x1 : Int32) : (Int32) := (if (mX3_has n x1) = 0 then (iI 0) else (mX4_get 100 d x1))
theorem hdX3_depthOf : yX3_depthOf.cls = RX3 ∧ yX3_depthOf.cls ≠ "java/lang/invoke/MethodHandle" ∧ yX3_depthOf.cls ≠ "java/lang/invoke/VarHandle" ∧ (parseMethodDescriptor yX3_depthOf.desc).map (fun d => d.parameters.length) = some 1 := by decide +kernel
theorem flX3_depthOf_9 : Cond.fieldLink RX3 9 "BracketTree$Tree" "depths" "[I" ∈ wsX3_depthOf := by decide +kernel
theorem iwX3_depthOf_3 : ∀ w ∈ wsX30, w ∈ wsX3_depthOf := by decide +kernel
theorem niX3_depthOf_X4_get : Cond.initialized RX4 ∈ wsX3_depthOf := by decide +kernel
theorem nsX3_depthOf_X4_get : Cond.static yX4_get ∈ wsX3_depthOf := by decide +kernel
theorem nlX3_depthOf_X4_get : Cond.methodLinkNest RX3 36 yX4_get "BracketTree" ∈ nestL := by decide +kernel
abbrev rmX3_depthOf : Room := { frames := 1, cells := 0, slots := 0, locals := 21 }
set_option maxHeartbeats 4000000 in
set_option maxRecDepth 100000 in
theorem zX3_depthOf (l : Launch) (D : va_G) (cI cC : ClassId) (q : Nat → Nat) (n : Int32) (d : Nat → Int32) (lb : Nat → Int32) (xd : Nat → Int32) (xl : Nat → Int32) (x1 : Int32) (r : Int32) (h : mX3_depthOf n d x1 = r) : Met l yX3_depthOf wsX3_depthOf rmX3_depthOf (va_Pc [.ref (q 8), .int x1] (BW D cI cC (wT cI q n d lb xd xl))) (rdQ r) 0 0 (fun _ => False) := by
  refine MetI RX3 (by decide +kernel) rfl rfl (Nat.le_of_ble_eq_true rfl) ?_
  intro p e s m below meth c ls X _ hB hl
  obtain ⟨hP, hKK⟩ := hB
  have hx := X.1
  have hb := X.2.1
  replace hl : lv_has ls 2 [(0, .ref (q 8)), (1, .int x1)] := hl
  unfold mX3_depthOf at h
  refine lv_aload_n hx hb dX3_depthOf_0 rfl (lv_at hl 0 rfl) ?_
  refine lv_iload_n hx hb dX3_depthOf_1 rfl (lv_at hl 1 rfl) ?_
  refine rcV (rest := []) X hKK hP 1 (zX3_has l D cI cC q n d lb xd xl x1 _ rfl) gX3_depthOf_X3_has rfl rfl rfl hdX3_has ⟨Nat.le_of_ble_eq_true rfl, Nat.le_of_ble_eq_true rfl⟩ [0, 1, 2, 3, 4] rfl 0 rfl rfl rfl hl.1 rfl (Nat.le_of_ble_eq_true rfl) dX3_depthOf_2 ⟨Nat.zero_le _, Nat.zero_le _⟩ ?_
  refine lv_if_eq (tgt := 19) hx hb dX3_depthOf_5 (by decide) (fun c1 => ?_) (fun c1 => ?_)
  · replace h := ifp c1 h
    refine lv_iconst (v := iI 0) hx hb dX3_depthOf_19 rfl ?_
    exact rd_ret X rfl h dX3_depthOf_20
  · replace h := ifn c1 h
    refine lv_aload_n hx hb dX3_depthOf_8 rfl (lv_at hl 0 rfl) ?_
    refine va_get (D := D) (ci := 3) (v := .ref (q 9)) (C := RX3) (T := TX3) (N := 5) hx hb X.2.2.2.2.1 iwX3_depthOf_3 X.2.2.2.1 hKK.1 hP 0 rfl rfl 0 (by decide) (X.2.2.2.2.1 _ flX3_depthOf_9) (fun _ h9 => h9) rfl dX3_depthOf_9 ?_
    refine lv_iload_n hx hb dX3_depthOf_12 rfl (lv_at hl 1 rfl) ?_
    refine rcSN (rest := []) X hKK hP 2 (zX4_get l D cI cC (q 9) 100 d x1) gX3_depthOf_X4_get_n36 rfl rfl rfl nlX3_depthOf_X4_get (X.2.2.2.2.1 _ niX3_depthOf_X4_get) (X.2.2.2.2.1 _ nsX3_depthOf_X4_get) hdX4_get ⟨Nat.le_of_ble_eq_true rfl, Nat.le_of_ble_eq_true rfl⟩ [1] rfl rfl hl.1 rfl (Nat.le_of_ble_eq_true rfl) dX3_depthOf_13 ⟨Nat.zero_le _, Nat.zero_le _⟩ ?_
    refine lv_goto (tgt := 20) hx hb dX3_depthOf_16 (by decide) ?_
    exact rd_ret X rfl h dX3_depthOf_20
def mX3_openingOf (n : Int32) (d : Nat → Int32) (x1 : Int32) : (Int32) := (((iI 2) * x1) - (mX3_depthOf n d x1))
theorem hdX3_openingOf : yX3_openingOf.cls = RX3 ∧ yX3_openingOf.cls ≠ "java/lang/invoke/MethodHandle" ∧ yX3_openingOf.cls ≠ "java/lang/invoke/VarHandle" ∧ (parseMethodDescriptor yX3_openingOf.desc).map (fun d => d.parameters.length) = some 1 := by decide +kernel
abbrev rmX3_openingOf : Room := { frames := 2, cells := 0, slots := 0, locals := 42 }
set_option maxHeartbeats 4000000 in
set_option maxRecDepth 100000 in
theorem zX3_openingOf (l : Launch) (D : va_G) (cI cC : ClassId) (q : Nat → Nat) (n : Int32) (d : Nat → Int32) (lb : Nat → Int32) (xd : Nat → Int32) (xl : Nat → Int32) (x1 : Int32) (r : Int32) (h : mX3_openingOf n d x1 = r) : Met l yX3_openingOf wsX3_openingOf rmX3_openingOf (va_Pc [.ref (q 8), .int x1] (BW D cI cC (wT cI q n d lb xd xl))) (rdQ r) 0 0 (fun _ => False) := by
  refine MetI RX3 (by decide +kernel) rfl rfl (Nat.le_of_ble_eq_true rfl) ?_
  intro p e s m below meth c ls X _ hB hl
  obtain ⟨hP, hKK⟩ := hB
  have hx := X.1
  have hb := X.2.1
  replace hl : lv_has ls 2 [(0, .ref (q 8)), (1, .int x1)] := hl
  unfold mX3_openingOf at h
  refine lv_iconst (v := iI 2) hx hb dX3_openingOf_0 rfl ?_
  refine lv_iload_n hx hb dX3_openingOf_1 rfl (lv_at hl 1 rfl) ?_
  refine lv_imul hx hb dX3_openingOf_2 ?_
  refine lv_aload_n hx hb dX3_openingOf_3 rfl (lv_at hl 0 rfl) ?_
  refine lv_iload_n hx hb dX3_openingOf_4 rfl (lv_at hl 1 rfl) ?_
  refine rcV (rest := [.int ((iI 2) * x1)]) X hKK hP 1 (zX3_depthOf l D cI cC q n d lb xd xl x1 _ rfl) gX3_openingOf_X3_depthOf rfl rfl rfl hdX3_depthOf ⟨Nat.le_of_ble_eq_true rfl, Nat.le_of_ble_eq_true rfl⟩ [0, 1, 2, 3, 4] rfl 0 rfl rfl rfl hl.1 rfl (Nat.le_of_ble_eq_true rfl) dX3_openingOf_5 ⟨Nat.zero_le _, Nat.zero_le _⟩ ?_
  refine lv_isub hx hb dX3_openingOf_8 ?_
  exact rd_ret X rfl h dX3_openingOf_9
def mX3_openedBefore_2 : Nat → Int32 → (Nat → Int32) → Int32 → Int32 → Option (Int32)
  | 0, _, _, _, _ => none
  | f + 1, n, d, x1, x2 => (if n ≤ x2 then some x2 else (if x1 ≤ (mX3_openingOf n d x2) then some x2 else mX3_openedBefore_2 f n d x1 (x2 + iI 1)))
def mX3_openedBefore (n : Int32) (d : Nat → Int32) (x1 : Int32) : Option (Int32) := mX3_openedBefore_2 FU n d x1 (iI 0)
theorem hdX3_openedBefore : yX3_openedBefore.cls = RX3 ∧ yX3_openedBefore.cls ≠ "java/lang/invoke/MethodHandle" ∧ yX3_openedBefore.cls ≠ "java/lang/invoke/VarHandle" ∧ (parseMethodDescriptor yX3_openedBefore.desc).map (fun d => d.parameters.length) = some 1 := by decide +kernel
theorem flX3_openedBefore_28 : Cond.fieldLink RX3 28 "BracketTree$Tree" "count" "I" ∈ wsX3_openedBefore := by decide +kernel
theorem iwX3_openedBefore_3 : ∀ w ∈ wsX30, w ∈ wsX3_openedBefore := by decide +kernel
abbrev rmX3_openedBefore : Room := { frames := 3, cells := 0, slots := 0, locals := 63 }
set_option maxHeartbeats 4000000 in
set_option maxRecDepth 100000 in
theorem kX3_openedBefore_2 {p : Program} {l : Launch} {e : Env} {s : State} {m : MethodId} {args : Array Value} {below : List Frame} {meth : Method} {c : Code} {D : va_G} {cI cC : ClassId} {q : Nat → Nat} {n : Int32} {d : Nat → Int32} {lb : Nat → Int32} {xd : Nat → Int32} {xl : Nat → Int32} {r : Int32} (X : CX p s m args meth c wsX3_openedBefore cX3_openedBefore 3 (some .int) RX3) (hKK : KK D cI cC s) (hP : va_P D vwCl (wT cI q n d lb xd xl) s.heap) : ∀ (f : Nat), ∀ (x1 : Int32) (x2 : Int32) (ls : Array Slot), lv_has ls 3 [(0, .ref (q 8)), (1, .int x1), (2, .int x2)] → mX3_openedBefore_2 f n d x1 x2 = some r → W p l e rmX3_openedBefore s m args below meth c s.heap [] 0 0 (MQ below (rdQ r) args s 0 0 (fun _ => False)) (F0 m 2 ls []) := by
  have hx := X.1
  have hb := X.2.1
  intro f
  induction f with
  | zero =>
    intro x1 x2 ls hl h
    exact absurd h (by unfold mX3_openedBefore_2; intro h; cases h)
  | succ f ih =>
    intro x1 x2 ls hl h
    rw [mX3_openedBefore_2] at h
    refine lv_iload_n hx hb dX3_openedBefore_2 rfl (lv_at hl 2 rfl) ?_
    refine lv_aload_n hx hb dX3_openedBefore_3 rfl (lv_at hl 0 rfl) ?_
    refine va_get (D := D) (ci := 3) (v := .int n) (C := RX3) (T := TX3) (N := 5) hx hb X.2.2.2.2.1 iwX3_openedBefore_3 X.2.2.2.1 hKK.1 hP 0 rfl rfl 4 (by decide) (X.2.2.2.2.1 _ flX3_openedBefore_28) (fun _ h9 => h9) rfl dX3_openedBefore_4 ?_
    refine lv_icmp_ge (tgt := 25) hx hb dX3_openedBefore_7 (by decide) (fun c1 => ?_) (fun c1 => ?_)
    · replace h := ifp c1 h
      refine lv_iload_n hx hb dX3_openedBefore_25 rfl (lv_at hl 2 rfl) ?_
      exact rd_ret X rfl (Option.some.inj h) dX3_openedBefore_26
    · replace h := ifn c1 h
      refine lv_aload_n hx hb dX3_openedBefore_10 rfl (lv_at hl 0 rfl) ?_
      refine lv_iload_n hx hb dX3_openedBefore_11 rfl (lv_at hl 2 rfl) ?_
      refine rcV (rest := []) X hKK hP 1 (zX3_openingOf l D cI cC q n d lb xd xl x2 _ rfl) gX3_openedBefore_X3_openingOf rfl rfl rfl hdX3_openingOf ⟨Nat.le_of_ble_eq_true rfl, Nat.le_of_ble_eq_true rfl⟩ [0, 1, 2, 3, 4] rfl 0 rfl rfl rfl hl.1 rfl (Nat.le_of_ble_eq_true rfl) dX3_openedBefore_12 ⟨Nat.zero_le _, Nat.zero_le _⟩ ?_
      refine lv_iload_n hx hb dX3_openedBefore_15 rfl (lv_at hl 1 rfl) ?_
      refine lv_icmp_ge (tgt := 25) hx hb dX3_openedBefore_16 (by decide) (fun c2 => ?_) (fun c2 => ?_)
      · replace h := ifp c2 h
        refine lv_iload_n hx hb dX3_openedBefore_25 rfl (lv_at hl 2 rfl) ?_
        exact rd_ret X rfl (Option.some.inj h) dX3_openedBefore_26
      · replace h := ifn c2 h
        refine lv_iinc (v := (x2 + iI 1)) (lv' := [(2, .int (x2 + iI 1)), (0, .ref (q 8)), (1, .int x1)]) hx hb dX3_openedBefore_19 hl (k := 2) rfl rfl (by decide) rfl (fun ls hl => ?_)
        refine lv_goto (tgt := 2) hx hb dX3_openedBefore_22 (by decide) ?_
        exact ih x1 (x2 + iI 1) ls (lv_sub hl [1, 2, 0] rfl) h
set_option maxHeartbeats 4000000 in
set_option maxRecDepth 100000 in
theorem zX3_openedBefore (l : Launch) (D : va_G) (cI cC : ClassId) (q : Nat → Nat) (n : Int32) (d : Nat → Int32) (lb : Nat → Int32) (xd : Nat → Int32) (xl : Nat → Int32) (x1 : Int32) (r : Int32) (h : mX3_openedBefore n d x1 = some r) : Met l yX3_openedBefore wsX3_openedBefore rmX3_openedBefore (va_Pc [.ref (q 8), .int x1] (BW D cI cC (wT cI q n d lb xd xl))) (rdQ r) 0 0 (fun _ => False) := by
  refine MetI RX3 (by decide +kernel) rfl rfl (Nat.le_of_ble_eq_true rfl) ?_
  intro p e s m below meth c ls X _ hB hl
  obtain ⟨hP, hKK⟩ := hB
  have hx := X.1
  have hb := X.2.1
  replace hl : lv_has ls 3 [(0, .ref (q 8)), (1, .int x1)] := hl
  unfold mX3_openedBefore at h
  refine lv_iconst (v := iI 0) hx hb dX3_openedBefore_0 rfl ?_
  refine lv_istore_n (lv' := [(2, .int (iI 0)), (0, .ref (q 8)), (1, .int x1)]) hx hb dX3_openedBefore_1 rfl hl (by decide) rfl (fun ls hl => ?_)
  exact kX3_openedBefore_2 X hKK hP FU x1 (iI 0) ls (lv_sub hl [1, 2, 0] rfl) h
def mX3_opensAt (n : Int32) (d : Nat → Int32) (x1 : Int32) (x2 : Int32) : (Int32) := (if (mX3_has n x1) = 0 then (iI 0) else (if (mX3_openingOf n d x1) = x2 then (iI 1) else (iI 0)))
theorem hdX3_opensAt : yX3_opensAt.cls = RX3 ∧ yX3_opensAt.cls ≠ "java/lang/invoke/MethodHandle" ∧ yX3_opensAt.cls ≠ "java/lang/invoke/VarHandle" ∧ (parseMethodDescriptor yX3_opensAt.desc).map (fun d => d.parameters.length) = some 2 := by decide +kernel
abbrev rmX3_opensAt : Room := { frames := 3, cells := 0, slots := 0, locals := 63 }
set_option maxHeartbeats 4000000 in
set_option maxRecDepth 100000 in
theorem zX3_opensAt (l : Launch) (D : va_G) (cI cC : ClassId) (q : Nat → Nat) (n : Int32) (d : Nat → Int32) (lb : Nat → Int32) (xd : Nat → Int32) (xl : Nat → Int32) (x1 : Int32) (x2 : Int32) (r : Int32) (h : mX3_opensAt n d x1 x2 = r) : Met l yX3_opensAt wsX3_opensAt rmX3_opensAt (va_Pc [.ref (q 8), .int x1, .int x2] (BW D cI cC (wT cI q n d lb xd xl))) (rdQ r) 0 0 (fun _ => False) := by
  refine MetI RX3 (by decide +kernel) rfl rfl (Nat.le_of_ble_eq_true rfl) ?_
  intro p e s m below meth c ls X _ hB hl
  obtain ⟨hP, hKK⟩ := hB
  have hx := X.1
  have hb := X.2.1
  replace hl : lv_has ls 3 [(0, .ref (q 8)), (1, .int x1), (2, .int x2)] := hl
  unfold mX3_opensAt at h
  refine lv_aload_n hx hb dX3_opensAt_0 rfl (lv_at hl 0 rfl) ?_
  refine lv_iload_n hx hb dX3_opensAt_1 rfl (lv_at hl 1 rfl) ?_
  refine rcV (rest := []) X hKK hP 1 (zX3_has l D cI cC q n d lb xd xl x1 _ rfl) gX3_opensAt_X3_has rfl rfl rfl hdX3_has ⟨Nat.le_of_ble_eq_true rfl, Nat.le_of_ble_eq_true rfl⟩ [0, 1, 2, 3, 4] rfl 0 rfl rfl rfl hl.1 rfl (Nat.le_of_ble_eq_true rfl) dX3_opensAt_2 ⟨Nat.zero_le _, Nat.zero_le _⟩ ?_
  refine lv_if_eq (tgt := 21) hx hb dX3_opensAt_5 (by decide) (fun c1 => ?_) (fun c1 => ?_)
  · replace h := ifp c1 h
    refine lv_iconst (v := iI 0) hx hb dX3_opensAt_21 rfl ?_
    exact rd_ret X rfl h dX3_opensAt_22
  · replace h := ifn c1 h
    refine lv_aload_n hx hb dX3_opensAt_8 rfl (lv_at hl 0 rfl) ?_
    refine lv_iload_n hx hb dX3_opensAt_9 rfl (lv_at hl 1 rfl) ?_
    refine rcV (rest := []) X hKK hP 1 (zX3_openingOf l D cI cC q n d lb xd xl x1 _ rfl) gX3_opensAt_X3_openingOf rfl rfl rfl hdX3_openingOf ⟨Nat.le_of_ble_eq_true rfl, Nat.le_of_ble_eq_true rfl⟩ [0, 1, 2, 3, 4] rfl 0 rfl rfl rfl hl.1 rfl (Nat.le_of_ble_eq_true rfl) dX3_opensAt_10 ⟨Nat.zero_le _, Nat.zero_le _⟩ ?_
    refine lv_iload_n hx hb dX3_opensAt_13 rfl (lv_at hl 2 rfl) ?_
    refine lv_icmp_ne (tgt := 21) hx hb dX3_opensAt_14 (by decide) (fun c2 => ?_) (fun c2 => ?_)
    · replace h := ifn c2 h
      refine lv_iconst (v := iI 0) hx hb dX3_opensAt_21 rfl ?_
      exact rd_ret X rfl h dX3_opensAt_22
    · replace h := ifp c2 h
      refine lv_iconst (v := iI 1) hx hb dX3_opensAt_17 rfl ?_
      refine lv_goto (tgt := 22) hx hb dX3_opensAt_18 (by decide) ?_
      exact rd_ret X rfl h dX3_opensAt_22
def mX3_count (n : Int32)  : (Int32) := n
theorem hdX3_count : yX3_count.cls = RX3 ∧ yX3_count.cls ≠ "java/lang/invoke/MethodHandle" ∧ yX3_count.cls ≠ "java/lang/invoke/VarHandle" ∧ (parseMethodDescriptor yX3_count.desc).map (fun d => d.parameters.length) = some 0 := by decide +kernel
theorem flX3_count_28 : Cond.fieldLink RX3 28 "BracketTree$Tree" "count" "I" ∈ wsX3_count := by decide +kernel
theorem iwX3_count_3 : ∀ w ∈ wsX30, w ∈ wsX3_count := by decide +kernel
abbrev rmX3_count : Room := { frames := 0, cells := 0, slots := 0, locals := 0 }
set_option maxHeartbeats 4000000 in
set_option maxRecDepth 100000 in
theorem zX3_count (l : Launch) (D : va_G) (cI cC : ClassId) (q : Nat → Nat) (n : Int32) (d : Nat → Int32) (lb : Nat → Int32) (xd : Nat → Int32) (xl : Nat → Int32)  (r : Int32) (h : mX3_count n = r) : Met l yX3_count wsX3_count rmX3_count (va_Pc [.ref (q 8)] (BW D cI cC (wT cI q n d lb xd xl))) (rdQ r) 0 0 (fun _ => False) := by
  refine MetI RX3 (by decide +kernel) rfl rfl (Nat.le_of_ble_eq_true rfl) ?_
  intro p e s m below meth c ls X _ hB hl
  obtain ⟨hP, hKK⟩ := hB
  have hx := X.1
  have hb := X.2.1
  replace hl : lv_has ls 1 [(0, .ref (q 8))] := hl
  unfold mX3_count at h
  refine lv_aload_n hx hb dX3_count_0 rfl (lv_at hl 0 rfl) ?_
  refine va_get (D := D) (ci := 3) (v := .int n) (C := RX3) (T := TX3) (N := 5) hx hb X.2.2.2.2.1 iwX3_count_3 X.2.2.2.1 hKK.1 hP 0 rfl rfl 4 (by decide) (X.2.2.2.2.1 _ flX3_count_28) (fun _ h9 => h9) rfl dX3_count_1 ?_
  exact rd_ret X rfl h dX3_count_4
def mX3_labelOf (lb : Nat → Int32) (x1 : Int32) : (Int32) := (mX4_get 100 lb x1)
theorem hdX3_labelOf : yX3_labelOf.cls = RX3 ∧ yX3_labelOf.cls ≠ "java/lang/invoke/MethodHandle" ∧ yX3_labelOf.cls ≠ "java/lang/invoke/VarHandle" ∧ (parseMethodDescriptor yX3_labelOf.desc).map (fun d => d.parameters.length) = some 1 := by decide +kernel
theorem flX3_labelOf_15 : Cond.fieldLink RX3 15 "BracketTree$Tree" "labels" "[I" ∈ wsX3_labelOf := by decide +kernel
theorem iwX3_labelOf_3 : ∀ w ∈ wsX30, w ∈ wsX3_labelOf := by decide +kernel
theorem niX3_labelOf_X4_get : Cond.initialized RX4 ∈ wsX3_labelOf := by decide +kernel
theorem nsX3_labelOf_X4_get : Cond.static yX4_get ∈ wsX3_labelOf := by decide +kernel
theorem nlX3_labelOf_X4_get : Cond.methodLinkNest RX3 36 yX4_get "BracketTree" ∈ nestL := by decide +kernel
abbrev rmX3_labelOf : Room := { frames := 1, cells := 0, slots := 0, locals := 21 }
set_option maxHeartbeats 4000000 in
set_option maxRecDepth 100000 in
theorem zX3_labelOf (l : Launch) (D : va_G) (cI cC : ClassId) (q : Nat → Nat) (n : Int32) (d : Nat → Int32) (lb : Nat → Int32) (xd : Nat → Int32) (xl : Nat → Int32) (x1 : Int32) (r : Int32) (h : mX3_labelOf lb x1 = r) : Met l yX3_labelOf wsX3_labelOf rmX3_labelOf (va_Pc [.ref (q 8), .int x1] (BW D cI cC (wT cI q n d lb xd xl))) (rdQ r) 0 0 (fun _ => False) := by
  refine MetI RX3 (by decide +kernel) rfl rfl (Nat.le_of_ble_eq_true rfl) ?_
  intro p e s m below meth c ls X _ hB hl
  obtain ⟨hP, hKK⟩ := hB
  have hx := X.1
  have hb := X.2.1
  replace hl : lv_has ls 2 [(0, .ref (q 8)), (1, .int x1)] := hl
  unfold mX3_labelOf at h
  refine lv_aload_n hx hb dX3_labelOf_0 rfl (lv_at hl 0 rfl) ?_
  refine va_get (D := D) (ci := 3) (v := .ref (q 10)) (C := RX3) (T := TX3) (N := 5) hx hb X.2.2.2.2.1 iwX3_labelOf_3 X.2.2.2.1 hKK.1 hP 0 rfl rfl 1 (by decide) (X.2.2.2.2.1 _ flX3_labelOf_15) (fun _ h9 => h9) rfl dX3_labelOf_1 ?_
  refine lv_iload_n hx hb dX3_labelOf_4 rfl (lv_at hl 1 rfl) ?_
  refine rcSN (rest := []) X hKK hP 2 (zX4_get l D cI cC (q 10) 100 lb x1) gX3_labelOf_X4_get_n36 rfl rfl rfl nlX3_labelOf_X4_get (X.2.2.2.2.1 _ niX3_labelOf_X4_get) (X.2.2.2.2.1 _ nsX3_labelOf_X4_get) hdX4_get ⟨Nat.le_of_ble_eq_true rfl, Nat.le_of_ble_eq_true rfl⟩ [2] rfl rfl hl.1 rfl (Nat.le_of_ble_eq_true rfl) dX3_labelOf_5 ⟨Nat.zero_le _, Nat.zero_le _⟩ ?_
  exact rd_ret X rfl h dX3_labelOf_8
def mX4_isLetter  (x0 : Int32) : (Int32) := (if x0 < (iI 97) then (iI 0) else (if (iI 122) < x0 then (iI 0) else (iI 1)))
theorem hdX4_isLetter : yX4_isLetter.cls = RX4 ∧ yX4_isLetter.cls ≠ "java/lang/invoke/MethodHandle" ∧ yX4_isLetter.cls ≠ "java/lang/invoke/VarHandle" ∧ (parseMethodDescriptor yX4_isLetter.desc).map (fun d => d.parameters.length) = some 1 := by decide +kernel
theorem hdX4_isLetterN : yX4_isLetter.cls ≠ "java/lang/invoke/MethodHandle" ∧ yX4_isLetter.cls ≠ "java/lang/invoke/VarHandle" ∧ (parseMethodDescriptor yX4_isLetter.desc).map (fun d => d.parameters.length) = some 1 := hdX4_isLetter.2
abbrev rmX4_isLetter : Room := { frames := 0, cells := 0, slots := 0, locals := 0 }
set_option maxHeartbeats 4000000 in
set_option maxRecDepth 100000 in
theorem zX4_isLetter (l : Launch) (D : va_G) (cI cC : ClassId)  (x0 : Int32) (r : Int32) (h : mX4_isLetter x0 = r) : Met l yX4_isLetter wsX4_isLetter rmX4_isLetter (va_Pc [.int x0] (BW D cI cC [])) (rdQ r) 0 0 (fun _ => False) := by
  refine MetI RX4 (by decide +kernel) rfl rfl (Nat.le_of_ble_eq_true rfl) ?_
  intro p e s m below meth c ls X _ hB hl
  obtain ⟨hP, hKK⟩ := hB
  have hx := X.1
  have hb := X.2.1
  replace hl : lv_has ls 1 [(0, .int x0)] := hl
  unfold mX4_isLetter at h
  refine lv_iload_n hx hb dX4_isLetter_0 rfl (lv_at hl 0 rfl) ?_
  refine lv_bipush (v := iI 97) hx hb dX4_isLetter_1 (by decide) ?_
  refine lv_icmp_lt (tgt := 16) hx hb dX4_isLetter_3 (by decide) (fun c1 => ?_) (fun c1 => ?_)
  · replace h := ifp c1 h
    refine lv_iconst (v := iI 0) hx hb dX4_isLetter_16 rfl ?_
    exact rd_ret X rfl h dX4_isLetter_17
  · replace h := ifn c1 h
    refine lv_iload_n hx hb dX4_isLetter_6 rfl (lv_at hl 0 rfl) ?_
    refine lv_bipush (v := iI 122) hx hb dX4_isLetter_7 (by decide) ?_
    refine lv_icmp_gt (tgt := 16) hx hb dX4_isLetter_9 (by decide) (fun c2 => ?_) (fun c2 => ?_)
    · replace h := ifp c2 h
      refine lv_iconst (v := iI 0) hx hb dX4_isLetter_16 rfl ?_
      exact rd_ret X rfl h dX4_isLetter_17
    · replace h := ifn c2 h
      refine lv_iconst (v := iI 1) hx hb dX4_isLetter_12 rfl ?_
      refine lv_goto (tgt := 17) hx hb dX4_isLetter_13 (by decide) ?_
      exact rd_ret X rfl h dX4_isLetter_17
def mX3_endOf_10 : Nat → Int32 → (Nat → Int32) → Int32 → Int32 → Int32 → Option (Int32)
  | 0, _, _, _, _, _ => none
  | f + 1, n, d, x1, x2, x3 => (if n ≤ x3 then some n else (if x2 < (mX3_depthOf n d x3) then mX3_endOf_10 f n d x1 x2 (x3 + iI 1) else some x3))
def mX3_endOf (n : Int32) (d : Nat → Int32) (x1 : Int32) : Option (Int32) := mX3_endOf_10 FU n d x1 (mX3_depthOf n d x1) (x1 + (iI 1))
theorem hdX3_endOf : yX3_endOf.cls = RX3 ∧ yX3_endOf.cls ≠ "java/lang/invoke/MethodHandle" ∧ yX3_endOf.cls ≠ "java/lang/invoke/VarHandle" ∧ (parseMethodDescriptor yX3_endOf.desc).map (fun d => d.parameters.length) = some 1 := by decide +kernel
theorem flX3_endOf_28 : Cond.fieldLink RX3 28 "BracketTree$Tree" "count" "I" ∈ wsX3_endOf := by decide +kernel
theorem iwX3_endOf_3 : ∀ w ∈ wsX30, w ∈ wsX3_endOf := by decide +kernel
abbrev rmX3_endOf : Room := { frames := 2, cells := 0, slots := 0, locals := 42 }
set_option maxHeartbeats 4000000 in
set_option maxRecDepth 100000 in
theorem kX3_endOf_10 {p : Program} {l : Launch} {e : Env} {s : State} {m : MethodId} {args : Array Value} {below : List Frame} {meth : Method} {c : Code} {D : va_G} {cI cC : ClassId} {q : Nat → Nat} {n : Int32} {d : Nat → Int32} {lb : Nat → Int32} {xd : Nat → Int32} {xl : Nat → Int32} {r : Int32} (X : CX p s m args meth c wsX3_endOf cX3_endOf 4 (some .int) RX3) (hKK : KK D cI cC s) (hP : va_P D vwCl (wT cI q n d lb xd xl) s.heap) : ∀ (f : Nat), ∀ (x1 : Int32) (x2 : Int32) (x3 : Int32) (ls : Array Slot), lv_has ls 4 [(0, .ref (q 8)), (1, .int x1), (2, .int x2), (3, .int x3)] → mX3_endOf_10 f n d x1 x2 x3 = some r → W p l e rmX3_endOf s m args below meth c s.heap [] 0 0 (MQ below (rdQ r) args s 0 0 (fun _ => False)) (F0 m 10 ls []) := by
  have hx := X.1
  have hb := X.2.1
  intro f
  induction f with
  | zero =>
    intro x1 x2 x3 ls hl h
    exact absurd h (by unfold mX3_endOf_10; intro h; cases h)
  | succ f ih =>
    intro x1 x2 x3 ls hl h
    rw [mX3_endOf_10] at h
    refine lv_iload_n hx hb dX3_endOf_10 rfl (lv_at hl 3 rfl) ?_
    refine lv_aload_n hx hb dX3_endOf_11 rfl (lv_at hl 0 rfl) ?_
    refine va_get (D := D) (ci := 3) (v := .int n) (C := RX3) (T := TX3) (N := 5) hx hb X.2.2.2.2.1 iwX3_endOf_3 X.2.2.2.1 hKK.1 hP 0 rfl rfl 4 (by decide) (X.2.2.2.2.1 _ flX3_endOf_28) (fun _ h9 => h9) rfl dX3_endOf_12 ?_
    refine lv_icmp_ge (tgt := 35) hx hb dX3_endOf_15 (by decide) (fun c1 => ?_) (fun c1 => ?_)
    · replace h := ifp c1 h
      refine lv_aload_n hx hb dX3_endOf_35 rfl (lv_at hl 0 rfl) ?_
      refine va_get (D := D) (ci := 3) (v := .int n) (C := RX3) (T := TX3) (N := 5) hx hb X.2.2.2.2.1 iwX3_endOf_3 X.2.2.2.1 hKK.1 hP 0 rfl rfl 4 (by decide) (X.2.2.2.2.1 _ flX3_endOf_28) (fun _ h9 => h9) rfl dX3_endOf_36 ?_
      exact rd_ret X rfl (Option.some.inj h) dX3_endOf_39
    · replace h := ifn c1 h
      refine lv_aload_n hx hb dX3_endOf_18 rfl (lv_at hl 0 rfl) ?_
      refine lv_iload_n hx hb dX3_endOf_19 rfl (lv_at hl 3 rfl) ?_
      refine rcV (rest := []) X hKK hP 1 (zX3_depthOf l D cI cC q n d lb xd xl x3 _ rfl) gX3_endOf_X3_depthOf rfl rfl rfl hdX3_depthOf ⟨Nat.le_of_ble_eq_true rfl, Nat.le_of_ble_eq_true rfl⟩ [0, 1, 2, 3, 4] rfl 0 rfl rfl rfl hl.1 rfl (Nat.le_of_ble_eq_true rfl) dX3_endOf_20 ⟨Nat.zero_le _, Nat.zero_le _⟩ ?_
      refine lv_iload_n hx hb dX3_endOf_23 rfl (lv_at hl 2 rfl) ?_
      refine lv_icmp_gt (tgt := 29) hx hb dX3_endOf_24 (by decide) (fun c2 => ?_) (fun c2 => ?_)
      · replace h := ifp c2 h
        refine lv_iinc (v := (x3 + iI 1)) (lv' := [(3, .int (x3 + iI 1)), (0, .ref (q 8)), (1, .int x1), (2, .int x2)]) hx hb dX3_endOf_29 hl (k := 3) rfl rfl (by decide) rfl (fun ls hl => ?_)
        refine lv_goto (tgt := 10) hx hb dX3_endOf_32 (by decide) ?_
        exact ih x1 x2 (x3 + iI 1) ls (lv_sub hl [1, 2, 3, 0] rfl) h
      · replace h := ifn c2 h
        refine lv_iload_n hx hb dX3_endOf_27 rfl (lv_at hl 3 rfl) ?_
        exact rd_ret X rfl (Option.some.inj h) dX3_endOf_28
set_option maxHeartbeats 4000000 in
set_option maxRecDepth 100000 in
theorem zX3_endOf (l : Launch) (D : va_G) (cI cC : ClassId) (q : Nat → Nat) (n : Int32) (d : Nat → Int32) (lb : Nat → Int32) (xd : Nat → Int32) (xl : Nat → Int32) (x1 : Int32) (r : Int32) (h : mX3_endOf n d x1 = some r) : Met l yX3_endOf wsX3_endOf rmX3_endOf (va_Pc [.ref (q 8), .int x1] (BW D cI cC (wT cI q n d lb xd xl))) (rdQ r) 0 0 (fun _ => False) := by
  refine MetI RX3 (by decide +kernel) rfl rfl (Nat.le_of_ble_eq_true rfl) ?_
  intro p e s m below meth c ls X _ hB hl
  obtain ⟨hP, hKK⟩ := hB
  have hx := X.1
  have hb := X.2.1
  replace hl : lv_has ls 4 [(0, .ref (q 8)), (1, .int x1)] := hl
  unfold mX3_endOf at h
  refine lv_aload_n hx hb dX3_endOf_0 rfl (lv_at hl 0 rfl) ?_
  refine lv_iload_n hx hb dX3_endOf_1 rfl (lv_at hl 1 rfl) ?_
  refine rcV (rest := []) X hKK hP 1 (zX3_depthOf l D cI cC q n d lb xd xl x1 _ rfl) gX3_endOf_X3_depthOf rfl rfl rfl hdX3_depthOf ⟨Nat.le_of_ble_eq_true rfl, Nat.le_of_ble_eq_true rfl⟩ [0, 1, 2, 3, 4] rfl 0 rfl rfl rfl hl.1 rfl (Nat.le_of_ble_eq_true rfl) dX3_endOf_2 ⟨Nat.zero_le _, Nat.zero_le _⟩ ?_
  refine lv_istore_n (lv' := [(2, .int (mX3_depthOf n d x1)), (0, .ref (q 8)), (1, .int x1)]) hx hb dX3_endOf_5 rfl hl (by decide) rfl (fun ls hl => ?_)
  refine lv_iload_n hx hb dX3_endOf_6 rfl (lv_at hl 2 rfl) ?_
  refine lv_iconst (v := iI 1) hx hb dX3_endOf_7 rfl ?_
  refine lv_iadd hx hb dX3_endOf_8 ?_
  refine lv_istore_n (lv' := [(3, .int (x1 + (iI 1))), (2, .int (mX3_depthOf n d x1)), (0, .ref (q 8)), (1, .int x1)]) hx hb dX3_endOf_9 rfl hl (by decide) rfl (fun ls hl => ?_)
  exact kX3_endOf_10 X hKK hP FU x1 (mX3_depthOf n d x1) (x1 + (iI 1)) ls (lv_sub hl [2, 3, 1, 0] rfl) h
def mX3_sizeOf (n : Int32) (d : Nat → Int32) (x1 : Int32) : Option (Int32) := ((mX3_endOf n d x1).bind fun r1 => some (r1 - x1))
theorem hdX3_sizeOf : yX3_sizeOf.cls = RX3 ∧ yX3_sizeOf.cls ≠ "java/lang/invoke/MethodHandle" ∧ yX3_sizeOf.cls ≠ "java/lang/invoke/VarHandle" ∧ (parseMethodDescriptor yX3_sizeOf.desc).map (fun d => d.parameters.length) = some 1 := by decide +kernel
abbrev rmX3_sizeOf : Room := { frames := 3, cells := 0, slots := 0, locals := 65 }
set_option maxHeartbeats 4000000 in
set_option maxRecDepth 100000 in
theorem zX3_sizeOf (l : Launch) (D : va_G) (cI cC : ClassId) (q : Nat → Nat) (n : Int32) (d : Nat → Int32) (lb : Nat → Int32) (xd : Nat → Int32) (xl : Nat → Int32) (x1 : Int32) (r : Int32) (h : mX3_sizeOf n d x1 = some r) : Met l yX3_sizeOf wsX3_sizeOf rmX3_sizeOf (va_Pc [.ref (q 8), .int x1] (BW D cI cC (wT cI q n d lb xd xl))) (rdQ r) 0 0 (fun _ => False) := by
  refine MetI RX3 (by decide +kernel) rfl rfl (Nat.le_of_ble_eq_true rfl) ?_
  intro p e s m below meth c ls X _ hB hl
  obtain ⟨hP, hKK⟩ := hB
  have hx := X.1
  have hb := X.2.1
  replace hl : lv_has ls 2 [(0, .ref (q 8)), (1, .int x1)] := hl
  unfold mX3_sizeOf at h
  refine lv_aload_n hx hb dX3_sizeOf_0 rfl (lv_at hl 0 rfl) ?_
  refine lv_iload_n hx hb dX3_sizeOf_1 rfl (lv_at hl 1 rfl) ?_
  obtain ⟨r1, h_r1, h⟩ := obd h
  refine rcV (rest := []) X hKK hP 1 (zX3_endOf l D cI cC q n d lb xd xl x1 r1 h_r1) gX3_sizeOf_X3_endOf rfl rfl rfl hdX3_endOf ⟨Nat.le_of_ble_eq_true rfl, Nat.le_of_ble_eq_true rfl⟩ [0, 1, 2, 3, 4] rfl 0 rfl rfl rfl hl.1 rfl (Nat.le_of_ble_eq_true rfl) dX3_sizeOf_2 ⟨Nat.zero_le _, Nat.zero_le _⟩ ?_
  refine lv_iload_n hx hb dX3_sizeOf_5 rfl (lv_at hl 1 rfl) ?_
  refine lv_isub hx hb dX3_sizeOf_6 ?_
  exact rd_ret X rfl (Option.some.inj h) dX3_sizeOf_7
def mX3_climb_2 : Nat → Int32 → (Nat → Int32) → Int32 → Int32 → Int32 → Option (Int32)
  | 0, _, _, _, _, _ => none
  | f + 1, n, d, x1, x2, x3 => (if x3 < 0 then some (iI (-5)) else (if (mX3_depthOf n d x3) = x2 then some x3 else mX3_climb_2 f n d x1 x2 (x3 + iI (-1))))
def mX3_climb (n : Int32) (d : Nat → Int32) (x1 : Int32) (x2 : Int32) : Option (Int32) := mX3_climb_2 FU n d x1 x2 x1
theorem hdX3_climb : yX3_climb.cls = RX3 ∧ yX3_climb.cls ≠ "java/lang/invoke/MethodHandle" ∧ yX3_climb.cls ≠ "java/lang/invoke/VarHandle" ∧ (parseMethodDescriptor yX3_climb.desc).map (fun d => d.parameters.length) = some 2 := by decide +kernel
abbrev rmX3_climb : Room := { frames := 2, cells := 0, slots := 0, locals := 42 }
set_option maxHeartbeats 4000000 in
set_option maxRecDepth 100000 in
theorem kX3_climb_2 {p : Program} {l : Launch} {e : Env} {s : State} {m : MethodId} {args : Array Value} {below : List Frame} {meth : Method} {c : Code} {D : va_G} {cI cC : ClassId} {q : Nat → Nat} {n : Int32} {d : Nat → Int32} {lb : Nat → Int32} {xd : Nat → Int32} {xl : Nat → Int32} {r : Int32} (X : CX p s m args meth c wsX3_climb cX3_climb 4 (some .int) RX3) (hKK : KK D cI cC s) (hP : va_P D vwCl (wT cI q n d lb xd xl) s.heap) : ∀ (f : Nat), ∀ (x1 : Int32) (x2 : Int32) (x3 : Int32) (ls : Array Slot), lv_has ls 4 [(0, .ref (q 8)), (1, .int x1), (2, .int x2), (3, .int x3)] → mX3_climb_2 f n d x1 x2 x3 = some r → W p l e rmX3_climb s m args below meth c s.heap [] 0 0 (MQ below (rdQ r) args s 0 0 (fun _ => False)) (F0 m 2 ls []) := by
  have hx := X.1
  have hb := X.2.1
  intro f
  induction f with
  | zero =>
    intro x1 x2 x3 ls hl h
    exact absurd h (by unfold mX3_climb_2; intro h; cases h)
  | succ f ih =>
    intro x1 x2 x3 ls hl h
    rw [mX3_climb_2] at h
    refine lv_iload_n hx hb dX3_climb_2 rfl (lv_at hl 3 rfl) ?_
    refine lv_if_lt (tgt := 23) hx hb dX3_climb_3 (by decide) (fun c1 => ?_) (fun c1 => ?_)
    · replace h := ifp c1 h
      refine lv_bipush (v := iI (-5)) hx hb dX3_climb_23 (by decide) ?_
      exact rd_ret X rfl (Option.some.inj h) dX3_climb_25
    · replace h := ifn c1 h
      refine lv_aload_n hx hb dX3_climb_6 rfl (lv_at hl 0 rfl) ?_
      refine lv_iload_n hx hb dX3_climb_7 rfl (lv_at hl 3 rfl) ?_
      refine rcV (rest := []) X hKK hP 1 (zX3_depthOf l D cI cC q n d lb xd xl x3 _ rfl) gX3_climb_X3_depthOf rfl rfl rfl hdX3_depthOf ⟨Nat.le_of_ble_eq_true rfl, Nat.le_of_ble_eq_true rfl⟩ [0, 1, 2, 3, 4] rfl 0 rfl rfl rfl hl.1 rfl (Nat.le_of_ble_eq_true rfl) dX3_climb_8 ⟨Nat.zero_le _, Nat.zero_le _⟩ ?_
      refine lv_iload_n hx hb dX3_climb_11 rfl (lv_at hl 2 rfl) ?_
      refine lv_icmp_ne (tgt := 17) hx hb dX3_climb_12 (by decide) (fun c2 => ?_) (fun c2 => ?_)
      · replace h := ifn c2 h
        refine lv_iinc (v := (x3 + iI (-1))) (lv' := [(3, .int (x3 + iI (-1))), (0, .ref (q 8)), (1, .int x1), (2, .int x2)]) hx hb dX3_climb_17 hl (k := 3) rfl rfl (by decide) rfl (fun ls hl => ?_)
        refine lv_goto (tgt := 2) hx hb dX3_climb_20 (by decide) ?_
        exact ih x1 x2 (x3 + iI (-1)) ls (lv_sub hl [1, 2, 3, 0] rfl) h
      · replace h := ifp c2 h
        refine lv_iload_n hx hb dX3_climb_15 rfl (lv_at hl 3 rfl) ?_
        exact rd_ret X rfl (Option.some.inj h) dX3_climb_16
set_option maxHeartbeats 4000000 in
set_option maxRecDepth 100000 in
theorem zX3_climb (l : Launch) (D : va_G) (cI cC : ClassId) (q : Nat → Nat) (n : Int32) (d : Nat → Int32) (lb : Nat → Int32) (xd : Nat → Int32) (xl : Nat → Int32) (x1 : Int32) (x2 : Int32) (r : Int32) (h : mX3_climb n d x1 x2 = some r) : Met l yX3_climb wsX3_climb rmX3_climb (va_Pc [.ref (q 8), .int x1, .int x2] (BW D cI cC (wT cI q n d lb xd xl))) (rdQ r) 0 0 (fun _ => False) := by
  refine MetI RX3 (by decide +kernel) rfl rfl (Nat.le_of_ble_eq_true rfl) ?_
  intro p e s m below meth c ls X _ hB hl
  obtain ⟨hP, hKK⟩ := hB
  have hx := X.1
  have hb := X.2.1
  replace hl : lv_has ls 4 [(0, .ref (q 8)), (1, .int x1), (2, .int x2)] := hl
  unfold mX3_climb at h
  refine lv_iload_n hx hb dX3_climb_0 rfl (lv_at hl 1 rfl) ?_
  refine lv_istore_n (lv' := [(3, .int x1), (0, .ref (q 8)), (1, .int x1), (2, .int x2)]) hx hb dX3_climb_1 rfl hl (by decide) rfl (fun ls hl => ?_)
  exact kX3_climb_2 X hKK hP FU x1 x2 x1 ls (lv_sub hl [1, 2, 3, 0] rfl) h
def mX3_parentOf (n : Int32) (d : Nat → Int32) (x1 : Int32) : Option (Int32) := (if x1 = 0 then some (iI (-5)) else ((mX3_climb n d x1 ((mX3_depthOf n d x1) - (iI 1))).bind fun r2 => some r2))
theorem hdX3_parentOf : yX3_parentOf.cls = RX3 ∧ yX3_parentOf.cls ≠ "java/lang/invoke/MethodHandle" ∧ yX3_parentOf.cls ≠ "java/lang/invoke/VarHandle" ∧ (parseMethodDescriptor yX3_parentOf.desc).map (fun d => d.parameters.length) = some 1 := by decide +kernel
abbrev rmX3_parentOf : Room := { frames := 3, cells := 0, slots := 0, locals := 65 }
set_option maxHeartbeats 4000000 in
set_option maxRecDepth 100000 in
theorem zX3_parentOf (l : Launch) (D : va_G) (cI cC : ClassId) (q : Nat → Nat) (n : Int32) (d : Nat → Int32) (lb : Nat → Int32) (xd : Nat → Int32) (xl : Nat → Int32) (x1 : Int32) (r : Int32) (h : mX3_parentOf n d x1 = some r) : Met l yX3_parentOf wsX3_parentOf rmX3_parentOf (va_Pc [.ref (q 8), .int x1] (BW D cI cC (wT cI q n d lb xd xl))) (rdQ r) 0 0 (fun _ => False) := by
  refine MetI RX3 (by decide +kernel) rfl rfl (Nat.le_of_ble_eq_true rfl) ?_
  intro p e s m below meth c ls X _ hB hl
  obtain ⟨hP, hKK⟩ := hB
  have hx := X.1
  have hb := X.2.1
  replace hl : lv_has ls 2 [(0, .ref (q 8)), (1, .int x1)] := hl
  unfold mX3_parentOf at h
  refine lv_iload_n hx hb dX3_parentOf_0 rfl (lv_at hl 1 rfl) ?_
  refine lv_if_ne (tgt := 9) hx hb dX3_parentOf_1 (by decide) (fun c1 => ?_) (fun c1 => ?_)
  · replace h := ifn c1 h
    refine lv_aload_n hx hb dX3_parentOf_9 rfl (lv_at hl 0 rfl) ?_
    refine lv_iload_n hx hb dX3_parentOf_10 rfl (lv_at hl 1 rfl) ?_
    refine lv_aload_n hx hb dX3_parentOf_11 rfl (lv_at hl 0 rfl) ?_
    refine lv_iload_n hx hb dX3_parentOf_12 rfl (lv_at hl 1 rfl) ?_
    refine rcV (rest := [.int x1, .ref (q 8)]) X hKK hP 1 (zX3_depthOf l D cI cC q n d lb xd xl x1 _ rfl) gX3_parentOf_X3_depthOf rfl rfl rfl hdX3_depthOf ⟨Nat.le_of_ble_eq_true rfl, Nat.le_of_ble_eq_true rfl⟩ [0, 1, 2, 3, 4] rfl 0 rfl rfl rfl hl.1 rfl (Nat.le_of_ble_eq_true rfl) dX3_parentOf_13 ⟨Nat.zero_le _, Nat.zero_le _⟩ ?_
    refine lv_iconst (v := iI 1) hx hb dX3_parentOf_16 rfl ?_
    refine lv_isub hx hb dX3_parentOf_17 ?_
    obtain ⟨r2, h_r2, h⟩ := obd h
    refine rcV (rest := []) X hKK hP 2 (zX3_climb l D cI cC q n d lb xd xl x1 ((mX3_depthOf n d x1) - (iI 1)) r2 h_r2) gX3_parentOf_X3_climb rfl rfl rfl hdX3_climb ⟨Nat.le_of_ble_eq_true rfl, Nat.le_of_ble_eq_true rfl⟩ [0, 1, 2, 3, 4] rfl 0 rfl rfl rfl hl.1 rfl (Nat.le_of_ble_eq_true rfl) dX3_parentOf_18 ⟨Nat.zero_le _, Nat.zero_le _⟩ ?_
    exact rd_ret X rfl (Option.some.inj h) dX3_parentOf_21
  · replace h := ifp c1 h
    refine lv_bipush (v := iI (-5)) hx hb dX3_parentOf_4 (by decide) ?_
    refine lv_goto (tgt := 21) hx hb dX3_parentOf_6 (by decide) ?_
    exact rd_ret X rfl (Option.some.inj h) dX3_parentOf_21
def mX3_childCount_13 : Nat → Int32 → (Nat → Int32) → Int32 → Int32 → Int32 → Int32 → Option (Int32)
  | 0, _, _, _, _, _, _ => none
  | f + 1, n, d, x1, x2, x3, x4 => (if x2 ≤ x4 then some x3 else (if (mX3_depthOf n d x4) = ((mX3_depthOf n d x1) + (iI 1)) then mX3_childCount_13 f n d x1 x2 (x3 + iI 1) (x4 + iI 1) else mX3_childCount_13 f n d x1 x2 x3 (x4 + iI 1)))
def mX3_childCount (n : Int32) (d : Nat → Int32) (x1 : Int32) : Option (Int32) := ((mX3_endOf n d x1).bind fun r1 => mX3_childCount_13 FU n d x1 r1 (iI 0) (x1 + (iI 1)))
theorem hdX3_childCount : yX3_childCount.cls = RX3 ∧ yX3_childCount.cls ≠ "java/lang/invoke/MethodHandle" ∧ yX3_childCount.cls ≠ "java/lang/invoke/VarHandle" ∧ (parseMethodDescriptor yX3_childCount.desc).map (fun d => d.parameters.length) = some 1 := by decide +kernel
abbrev rmX3_childCount : Room := { frames := 3, cells := 0, slots := 0, locals := 65 }
set_option maxHeartbeats 4000000 in
set_option maxRecDepth 100000 in
theorem kX3_childCount_13 {p : Program} {l : Launch} {e : Env} {s : State} {m : MethodId} {args : Array Value} {below : List Frame} {meth : Method} {c : Code} {D : va_G} {cI cC : ClassId} {q : Nat → Nat} {n : Int32} {d : Nat → Int32} {lb : Nat → Int32} {xd : Nat → Int32} {xl : Nat → Int32} {r : Int32} (X : CX p s m args meth c wsX3_childCount cX3_childCount 5 (some .int) RX3) (hKK : KK D cI cC s) (hP : va_P D vwCl (wT cI q n d lb xd xl) s.heap) : ∀ (f : Nat), ∀ (x1 : Int32) (x2 : Int32) (x3 : Int32) (x4 : Int32) (ls : Array Slot), lv_has ls 5 [(0, .ref (q 8)), (1, .int x1), (2, .int x2), (3, .int x3), (4, .int x4)] → mX3_childCount_13 f n d x1 x2 x3 x4 = some r → W p l e rmX3_childCount s m args below meth c s.heap [] 0 0 (MQ below (rdQ r) args s 0 0 (fun _ => False)) (F0 m 13 ls []) := by
  have hx := X.1
  have hb := X.2.1
  intro f
  induction f with
  | zero =>
    intro x1 x2 x3 x4 ls hl h
    exact absurd h (by unfold mX3_childCount_13; intro h; cases h)
  | succ f ih =>
    intro x1 x2 x3 x4 ls hl h
    rw [mX3_childCount_13] at h
    refine lv_iload hx hb dX3_childCount_13 (lv_at hl 4 rfl) ?_
    refine lv_iload_n hx hb dX3_childCount_15 rfl (lv_at hl 2 rfl) ?_
    refine lv_icmp_ge (tgt := 44) hx hb dX3_childCount_16 (by decide) (fun c2 => ?_) (fun c2 => ?_)
    · replace h := ifp c2 h
      refine lv_iload_n hx hb dX3_childCount_44 rfl (lv_at hl 3 rfl) ?_
      exact rd_ret X rfl (Option.some.inj h) dX3_childCount_45
    · replace h := ifn c2 h
      refine lv_aload_n hx hb dX3_childCount_19 rfl (lv_at hl 0 rfl) ?_
      refine lv_iload hx hb dX3_childCount_20 (lv_at hl 4 rfl) ?_
      refine rcV (rest := []) X hKK hP 1 (zX3_depthOf l D cI cC q n d lb xd xl x4 _ rfl) gX3_childCount_X3_depthOf rfl rfl rfl hdX3_depthOf ⟨Nat.le_of_ble_eq_true rfl, Nat.le_of_ble_eq_true rfl⟩ [0, 1, 2, 3, 4] rfl 0 rfl rfl rfl hl.1 rfl (Nat.le_of_ble_eq_true rfl) dX3_childCount_22 ⟨Nat.zero_le _, Nat.zero_le _⟩ ?_
      refine lv_aload_n hx hb dX3_childCount_25 rfl (lv_at hl 0 rfl) ?_
      refine lv_iload_n hx hb dX3_childCount_26 rfl (lv_at hl 1 rfl) ?_
      refine rcV (rest := [.int (mX3_depthOf n d x4)]) X hKK hP 1 (zX3_depthOf l D cI cC q n d lb xd xl x1 _ rfl) gX3_childCount_X3_depthOf rfl rfl rfl hdX3_depthOf ⟨Nat.le_of_ble_eq_true rfl, Nat.le_of_ble_eq_true rfl⟩ [0, 1, 2, 3, 4] rfl 0 rfl rfl rfl hl.1 rfl (Nat.le_of_ble_eq_true rfl) dX3_childCount_27 ⟨Nat.zero_le _, Nat.zero_le _⟩ ?_
      refine lv_iconst (v := iI 1) hx hb dX3_childCount_30 rfl ?_
      refine lv_iadd hx hb dX3_childCount_31 ?_
      refine lv_icmp_ne (tgt := 38) hx hb dX3_childCount_32 (by decide) (fun c3 => ?_) (fun c3 => ?_)
      · replace h := ifn c3 h
        refine lv_iinc (v := (x4 + iI 1)) (lv' := [(4, .int (x4 + iI 1)), (0, .ref (q 8)), (1, .int x1), (2, .int x2), (3, .int x3)]) hx hb dX3_childCount_38 hl (k := 4) rfl rfl (by decide) rfl (fun ls hl => ?_)
        refine lv_goto (tgt := 13) hx hb dX3_childCount_41 (by decide) ?_
        exact ih x1 x2 x3 (x4 + iI 1) ls (lv_sub hl [1, 2, 3, 4, 0] rfl) h
      · replace h := ifp c3 h
        refine lv_iinc (v := (x3 + iI 1)) (lv' := [(3, .int (x3 + iI 1)), (0, .ref (q 8)), (1, .int x1), (2, .int x2), (4, .int x4)]) hx hb dX3_childCount_35 hl (k := 3) rfl rfl (by decide) rfl (fun ls hl => ?_)
        refine lv_iinc (v := (x4 + iI 1)) (lv' := [(4, .int (x4 + iI 1)), (3, .int (x3 + iI 1)), (0, .ref (q 8)), (1, .int x1), (2, .int x2)]) hx hb dX3_childCount_38 hl (k := 4) rfl rfl (by decide) rfl (fun ls hl => ?_)
        refine lv_goto (tgt := 13) hx hb dX3_childCount_41 (by decide) ?_
        exact ih x1 x2 (x3 + iI 1) (x4 + iI 1) ls (lv_sub hl [2, 3, 4, 1, 0] rfl) h
set_option maxHeartbeats 4000000 in
set_option maxRecDepth 100000 in
theorem zX3_childCount (l : Launch) (D : va_G) (cI cC : ClassId) (q : Nat → Nat) (n : Int32) (d : Nat → Int32) (lb : Nat → Int32) (xd : Nat → Int32) (xl : Nat → Int32) (x1 : Int32) (r : Int32) (h : mX3_childCount n d x1 = some r) : Met l yX3_childCount wsX3_childCount rmX3_childCount (va_Pc [.ref (q 8), .int x1] (BW D cI cC (wT cI q n d lb xd xl))) (rdQ r) 0 0 (fun _ => False) := by
  refine MetI RX3 (by decide +kernel) rfl rfl (Nat.le_of_ble_eq_true rfl) ?_
  intro p e s m below meth c ls X _ hB hl
  obtain ⟨hP, hKK⟩ := hB
  have hx := X.1
  have hb := X.2.1
  replace hl : lv_has ls 5 [(0, .ref (q 8)), (1, .int x1)] := hl
  unfold mX3_childCount at h
  refine lv_aload_n hx hb dX3_childCount_0 rfl (lv_at hl 0 rfl) ?_
  refine lv_iload_n hx hb dX3_childCount_1 rfl (lv_at hl 1 rfl) ?_
  obtain ⟨r1, h_r1, h⟩ := obd h
  refine rcV (rest := []) X hKK hP 1 (zX3_endOf l D cI cC q n d lb xd xl x1 r1 h_r1) gX3_childCount_X3_endOf rfl rfl rfl hdX3_endOf ⟨Nat.le_of_ble_eq_true rfl, Nat.le_of_ble_eq_true rfl⟩ [0, 1, 2, 3, 4] rfl 0 rfl rfl rfl hl.1 rfl (Nat.le_of_ble_eq_true rfl) dX3_childCount_2 ⟨Nat.zero_le _, Nat.zero_le _⟩ ?_
  refine lv_istore_n (lv' := [(2, .int r1), (0, .ref (q 8)), (1, .int x1)]) hx hb dX3_childCount_5 rfl hl (by decide) rfl (fun ls hl => ?_)
  refine lv_iconst (v := iI 0) hx hb dX3_childCount_6 rfl ?_
  refine lv_istore_n (lv' := [(3, .int (iI 0)), (2, .int r1), (0, .ref (q 8)), (1, .int x1)]) hx hb dX3_childCount_7 rfl hl (by decide) rfl (fun ls hl => ?_)
  refine lv_iload_n hx hb dX3_childCount_8 rfl (lv_at hl 3 rfl) ?_
  refine lv_iconst (v := iI 1) hx hb dX3_childCount_9 rfl ?_
  refine lv_iadd hx hb dX3_childCount_10 ?_
  refine lv_istore (lv' := [(4, .int (x1 + (iI 1))), (3, .int (iI 0)), (2, .int r1), (0, .ref (q 8)), (1, .int x1)]) hx hb dX3_childCount_11 hl (by decide) rfl (fun ls hl => ?_)
  exact kX3_childCount_13 X hKK hP FU x1 r1 (iI 0) (x1 + (iI 1)) ls (lv_sub hl [3, 4, 2, 1, 0] rfl) h
def mX3_startOfPlace_14 : Nat → Int32 → (Nat → Int32) → Int32 → Int32 → Int32 → Int32 → Int32 → Option (Int32)
  | 0, _, _, _, _, _, _, _ => none
  | f + 1, n, d, x1, x2, x3, x4, x5 => (if x3 ≤ x5 then some x3 else (if (mX3_depthOf n d x5) = ((mX3_depthOf n d x1) + (iI 1)) then (if x4 = x2 then some x5 else mX3_startOfPlace_14 f n d x1 x2 x3 (x4 + iI 1) (x5 + iI 1)) else mX3_startOfPlace_14 f n d x1 x2 x3 x4 (x5 + iI 1)))
def mX3_startOfPlace (n : Int32) (d : Nat → Int32) (x1 : Int32) (x2 : Int32) : Option (Int32) := ((mX3_endOf n d x1).bind fun r1 => mX3_startOfPlace_14 FU n d x1 x2 r1 (iI 0) (x1 + (iI 1)))
theorem hdX3_startOfPlace : yX3_startOfPlace.cls = RX3 ∧ yX3_startOfPlace.cls ≠ "java/lang/invoke/MethodHandle" ∧ yX3_startOfPlace.cls ≠ "java/lang/invoke/VarHandle" ∧ (parseMethodDescriptor yX3_startOfPlace.desc).map (fun d => d.parameters.length) = some 2 := by decide +kernel
abbrev rmX3_startOfPlace : Room := { frames := 3, cells := 0, slots := 0, locals := 65 }
set_option maxHeartbeats 4000000 in
set_option maxRecDepth 100000 in
theorem kX3_startOfPlace_14 {p : Program} {l : Launch} {e : Env} {s : State} {m : MethodId} {args : Array Value} {below : List Frame} {meth : Method} {c : Code} {D : va_G} {cI cC : ClassId} {q : Nat → Nat} {n : Int32} {d : Nat → Int32} {lb : Nat → Int32} {xd : Nat → Int32} {xl : Nat → Int32} {r : Int32} (X : CX p s m args meth c wsX3_startOfPlace cX3_startOfPlace 6 (some .int) RX3) (hKK : KK D cI cC s) (hP : va_P D vwCl (wT cI q n d lb xd xl) s.heap) : ∀ (f : Nat), ∀ (x1 : Int32) (x2 : Int32) (x3 : Int32) (x4 : Int32) (x5 : Int32) (ls : Array Slot), lv_has ls 6 [(0, .ref (q 8)), (1, .int x1), (2, .int x2), (3, .int x3), (4, .int x4), (5, .int x5)] → mX3_startOfPlace_14 f n d x1 x2 x3 x4 x5 = some r → W p l e rmX3_startOfPlace s m args below meth c s.heap [] 0 0 (MQ below (rdQ r) args s 0 0 (fun _ => False)) (F0 m 14 ls []) := by
  have hx := X.1
  have hb := X.2.1
  intro f
  induction f with
  | zero =>
    intro x1 x2 x3 x4 x5 ls hl h
    exact absurd h (by unfold mX3_startOfPlace_14; intro h; cases h)
  | succ f ih =>
    intro x1 x2 x3 x4 x5 ls hl h
    rw [mX3_startOfPlace_14] at h
    refine lv_iload hx hb dX3_startOfPlace_14 (lv_at hl 5 rfl) ?_
    refine lv_iload_n hx hb dX3_startOfPlace_16 rfl (lv_at hl 3 rfl) ?_
    refine lv_icmp_ge (tgt := 54) hx hb dX3_startOfPlace_17 (by decide) (fun c2 => ?_) (fun c2 => ?_)
    · replace h := ifp c2 h
      refine lv_iload_n hx hb dX3_startOfPlace_54 rfl (lv_at hl 3 rfl) ?_
      exact rd_ret X rfl (Option.some.inj h) dX3_startOfPlace_55
    · replace h := ifn c2 h
      refine lv_aload_n hx hb dX3_startOfPlace_20 rfl (lv_at hl 0 rfl) ?_
      refine lv_iload hx hb dX3_startOfPlace_21 (lv_at hl 5 rfl) ?_
      refine rcV (rest := []) X hKK hP 1 (zX3_depthOf l D cI cC q n d lb xd xl x5 _ rfl) gX3_startOfPlace_X3_depthOf rfl rfl rfl hdX3_depthOf ⟨Nat.le_of_ble_eq_true rfl, Nat.le_of_ble_eq_true rfl⟩ [0, 1, 2, 3, 4] rfl 0 rfl rfl rfl hl.1 rfl (Nat.le_of_ble_eq_true rfl) dX3_startOfPlace_23 ⟨Nat.zero_le _, Nat.zero_le _⟩ ?_
      refine lv_aload_n hx hb dX3_startOfPlace_26 rfl (lv_at hl 0 rfl) ?_
      refine lv_iload_n hx hb dX3_startOfPlace_27 rfl (lv_at hl 1 rfl) ?_
      refine rcV (rest := [.int (mX3_depthOf n d x5)]) X hKK hP 1 (zX3_depthOf l D cI cC q n d lb xd xl x1 _ rfl) gX3_startOfPlace_X3_depthOf rfl rfl rfl hdX3_depthOf ⟨Nat.le_of_ble_eq_true rfl, Nat.le_of_ble_eq_true rfl⟩ [0, 1, 2, 3, 4] rfl 0 rfl rfl rfl hl.1 rfl (Nat.le_of_ble_eq_true rfl) dX3_startOfPlace_28 ⟨Nat.zero_le _, Nat.zero_le _⟩ ?_
      refine lv_iconst (v := iI 1) hx hb dX3_startOfPlace_31 rfl ?_
      refine lv_iadd hx hb dX3_startOfPlace_32 ?_
      refine lv_icmp_ne (tgt := 48) hx hb dX3_startOfPlace_33 (by decide) (fun c3 => ?_) (fun c3 => ?_)
      · replace h := ifn c3 h
        refine lv_iinc (v := (x5 + iI 1)) (lv' := [(5, .int (x5 + iI 1)), (0, .ref (q 8)), (1, .int x1), (2, .int x2), (3, .int x3), (4, .int x4)]) hx hb dX3_startOfPlace_48 hl (k := 5) rfl rfl (by decide) rfl (fun ls hl => ?_)
        refine lv_goto (tgt := 14) hx hb dX3_startOfPlace_51 (by decide) ?_
        exact ih x1 x2 x3 x4 (x5 + iI 1) ls (lv_sub hl [1, 2, 3, 4, 5, 0] rfl) h
      · replace h := ifp c3 h
        refine lv_iload hx hb dX3_startOfPlace_36 (lv_at hl 4 rfl) ?_
        refine lv_iload_n hx hb dX3_startOfPlace_38 rfl (lv_at hl 2 rfl) ?_
        refine lv_icmp_ne (tgt := 45) hx hb dX3_startOfPlace_39 (by decide) (fun c4 => ?_) (fun c4 => ?_)
        · replace h := ifn c4 h
          refine lv_iinc (v := (x4 + iI 1)) (lv' := [(4, .int (x4 + iI 1)), (0, .ref (q 8)), (1, .int x1), (2, .int x2), (3, .int x3), (5, .int x5)]) hx hb dX3_startOfPlace_45 hl (k := 4) rfl rfl (by decide) rfl (fun ls hl => ?_)
          refine lv_iinc (v := (x5 + iI 1)) (lv' := [(5, .int (x5 + iI 1)), (4, .int (x4 + iI 1)), (0, .ref (q 8)), (1, .int x1), (2, .int x2), (3, .int x3)]) hx hb dX3_startOfPlace_48 hl (k := 5) rfl rfl (by decide) rfl (fun ls hl => ?_)
          refine lv_goto (tgt := 14) hx hb dX3_startOfPlace_51 (by decide) ?_
          exact ih x1 x2 x3 (x4 + iI 1) (x5 + iI 1) ls (lv_sub hl [2, 3, 4, 5, 1, 0] rfl) h
        · replace h := ifp c4 h
          refine lv_iload hx hb dX3_startOfPlace_42 (lv_at hl 5 rfl) ?_
          exact rd_ret X rfl (Option.some.inj h) dX3_startOfPlace_44
set_option maxHeartbeats 4000000 in
set_option maxRecDepth 100000 in
theorem zX3_startOfPlace (l : Launch) (D : va_G) (cI cC : ClassId) (q : Nat → Nat) (n : Int32) (d : Nat → Int32) (lb : Nat → Int32) (xd : Nat → Int32) (xl : Nat → Int32) (x1 : Int32) (x2 : Int32) (r : Int32) (h : mX3_startOfPlace n d x1 x2 = some r) : Met l yX3_startOfPlace wsX3_startOfPlace rmX3_startOfPlace (va_Pc [.ref (q 8), .int x1, .int x2] (BW D cI cC (wT cI q n d lb xd xl))) (rdQ r) 0 0 (fun _ => False) := by
  refine MetI RX3 (by decide +kernel) rfl rfl (Nat.le_of_ble_eq_true rfl) ?_
  intro p e s m below meth c ls X _ hB hl
  obtain ⟨hP, hKK⟩ := hB
  have hx := X.1
  have hb := X.2.1
  replace hl : lv_has ls 6 [(0, .ref (q 8)), (1, .int x1), (2, .int x2)] := hl
  unfold mX3_startOfPlace at h
  refine lv_aload_n hx hb dX3_startOfPlace_0 rfl (lv_at hl 0 rfl) ?_
  refine lv_iload_n hx hb dX3_startOfPlace_1 rfl (lv_at hl 1 rfl) ?_
  obtain ⟨r1, h_r1, h⟩ := obd h
  refine rcV (rest := []) X hKK hP 1 (zX3_endOf l D cI cC q n d lb xd xl x1 r1 h_r1) gX3_startOfPlace_X3_endOf rfl rfl rfl hdX3_endOf ⟨Nat.le_of_ble_eq_true rfl, Nat.le_of_ble_eq_true rfl⟩ [0, 1, 2, 3, 4] rfl 0 rfl rfl rfl hl.1 rfl (Nat.le_of_ble_eq_true rfl) dX3_startOfPlace_2 ⟨Nat.zero_le _, Nat.zero_le _⟩ ?_
  refine lv_istore_n (lv' := [(3, .int r1), (0, .ref (q 8)), (1, .int x1), (2, .int x2)]) hx hb dX3_startOfPlace_5 rfl hl (by decide) rfl (fun ls hl => ?_)
  refine lv_iconst (v := iI 0) hx hb dX3_startOfPlace_6 rfl ?_
  refine lv_istore (lv' := [(4, .int (iI 0)), (3, .int r1), (0, .ref (q 8)), (1, .int x1), (2, .int x2)]) hx hb dX3_startOfPlace_7 hl (by decide) rfl (fun ls hl => ?_)
  refine lv_iload_n hx hb dX3_startOfPlace_9 rfl (lv_at hl 3 rfl) ?_
  refine lv_iconst (v := iI 1) hx hb dX3_startOfPlace_10 rfl ?_
  refine lv_iadd hx hb dX3_startOfPlace_11 ?_
  refine lv_istore (lv' := [(5, .int (x1 + (iI 1))), (4, .int (iI 0)), (3, .int r1), (0, .ref (q 8)), (1, .int x1), (2, .int x2)]) hx hb dX3_startOfPlace_12 hl (by decide) rfl (fun ls hl => ?_)
  exact kX3_startOfPlace_14 X hKK hP FU x1 x2 r1 (iI 0) (x1 + (iI 1)) ls (lv_sub hl [3, 4, 5, 2, 1, 0] rfl) h
def mX3_placeOf_13 : Nat → Int32 → (Nat → Int32) → Int32 → Int32 → Int32 → Int32 → Option (Int32)
  | 0, _, _, _, _, _, _ => none
  | f + 1, n, d, x1, x2, x3, x4 => (if x4 < 0 then some x3 else (if (mX3_depthOf n d x4) < x2 then some x3 else (if (mX3_depthOf n d x4) = x2 then mX3_placeOf_13 f n d x1 x2 (x3 + iI 1) (x4 + iI (-1)) else mX3_placeOf_13 f n d x1 x2 x3 (x4 + iI (-1)))))
def mX3_placeOf (n : Int32) (d : Nat → Int32) (x1 : Int32) : Option (Int32) := mX3_placeOf_13 FU n d x1 (mX3_depthOf n d x1) (iI 0) (x1 - (iI 1))
theorem hdX3_placeOf : yX3_placeOf.cls = RX3 ∧ yX3_placeOf.cls ≠ "java/lang/invoke/MethodHandle" ∧ yX3_placeOf.cls ≠ "java/lang/invoke/VarHandle" ∧ (parseMethodDescriptor yX3_placeOf.desc).map (fun d => d.parameters.length) = some 1 := by decide +kernel
abbrev rmX3_placeOf : Room := { frames := 2, cells := 0, slots := 0, locals := 42 }
set_option maxHeartbeats 4000000 in
set_option maxRecDepth 100000 in
theorem kX3_placeOf_13 {p : Program} {l : Launch} {e : Env} {s : State} {m : MethodId} {args : Array Value} {below : List Frame} {meth : Method} {c : Code} {D : va_G} {cI cC : ClassId} {q : Nat → Nat} {n : Int32} {d : Nat → Int32} {lb : Nat → Int32} {xd : Nat → Int32} {xl : Nat → Int32} {r : Int32} (X : CX p s m args meth c wsX3_placeOf cX3_placeOf 5 (some .int) RX3) (hKK : KK D cI cC s) (hP : va_P D vwCl (wT cI q n d lb xd xl) s.heap) : ∀ (f : Nat), ∀ (x1 : Int32) (x2 : Int32) (x3 : Int32) (x4 : Int32) (ls : Array Slot), lv_has ls 5 [(0, .ref (q 8)), (1, .int x1), (2, .int x2), (3, .int x3), (4, .int x4)] → mX3_placeOf_13 f n d x1 x2 x3 x4 = some r → W p l e rmX3_placeOf s m args below meth c s.heap [] 0 0 (MQ below (rdQ r) args s 0 0 (fun _ => False)) (F0 m 13 ls []) := by
  have hx := X.1
  have hb := X.2.1
  intro f
  induction f with
  | zero =>
    intro x1 x2 x3 x4 ls hl h
    exact absurd h (by unfold mX3_placeOf_13; intro h; cases h)
  | succ f ih =>
    intro x1 x2 x3 x4 ls hl h
    rw [mX3_placeOf_13] at h
    refine lv_iload hx hb dX3_placeOf_13 (lv_at hl 4 rfl) ?_
    refine lv_if_lt (tgt := 47) hx hb dX3_placeOf_15 (by decide) (fun c1 => ?_) (fun c1 => ?_)
    · replace h := ifp c1 h
      refine lv_iload_n hx hb dX3_placeOf_47 rfl (lv_at hl 3 rfl) ?_
      exact rd_ret X rfl (Option.some.inj h) dX3_placeOf_48
    · replace h := ifn c1 h
      refine lv_aload_n hx hb dX3_placeOf_18 rfl (lv_at hl 0 rfl) ?_
      refine lv_iload hx hb dX3_placeOf_19 (lv_at hl 4 rfl) ?_
      refine rcV (rest := []) X hKK hP 1 (zX3_depthOf l D cI cC q n d lb xd xl x4 _ rfl) gX3_placeOf_X3_depthOf rfl rfl rfl hdX3_depthOf ⟨Nat.le_of_ble_eq_true rfl, Nat.le_of_ble_eq_true rfl⟩ [0, 1, 2, 3, 4] rfl 0 rfl rfl rfl hl.1 rfl (Nat.le_of_ble_eq_true rfl) dX3_placeOf_21 ⟨Nat.zero_le _, Nat.zero_le _⟩ ?_
      refine lv_iload_n hx hb dX3_placeOf_24 rfl (lv_at hl 2 rfl) ?_
      refine lv_icmp_lt (tgt := 47) hx hb dX3_placeOf_25 (by decide) (fun c2 => ?_) (fun c2 => ?_)
      · replace h := ifp c2 h
        refine lv_iload_n hx hb dX3_placeOf_47 rfl (lv_at hl 3 rfl) ?_
        exact rd_ret X rfl (Option.some.inj h) dX3_placeOf_48
      · replace h := ifn c2 h
        refine lv_aload_n hx hb dX3_placeOf_28 rfl (lv_at hl 0 rfl) ?_
        refine lv_iload hx hb dX3_placeOf_29 (lv_at hl 4 rfl) ?_
        refine rcV (rest := []) X hKK hP 1 (zX3_depthOf l D cI cC q n d lb xd xl x4 _ rfl) gX3_placeOf_X3_depthOf rfl rfl rfl hdX3_depthOf ⟨Nat.le_of_ble_eq_true rfl, Nat.le_of_ble_eq_true rfl⟩ [0, 1, 2, 3, 4] rfl 0 rfl rfl rfl hl.1 rfl (Nat.le_of_ble_eq_true rfl) dX3_placeOf_31 ⟨Nat.zero_le _, Nat.zero_le _⟩ ?_
        refine lv_iload_n hx hb dX3_placeOf_34 rfl (lv_at hl 2 rfl) ?_
        refine lv_icmp_ne (tgt := 41) hx hb dX3_placeOf_35 (by decide) (fun c3 => ?_) (fun c3 => ?_)
        · replace h := ifn c3 h
          refine lv_iinc (v := (x4 + iI (-1))) (lv' := [(4, .int (x4 + iI (-1))), (0, .ref (q 8)), (1, .int x1), (2, .int x2), (3, .int x3)]) hx hb dX3_placeOf_41 hl (k := 4) rfl rfl (by decide) rfl (fun ls hl => ?_)
          refine lv_goto (tgt := 13) hx hb dX3_placeOf_44 (by decide) ?_
          exact ih x1 x2 x3 (x4 + iI (-1)) ls (lv_sub hl [1, 2, 3, 4, 0] rfl) h
        · replace h := ifp c3 h
          refine lv_iinc (v := (x3 + iI 1)) (lv' := [(3, .int (x3 + iI 1)), (0, .ref (q 8)), (1, .int x1), (2, .int x2), (4, .int x4)]) hx hb dX3_placeOf_38 hl (k := 3) rfl rfl (by decide) rfl (fun ls hl => ?_)
          refine lv_iinc (v := (x4 + iI (-1))) (lv' := [(4, .int (x4 + iI (-1))), (3, .int (x3 + iI 1)), (0, .ref (q 8)), (1, .int x1), (2, .int x2)]) hx hb dX3_placeOf_41 hl (k := 4) rfl rfl (by decide) rfl (fun ls hl => ?_)
          refine lv_goto (tgt := 13) hx hb dX3_placeOf_44 (by decide) ?_
          exact ih x1 x2 (x3 + iI 1) (x4 + iI (-1)) ls (lv_sub hl [2, 3, 4, 1, 0] rfl) h
set_option maxHeartbeats 4000000 in
set_option maxRecDepth 100000 in
theorem zX3_placeOf (l : Launch) (D : va_G) (cI cC : ClassId) (q : Nat → Nat) (n : Int32) (d : Nat → Int32) (lb : Nat → Int32) (xd : Nat → Int32) (xl : Nat → Int32) (x1 : Int32) (r : Int32) (h : mX3_placeOf n d x1 = some r) : Met l yX3_placeOf wsX3_placeOf rmX3_placeOf (va_Pc [.ref (q 8), .int x1] (BW D cI cC (wT cI q n d lb xd xl))) (rdQ r) 0 0 (fun _ => False) := by
  refine MetI RX3 (by decide +kernel) rfl rfl (Nat.le_of_ble_eq_true rfl) ?_
  intro p e s m below meth c ls X _ hB hl
  obtain ⟨hP, hKK⟩ := hB
  have hx := X.1
  have hb := X.2.1
  replace hl : lv_has ls 5 [(0, .ref (q 8)), (1, .int x1)] := hl
  unfold mX3_placeOf at h
  refine lv_aload_n hx hb dX3_placeOf_0 rfl (lv_at hl 0 rfl) ?_
  refine lv_iload_n hx hb dX3_placeOf_1 rfl (lv_at hl 1 rfl) ?_
  refine rcV (rest := []) X hKK hP 1 (zX3_depthOf l D cI cC q n d lb xd xl x1 _ rfl) gX3_placeOf_X3_depthOf rfl rfl rfl hdX3_depthOf ⟨Nat.le_of_ble_eq_true rfl, Nat.le_of_ble_eq_true rfl⟩ [0, 1, 2, 3, 4] rfl 0 rfl rfl rfl hl.1 rfl (Nat.le_of_ble_eq_true rfl) dX3_placeOf_2 ⟨Nat.zero_le _, Nat.zero_le _⟩ ?_
  refine lv_istore_n (lv' := [(2, .int (mX3_depthOf n d x1)), (0, .ref (q 8)), (1, .int x1)]) hx hb dX3_placeOf_5 rfl hl (by decide) rfl (fun ls hl => ?_)
  refine lv_iconst (v := iI 0) hx hb dX3_placeOf_6 rfl ?_
  refine lv_istore_n (lv' := [(3, .int (iI 0)), (2, .int (mX3_depthOf n d x1)), (0, .ref (q 8)), (1, .int x1)]) hx hb dX3_placeOf_7 rfl hl (by decide) rfl (fun ls hl => ?_)
  refine lv_iload_n hx hb dX3_placeOf_8 rfl (lv_at hl 3 rfl) ?_
  refine lv_iconst (v := iI 1) hx hb dX3_placeOf_9 rfl ?_
  refine lv_isub hx hb dX3_placeOf_10 ?_
  refine lv_istore (lv' := [(4, .int (x1 - (iI 1))), (3, .int (iI 0)), (2, .int (mX3_depthOf n d x1)), (0, .ref (q 8)), (1, .int x1)]) hx hb dX3_placeOf_11 hl (by decide) rfl (fun ls hl => ?_)
  exact kX3_placeOf_13 X hKK hP FU x1 (mX3_depthOf n d x1) (iI 0) (x1 - (iI 1)) ls (lv_sub hl [3, 4, 2, 1, 0] rfl) h
def mX3_isLeaf (n : Int32) (d : Nat → Int32) (x1 : Int32) : (Int32) := (if (mX3_depthOf n d x1) < (mX3_depthOf n d (x1 + (iI 1))) then (iI 0) else (iI 1))
theorem hdX3_isLeaf : yX3_isLeaf.cls = RX3 ∧ yX3_isLeaf.cls ≠ "java/lang/invoke/MethodHandle" ∧ yX3_isLeaf.cls ≠ "java/lang/invoke/VarHandle" ∧ (parseMethodDescriptor yX3_isLeaf.desc).map (fun d => d.parameters.length) = some 1 := by decide +kernel
abbrev rmX3_isLeaf : Room := { frames := 2, cells := 0, slots := 0, locals := 42 }
set_option maxHeartbeats 4000000 in
set_option maxRecDepth 100000 in
theorem zX3_isLeaf (l : Launch) (D : va_G) (cI cC : ClassId) (q : Nat → Nat) (n : Int32) (d : Nat → Int32) (lb : Nat → Int32) (xd : Nat → Int32) (xl : Nat → Int32) (x1 : Int32) (r : Int32) (h : mX3_isLeaf n d x1 = r) : Met l yX3_isLeaf wsX3_isLeaf rmX3_isLeaf (va_Pc [.ref (q 8), .int x1] (BW D cI cC (wT cI q n d lb xd xl))) (rdQ r) 0 0 (fun _ => False) := by
  refine MetI RX3 (by decide +kernel) rfl rfl (Nat.le_of_ble_eq_true rfl) ?_
  intro p e s m below meth c ls X _ hB hl
  obtain ⟨hP, hKK⟩ := hB
  have hx := X.1
  have hb := X.2.1
  replace hl : lv_has ls 2 [(0, .ref (q 8)), (1, .int x1)] := hl
  unfold mX3_isLeaf at h
  refine lv_aload_n hx hb dX3_isLeaf_0 rfl (lv_at hl 0 rfl) ?_
  refine lv_iload_n hx hb dX3_isLeaf_1 rfl (lv_at hl 1 rfl) ?_
  refine lv_iconst (v := iI 1) hx hb dX3_isLeaf_2 rfl ?_
  refine lv_iadd hx hb dX3_isLeaf_3 ?_
  refine rcV (rest := []) X hKK hP 1 (zX3_depthOf l D cI cC q n d lb xd xl (x1 + (iI 1)) _ rfl) gX3_isLeaf_X3_depthOf rfl rfl rfl hdX3_depthOf ⟨Nat.le_of_ble_eq_true rfl, Nat.le_of_ble_eq_true rfl⟩ [0, 1, 2, 3, 4] rfl 0 rfl rfl rfl hl.1 rfl (Nat.le_of_ble_eq_true rfl) dX3_isLeaf_4 ⟨Nat.zero_le _, Nat.zero_le _⟩ ?_
  refine lv_aload_n hx hb dX3_isLeaf_7 rfl (lv_at hl 0 rfl) ?_
  refine lv_iload_n hx hb dX3_isLeaf_8 rfl (lv_at hl 1 rfl) ?_
  refine rcV (rest := [.int (mX3_depthOf n d (x1 + (iI 1)))]) X hKK hP 1 (zX3_depthOf l D cI cC q n d lb xd xl x1 _ rfl) gX3_isLeaf_X3_depthOf rfl rfl rfl hdX3_depthOf ⟨Nat.le_of_ble_eq_true rfl, Nat.le_of_ble_eq_true rfl⟩ [0, 1, 2, 3, 4] rfl 0 rfl rfl rfl hl.1 rfl (Nat.le_of_ble_eq_true rfl) dX3_isLeaf_9 ⟨Nat.zero_le _, Nat.zero_le _⟩ ?_
  refine lv_icmp_gt (tgt := 19) hx hb dX3_isLeaf_12 (by decide) (fun c1 => ?_) (fun c1 => ?_)
  · replace h := ifp c1 h
    refine lv_iconst (v := iI 0) hx hb dX3_isLeaf_19 rfl ?_
    exact rd_ret X rfl h dX3_isLeaf_20
  · replace h := ifn c1 h
    refine lv_iconst (v := iI 1) hx hb dX3_isLeaf_15 rfl ?_
    refine lv_goto (tgt := 20) hx hb dX3_isLeaf_16 (by decide) ?_
    exact rd_ret X rfl h dX3_isLeaf_20
def mX3_leafCount_11 : Nat → Int32 → (Nat → Int32) → Int32 → Int32 → Int32 → Int32 → Option (Int32)
  | 0, _, _, _, _, _, _ => none
  | f + 1, n, d, x1, x2, x3, x4 => (if x2 ≤ x4 then some x3 else (if (mX3_isLeaf n d x4) = 0 then mX3_leafCount_11 f n d x1 x2 x3 (x4 + iI 1) else mX3_leafCount_11 f n d x1 x2 (x3 + iI 1) (x4 + iI 1)))
def mX3_leafCount (n : Int32) (d : Nat → Int32) (x1 : Int32) : Option (Int32) := ((mX3_endOf n d x1).bind fun r1 => mX3_leafCount_11 FU n d x1 r1 (iI 0) x1)
theorem hdX3_leafCount : yX3_leafCount.cls = RX3 ∧ yX3_leafCount.cls ≠ "java/lang/invoke/MethodHandle" ∧ yX3_leafCount.cls ≠ "java/lang/invoke/VarHandle" ∧ (parseMethodDescriptor yX3_leafCount.desc).map (fun d => d.parameters.length) = some 1 := by decide +kernel
abbrev rmX3_leafCount : Room := { frames := 3, cells := 0, slots := 0, locals := 65 }
set_option maxHeartbeats 4000000 in
set_option maxRecDepth 100000 in
theorem kX3_leafCount_11 {p : Program} {l : Launch} {e : Env} {s : State} {m : MethodId} {args : Array Value} {below : List Frame} {meth : Method} {c : Code} {D : va_G} {cI cC : ClassId} {q : Nat → Nat} {n : Int32} {d : Nat → Int32} {lb : Nat → Int32} {xd : Nat → Int32} {xl : Nat → Int32} {r : Int32} (X : CX p s m args meth c wsX3_leafCount cX3_leafCount 5 (some .int) RX3) (hKK : KK D cI cC s) (hP : va_P D vwCl (wT cI q n d lb xd xl) s.heap) : ∀ (f : Nat), ∀ (x1 : Int32) (x2 : Int32) (x3 : Int32) (x4 : Int32) (ls : Array Slot), lv_has ls 5 [(0, .ref (q 8)), (1, .int x1), (2, .int x2), (3, .int x3), (4, .int x4)] → mX3_leafCount_11 f n d x1 x2 x3 x4 = some r → W p l e rmX3_leafCount s m args below meth c s.heap [] 0 0 (MQ below (rdQ r) args s 0 0 (fun _ => False)) (F0 m 11 ls []) := by
  have hx := X.1
  have hb := X.2.1
  intro f
  induction f with
  | zero =>
    intro x1 x2 x3 x4 ls hl h
    exact absurd h (by unfold mX3_leafCount_11; intro h; cases h)
  | succ f ih =>
    intro x1 x2 x3 x4 ls hl h
    rw [mX3_leafCount_11] at h
    refine lv_iload hx hb dX3_leafCount_11 (lv_at hl 4 rfl) ?_
    refine lv_iload_n hx hb dX3_leafCount_13 rfl (lv_at hl 2 rfl) ?_
    refine lv_icmp_ge (tgt := 35) hx hb dX3_leafCount_14 (by decide) (fun c2 => ?_) (fun c2 => ?_)
    · replace h := ifp c2 h
      refine lv_iload_n hx hb dX3_leafCount_35 rfl (lv_at hl 3 rfl) ?_
      exact rd_ret X rfl (Option.some.inj h) dX3_leafCount_36
    · replace h := ifn c2 h
      refine lv_aload_n hx hb dX3_leafCount_17 rfl (lv_at hl 0 rfl) ?_
      refine lv_iload hx hb dX3_leafCount_18 (lv_at hl 4 rfl) ?_
      refine rcV (rest := []) X hKK hP 1 (zX3_isLeaf l D cI cC q n d lb xd xl x4 _ rfl) gX3_leafCount_X3_isLeaf rfl rfl rfl hdX3_isLeaf ⟨Nat.le_of_ble_eq_true rfl, Nat.le_of_ble_eq_true rfl⟩ [0, 1, 2, 3, 4] rfl 0 rfl rfl rfl hl.1 rfl (Nat.le_of_ble_eq_true rfl) dX3_leafCount_20 ⟨Nat.zero_le _, Nat.zero_le _⟩ ?_
      refine lv_if_eq (tgt := 29) hx hb dX3_leafCount_23 (by decide) (fun c3 => ?_) (fun c3 => ?_)
      · replace h := ifp c3 h
        refine lv_iinc (v := (x4 + iI 1)) (lv' := [(4, .int (x4 + iI 1)), (0, .ref (q 8)), (1, .int x1), (2, .int x2), (3, .int x3)]) hx hb dX3_leafCount_29 hl (k := 4) rfl rfl (by decide) rfl (fun ls hl => ?_)
        refine lv_goto (tgt := 11) hx hb dX3_leafCount_32 (by decide) ?_
        exact ih x1 x2 x3 (x4 + iI 1) ls (lv_sub hl [1, 2, 3, 4, 0] rfl) h
      · replace h := ifn c3 h
        refine lv_iinc (v := (x3 + iI 1)) (lv' := [(3, .int (x3 + iI 1)), (0, .ref (q 8)), (1, .int x1), (2, .int x2), (4, .int x4)]) hx hb dX3_leafCount_26 hl (k := 3) rfl rfl (by decide) rfl (fun ls hl => ?_)
        refine lv_iinc (v := (x4 + iI 1)) (lv' := [(4, .int (x4 + iI 1)), (3, .int (x3 + iI 1)), (0, .ref (q 8)), (1, .int x1), (2, .int x2)]) hx hb dX3_leafCount_29 hl (k := 4) rfl rfl (by decide) rfl (fun ls hl => ?_)
        refine lv_goto (tgt := 11) hx hb dX3_leafCount_32 (by decide) ?_
        exact ih x1 x2 (x3 + iI 1) (x4 + iI 1) ls (lv_sub hl [2, 3, 4, 1, 0] rfl) h
set_option maxHeartbeats 4000000 in
set_option maxRecDepth 100000 in
theorem zX3_leafCount (l : Launch) (D : va_G) (cI cC : ClassId) (q : Nat → Nat) (n : Int32) (d : Nat → Int32) (lb : Nat → Int32) (xd : Nat → Int32) (xl : Nat → Int32) (x1 : Int32) (r : Int32) (h : mX3_leafCount n d x1 = some r) : Met l yX3_leafCount wsX3_leafCount rmX3_leafCount (va_Pc [.ref (q 8), .int x1] (BW D cI cC (wT cI q n d lb xd xl))) (rdQ r) 0 0 (fun _ => False) := by
  refine MetI RX3 (by decide +kernel) rfl rfl (Nat.le_of_ble_eq_true rfl) ?_
  intro p e s m below meth c ls X _ hB hl
  obtain ⟨hP, hKK⟩ := hB
  have hx := X.1
  have hb := X.2.1
  replace hl : lv_has ls 5 [(0, .ref (q 8)), (1, .int x1)] := hl
  unfold mX3_leafCount at h
  refine lv_aload_n hx hb dX3_leafCount_0 rfl (lv_at hl 0 rfl) ?_
  refine lv_iload_n hx hb dX3_leafCount_1 rfl (lv_at hl 1 rfl) ?_
  obtain ⟨r1, h_r1, h⟩ := obd h
  refine rcV (rest := []) X hKK hP 1 (zX3_endOf l D cI cC q n d lb xd xl x1 r1 h_r1) gX3_leafCount_X3_endOf rfl rfl rfl hdX3_endOf ⟨Nat.le_of_ble_eq_true rfl, Nat.le_of_ble_eq_true rfl⟩ [0, 1, 2, 3, 4] rfl 0 rfl rfl rfl hl.1 rfl (Nat.le_of_ble_eq_true rfl) dX3_leafCount_2 ⟨Nat.zero_le _, Nat.zero_le _⟩ ?_
  refine lv_istore_n (lv' := [(2, .int r1), (0, .ref (q 8)), (1, .int x1)]) hx hb dX3_leafCount_5 rfl hl (by decide) rfl (fun ls hl => ?_)
  refine lv_iconst (v := iI 0) hx hb dX3_leafCount_6 rfl ?_
  refine lv_istore_n (lv' := [(3, .int (iI 0)), (2, .int r1), (0, .ref (q 8)), (1, .int x1)]) hx hb dX3_leafCount_7 rfl hl (by decide) rfl (fun ls hl => ?_)
  refine lv_iload_n hx hb dX3_leafCount_8 rfl (lv_at hl 3 rfl) ?_
  refine lv_istore (lv' := [(4, .int x1), (3, .int (iI 0)), (2, .int r1), (0, .ref (q 8)), (1, .int x1)]) hx hb dX3_leafCount_9 hl (by decide) rfl (fun ls hl => ?_)
  exact kX3_leafCount_11 X hKK hP FU x1 r1 (iI 0) x1 ls (lv_sub hl [3, 4, 2, 1, 0] rfl) h
def mX3_deepestOf_13 : Nat → Int32 → (Nat → Int32) → Int32 → Int32 → Int32 → Int32 → Option (Int32)
  | 0, _, _, _, _, _, _ => none
  | f + 1, n, d, x1, x2, x3, x4 => (if x2 ≤ x4 then some x3 else (if (mX3_depthOf n d x4) ≤ (mX3_depthOf n d x3) then mX3_deepestOf_13 f n d x1 x2 x3 (x4 + iI 1) else mX3_deepestOf_13 f n d x1 x2 x4 (x4 + iI 1)))
def mX3_deepestOf (n : Int32) (d : Nat → Int32) (x1 : Int32) : Option (Int32) := ((mX3_endOf n d x1).bind fun r1 => mX3_deepestOf_13 FU n d x1 r1 x1 (x1 + (iI 1)))
theorem hdX3_deepestOf : yX3_deepestOf.cls = RX3 ∧ yX3_deepestOf.cls ≠ "java/lang/invoke/MethodHandle" ∧ yX3_deepestOf.cls ≠ "java/lang/invoke/VarHandle" ∧ (parseMethodDescriptor yX3_deepestOf.desc).map (fun d => d.parameters.length) = some 1 := by decide +kernel
abbrev rmX3_deepestOf : Room := { frames := 3, cells := 0, slots := 0, locals := 65 }
set_option maxHeartbeats 4000000 in
set_option maxRecDepth 100000 in
theorem kX3_deepestOf_13 {p : Program} {l : Launch} {e : Env} {s : State} {m : MethodId} {args : Array Value} {below : List Frame} {meth : Method} {c : Code} {D : va_G} {cI cC : ClassId} {q : Nat → Nat} {n : Int32} {d : Nat → Int32} {lb : Nat → Int32} {xd : Nat → Int32} {xl : Nat → Int32} {r : Int32} (X : CX p s m args meth c wsX3_deepestOf cX3_deepestOf 5 (some .int) RX3) (hKK : KK D cI cC s) (hP : va_P D vwCl (wT cI q n d lb xd xl) s.heap) : ∀ (f : Nat), ∀ (x1 : Int32) (x2 : Int32) (x3 : Int32) (x4 : Int32) (ls : Array Slot), lv_has ls 5 [(0, .ref (q 8)), (1, .int x1), (2, .int x2), (3, .int x3), (4, .int x4)] → mX3_deepestOf_13 f n d x1 x2 x3 x4 = some r → W p l e rmX3_deepestOf s m args below meth c s.heap [] 0 0 (MQ below (rdQ r) args s 0 0 (fun _ => False)) (F0 m 13 ls []) := by
  have hx := X.1
  have hb := X.2.1
  intro f
  induction f with
  | zero =>
    intro x1 x2 x3 x4 ls hl h
    exact absurd h (by unfold mX3_deepestOf_13; intro h; cases h)
  | succ f ih =>
    intro x1 x2 x3 x4 ls hl h
    rw [mX3_deepestOf_13] at h
    refine lv_iload hx hb dX3_deepestOf_13 (lv_at hl 4 rfl) ?_
    refine lv_iload_n hx hb dX3_deepestOf_15 rfl (lv_at hl 2 rfl) ?_
    refine lv_icmp_ge (tgt := 42) hx hb dX3_deepestOf_16 (by decide) (fun c2 => ?_) (fun c2 => ?_)
    · replace h := ifp c2 h
      refine lv_iload_n hx hb dX3_deepestOf_42 rfl (lv_at hl 3 rfl) ?_
      exact rd_ret X rfl (Option.some.inj h) dX3_deepestOf_43
    · replace h := ifn c2 h
      refine lv_aload_n hx hb dX3_deepestOf_19 rfl (lv_at hl 0 rfl) ?_
      refine lv_iload hx hb dX3_deepestOf_20 (lv_at hl 4 rfl) ?_
      refine rcV (rest := []) X hKK hP 1 (zX3_depthOf l D cI cC q n d lb xd xl x4 _ rfl) gX3_deepestOf_X3_depthOf rfl rfl rfl hdX3_depthOf ⟨Nat.le_of_ble_eq_true rfl, Nat.le_of_ble_eq_true rfl⟩ [0, 1, 2, 3, 4] rfl 0 rfl rfl rfl hl.1 rfl (Nat.le_of_ble_eq_true rfl) dX3_deepestOf_22 ⟨Nat.zero_le _, Nat.zero_le _⟩ ?_
      refine lv_aload_n hx hb dX3_deepestOf_25 rfl (lv_at hl 0 rfl) ?_
      refine lv_iload_n hx hb dX3_deepestOf_26 rfl (lv_at hl 3 rfl) ?_
      refine rcV (rest := [.int (mX3_depthOf n d x4)]) X hKK hP 1 (zX3_depthOf l D cI cC q n d lb xd xl x3 _ rfl) gX3_deepestOf_X3_depthOf rfl rfl rfl hdX3_depthOf ⟨Nat.le_of_ble_eq_true rfl, Nat.le_of_ble_eq_true rfl⟩ [0, 1, 2, 3, 4] rfl 0 rfl rfl rfl hl.1 rfl (Nat.le_of_ble_eq_true rfl) dX3_deepestOf_27 ⟨Nat.zero_le _, Nat.zero_le _⟩ ?_
      refine lv_icmp_le (tgt := 36) hx hb dX3_deepestOf_30 (by decide) (fun c3 => ?_) (fun c3 => ?_)
      · replace h := ifp c3 h
        refine lv_iinc (v := (x4 + iI 1)) (lv' := [(4, .int (x4 + iI 1)), (0, .ref (q 8)), (1, .int x1), (2, .int x2), (3, .int x3)]) hx hb dX3_deepestOf_36 hl (k := 4) rfl rfl (by decide) rfl (fun ls hl => ?_)
        refine lv_goto (tgt := 13) hx hb dX3_deepestOf_39 (by decide) ?_
        exact ih x1 x2 x3 (x4 + iI 1) ls (lv_sub hl [1, 2, 3, 4, 0] rfl) h
      · replace h := ifn c3 h
        refine lv_iload hx hb dX3_deepestOf_33 (lv_at hl 4 rfl) ?_
        refine lv_istore_n (lv' := [(3, .int x4), (0, .ref (q 8)), (1, .int x1), (2, .int x2), (4, .int x4)]) hx hb dX3_deepestOf_35 rfl hl (by decide) rfl (fun ls hl => ?_)
        refine lv_iinc (v := (x4 + iI 1)) (lv' := [(4, .int (x4 + iI 1)), (3, .int x4), (0, .ref (q 8)), (1, .int x1), (2, .int x2)]) hx hb dX3_deepestOf_36 hl (k := 4) rfl rfl (by decide) rfl (fun ls hl => ?_)
        refine lv_goto (tgt := 13) hx hb dX3_deepestOf_39 (by decide) ?_
        exact ih x1 x2 x4 (x4 + iI 1) ls (lv_sub hl [2, 3, 4, 1, 0] rfl) h
set_option maxHeartbeats 4000000 in
set_option maxRecDepth 100000 in
theorem zX3_deepestOf (l : Launch) (D : va_G) (cI cC : ClassId) (q : Nat → Nat) (n : Int32) (d : Nat → Int32) (lb : Nat → Int32) (xd : Nat → Int32) (xl : Nat → Int32) (x1 : Int32) (r : Int32) (h : mX3_deepestOf n d x1 = some r) : Met l yX3_deepestOf wsX3_deepestOf rmX3_deepestOf (va_Pc [.ref (q 8), .int x1] (BW D cI cC (wT cI q n d lb xd xl))) (rdQ r) 0 0 (fun _ => False) := by
  refine MetI RX3 (by decide +kernel) rfl rfl (Nat.le_of_ble_eq_true rfl) ?_
  intro p e s m below meth c ls X _ hB hl
  obtain ⟨hP, hKK⟩ := hB
  have hx := X.1
  have hb := X.2.1
  replace hl : lv_has ls 5 [(0, .ref (q 8)), (1, .int x1)] := hl
  unfold mX3_deepestOf at h
  refine lv_aload_n hx hb dX3_deepestOf_0 rfl (lv_at hl 0 rfl) ?_
  refine lv_iload_n hx hb dX3_deepestOf_1 rfl (lv_at hl 1 rfl) ?_
  obtain ⟨r1, h_r1, h⟩ := obd h
  refine rcV (rest := []) X hKK hP 1 (zX3_endOf l D cI cC q n d lb xd xl x1 r1 h_r1) gX3_deepestOf_X3_endOf rfl rfl rfl hdX3_endOf ⟨Nat.le_of_ble_eq_true rfl, Nat.le_of_ble_eq_true rfl⟩ [0, 1, 2, 3, 4] rfl 0 rfl rfl rfl hl.1 rfl (Nat.le_of_ble_eq_true rfl) dX3_deepestOf_2 ⟨Nat.zero_le _, Nat.zero_le _⟩ ?_
  refine lv_istore_n (lv' := [(2, .int r1), (0, .ref (q 8)), (1, .int x1)]) hx hb dX3_deepestOf_5 rfl hl (by decide) rfl (fun ls hl => ?_)
  refine lv_iload_n hx hb dX3_deepestOf_6 rfl (lv_at hl 2 rfl) ?_
  refine lv_istore_n (lv' := [(3, .int x1), (2, .int r1), (0, .ref (q 8)), (1, .int x1)]) hx hb dX3_deepestOf_7 rfl hl (by decide) rfl (fun ls hl => ?_)
  refine lv_iload_n hx hb dX3_deepestOf_8 rfl (lv_at hl 3 rfl) ?_
  refine lv_iconst (v := iI 1) hx hb dX3_deepestOf_9 rfl ?_
  refine lv_iadd hx hb dX3_deepestOf_10 ?_
  refine lv_istore (lv' := [(4, .int (x1 + (iI 1))), (3, .int x1), (2, .int r1), (0, .ref (q 8)), (1, .int x1)]) hx hb dX3_deepestOf_11 hl (by decide) rfl (fun ls hl => ?_)
  exact kX3_deepestOf_13 X hKK hP FU x1 r1 x1 (x1 + (iI 1)) ls (lv_sub hl [3, 4, 2, 1, 0] rfl) h
def mX3_postorderOf (n : Int32) (d : Nat → Int32) (x1 : Int32) : Option (Int32) := ((mX3_endOf n d x1).bind fun r1 => some ((r1 - (iI 1)) - (mX3_depthOf n d x1)))
theorem hdX3_postorderOf : yX3_postorderOf.cls = RX3 ∧ yX3_postorderOf.cls ≠ "java/lang/invoke/MethodHandle" ∧ yX3_postorderOf.cls ≠ "java/lang/invoke/VarHandle" ∧ (parseMethodDescriptor yX3_postorderOf.desc).map (fun d => d.parameters.length) = some 1 := by decide +kernel
abbrev rmX3_postorderOf : Room := { frames := 3, cells := 0, slots := 0, locals := 65 }
set_option maxHeartbeats 4000000 in
set_option maxRecDepth 100000 in
theorem zX3_postorderOf (l : Launch) (D : va_G) (cI cC : ClassId) (q : Nat → Nat) (n : Int32) (d : Nat → Int32) (lb : Nat → Int32) (xd : Nat → Int32) (xl : Nat → Int32) (x1 : Int32) (r : Int32) (h : mX3_postorderOf n d x1 = some r) : Met l yX3_postorderOf wsX3_postorderOf rmX3_postorderOf (va_Pc [.ref (q 8), .int x1] (BW D cI cC (wT cI q n d lb xd xl))) (rdQ r) 0 0 (fun _ => False) := by
  refine MetI RX3 (by decide +kernel) rfl rfl (Nat.le_of_ble_eq_true rfl) ?_
  intro p e s m below meth c ls X _ hB hl
  obtain ⟨hP, hKK⟩ := hB
  have hx := X.1
  have hb := X.2.1
  replace hl : lv_has ls 2 [(0, .ref (q 8)), (1, .int x1)] := hl
  unfold mX3_postorderOf at h
  refine lv_aload_n hx hb dX3_postorderOf_0 rfl (lv_at hl 0 rfl) ?_
  refine lv_iload_n hx hb dX3_postorderOf_1 rfl (lv_at hl 1 rfl) ?_
  obtain ⟨r1, h_r1, h⟩ := obd h
  refine rcV (rest := []) X hKK hP 1 (zX3_endOf l D cI cC q n d lb xd xl x1 r1 h_r1) gX3_postorderOf_X3_endOf rfl rfl rfl hdX3_endOf ⟨Nat.le_of_ble_eq_true rfl, Nat.le_of_ble_eq_true rfl⟩ [0, 1, 2, 3, 4] rfl 0 rfl rfl rfl hl.1 rfl (Nat.le_of_ble_eq_true rfl) dX3_postorderOf_2 ⟨Nat.zero_le _, Nat.zero_le _⟩ ?_
  refine lv_iconst (v := iI 1) hx hb dX3_postorderOf_5 rfl ?_
  refine lv_isub hx hb dX3_postorderOf_6 ?_
  refine lv_aload_n hx hb dX3_postorderOf_7 rfl (lv_at hl 0 rfl) ?_
  refine lv_iload_n hx hb dX3_postorderOf_8 rfl (lv_at hl 1 rfl) ?_
  refine rcV (rest := [.int (r1 - (iI 1))]) X hKK hP 1 (zX3_depthOf l D cI cC q n d lb xd xl x1 _ rfl) gX3_postorderOf_X3_depthOf rfl rfl rfl hdX3_depthOf ⟨Nat.le_of_ble_eq_true rfl, Nat.le_of_ble_eq_true rfl⟩ [0, 1, 2, 3, 4] rfl 0 rfl rfl rfl hl.1 rfl (Nat.le_of_ble_eq_true rfl) dX3_postorderOf_9 ⟨Nat.zero_le _, Nat.zero_le _⟩ ?_
  refine lv_isub hx hb dX3_postorderOf_12 ?_
  exact rd_ret X rfl (Option.some.inj h) dX3_postorderOf_13
def mX3_findByPostorder_2 : Nat → Int32 → (Nat → Int32) → Int32 → Int32 → Option (Int32)
  | 0, _, _, _, _ => none
  | f + 1, n, d, x1, x2 => (if n ≤ x2 then some (iI (-5)) else ((mX3_postorderOf n d x2).bind fun r2 => (if r2 = x1 then some x2 else mX3_findByPostorder_2 f n d x1 (x2 + iI 1))))
def mX3_findByPostorder (n : Int32) (d : Nat → Int32) (x1 : Int32) : Option (Int32) := mX3_findByPostorder_2 FU n d x1 (iI 0)
theorem hdX3_findByPostorder : yX3_findByPostorder.cls = RX3 ∧ yX3_findByPostorder.cls ≠ "java/lang/invoke/MethodHandle" ∧ yX3_findByPostorder.cls ≠ "java/lang/invoke/VarHandle" ∧ (parseMethodDescriptor yX3_findByPostorder.desc).map (fun d => d.parameters.length) = some 1 := by decide +kernel
theorem flX3_findByPostorder_28 : Cond.fieldLink RX3 28 "BracketTree$Tree" "count" "I" ∈ wsX3_findByPostorder := by decide +kernel
theorem iwX3_findByPostorder_3 : ∀ w ∈ wsX30, w ∈ wsX3_findByPostorder := by decide +kernel
abbrev rmX3_findByPostorder : Room := { frames := 4, cells := 0, slots := 0, locals := 86 }
set_option maxHeartbeats 4000000 in
set_option maxRecDepth 100000 in
theorem kX3_findByPostorder_2 {p : Program} {l : Launch} {e : Env} {s : State} {m : MethodId} {args : Array Value} {below : List Frame} {meth : Method} {c : Code} {D : va_G} {cI cC : ClassId} {q : Nat → Nat} {n : Int32} {d : Nat → Int32} {lb : Nat → Int32} {xd : Nat → Int32} {xl : Nat → Int32} {r : Int32} (X : CX p s m args meth c wsX3_findByPostorder cX3_findByPostorder 3 (some .int) RX3) (hKK : KK D cI cC s) (hP : va_P D vwCl (wT cI q n d lb xd xl) s.heap) : ∀ (f : Nat), ∀ (x1 : Int32) (x2 : Int32) (ls : Array Slot), lv_has ls 3 [(0, .ref (q 8)), (1, .int x1), (2, .int x2)] → mX3_findByPostorder_2 f n d x1 x2 = some r → W p l e rmX3_findByPostorder s m args below meth c s.heap [] 0 0 (MQ below (rdQ r) args s 0 0 (fun _ => False)) (F0 m 2 ls []) := by
  have hx := X.1
  have hb := X.2.1
  intro f
  induction f with
  | zero =>
    intro x1 x2 ls hl h
    exact absurd h (by unfold mX3_findByPostorder_2; intro h; cases h)
  | succ f ih =>
    intro x1 x2 ls hl h
    rw [mX3_findByPostorder_2] at h
    refine lv_iload_n hx hb dX3_findByPostorder_2 rfl (lv_at hl 2 rfl) ?_
    refine lv_aload_n hx hb dX3_findByPostorder_3 rfl (lv_at hl 0 rfl) ?_
    refine va_get (D := D) (ci := 3) (v := .int n) (C := RX3) (T := TX3) (N := 5) hx hb X.2.2.2.2.1 iwX3_findByPostorder_3 X.2.2.2.1 hKK.1 hP 0 rfl rfl 4 (by decide) (X.2.2.2.2.1 _ flX3_findByPostorder_28) (fun _ h9 => h9) rfl dX3_findByPostorder_4 ?_
    refine lv_icmp_ge (tgt := 27) hx hb dX3_findByPostorder_7 (by decide) (fun c1 => ?_) (fun c1 => ?_)
    · replace h := ifp c1 h
      refine lv_bipush (v := iI (-5)) hx hb dX3_findByPostorder_27 (by decide) ?_
      exact rd_ret X rfl (Option.some.inj h) dX3_findByPostorder_29
    · replace h := ifn c1 h
      refine lv_aload_n hx hb dX3_findByPostorder_10 rfl (lv_at hl 0 rfl) ?_
      refine lv_iload_n hx hb dX3_findByPostorder_11 rfl (lv_at hl 2 rfl) ?_
      obtain ⟨r2, h_r2, h⟩ := obd h
      refine rcV (rest := []) X hKK hP 1 (zX3_postorderOf l D cI cC q n d lb xd xl x2 r2 h_r2) gX3_findByPostorder_X3_postorderOf rfl rfl rfl hdX3_postorderOf ⟨Nat.le_of_ble_eq_true rfl, Nat.le_of_ble_eq_true rfl⟩ [0, 1, 2, 3, 4] rfl 0 rfl rfl rfl hl.1 rfl (Nat.le_of_ble_eq_true rfl) dX3_findByPostorder_12 ⟨Nat.zero_le _, Nat.zero_le _⟩ ?_
      refine lv_iload_n hx hb dX3_findByPostorder_15 rfl (lv_at hl 1 rfl) ?_
      refine lv_icmp_ne (tgt := 21) hx hb dX3_findByPostorder_16 (by decide) (fun c3 => ?_) (fun c3 => ?_)
      · replace h := ifn c3 h
        refine lv_iinc (v := (x2 + iI 1)) (lv' := [(2, .int (x2 + iI 1)), (0, .ref (q 8)), (1, .int x1)]) hx hb dX3_findByPostorder_21 hl (k := 2) rfl rfl (by decide) rfl (fun ls hl => ?_)
        refine lv_goto (tgt := 2) hx hb dX3_findByPostorder_24 (by decide) ?_
        exact ih x1 (x2 + iI 1) ls (lv_sub hl [1, 2, 0] rfl) h
      · replace h := ifp c3 h
        refine lv_iload_n hx hb dX3_findByPostorder_19 rfl (lv_at hl 2 rfl) ?_
        exact rd_ret X rfl (Option.some.inj h) dX3_findByPostorder_20
set_option maxHeartbeats 4000000 in
set_option maxRecDepth 100000 in
theorem zX3_findByPostorder (l : Launch) (D : va_G) (cI cC : ClassId) (q : Nat → Nat) (n : Int32) (d : Nat → Int32) (lb : Nat → Int32) (xd : Nat → Int32) (xl : Nat → Int32) (x1 : Int32) (r : Int32) (h : mX3_findByPostorder n d x1 = some r) : Met l yX3_findByPostorder wsX3_findByPostorder rmX3_findByPostorder (va_Pc [.ref (q 8), .int x1] (BW D cI cC (wT cI q n d lb xd xl))) (rdQ r) 0 0 (fun _ => False) := by
  refine MetI RX3 (by decide +kernel) rfl rfl (Nat.le_of_ble_eq_true rfl) ?_
  intro p e s m below meth c ls X _ hB hl
  obtain ⟨hP, hKK⟩ := hB
  have hx := X.1
  have hb := X.2.1
  replace hl : lv_has ls 3 [(0, .ref (q 8)), (1, .int x1)] := hl
  unfold mX3_findByPostorder at h
  refine lv_iconst (v := iI 0) hx hb dX3_findByPostorder_0 rfl ?_
  refine lv_istore_n (lv' := [(2, .int (iI 0)), (0, .ref (q 8)), (1, .int x1)]) hx hb dX3_findByPostorder_1 rfl hl (by decide) rfl (fun ls hl => ?_)
  exact kX3_findByPostorder_2 X hKK hP FU x1 (iI 0) ls (lv_sub hl [1, 2, 0] rfl) h
def mX3_meetingOf_25 : Nat → Int32 → (Nat → Int32) → Int32 → Int32 → Int32 → Int32 → Int32 → Int32 → Option (Int32)
  | 0, _, _, _, _, _, _, _, _ => none
  | f + 1, n, d, x1, x2, x3, x4, x5, x6 => (if x4 < x6 then ((mX3_climb n d x3 x5).bind fun r2 => some r2) else mX3_meetingOf_25 f n d x1 x2 x3 x4 (iMin x5 ((mX3_depthOf n d x6) - (iI 1))) (x6 + iI 1))
def mX3_meetingOf (n : Int32) (d : Nat → Int32) (x1 : Int32) (x2 : Int32) : Option (Int32) := mX3_meetingOf_25 FU n d x1 x2 (iMin x1 x2) (iMax x1 x2) (mX3_depthOf n d (iMin x1 x2)) ((iMin x1 x2) + (iI 1))
theorem hdX3_meetingOf : yX3_meetingOf.cls = RX3 ∧ yX3_meetingOf.cls ≠ "java/lang/invoke/MethodHandle" ∧ yX3_meetingOf.cls ≠ "java/lang/invoke/VarHandle" ∧ (parseMethodDescriptor yX3_meetingOf.desc).map (fun d => d.parameters.length) = some 2 := by decide +kernel
theorem mlX3_meetingOf_57 : Cond.methodLink RX3 57 Lib.Math.min.name ∈ wsX3_meetingOf := by decide +kernel
theorem msX3_meetingOf_57 : Cond.static Lib.Math.min.name ∈ wsX3_meetingOf := by decide +kernel
theorem miX3_meetingOf_57 : Cond.initialized "java/lang/Math" ∈ wsX3_meetingOf := by decide +kernel
theorem mcX3_meetingOf_57 : Cond.code Lib.Math.min.name Lib.Math.min.code 2 (some .int) ∈ wsX3_meetingOf := by decide +kernel
theorem mlX3_meetingOf_62 : Cond.methodLink RX3 62 Lib.Math.max.name ∈ wsX3_meetingOf := by decide +kernel
theorem msX3_meetingOf_62 : Cond.static Lib.Math.max.name ∈ wsX3_meetingOf := by decide +kernel
theorem miX3_meetingOf_62 : Cond.initialized "java/lang/Math" ∈ wsX3_meetingOf := by decide +kernel
theorem mcX3_meetingOf_62 : Cond.code Lib.Math.max.name Lib.Math.max.code 2 (some .int) ∈ wsX3_meetingOf := by decide +kernel
abbrev rmX3_meetingOf : Room := { frames := 3, cells := 0, slots := 0, locals := 65 }
set_option maxHeartbeats 4000000 in
set_option maxRecDepth 100000 in
theorem kX3_meetingOf_25 {p : Program} {l : Launch} {e : Env} {s : State} {m : MethodId} {args : Array Value} {below : List Frame} {meth : Method} {c : Code} {D : va_G} {cI cC : ClassId} {q : Nat → Nat} {n : Int32} {d : Nat → Int32} {lb : Nat → Int32} {xd : Nat → Int32} {xl : Nat → Int32} {r : Int32} (X : CX p s m args meth c wsX3_meetingOf cX3_meetingOf 7 (some .int) RX3) (hKK : KK D cI cC s) (hP : va_P D vwCl (wT cI q n d lb xd xl) s.heap) : ∀ (f : Nat), ∀ (x1 : Int32) (x2 : Int32) (x3 : Int32) (x4 : Int32) (x5 : Int32) (x6 : Int32) (ls : Array Slot), lv_has ls 7 [(0, .ref (q 8)), (1, .int x1), (2, .int x2), (3, .int x3), (4, .int x4), (5, .int x5), (6, .int x6)] → mX3_meetingOf_25 f n d x1 x2 x3 x4 x5 x6 = some r → W p l e rmX3_meetingOf s m args below meth c s.heap [] 0 0 (MQ below (rdQ r) args s 0 0 (fun _ => False)) (F0 m 25 ls []) := by
  have hx := X.1
  have hb := X.2.1
  intro f
  induction f with
  | zero =>
    intro x1 x2 x3 x4 x5 x6 ls hl h
    exact absurd h (by unfold mX3_meetingOf_25; intro h; cases h)
  | succ f ih =>
    intro x1 x2 x3 x4 x5 x6 ls hl h
    rw [mX3_meetingOf_25] at h
    refine lv_iload hx hb dX3_meetingOf_25 (lv_at hl 6 rfl) ?_
    refine lv_iload hx hb dX3_meetingOf_27 (lv_at hl 4 rfl) ?_
    refine lv_icmp_gt (tgt := 53) hx hb dX3_meetingOf_29 (by decide) (fun c1 => ?_) (fun c1 => ?_)
    · replace h := ifp c1 h
      refine lv_aload_n hx hb dX3_meetingOf_53 rfl (lv_at hl 0 rfl) ?_
      refine lv_iload_n hx hb dX3_meetingOf_54 rfl (lv_at hl 3 rfl) ?_
      refine lv_iload hx hb dX3_meetingOf_55 (lv_at hl 5 rfl) ?_
      obtain ⟨r2, h_r2, h⟩ := obd h
      refine rcV (rest := []) X hKK hP 2 (zX3_climb l D cI cC q n d lb xd xl x3 x5 r2 h_r2) gX3_meetingOf_X3_climb rfl rfl rfl hdX3_climb ⟨Nat.le_of_ble_eq_true rfl, Nat.le_of_ble_eq_true rfl⟩ [0, 1, 2, 3, 4] rfl 0 rfl rfl rfl hl.1 rfl (Nat.le_of_ble_eq_true rfl) dX3_meetingOf_57 ⟨Nat.zero_le _, Nat.zero_le _⟩ ?_
      exact rd_ret X rfl (Option.some.inj h) dX3_meetingOf_60
    · replace h := ifn c1 h
      refine lv_iload hx hb dX3_meetingOf_32 (lv_at hl 5 rfl) ?_
      refine lv_aload_n hx hb dX3_meetingOf_34 rfl (lv_at hl 0 rfl) ?_
      refine lv_iload hx hb dX3_meetingOf_35 (lv_at hl 6 rfl) ?_
      refine rcV (rest := [.int x5]) X hKK hP 1 (zX3_depthOf l D cI cC q n d lb xd xl x6 _ rfl) gX3_meetingOf_X3_depthOf rfl rfl rfl hdX3_depthOf ⟨Nat.le_of_ble_eq_true rfl, Nat.le_of_ble_eq_true rfl⟩ [0, 1, 2, 3, 4] rfl 0 rfl rfl rfl hl.1 rfl (Nat.le_of_ble_eq_true rfl) dX3_meetingOf_37 ⟨Nat.zero_le _, Nat.zero_le _⟩ ?_
      refine lv_iconst (v := iI 1) hx hb dX3_meetingOf_40 rfl ?_
      refine lv_isub hx hb dX3_meetingOf_41 ?_
      refine va_mmin hx hb (by rw [X.2.2.1]; exact hl.1.symm) X.2.2.2.1 (X.2.2.2.2.1 _ mlX3_meetingOf_57) (X.2.2.2.2.1 _ msX3_meetingOf_57) (X.2.2.2.2.1 _ miX3_meetingOf_57) (X.2.2.2.2.1 _ mcX3_meetingOf_57) (Nat.le_of_ble_eq_true rfl) (Nat.le_of_ble_eq_true rfl) (Nat.zero_le _) (Nat.zero_le _) dX3_meetingOf_42 ?_
      refine lv_istore (lv' := [(5, .int (iMin x5 ((mX3_depthOf n d x6) - (iI 1)))), (0, .ref (q 8)), (1, .int x1), (2, .int x2), (3, .int x3), (4, .int x4), (6, .int x6)]) hx hb dX3_meetingOf_45 hl (by decide) rfl (fun ls hl => ?_)
      refine lv_iinc (v := (x6 + iI 1)) (lv' := [(6, .int (x6 + iI 1)), (5, .int (iMin x5 ((mX3_depthOf n d x6) - (iI 1)))), (0, .ref (q 8)), (1, .int x1), (2, .int x2), (3, .int x3), (4, .int x4)]) hx hb dX3_meetingOf_47 hl (k := 6) rfl rfl (by decide) rfl (fun ls hl => ?_)
      refine lv_goto (tgt := 25) hx hb dX3_meetingOf_50 (by decide) ?_
      exact ih x1 x2 x3 x4 (iMin x5 ((mX3_depthOf n d x6) - (iI 1))) (x6 + iI 1) ls (lv_sub hl [2, 3, 4, 5, 6, 1, 0] rfl) h
set_option maxHeartbeats 4000000 in
set_option maxRecDepth 100000 in
theorem zX3_meetingOf (l : Launch) (D : va_G) (cI cC : ClassId) (q : Nat → Nat) (n : Int32) (d : Nat → Int32) (lb : Nat → Int32) (xd : Nat → Int32) (xl : Nat → Int32) (x1 : Int32) (x2 : Int32) (r : Int32) (h : mX3_meetingOf n d x1 x2 = some r) : Met l yX3_meetingOf wsX3_meetingOf rmX3_meetingOf (va_Pc [.ref (q 8), .int x1, .int x2] (BW D cI cC (wT cI q n d lb xd xl))) (rdQ r) 0 0 (fun _ => False) := by
  refine MetI RX3 (by decide +kernel) rfl rfl (Nat.le_of_ble_eq_true rfl) ?_
  intro p e s m below meth c ls X _ hB hl
  obtain ⟨hP, hKK⟩ := hB
  have hx := X.1
  have hb := X.2.1
  replace hl : lv_has ls 7 [(0, .ref (q 8)), (1, .int x1), (2, .int x2)] := hl
  unfold mX3_meetingOf at h
  refine lv_iload_n hx hb dX3_meetingOf_0 rfl (lv_at hl 1 rfl) ?_
  refine lv_iload_n hx hb dX3_meetingOf_1 rfl (lv_at hl 2 rfl) ?_
  refine va_mmin hx hb (by rw [X.2.2.1]; exact hl.1.symm) X.2.2.2.1 (X.2.2.2.2.1 _ mlX3_meetingOf_57) (X.2.2.2.2.1 _ msX3_meetingOf_57) (X.2.2.2.2.1 _ miX3_meetingOf_57) (X.2.2.2.2.1 _ mcX3_meetingOf_57) (Nat.le_of_ble_eq_true rfl) (Nat.le_of_ble_eq_true rfl) (Nat.zero_le _) (Nat.zero_le _) dX3_meetingOf_2 ?_
  refine lv_istore_n (lv' := [(3, .int (iMin x1 x2)), (0, .ref (q 8)), (1, .int x1), (2, .int x2)]) hx hb dX3_meetingOf_5 rfl hl (by decide) rfl (fun ls hl => ?_)
  refine lv_iload_n hx hb dX3_meetingOf_6 rfl (lv_at hl 2 rfl) ?_
  refine lv_iload_n hx hb dX3_meetingOf_7 rfl (lv_at hl 3 rfl) ?_
  refine va_mmax hx hb (by rw [X.2.2.1]; exact hl.1.symm) X.2.2.2.1 (X.2.2.2.2.1 _ mlX3_meetingOf_62) (X.2.2.2.2.1 _ msX3_meetingOf_62) (X.2.2.2.2.1 _ miX3_meetingOf_62) (X.2.2.2.2.1 _ mcX3_meetingOf_62) (Nat.le_of_ble_eq_true rfl) (Nat.le_of_ble_eq_true rfl) (Nat.zero_le _) (Nat.zero_le _) dX3_meetingOf_8 ?_
  refine lv_istore (lv' := [(4, .int (iMax x1 x2)), (3, .int (iMin x1 x2)), (0, .ref (q 8)), (1, .int x1), (2, .int x2)]) hx hb dX3_meetingOf_11 hl (by decide) rfl (fun ls hl => ?_)
  refine lv_aload_n hx hb dX3_meetingOf_13 rfl (lv_at hl 2 rfl) ?_
  refine lv_iload_n hx hb dX3_meetingOf_14 rfl (lv_at hl 1 rfl) ?_
  refine rcV (rest := []) X hKK hP 1 (zX3_depthOf l D cI cC q n d lb xd xl (iMin x1 x2) _ rfl) gX3_meetingOf_X3_depthOf rfl rfl rfl hdX3_depthOf ⟨Nat.le_of_ble_eq_true rfl, Nat.le_of_ble_eq_true rfl⟩ [0, 1, 2, 3, 4] rfl 0 rfl rfl rfl hl.1 rfl (Nat.le_of_ble_eq_true rfl) dX3_meetingOf_15 ⟨Nat.zero_le _, Nat.zero_le _⟩ ?_
  refine lv_istore (lv' := [(5, .int (mX3_depthOf n d (iMin x1 x2))), (4, .int (iMax x1 x2)), (3, .int (iMin x1 x2)), (0, .ref (q 8)), (1, .int x1), (2, .int x2)]) hx hb dX3_meetingOf_18 hl (by decide) rfl (fun ls hl => ?_)
  refine lv_iload_n hx hb dX3_meetingOf_20 rfl (lv_at hl 2 rfl) ?_
  refine lv_iconst (v := iI 1) hx hb dX3_meetingOf_21 rfl ?_
  refine lv_iadd hx hb dX3_meetingOf_22 ?_
  refine lv_istore (lv' := [(6, .int ((iMin x1 x2) + (iI 1))), (5, .int (mX3_depthOf n d (iMin x1 x2))), (4, .int (iMax x1 x2)), (3, .int (iMin x1 x2)), (0, .ref (q 8)), (1, .int x1), (2, .int x2)]) hx hb dX3_meetingOf_23 hl (by decide) rfl (fun ls hl => ?_)
  exact kX3_meetingOf_25 X hKK hP FU x1 x2 (iMin x1 x2) (iMax x1 x2) (mX3_depthOf n d (iMin x1 x2)) ((iMin x1 x2) + (iI 1)) ls (lv_sub hl [4, 5, 6, 3, 2, 1, 0] rfl) h
def mX3_nextSibling (n : Int32) (d : Nat → Int32) (x1 : Int32) : Option (Int32) := ((mX3_endOf n d x1).bind fun r1 => (if (mX3_has n r1) = 0 then some (iI (-5)) else (if (mX3_depthOf n d r1) = (mX3_depthOf n d x1) then some r1 else some (iI (-5)))))
theorem hdX3_nextSibling : yX3_nextSibling.cls = RX3 ∧ yX3_nextSibling.cls ≠ "java/lang/invoke/MethodHandle" ∧ yX3_nextSibling.cls ≠ "java/lang/invoke/VarHandle" ∧ (parseMethodDescriptor yX3_nextSibling.desc).map (fun d => d.parameters.length) = some 1 := by decide +kernel
abbrev rmX3_nextSibling : Room := { frames := 3, cells := 0, slots := 0, locals := 65 }
set_option maxHeartbeats 4000000 in
set_option maxRecDepth 100000 in
theorem zX3_nextSibling (l : Launch) (D : va_G) (cI cC : ClassId) (q : Nat → Nat) (n : Int32) (d : Nat → Int32) (lb : Nat → Int32) (xd : Nat → Int32) (xl : Nat → Int32) (x1 : Int32) (r : Int32) (h : mX3_nextSibling n d x1 = some r) : Met l yX3_nextSibling wsX3_nextSibling rmX3_nextSibling (va_Pc [.ref (q 8), .int x1] (BW D cI cC (wT cI q n d lb xd xl))) (rdQ r) 0 0 (fun _ => False) := by
  refine MetI RX3 (by decide +kernel) rfl rfl (Nat.le_of_ble_eq_true rfl) ?_
  intro p e s m below meth c ls X _ hB hl
  obtain ⟨hP, hKK⟩ := hB
  have hx := X.1
  have hb := X.2.1
  replace hl : lv_has ls 3 [(0, .ref (q 8)), (1, .int x1)] := hl
  unfold mX3_nextSibling at h
  refine lv_aload_n hx hb dX3_nextSibling_0 rfl (lv_at hl 0 rfl) ?_
  refine lv_iload_n hx hb dX3_nextSibling_1 rfl (lv_at hl 1 rfl) ?_
  obtain ⟨r1, h_r1, h⟩ := obd h
  refine rcV (rest := []) X hKK hP 1 (zX3_endOf l D cI cC q n d lb xd xl x1 r1 h_r1) gX3_nextSibling_X3_endOf rfl rfl rfl hdX3_endOf ⟨Nat.le_of_ble_eq_true rfl, Nat.le_of_ble_eq_true rfl⟩ [0, 1, 2, 3, 4] rfl 0 rfl rfl rfl hl.1 rfl (Nat.le_of_ble_eq_true rfl) dX3_nextSibling_2 ⟨Nat.zero_le _, Nat.zero_le _⟩ ?_
  refine lv_istore_n (lv' := [(2, .int r1), (0, .ref (q 8)), (1, .int x1)]) hx hb dX3_nextSibling_5 rfl hl (by decide) rfl (fun ls hl => ?_)
  refine lv_aload_n hx hb dX3_nextSibling_6 rfl (lv_at hl 1 rfl) ?_
  refine lv_iload_n hx hb dX3_nextSibling_7 rfl (lv_at hl 0 rfl) ?_
  refine rcV (rest := []) X hKK hP 1 (zX3_has l D cI cC q n d lb xd xl r1 _ rfl) gX3_nextSibling_X3_has rfl rfl rfl hdX3_has ⟨Nat.le_of_ble_eq_true rfl, Nat.le_of_ble_eq_true rfl⟩ [0, 1, 2, 3, 4] rfl 0 rfl rfl rfl hl.1 rfl (Nat.le_of_ble_eq_true rfl) dX3_nextSibling_8 ⟨Nat.zero_le _, Nat.zero_le _⟩ ?_
  refine lv_if_eq (tgt := 31) hx hb dX3_nextSibling_11 (by decide) (fun c2 => ?_) (fun c2 => ?_)
  · replace h := ifp c2 h
    refine lv_bipush (v := iI (-5)) hx hb dX3_nextSibling_31 (by decide) ?_
    exact rd_ret X rfl (Option.some.inj h) dX3_nextSibling_33
  · replace h := ifn c2 h
    refine lv_aload_n hx hb dX3_nextSibling_14 rfl (lv_at hl 1 rfl) ?_
    refine lv_iload_n hx hb dX3_nextSibling_15 rfl (lv_at hl 0 rfl) ?_
    refine rcV (rest := []) X hKK hP 1 (zX3_depthOf l D cI cC q n d lb xd xl r1 _ rfl) gX3_nextSibling_X3_depthOf rfl rfl rfl hdX3_depthOf ⟨Nat.le_of_ble_eq_true rfl, Nat.le_of_ble_eq_true rfl⟩ [0, 1, 2, 3, 4] rfl 0 rfl rfl rfl hl.1 rfl (Nat.le_of_ble_eq_true rfl) dX3_nextSibling_16 ⟨Nat.zero_le _, Nat.zero_le _⟩ ?_
    refine lv_aload_n hx hb dX3_nextSibling_19 rfl (lv_at hl 1 rfl) ?_
    refine lv_iload_n hx hb dX3_nextSibling_20 rfl (lv_at hl 2 rfl) ?_
    refine rcV (rest := [.int (mX3_depthOf n d r1)]) X hKK hP 1 (zX3_depthOf l D cI cC q n d lb xd xl x1 _ rfl) gX3_nextSibling_X3_depthOf rfl rfl rfl hdX3_depthOf ⟨Nat.le_of_ble_eq_true rfl, Nat.le_of_ble_eq_true rfl⟩ [0, 1, 2, 3, 4] rfl 0 rfl rfl rfl hl.1 rfl (Nat.le_of_ble_eq_true rfl) dX3_nextSibling_21 ⟨Nat.zero_le _, Nat.zero_le _⟩ ?_
    refine lv_icmp_ne (tgt := 31) hx hb dX3_nextSibling_24 (by decide) (fun c3 => ?_) (fun c3 => ?_)
    · replace h := ifn c3 h
      refine lv_bipush (v := iI (-5)) hx hb dX3_nextSibling_31 (by decide) ?_
      exact rd_ret X rfl (Option.some.inj h) dX3_nextSibling_33
    · replace h := ifp c3 h
      refine lv_iload_n hx hb dX3_nextSibling_27 rfl (lv_at hl 0 rfl) ?_
      refine lv_goto (tgt := 33) hx hb dX3_nextSibling_28 (by decide) ?_
      exact rd_ret X rfl (Option.some.inj h) dX3_nextSibling_33
def mX3_previousAtDepth (n : Int32) (d : Nat → Int32) (x1 : Int32) : Option (Int32) := ((mX3_climb n d (x1 - (iI 1)) (mX3_depthOf n d x1)).bind fun r1 => some r1)
theorem hdX3_previousAtDepth : yX3_previousAtDepth.cls = RX3 ∧ yX3_previousAtDepth.cls ≠ "java/lang/invoke/MethodHandle" ∧ yX3_previousAtDepth.cls ≠ "java/lang/invoke/VarHandle" ∧ (parseMethodDescriptor yX3_previousAtDepth.desc).map (fun d => d.parameters.length) = some 1 := by decide +kernel
abbrev rmX3_previousAtDepth : Room := { frames := 3, cells := 0, slots := 0, locals := 65 }
set_option maxHeartbeats 4000000 in
set_option maxRecDepth 100000 in
theorem zX3_previousAtDepth (l : Launch) (D : va_G) (cI cC : ClassId) (q : Nat → Nat) (n : Int32) (d : Nat → Int32) (lb : Nat → Int32) (xd : Nat → Int32) (xl : Nat → Int32) (x1 : Int32) (r : Int32) (h : mX3_previousAtDepth n d x1 = some r) : Met l yX3_previousAtDepth wsX3_previousAtDepth rmX3_previousAtDepth (va_Pc [.ref (q 8), .int x1] (BW D cI cC (wT cI q n d lb xd xl))) (rdQ r) 0 0 (fun _ => False) := by
  refine MetI RX3 (by decide +kernel) rfl rfl (Nat.le_of_ble_eq_true rfl) ?_
  intro p e s m below meth c ls X _ hB hl
  obtain ⟨hP, hKK⟩ := hB
  have hx := X.1
  have hb := X.2.1
  replace hl : lv_has ls 2 [(0, .ref (q 8)), (1, .int x1)] := hl
  unfold mX3_previousAtDepth at h
  refine lv_aload_n hx hb dX3_previousAtDepth_0 rfl (lv_at hl 0 rfl) ?_
  refine lv_iload_n hx hb dX3_previousAtDepth_1 rfl (lv_at hl 1 rfl) ?_
  refine lv_iconst (v := iI 1) hx hb dX3_previousAtDepth_2 rfl ?_
  refine lv_isub hx hb dX3_previousAtDepth_3 ?_
  refine lv_aload_n hx hb dX3_previousAtDepth_4 rfl (lv_at hl 0 rfl) ?_
  refine lv_iload_n hx hb dX3_previousAtDepth_5 rfl (lv_at hl 1 rfl) ?_
  refine rcV (rest := [.int (x1 - (iI 1)), .ref (q 8)]) X hKK hP 1 (zX3_depthOf l D cI cC q n d lb xd xl x1 _ rfl) gX3_previousAtDepth_X3_depthOf rfl rfl rfl hdX3_depthOf ⟨Nat.le_of_ble_eq_true rfl, Nat.le_of_ble_eq_true rfl⟩ [0, 1, 2, 3, 4] rfl 0 rfl rfl rfl hl.1 rfl (Nat.le_of_ble_eq_true rfl) dX3_previousAtDepth_6 ⟨Nat.zero_le _, Nat.zero_le _⟩ ?_
  obtain ⟨r1, h_r1, h⟩ := obd h
  refine rcV (rest := []) X hKK hP 2 (zX3_climb l D cI cC q n d lb xd xl (x1 - (iI 1)) (mX3_depthOf n d x1) r1 h_r1) gX3_previousAtDepth_X3_climb rfl rfl rfl hdX3_climb ⟨Nat.le_of_ble_eq_true rfl, Nat.le_of_ble_eq_true rfl⟩ [0, 1, 2, 3, 4] rfl 0 rfl rfl rfl hl.1 rfl (Nat.le_of_ble_eq_true rfl) dX3_previousAtDepth_9 ⟨Nat.zero_le _, Nat.zero_le _⟩ ?_
  exact rd_ret X rfl (Option.some.inj h) dX3_previousAtDepth_12
def mX3_previousSibling (n : Int32) (d : Nat → Int32) (x1 : Int32) : Option (Int32) := ((mX3_placeOf n d x1).bind fun r1 => (if r1 = 0 then some (iI (-5)) else ((mX3_previousAtDepth n d x1).bind fun r3 => some r3)))
theorem hdX3_previousSibling : yX3_previousSibling.cls = RX3 ∧ yX3_previousSibling.cls ≠ "java/lang/invoke/MethodHandle" ∧ yX3_previousSibling.cls ≠ "java/lang/invoke/VarHandle" ∧ (parseMethodDescriptor yX3_previousSibling.desc).map (fun d => d.parameters.length) = some 1 := by decide +kernel
abbrev rmX3_previousSibling : Room := { frames := 4, cells := 0, slots := 0, locals := 86 }
set_option maxHeartbeats 4000000 in
set_option maxRecDepth 100000 in
theorem zX3_previousSibling (l : Launch) (D : va_G) (cI cC : ClassId) (q : Nat → Nat) (n : Int32) (d : Nat → Int32) (lb : Nat → Int32) (xd : Nat → Int32) (xl : Nat → Int32) (x1 : Int32) (r : Int32) (h : mX3_previousSibling n d x1 = some r) : Met l yX3_previousSibling wsX3_previousSibling rmX3_previousSibling (va_Pc [.ref (q 8), .int x1] (BW D cI cC (wT cI q n d lb xd xl))) (rdQ r) 0 0 (fun _ => False) := by
  refine MetI RX3 (by decide +kernel) rfl rfl (Nat.le_of_ble_eq_true rfl) ?_
  intro p e s m below meth c ls X _ hB hl
  obtain ⟨hP, hKK⟩ := hB
  have hx := X.1
  have hb := X.2.1
  replace hl : lv_has ls 2 [(0, .ref (q 8)), (1, .int x1)] := hl
  unfold mX3_previousSibling at h
  refine lv_aload_n hx hb dX3_previousSibling_0 rfl (lv_at hl 0 rfl) ?_
  refine lv_iload_n hx hb dX3_previousSibling_1 rfl (lv_at hl 1 rfl) ?_
  obtain ⟨r1, h_r1, h⟩ := obd h
  refine rcV (rest := []) X hKK hP 1 (zX3_placeOf l D cI cC q n d lb xd xl x1 r1 h_r1) gX3_previousSibling_X3_placeOf rfl rfl rfl hdX3_placeOf ⟨Nat.le_of_ble_eq_true rfl, Nat.le_of_ble_eq_true rfl⟩ [0, 1, 2, 3, 4] rfl 0 rfl rfl rfl hl.1 rfl (Nat.le_of_ble_eq_true rfl) dX3_previousSibling_2 ⟨Nat.zero_le _, Nat.zero_le _⟩ ?_
  refine lv_if_ne (tgt := 13) hx hb dX3_previousSibling_5 (by decide) (fun c2 => ?_) (fun c2 => ?_)
  · replace h := ifn c2 h
    refine lv_aload_n hx hb dX3_previousSibling_13 rfl (lv_at hl 0 rfl) ?_
    refine lv_iload_n hx hb dX3_previousSibling_14 rfl (lv_at hl 1 rfl) ?_
    obtain ⟨r3, h_r3, h⟩ := obd h
    refine rcV (rest := []) X hKK hP 1 (zX3_previousAtDepth l D cI cC q n d lb xd xl x1 r3 h_r3) gX3_previousSibling_X3_previousAtDepth rfl rfl rfl hdX3_previousAtDepth ⟨Nat.le_of_ble_eq_true rfl, Nat.le_of_ble_eq_true rfl⟩ [0, 1, 2, 3, 4] rfl 0 rfl rfl rfl hl.1 rfl (Nat.le_of_ble_eq_true rfl) dX3_previousSibling_15 ⟨Nat.zero_le _, Nat.zero_le _⟩ ?_
    exact rd_ret X rfl (Option.some.inj h) dX3_previousSibling_18
  · replace h := ifp c2 h
    refine lv_bipush (v := iI (-5)) hx hb dX3_previousSibling_8 (by decide) ?_
    refine lv_goto (tgt := 18) hx hb dX3_previousSibling_10 (by decide) ?_
    exact rd_ret X rfl (Option.some.inj h) dX3_previousSibling_18
def mX3_nextAtDepth_4 : Nat → Int32 → (Nat → Int32) → Int32 → Int32 → Option (Int32)
  | 0, _, _, _, _ => none
  | f + 1, n, d, x1, x2 => (if n ≤ x2 then some (iI (-5)) else (if (mX3_depthOf n d x2) = (mX3_depthOf n d x1) then some x2 else mX3_nextAtDepth_4 f n d x1 (x2 + iI 1)))
def mX3_nextAtDepth (n : Int32) (d : Nat → Int32) (x1 : Int32) : Option (Int32) := mX3_nextAtDepth_4 FU n d x1 (x1 + (iI 1))
theorem hdX3_nextAtDepth : yX3_nextAtDepth.cls = RX3 ∧ yX3_nextAtDepth.cls ≠ "java/lang/invoke/MethodHandle" ∧ yX3_nextAtDepth.cls ≠ "java/lang/invoke/VarHandle" ∧ (parseMethodDescriptor yX3_nextAtDepth.desc).map (fun d => d.parameters.length) = some 1 := by decide +kernel
theorem flX3_nextAtDepth_28 : Cond.fieldLink RX3 28 "BracketTree$Tree" "count" "I" ∈ wsX3_nextAtDepth := by decide +kernel
theorem iwX3_nextAtDepth_3 : ∀ w ∈ wsX30, w ∈ wsX3_nextAtDepth := by decide +kernel
abbrev rmX3_nextAtDepth : Room := { frames := 2, cells := 0, slots := 0, locals := 42 }
set_option maxHeartbeats 4000000 in
set_option maxRecDepth 100000 in
theorem kX3_nextAtDepth_4 {p : Program} {l : Launch} {e : Env} {s : State} {m : MethodId} {args : Array Value} {below : List Frame} {meth : Method} {c : Code} {D : va_G} {cI cC : ClassId} {q : Nat → Nat} {n : Int32} {d : Nat → Int32} {lb : Nat → Int32} {xd : Nat → Int32} {xl : Nat → Int32} {r : Int32} (X : CX p s m args meth c wsX3_nextAtDepth cX3_nextAtDepth 3 (some .int) RX3) (hKK : KK D cI cC s) (hP : va_P D vwCl (wT cI q n d lb xd xl) s.heap) : ∀ (f : Nat), ∀ (x1 : Int32) (x2 : Int32) (ls : Array Slot), lv_has ls 3 [(0, .ref (q 8)), (1, .int x1), (2, .int x2)] → mX3_nextAtDepth_4 f n d x1 x2 = some r → W p l e rmX3_nextAtDepth s m args below meth c s.heap [] 0 0 (MQ below (rdQ r) args s 0 0 (fun _ => False)) (F0 m 4 ls []) := by
  have hx := X.1
  have hb := X.2.1
  intro f
  induction f with
  | zero =>
    intro x1 x2 ls hl h
    exact absurd h (by unfold mX3_nextAtDepth_4; intro h; cases h)
  | succ f ih =>
    intro x1 x2 ls hl h
    rw [mX3_nextAtDepth_4] at h
    refine lv_iload_n hx hb dX3_nextAtDepth_4 rfl (lv_at hl 2 rfl) ?_
    refine lv_aload_n hx hb dX3_nextAtDepth_5 rfl (lv_at hl 0 rfl) ?_
    refine va_get (D := D) (ci := 3) (v := .int n) (C := RX3) (T := TX3) (N := 5) hx hb X.2.2.2.2.1 iwX3_nextAtDepth_3 X.2.2.2.1 hKK.1 hP 0 rfl rfl 4 (by decide) (X.2.2.2.2.1 _ flX3_nextAtDepth_28) (fun _ h9 => h9) rfl dX3_nextAtDepth_6 ?_
    refine lv_icmp_ge (tgt := 33) hx hb dX3_nextAtDepth_9 (by decide) (fun c1 => ?_) (fun c1 => ?_)
    · replace h := ifp c1 h
      refine lv_bipush (v := iI (-5)) hx hb dX3_nextAtDepth_33 (by decide) ?_
      exact rd_ret X rfl (Option.some.inj h) dX3_nextAtDepth_35
    · replace h := ifn c1 h
      refine lv_aload_n hx hb dX3_nextAtDepth_12 rfl (lv_at hl 0 rfl) ?_
      refine lv_iload_n hx hb dX3_nextAtDepth_13 rfl (lv_at hl 2 rfl) ?_
      refine rcV (rest := []) X hKK hP 1 (zX3_depthOf l D cI cC q n d lb xd xl x2 _ rfl) gX3_nextAtDepth_X3_depthOf rfl rfl rfl hdX3_depthOf ⟨Nat.le_of_ble_eq_true rfl, Nat.le_of_ble_eq_true rfl⟩ [0, 1, 2, 3, 4] rfl 0 rfl rfl rfl hl.1 rfl (Nat.le_of_ble_eq_true rfl) dX3_nextAtDepth_14 ⟨Nat.zero_le _, Nat.zero_le _⟩ ?_
      refine lv_aload_n hx hb dX3_nextAtDepth_17 rfl (lv_at hl 0 rfl) ?_
      refine lv_iload_n hx hb dX3_nextAtDepth_18 rfl (lv_at hl 1 rfl) ?_
      refine rcV (rest := [.int (mX3_depthOf n d x2)]) X hKK hP 1 (zX3_depthOf l D cI cC q n d lb xd xl x1 _ rfl) gX3_nextAtDepth_X3_depthOf rfl rfl rfl hdX3_depthOf ⟨Nat.le_of_ble_eq_true rfl, Nat.le_of_ble_eq_true rfl⟩ [0, 1, 2, 3, 4] rfl 0 rfl rfl rfl hl.1 rfl (Nat.le_of_ble_eq_true rfl) dX3_nextAtDepth_19 ⟨Nat.zero_le _, Nat.zero_le _⟩ ?_
      refine lv_icmp_ne (tgt := 27) hx hb dX3_nextAtDepth_22 (by decide) (fun c2 => ?_) (fun c2 => ?_)
      · replace h := ifn c2 h
        refine lv_iinc (v := (x2 + iI 1)) (lv' := [(2, .int (x2 + iI 1)), (0, .ref (q 8)), (1, .int x1)]) hx hb dX3_nextAtDepth_27 hl (k := 2) rfl rfl (by decide) rfl (fun ls hl => ?_)
        refine lv_goto (tgt := 4) hx hb dX3_nextAtDepth_30 (by decide) ?_
        exact ih x1 (x2 + iI 1) ls (lv_sub hl [1, 2, 0] rfl) h
      · replace h := ifp c2 h
        refine lv_iload_n hx hb dX3_nextAtDepth_25 rfl (lv_at hl 2 rfl) ?_
        exact rd_ret X rfl (Option.some.inj h) dX3_nextAtDepth_26
set_option maxHeartbeats 4000000 in
set_option maxRecDepth 100000 in
theorem zX3_nextAtDepth (l : Launch) (D : va_G) (cI cC : ClassId) (q : Nat → Nat) (n : Int32) (d : Nat → Int32) (lb : Nat → Int32) (xd : Nat → Int32) (xl : Nat → Int32) (x1 : Int32) (r : Int32) (h : mX3_nextAtDepth n d x1 = some r) : Met l yX3_nextAtDepth wsX3_nextAtDepth rmX3_nextAtDepth (va_Pc [.ref (q 8), .int x1] (BW D cI cC (wT cI q n d lb xd xl))) (rdQ r) 0 0 (fun _ => False) := by
  refine MetI RX3 (by decide +kernel) rfl rfl (Nat.le_of_ble_eq_true rfl) ?_
  intro p e s m below meth c ls X _ hB hl
  obtain ⟨hP, hKK⟩ := hB
  have hx := X.1
  have hb := X.2.1
  replace hl : lv_has ls 3 [(0, .ref (q 8)), (1, .int x1)] := hl
  unfold mX3_nextAtDepth at h
  refine lv_iload_n hx hb dX3_nextAtDepth_0 rfl (lv_at hl 1 rfl) ?_
  refine lv_iconst (v := iI 1) hx hb dX3_nextAtDepth_1 rfl ?_
  refine lv_iadd hx hb dX3_nextAtDepth_2 ?_
  refine lv_istore_n (lv' := [(2, .int (x1 + (iI 1))), (0, .ref (q 8)), (1, .int x1)]) hx hb dX3_nextAtDepth_3 rfl hl (by decide) rfl (fun ls hl => ?_)
  exact kX3_nextAtDepth_4 X hKK hP FU x1 (x1 + (iI 1)) ls (lv_sub hl [1, 2, 0] rfl) h
def mX3_nextLeaf_4 : Nat → Int32 → (Nat → Int32) → Int32 → Int32 → Option (Int32)
  | 0, _, _, _, _ => none
  | f + 1, n, d, x1, x2 => (if n ≤ x2 then some (iI (-5)) else (if (mX3_isLeaf n d x2) = 0 then mX3_nextLeaf_4 f n d x1 (x2 + iI 1) else some x2))
def mX3_nextLeaf (n : Int32) (d : Nat → Int32) (x1 : Int32) : Option (Int32) := mX3_nextLeaf_4 FU n d x1 (x1 + (iI 1))
theorem hdX3_nextLeaf : yX3_nextLeaf.cls = RX3 ∧ yX3_nextLeaf.cls ≠ "java/lang/invoke/MethodHandle" ∧ yX3_nextLeaf.cls ≠ "java/lang/invoke/VarHandle" ∧ (parseMethodDescriptor yX3_nextLeaf.desc).map (fun d => d.parameters.length) = some 1 := by decide +kernel
theorem flX3_nextLeaf_28 : Cond.fieldLink RX3 28 "BracketTree$Tree" "count" "I" ∈ wsX3_nextLeaf := by decide +kernel
theorem iwX3_nextLeaf_3 : ∀ w ∈ wsX30, w ∈ wsX3_nextLeaf := by decide +kernel
abbrev rmX3_nextLeaf : Room := { frames := 3, cells := 0, slots := 0, locals := 63 }
set_option maxHeartbeats 4000000 in
set_option maxRecDepth 100000 in
theorem kX3_nextLeaf_4 {p : Program} {l : Launch} {e : Env} {s : State} {m : MethodId} {args : Array Value} {below : List Frame} {meth : Method} {c : Code} {D : va_G} {cI cC : ClassId} {q : Nat → Nat} {n : Int32} {d : Nat → Int32} {lb : Nat → Int32} {xd : Nat → Int32} {xl : Nat → Int32} {r : Int32} (X : CX p s m args meth c wsX3_nextLeaf cX3_nextLeaf 3 (some .int) RX3) (hKK : KK D cI cC s) (hP : va_P D vwCl (wT cI q n d lb xd xl) s.heap) : ∀ (f : Nat), ∀ (x1 : Int32) (x2 : Int32) (ls : Array Slot), lv_has ls 3 [(0, .ref (q 8)), (1, .int x1), (2, .int x2)] → mX3_nextLeaf_4 f n d x1 x2 = some r → W p l e rmX3_nextLeaf s m args below meth c s.heap [] 0 0 (MQ below (rdQ r) args s 0 0 (fun _ => False)) (F0 m 4 ls []) := by
  have hx := X.1
  have hb := X.2.1
  intro f
  induction f with
  | zero =>
    intro x1 x2 ls hl h
    exact absurd h (by unfold mX3_nextLeaf_4; intro h; cases h)
  | succ f ih =>
    intro x1 x2 ls hl h
    rw [mX3_nextLeaf_4] at h
    refine lv_iload_n hx hb dX3_nextLeaf_4 rfl (lv_at hl 2 rfl) ?_
    refine lv_aload_n hx hb dX3_nextLeaf_5 rfl (lv_at hl 0 rfl) ?_
    refine va_get (D := D) (ci := 3) (v := .int n) (C := RX3) (T := TX3) (N := 5) hx hb X.2.2.2.2.1 iwX3_nextLeaf_3 X.2.2.2.1 hKK.1 hP 0 rfl rfl 4 (by decide) (X.2.2.2.2.1 _ flX3_nextLeaf_28) (fun _ h9 => h9) rfl dX3_nextLeaf_6 ?_
    refine lv_icmp_ge (tgt := 28) hx hb dX3_nextLeaf_9 (by decide) (fun c1 => ?_) (fun c1 => ?_)
    · replace h := ifp c1 h
      refine lv_bipush (v := iI (-5)) hx hb dX3_nextLeaf_28 (by decide) ?_
      exact rd_ret X rfl (Option.some.inj h) dX3_nextLeaf_30
    · replace h := ifn c1 h
      refine lv_aload_n hx hb dX3_nextLeaf_12 rfl (lv_at hl 0 rfl) ?_
      refine lv_iload_n hx hb dX3_nextLeaf_13 rfl (lv_at hl 2 rfl) ?_
      refine rcV (rest := []) X hKK hP 1 (zX3_isLeaf l D cI cC q n d lb xd xl x2 _ rfl) gX3_nextLeaf_X3_isLeaf rfl rfl rfl hdX3_isLeaf ⟨Nat.le_of_ble_eq_true rfl, Nat.le_of_ble_eq_true rfl⟩ [0, 1, 2, 3, 4] rfl 0 rfl rfl rfl hl.1 rfl (Nat.le_of_ble_eq_true rfl) dX3_nextLeaf_14 ⟨Nat.zero_le _, Nat.zero_le _⟩ ?_
      refine lv_if_eq (tgt := 22) hx hb dX3_nextLeaf_17 (by decide) (fun c2 => ?_) (fun c2 => ?_)
      · replace h := ifp c2 h
        refine lv_iinc (v := (x2 + iI 1)) (lv' := [(2, .int (x2 + iI 1)), (0, .ref (q 8)), (1, .int x1)]) hx hb dX3_nextLeaf_22 hl (k := 2) rfl rfl (by decide) rfl (fun ls hl => ?_)
        refine lv_goto (tgt := 4) hx hb dX3_nextLeaf_25 (by decide) ?_
        exact ih x1 (x2 + iI 1) ls (lv_sub hl [1, 2, 0] rfl) h
      · replace h := ifn c2 h
        refine lv_iload_n hx hb dX3_nextLeaf_20 rfl (lv_at hl 2 rfl) ?_
        exact rd_ret X rfl (Option.some.inj h) dX3_nextLeaf_21
set_option maxHeartbeats 4000000 in
set_option maxRecDepth 100000 in
theorem zX3_nextLeaf (l : Launch) (D : va_G) (cI cC : ClassId) (q : Nat → Nat) (n : Int32) (d : Nat → Int32) (lb : Nat → Int32) (xd : Nat → Int32) (xl : Nat → Int32) (x1 : Int32) (r : Int32) (h : mX3_nextLeaf n d x1 = some r) : Met l yX3_nextLeaf wsX3_nextLeaf rmX3_nextLeaf (va_Pc [.ref (q 8), .int x1] (BW D cI cC (wT cI q n d lb xd xl))) (rdQ r) 0 0 (fun _ => False) := by
  refine MetI RX3 (by decide +kernel) rfl rfl (Nat.le_of_ble_eq_true rfl) ?_
  intro p e s m below meth c ls X _ hB hl
  obtain ⟨hP, hKK⟩ := hB
  have hx := X.1
  have hb := X.2.1
  replace hl : lv_has ls 3 [(0, .ref (q 8)), (1, .int x1)] := hl
  unfold mX3_nextLeaf at h
  refine lv_iload_n hx hb dX3_nextLeaf_0 rfl (lv_at hl 1 rfl) ?_
  refine lv_iconst (v := iI 1) hx hb dX3_nextLeaf_1 rfl ?_
  refine lv_iadd hx hb dX3_nextLeaf_2 ?_
  refine lv_istore_n (lv' := [(2, .int (x1 + (iI 1))), (0, .ref (q 8)), (1, .int x1)]) hx hb dX3_nextLeaf_3 rfl hl (by decide) rfl (fun ls hl => ?_)
  exact kX3_nextLeaf_4 X hKK hP FU x1 (x1 + (iI 1)) ls (lv_sub hl [1, 2, 0] rfl) h
def mX3_largestChild_17 : Nat → Int32 → (Nat → Int32) → Int32 → Int32 → Int32 → Int32 → Int32 → Option (Int32)
  | 0, _, _, _, _, _, _, _ => none
  | f + 1, n, d, x1, x2, x3, x4, x5 => (if x2 ≤ x5 then some x3 else (if (mX3_depthOf n d x5) = ((mX3_depthOf n d x1) + (iI 1)) then ((mX3_sizeOf n d x5).bind fun r4 => (if r4 ≤ x4 then mX3_largestChild_17 f n d x1 x2 x3 x4 (x5 + iI 1) else ((mX3_sizeOf n d x5).bind fun r6 => mX3_largestChild_17 f n d x1 x2 x5 r6 (x5 + iI 1)))) else mX3_largestChild_17 f n d x1 x2 x3 x4 (x5 + iI 1)))
def mX3_largestChild (n : Int32) (d : Nat → Int32) (x1 : Int32) : Option (Int32) := ((mX3_endOf n d x1).bind fun r1 => mX3_largestChild_17 FU n d x1 r1 (iI (-5)) (iI 0) (x1 + (iI 1)))
theorem hdX3_largestChild : yX3_largestChild.cls = RX3 ∧ yX3_largestChild.cls ≠ "java/lang/invoke/MethodHandle" ∧ yX3_largestChild.cls ≠ "java/lang/invoke/VarHandle" ∧ (parseMethodDescriptor yX3_largestChild.desc).map (fun d => d.parameters.length) = some 1 := by decide +kernel
abbrev rmX3_largestChild : Room := { frames := 4, cells := 0, slots := 0, locals := 86 }
set_option maxHeartbeats 4000000 in
set_option maxRecDepth 100000 in
theorem kX3_largestChild_17 {p : Program} {l : Launch} {e : Env} {s : State} {m : MethodId} {args : Array Value} {below : List Frame} {meth : Method} {c : Code} {D : va_G} {cI cC : ClassId} {q : Nat → Nat} {n : Int32} {d : Nat → Int32} {lb : Nat → Int32} {xd : Nat → Int32} {xl : Nat → Int32} {r : Int32} (X : CX p s m args meth c wsX3_largestChild cX3_largestChild 6 (some .int) RX3) (hKK : KK D cI cC s) (hP : va_P D vwCl (wT cI q n d lb xd xl) s.heap) : ∀ (f : Nat), ∀ (x1 : Int32) (x2 : Int32) (x3 : Int32) (x4 : Int32) (x5 : Int32) (ls : Array Slot), lv_has ls 6 [(0, .ref (q 8)), (1, .int x1), (2, .int x2), (3, .int x3), (4, .int x4), (5, .int x5)] → mX3_largestChild_17 f n d x1 x2 x3 x4 x5 = some r → W p l e rmX3_largestChild s m args below meth c s.heap [] 0 0 (MQ below (rdQ r) args s 0 0 (fun _ => False)) (F0 m 17 ls []) := by
  have hx := X.1
  have hb := X.2.1
  intro f
  induction f with
  | zero =>
    intro x1 x2 x3 x4 x5 ls hl h
    exact absurd h (by unfold mX3_largestChild_17; intro h; cases h)
  | succ f ih =>
    intro x1 x2 x3 x4 x5 ls hl h
    rw [mX3_largestChild_17] at h
    refine lv_iload hx hb dX3_largestChild_17 (lv_at hl 5 rfl) ?_
    refine lv_iload_n hx hb dX3_largestChild_19 rfl (lv_at hl 2 rfl) ?_
    refine lv_icmp_ge (tgt := 67) hx hb dX3_largestChild_20 (by decide) (fun c2 => ?_) (fun c2 => ?_)
    · replace h := ifp c2 h
      refine lv_iload_n hx hb dX3_largestChild_67 rfl (lv_at hl 3 rfl) ?_
      exact rd_ret X rfl (Option.some.inj h) dX3_largestChild_68
    · replace h := ifn c2 h
      refine lv_aload_n hx hb dX3_largestChild_23 rfl (lv_at hl 0 rfl) ?_
      refine lv_iload hx hb dX3_largestChild_24 (lv_at hl 5 rfl) ?_
      refine rcV (rest := []) X hKK hP 1 (zX3_depthOf l D cI cC q n d lb xd xl x5 _ rfl) gX3_largestChild_X3_depthOf rfl rfl rfl hdX3_depthOf ⟨Nat.le_of_ble_eq_true rfl, Nat.le_of_ble_eq_true rfl⟩ [0, 1, 2, 3, 4] rfl 0 rfl rfl rfl hl.1 rfl (Nat.le_of_ble_eq_true rfl) dX3_largestChild_26 ⟨Nat.zero_le _, Nat.zero_le _⟩ ?_
      refine lv_aload_n hx hb dX3_largestChild_29 rfl (lv_at hl 0 rfl) ?_
      refine lv_iload_n hx hb dX3_largestChild_30 rfl (lv_at hl 1 rfl) ?_
      refine rcV (rest := [.int (mX3_depthOf n d x5)]) X hKK hP 1 (zX3_depthOf l D cI cC q n d lb xd xl x1 _ rfl) gX3_largestChild_X3_depthOf rfl rfl rfl hdX3_depthOf ⟨Nat.le_of_ble_eq_true rfl, Nat.le_of_ble_eq_true rfl⟩ [0, 1, 2, 3, 4] rfl 0 rfl rfl rfl hl.1 rfl (Nat.le_of_ble_eq_true rfl) dX3_largestChild_31 ⟨Nat.zero_le _, Nat.zero_le _⟩ ?_
      refine lv_iconst (v := iI 1) hx hb dX3_largestChild_34 rfl ?_
      refine lv_iadd hx hb dX3_largestChild_35 ?_
      refine lv_icmp_ne (tgt := 61) hx hb dX3_largestChild_36 (by decide) (fun c3 => ?_) (fun c3 => ?_)
      · replace h := ifn c3 h
        refine lv_iinc (v := (x5 + iI 1)) (lv' := [(5, .int (x5 + iI 1)), (0, .ref (q 8)), (1, .int x1), (2, .int x2), (3, .int x3), (4, .int x4)]) hx hb dX3_largestChild_61 hl (k := 5) rfl rfl (by decide) rfl (fun ls hl => ?_)
        refine lv_goto (tgt := 17) hx hb dX3_largestChild_64 (by decide) ?_
        exact ih x1 x2 x3 x4 (x5 + iI 1) ls (lv_sub hl [1, 2, 3, 4, 5, 0] rfl) h
      · replace h := ifp c3 h
        refine lv_aload_n hx hb dX3_largestChild_39 rfl (lv_at hl 0 rfl) ?_
        refine lv_iload hx hb dX3_largestChild_40 (lv_at hl 5 rfl) ?_
        obtain ⟨r4, h_r4, h⟩ := obd h
        refine rcV (rest := []) X hKK hP 1 (zX3_sizeOf l D cI cC q n d lb xd xl x5 r4 h_r4) gX3_largestChild_X3_sizeOf rfl rfl rfl hdX3_sizeOf ⟨Nat.le_of_ble_eq_true rfl, Nat.le_of_ble_eq_true rfl⟩ [0, 1, 2, 3, 4] rfl 0 rfl rfl rfl hl.1 rfl (Nat.le_of_ble_eq_true rfl) dX3_largestChild_42 ⟨Nat.zero_le _, Nat.zero_le _⟩ ?_
        refine lv_iload hx hb dX3_largestChild_45 (lv_at hl 4 rfl) ?_
        refine lv_icmp_le (tgt := 61) hx hb dX3_largestChild_47 (by decide) (fun c5 => ?_) (fun c5 => ?_)
        · replace h := ifp c5 h
          refine lv_iinc (v := (x5 + iI 1)) (lv' := [(5, .int (x5 + iI 1)), (0, .ref (q 8)), (1, .int x1), (2, .int x2), (3, .int x3), (4, .int x4)]) hx hb dX3_largestChild_61 hl (k := 5) rfl rfl (by decide) rfl (fun ls hl => ?_)
          refine lv_goto (tgt := 17) hx hb dX3_largestChild_64 (by decide) ?_
          exact ih x1 x2 x3 x4 (x5 + iI 1) ls (lv_sub hl [1, 2, 3, 4, 5, 0] rfl) h
        · replace h := ifn c5 h
          refine lv_iload hx hb dX3_largestChild_50 (lv_at hl 5 rfl) ?_
          refine lv_istore_n (lv' := [(3, .int x5), (0, .ref (q 8)), (1, .int x1), (2, .int x2), (4, .int x4), (5, .int x5)]) hx hb dX3_largestChild_52 rfl hl (by decide) rfl (fun ls hl => ?_)
          refine lv_aload_n hx hb dX3_largestChild_53 rfl (lv_at hl 1 rfl) ?_
          refine lv_iload hx hb dX3_largestChild_54 (lv_at hl 5 rfl) ?_
          obtain ⟨r6, h_r6, h⟩ := obd h
          refine rcV (rest := []) X hKK hP 1 (zX3_sizeOf l D cI cC q n d lb xd xl x5 r6 h_r6) gX3_largestChild_X3_sizeOf rfl rfl rfl hdX3_sizeOf ⟨Nat.le_of_ble_eq_true rfl, Nat.le_of_ble_eq_true rfl⟩ [0, 1, 2, 3, 4] rfl 0 rfl rfl rfl hl.1 rfl (Nat.le_of_ble_eq_true rfl) dX3_largestChild_56 ⟨Nat.zero_le _, Nat.zero_le _⟩ ?_
          refine lv_istore (lv' := [(4, .int r6), (3, .int x5), (0, .ref (q 8)), (1, .int x1), (2, .int x2), (5, .int x5)]) hx hb dX3_largestChild_59 hl (by decide) rfl (fun ls hl => ?_)
          refine lv_iinc (v := (x5 + iI 1)) (lv' := [(5, .int (x5 + iI 1)), (4, .int r6), (3, .int x5), (0, .ref (q 8)), (1, .int x1), (2, .int x2)]) hx hb dX3_largestChild_61 hl (k := 5) rfl rfl (by decide) rfl (fun ls hl => ?_)
          refine lv_goto (tgt := 17) hx hb dX3_largestChild_64 (by decide) ?_
          exact ih x1 x2 x5 r6 (x5 + iI 1) ls (lv_sub hl [3, 4, 5, 2, 1, 0] rfl) h
set_option maxHeartbeats 4000000 in
set_option maxRecDepth 100000 in
theorem zX3_largestChild (l : Launch) (D : va_G) (cI cC : ClassId) (q : Nat → Nat) (n : Int32) (d : Nat → Int32) (lb : Nat → Int32) (xd : Nat → Int32) (xl : Nat → Int32) (x1 : Int32) (r : Int32) (h : mX3_largestChild n d x1 = some r) : Met l yX3_largestChild wsX3_largestChild rmX3_largestChild (va_Pc [.ref (q 8), .int x1] (BW D cI cC (wT cI q n d lb xd xl))) (rdQ r) 0 0 (fun _ => False) := by
  refine MetI RX3 (by decide +kernel) rfl rfl (Nat.le_of_ble_eq_true rfl) ?_
  intro p e s m below meth c ls X _ hB hl
  obtain ⟨hP, hKK⟩ := hB
  have hx := X.1
  have hb := X.2.1
  replace hl : lv_has ls 6 [(0, .ref (q 8)), (1, .int x1)] := hl
  unfold mX3_largestChild at h
  refine lv_aload_n hx hb dX3_largestChild_0 rfl (lv_at hl 0 rfl) ?_
  refine lv_iload_n hx hb dX3_largestChild_1 rfl (lv_at hl 1 rfl) ?_
  obtain ⟨r1, h_r1, h⟩ := obd h
  refine rcV (rest := []) X hKK hP 1 (zX3_endOf l D cI cC q n d lb xd xl x1 r1 h_r1) gX3_largestChild_X3_endOf rfl rfl rfl hdX3_endOf ⟨Nat.le_of_ble_eq_true rfl, Nat.le_of_ble_eq_true rfl⟩ [0, 1, 2, 3, 4] rfl 0 rfl rfl rfl hl.1 rfl (Nat.le_of_ble_eq_true rfl) dX3_largestChild_2 ⟨Nat.zero_le _, Nat.zero_le _⟩ ?_
  refine lv_istore_n (lv' := [(2, .int r1), (0, .ref (q 8)), (1, .int x1)]) hx hb dX3_largestChild_5 rfl hl (by decide) rfl (fun ls hl => ?_)
  refine lv_bipush (v := iI (-5)) hx hb dX3_largestChild_6 (by decide) ?_
  refine lv_istore_n (lv' := [(3, .int (iI (-5))), (2, .int r1), (0, .ref (q 8)), (1, .int x1)]) hx hb dX3_largestChild_8 rfl hl (by decide) rfl (fun ls hl => ?_)
  refine lv_iconst (v := iI 0) hx hb dX3_largestChild_9 rfl ?_
  refine lv_istore (lv' := [(4, .int (iI 0)), (3, .int (iI (-5))), (2, .int r1), (0, .ref (q 8)), (1, .int x1)]) hx hb dX3_largestChild_10 hl (by decide) rfl (fun ls hl => ?_)
  refine lv_iload_n hx hb dX3_largestChild_12 rfl (lv_at hl 4 rfl) ?_
  refine lv_iconst (v := iI 1) hx hb dX3_largestChild_13 rfl ?_
  refine lv_iadd hx hb dX3_largestChild_14 ?_
  refine lv_istore (lv' := [(5, .int (x1 + (iI 1))), (4, .int (iI 0)), (3, .int (iI (-5))), (2, .int r1), (0, .ref (q 8)), (1, .int x1)]) hx hb dX3_largestChild_15 hl (by decide) rfl (fun ls hl => ?_)
  exact kX3_largestChild_17 X hKK hP FU x1 r1 (iI (-5)) (iI 0) (x1 + (iI 1)) ls (lv_sub hl [4, 5, 3, 2, 1, 0] rfl) h
def mX3_countAtDepth_4 : Nat → Int32 → (Nat → Int32) → Int32 → Int32 → Int32 → Option (Int32)
  | 0, _, _, _, _, _ => none
  | f + 1, n, d, x1, x2, x3 => (if n ≤ x3 then some x2 else (if (mX3_depthOf n d x3) = x1 then mX3_countAtDepth_4 f n d x1 (x2 + iI 1) (x3 + iI 1) else mX3_countAtDepth_4 f n d x1 x2 (x3 + iI 1)))
def mX3_countAtDepth (n : Int32) (d : Nat → Int32) (x1 : Int32) : Option (Int32) := mX3_countAtDepth_4 FU n d x1 (iI 0) (iI 0)
theorem hdX3_countAtDepth : yX3_countAtDepth.cls = RX3 ∧ yX3_countAtDepth.cls ≠ "java/lang/invoke/MethodHandle" ∧ yX3_countAtDepth.cls ≠ "java/lang/invoke/VarHandle" ∧ (parseMethodDescriptor yX3_countAtDepth.desc).map (fun d => d.parameters.length) = some 1 := by decide +kernel
theorem flX3_countAtDepth_28 : Cond.fieldLink RX3 28 "BracketTree$Tree" "count" "I" ∈ wsX3_countAtDepth := by decide +kernel
theorem iwX3_countAtDepth_3 : ∀ w ∈ wsX30, w ∈ wsX3_countAtDepth := by decide +kernel
abbrev rmX3_countAtDepth : Room := { frames := 2, cells := 0, slots := 0, locals := 42 }
set_option maxHeartbeats 4000000 in
set_option maxRecDepth 100000 in
theorem kX3_countAtDepth_4 {p : Program} {l : Launch} {e : Env} {s : State} {m : MethodId} {args : Array Value} {below : List Frame} {meth : Method} {c : Code} {D : va_G} {cI cC : ClassId} {q : Nat → Nat} {n : Int32} {d : Nat → Int32} {lb : Nat → Int32} {xd : Nat → Int32} {xl : Nat → Int32} {r : Int32} (X : CX p s m args meth c wsX3_countAtDepth cX3_countAtDepth 4 (some .int) RX3) (hKK : KK D cI cC s) (hP : va_P D vwCl (wT cI q n d lb xd xl) s.heap) : ∀ (f : Nat), ∀ (x1 : Int32) (x2 : Int32) (x3 : Int32) (ls : Array Slot), lv_has ls 4 [(0, .ref (q 8)), (1, .int x1), (2, .int x2), (3, .int x3)] → mX3_countAtDepth_4 f n d x1 x2 x3 = some r → W p l e rmX3_countAtDepth s m args below meth c s.heap [] 0 0 (MQ below (rdQ r) args s 0 0 (fun _ => False)) (F0 m 4 ls []) := by
  have hx := X.1
  have hb := X.2.1
  intro f
  induction f with
  | zero =>
    intro x1 x2 x3 ls hl h
    exact absurd h (by unfold mX3_countAtDepth_4; intro h; cases h)
  | succ f ih =>
    intro x1 x2 x3 ls hl h
    rw [mX3_countAtDepth_4] at h
    refine lv_iload_n hx hb dX3_countAtDepth_4 rfl (lv_at hl 3 rfl) ?_
    refine lv_aload_n hx hb dX3_countAtDepth_5 rfl (lv_at hl 0 rfl) ?_
    refine va_get (D := D) (ci := 3) (v := .int n) (C := RX3) (T := TX3) (N := 5) hx hb X.2.2.2.2.1 iwX3_countAtDepth_3 X.2.2.2.1 hKK.1 hP 0 rfl rfl 4 (by decide) (X.2.2.2.2.1 _ flX3_countAtDepth_28) (fun _ h9 => h9) rfl dX3_countAtDepth_6 ?_
    refine lv_icmp_ge (tgt := 30) hx hb dX3_countAtDepth_9 (by decide) (fun c1 => ?_) (fun c1 => ?_)
    · replace h := ifp c1 h
      refine lv_iload_n hx hb dX3_countAtDepth_30 rfl (lv_at hl 2 rfl) ?_
      exact rd_ret X rfl (Option.some.inj h) dX3_countAtDepth_31
    · replace h := ifn c1 h
      refine lv_aload_n hx hb dX3_countAtDepth_12 rfl (lv_at hl 0 rfl) ?_
      refine lv_iload_n hx hb dX3_countAtDepth_13 rfl (lv_at hl 3 rfl) ?_
      refine rcV (rest := []) X hKK hP 1 (zX3_depthOf l D cI cC q n d lb xd xl x3 _ rfl) gX3_countAtDepth_X3_depthOf rfl rfl rfl hdX3_depthOf ⟨Nat.le_of_ble_eq_true rfl, Nat.le_of_ble_eq_true rfl⟩ [0, 1, 2, 3, 4] rfl 0 rfl rfl rfl hl.1 rfl (Nat.le_of_ble_eq_true rfl) dX3_countAtDepth_14 ⟨Nat.zero_le _, Nat.zero_le _⟩ ?_
      refine lv_iload_n hx hb dX3_countAtDepth_17 rfl (lv_at hl 1 rfl) ?_
      refine lv_icmp_ne (tgt := 24) hx hb dX3_countAtDepth_18 (by decide) (fun c2 => ?_) (fun c2 => ?_)
      · replace h := ifn c2 h
        refine lv_iinc (v := (x3 + iI 1)) (lv' := [(3, .int (x3 + iI 1)), (0, .ref (q 8)), (1, .int x1), (2, .int x2)]) hx hb dX3_countAtDepth_24 hl (k := 3) rfl rfl (by decide) rfl (fun ls hl => ?_)
        refine lv_goto (tgt := 4) hx hb dX3_countAtDepth_27 (by decide) ?_
        exact ih x1 x2 (x3 + iI 1) ls (lv_sub hl [1, 2, 3, 0] rfl) h
      · replace h := ifp c2 h
        refine lv_iinc (v := (x2 + iI 1)) (lv' := [(2, .int (x2 + iI 1)), (0, .ref (q 8)), (1, .int x1), (3, .int x3)]) hx hb dX3_countAtDepth_21 hl (k := 2) rfl rfl (by decide) rfl (fun ls hl => ?_)
        refine lv_iinc (v := (x3 + iI 1)) (lv' := [(3, .int (x3 + iI 1)), (2, .int (x2 + iI 1)), (0, .ref (q 8)), (1, .int x1)]) hx hb dX3_countAtDepth_24 hl (k := 3) rfl rfl (by decide) rfl (fun ls hl => ?_)
        refine lv_goto (tgt := 4) hx hb dX3_countAtDepth_27 (by decide) ?_
        exact ih x1 (x2 + iI 1) (x3 + iI 1) ls (lv_sub hl [2, 3, 1, 0] rfl) h
set_option maxHeartbeats 4000000 in
set_option maxRecDepth 100000 in
theorem zX3_countAtDepth (l : Launch) (D : va_G) (cI cC : ClassId) (q : Nat → Nat) (n : Int32) (d : Nat → Int32) (lb : Nat → Int32) (xd : Nat → Int32) (xl : Nat → Int32) (x1 : Int32) (r : Int32) (h : mX3_countAtDepth n d x1 = some r) : Met l yX3_countAtDepth wsX3_countAtDepth rmX3_countAtDepth (va_Pc [.ref (q 8), .int x1] (BW D cI cC (wT cI q n d lb xd xl))) (rdQ r) 0 0 (fun _ => False) := by
  refine MetI RX3 (by decide +kernel) rfl rfl (Nat.le_of_ble_eq_true rfl) ?_
  intro p e s m below meth c ls X _ hB hl
  obtain ⟨hP, hKK⟩ := hB
  have hx := X.1
  have hb := X.2.1
  replace hl : lv_has ls 4 [(0, .ref (q 8)), (1, .int x1)] := hl
  unfold mX3_countAtDepth at h
  refine lv_iconst (v := iI 0) hx hb dX3_countAtDepth_0 rfl ?_
  refine lv_istore_n (lv' := [(2, .int (iI 0)), (0, .ref (q 8)), (1, .int x1)]) hx hb dX3_countAtDepth_1 rfl hl (by decide) rfl (fun ls hl => ?_)
  refine lv_iconst (v := iI 0) hx hb dX3_countAtDepth_2 rfl ?_
  refine lv_istore_n (lv' := [(3, .int (iI 0)), (2, .int (iI 0)), (0, .ref (q 8)), (1, .int x1)]) hx hb dX3_countAtDepth_3 rfl hl (by decide) rfl (fun ls hl => ?_)
  exact kX3_countAtDepth_4 X hKK hP FU x1 (iI 0) (iI 0) ls (lv_sub hl [2, 3, 1, 0] rfl) h
def mX3_findAtDepth_5 : Nat → Int32 → (Nat → Int32) → Int32 → Int32 → Int32 → Int32 → Option (Int32)
  | 0, _, _, _, _, _, _ => none
  | f + 1, n, d, x1, x2, x3, x4 => (if n ≤ x4 then some (iI (-5)) else (if (mX3_depthOf n d x4) = x1 then (if x3 = x2 then some x4 else mX3_findAtDepth_5 f n d x1 x2 (x3 + iI 1) (x4 + iI 1)) else mX3_findAtDepth_5 f n d x1 x2 x3 (x4 + iI 1)))
def mX3_findAtDepth (n : Int32) (d : Nat → Int32) (x1 : Int32) (x2 : Int32) : Option (Int32) := mX3_findAtDepth_5 FU n d x1 x2 (iI 0) (iI 0)
theorem hdX3_findAtDepth : yX3_findAtDepth.cls = RX3 ∧ yX3_findAtDepth.cls ≠ "java/lang/invoke/MethodHandle" ∧ yX3_findAtDepth.cls ≠ "java/lang/invoke/VarHandle" ∧ (parseMethodDescriptor yX3_findAtDepth.desc).map (fun d => d.parameters.length) = some 2 := by decide +kernel
theorem flX3_findAtDepth_28 : Cond.fieldLink RX3 28 "BracketTree$Tree" "count" "I" ∈ wsX3_findAtDepth := by decide +kernel
theorem iwX3_findAtDepth_3 : ∀ w ∈ wsX30, w ∈ wsX3_findAtDepth := by decide +kernel
abbrev rmX3_findAtDepth : Room := { frames := 2, cells := 0, slots := 0, locals := 42 }
set_option maxHeartbeats 4000000 in
set_option maxRecDepth 100000 in
theorem kX3_findAtDepth_5 {p : Program} {l : Launch} {e : Env} {s : State} {m : MethodId} {args : Array Value} {below : List Frame} {meth : Method} {c : Code} {D : va_G} {cI cC : ClassId} {q : Nat → Nat} {n : Int32} {d : Nat → Int32} {lb : Nat → Int32} {xd : Nat → Int32} {xl : Nat → Int32} {r : Int32} (X : CX p s m args meth c wsX3_findAtDepth cX3_findAtDepth 5 (some .int) RX3) (hKK : KK D cI cC s) (hP : va_P D vwCl (wT cI q n d lb xd xl) s.heap) : ∀ (f : Nat), ∀ (x1 : Int32) (x2 : Int32) (x3 : Int32) (x4 : Int32) (ls : Array Slot), lv_has ls 5 [(0, .ref (q 8)), (1, .int x1), (2, .int x2), (3, .int x3), (4, .int x4)] → mX3_findAtDepth_5 f n d x1 x2 x3 x4 = some r → W p l e rmX3_findAtDepth s m args below meth c s.heap [] 0 0 (MQ below (rdQ r) args s 0 0 (fun _ => False)) (F0 m 5 ls []) := by
  have hx := X.1
  have hb := X.2.1
  intro f
  induction f with
  | zero =>
    intro x1 x2 x3 x4 ls hl h
    exact absurd h (by unfold mX3_findAtDepth_5; intro h; cases h)
  | succ f ih =>
    intro x1 x2 x3 x4 ls hl h
    rw [mX3_findAtDepth_5] at h
    refine lv_iload hx hb dX3_findAtDepth_5 (lv_at hl 4 rfl) ?_
    refine lv_aload_n hx hb dX3_findAtDepth_7 rfl (lv_at hl 0 rfl) ?_
    refine va_get (D := D) (ci := 3) (v := .int n) (C := RX3) (T := TX3) (N := 5) hx hb X.2.2.2.2.1 iwX3_findAtDepth_3 X.2.2.2.1 hKK.1 hP 0 rfl rfl 4 (by decide) (X.2.2.2.2.1 _ flX3_findAtDepth_28) (fun _ h9 => h9) rfl dX3_findAtDepth_8 ?_
    refine lv_icmp_ge (tgt := 41) hx hb dX3_findAtDepth_11 (by decide) (fun c1 => ?_) (fun c1 => ?_)
    · replace h := ifp c1 h
      refine lv_bipush (v := iI (-5)) hx hb dX3_findAtDepth_41 (by decide) ?_
      exact rd_ret X rfl (Option.some.inj h) dX3_findAtDepth_43
    · replace h := ifn c1 h
      refine lv_aload_n hx hb dX3_findAtDepth_14 rfl (lv_at hl 0 rfl) ?_
      refine lv_iload hx hb dX3_findAtDepth_15 (lv_at hl 4 rfl) ?_
      refine rcV (rest := []) X hKK hP 1 (zX3_depthOf l D cI cC q n d lb xd xl x4 _ rfl) gX3_findAtDepth_X3_depthOf rfl rfl rfl hdX3_depthOf ⟨Nat.le_of_ble_eq_true rfl, Nat.le_of_ble_eq_true rfl⟩ [0, 1, 2, 3, 4] rfl 0 rfl rfl rfl hl.1 rfl (Nat.le_of_ble_eq_true rfl) dX3_findAtDepth_17 ⟨Nat.zero_le _, Nat.zero_le _⟩ ?_
      refine lv_iload_n hx hb dX3_findAtDepth_20 rfl (lv_at hl 1 rfl) ?_
      refine lv_icmp_ne (tgt := 35) hx hb dX3_findAtDepth_21 (by decide) (fun c2 => ?_) (fun c2 => ?_)
      · replace h := ifn c2 h
        refine lv_iinc (v := (x4 + iI 1)) (lv' := [(4, .int (x4 + iI 1)), (0, .ref (q 8)), (1, .int x1), (2, .int x2), (3, .int x3)]) hx hb dX3_findAtDepth_35 hl (k := 4) rfl rfl (by decide) rfl (fun ls hl => ?_)
        refine lv_goto (tgt := 5) hx hb dX3_findAtDepth_38 (by decide) ?_
        exact ih x1 x2 x3 (x4 + iI 1) ls (lv_sub hl [1, 2, 3, 4, 0] rfl) h
      · replace h := ifp c2 h
        refine lv_iload_n hx hb dX3_findAtDepth_24 rfl (lv_at hl 3 rfl) ?_
        refine lv_iload_n hx hb dX3_findAtDepth_25 rfl (lv_at hl 2 rfl) ?_
        refine lv_icmp_ne (tgt := 32) hx hb dX3_findAtDepth_26 (by decide) (fun c3 => ?_) (fun c3 => ?_)
        · replace h := ifn c3 h
          refine lv_iinc (v := (x3 + iI 1)) (lv' := [(3, .int (x3 + iI 1)), (0, .ref (q 8)), (1, .int x1), (2, .int x2), (4, .int x4)]) hx hb dX3_findAtDepth_32 hl (k := 3) rfl rfl (by decide) rfl (fun ls hl => ?_)
          refine lv_iinc (v := (x4 + iI 1)) (lv' := [(4, .int (x4 + iI 1)), (3, .int (x3 + iI 1)), (0, .ref (q 8)), (1, .int x1), (2, .int x2)]) hx hb dX3_findAtDepth_35 hl (k := 4) rfl rfl (by decide) rfl (fun ls hl => ?_)
          refine lv_goto (tgt := 5) hx hb dX3_findAtDepth_38 (by decide) ?_
          exact ih x1 x2 (x3 + iI 1) (x4 + iI 1) ls (lv_sub hl [2, 3, 4, 1, 0] rfl) h
        · replace h := ifp c3 h
          refine lv_iload hx hb dX3_findAtDepth_29 (lv_at hl 4 rfl) ?_
          exact rd_ret X rfl (Option.some.inj h) dX3_findAtDepth_31
set_option maxHeartbeats 4000000 in
set_option maxRecDepth 100000 in
theorem zX3_findAtDepth (l : Launch) (D : va_G) (cI cC : ClassId) (q : Nat → Nat) (n : Int32) (d : Nat → Int32) (lb : Nat → Int32) (xd : Nat → Int32) (xl : Nat → Int32) (x1 : Int32) (x2 : Int32) (r : Int32) (h : mX3_findAtDepth n d x1 x2 = some r) : Met l yX3_findAtDepth wsX3_findAtDepth rmX3_findAtDepth (va_Pc [.ref (q 8), .int x1, .int x2] (BW D cI cC (wT cI q n d lb xd xl))) (rdQ r) 0 0 (fun _ => False) := by
  refine MetI RX3 (by decide +kernel) rfl rfl (Nat.le_of_ble_eq_true rfl) ?_
  intro p e s m below meth c ls X _ hB hl
  obtain ⟨hP, hKK⟩ := hB
  have hx := X.1
  have hb := X.2.1
  replace hl : lv_has ls 5 [(0, .ref (q 8)), (1, .int x1), (2, .int x2)] := hl
  unfold mX3_findAtDepth at h
  refine lv_iconst (v := iI 0) hx hb dX3_findAtDepth_0 rfl ?_
  refine lv_istore_n (lv' := [(3, .int (iI 0)), (0, .ref (q 8)), (1, .int x1), (2, .int x2)]) hx hb dX3_findAtDepth_1 rfl hl (by decide) rfl (fun ls hl => ?_)
  refine lv_iconst (v := iI 0) hx hb dX3_findAtDepth_2 rfl ?_
  refine lv_istore (lv' := [(4, .int (iI 0)), (3, .int (iI 0)), (0, .ref (q 8)), (1, .int x1), (2, .int x2)]) hx hb dX3_findAtDepth_3 hl (by decide) rfl (fun ls hl => ?_)
  exact kX3_findAtDepth_5 X hKK hP FU x1 x2 (iI 0) (iI 0) ls (lv_sub hl [2, 3, 4, 1, 0] rfl) h
def mX3_closingOf (n : Int32) (d : Nat → Int32) (x1 : Int32) : Option (Int32) := ((mX3_sizeOf n d x1).bind fun r1 => some (((mX3_openingOf n d x1) + ((iI 2) * r1)) - (iI 1)))
theorem hdX3_closingOf : yX3_closingOf.cls = RX3 ∧ yX3_closingOf.cls ≠ "java/lang/invoke/MethodHandle" ∧ yX3_closingOf.cls ≠ "java/lang/invoke/VarHandle" ∧ (parseMethodDescriptor yX3_closingOf.desc).map (fun d => d.parameters.length) = some 1 := by decide +kernel
abbrev rmX3_closingOf : Room := { frames := 4, cells := 0, slots := 0, locals := 86 }
set_option maxHeartbeats 4000000 in
set_option maxRecDepth 100000 in
theorem zX3_closingOf (l : Launch) (D : va_G) (cI cC : ClassId) (q : Nat → Nat) (n : Int32) (d : Nat → Int32) (lb : Nat → Int32) (xd : Nat → Int32) (xl : Nat → Int32) (x1 : Int32) (r : Int32) (h : mX3_closingOf n d x1 = some r) : Met l yX3_closingOf wsX3_closingOf rmX3_closingOf (va_Pc [.ref (q 8), .int x1] (BW D cI cC (wT cI q n d lb xd xl))) (rdQ r) 0 0 (fun _ => False) := by
  refine MetI RX3 (by decide +kernel) rfl rfl (Nat.le_of_ble_eq_true rfl) ?_
  intro p e s m below meth c ls X _ hB hl
  obtain ⟨hP, hKK⟩ := hB
  have hx := X.1
  have hb := X.2.1
  replace hl : lv_has ls 2 [(0, .ref (q 8)), (1, .int x1)] := hl
  unfold mX3_closingOf at h
  refine lv_aload_n hx hb dX3_closingOf_0 rfl (lv_at hl 0 rfl) ?_
  refine lv_iload_n hx hb dX3_closingOf_1 rfl (lv_at hl 1 rfl) ?_
  refine rcV (rest := []) X hKK hP 1 (zX3_openingOf l D cI cC q n d lb xd xl x1 _ rfl) gX3_closingOf_X3_openingOf rfl rfl rfl hdX3_openingOf ⟨Nat.le_of_ble_eq_true rfl, Nat.le_of_ble_eq_true rfl⟩ [0, 1, 2, 3, 4] rfl 0 rfl rfl rfl hl.1 rfl (Nat.le_of_ble_eq_true rfl) dX3_closingOf_2 ⟨Nat.zero_le _, Nat.zero_le _⟩ ?_
  refine lv_iconst (v := iI 2) hx hb dX3_closingOf_5 rfl ?_
  refine lv_aload_n hx hb dX3_closingOf_6 rfl (lv_at hl 0 rfl) ?_
  refine lv_iload_n hx hb dX3_closingOf_7 rfl (lv_at hl 1 rfl) ?_
  obtain ⟨r1, h_r1, h⟩ := obd h
  refine rcV (rest := [.int (iI 2), .int (mX3_openingOf n d x1)]) X hKK hP 1 (zX3_sizeOf l D cI cC q n d lb xd xl x1 r1 h_r1) gX3_closingOf_X3_sizeOf rfl rfl rfl hdX3_sizeOf ⟨Nat.le_of_ble_eq_true rfl, Nat.le_of_ble_eq_true rfl⟩ [0, 1, 2, 3, 4] rfl 0 rfl rfl rfl hl.1 rfl (Nat.le_of_ble_eq_true rfl) dX3_closingOf_8 ⟨Nat.zero_le _, Nat.zero_le _⟩ ?_
  refine lv_imul hx hb dX3_closingOf_11 ?_
  refine lv_iadd hx hb dX3_closingOf_12 ?_
  refine lv_iconst (v := iI 1) hx hb dX3_closingOf_13 rfl ?_
  refine lv_isub hx hb dX3_closingOf_14 ?_
  exact rd_ret X rfl (Option.some.inj h) dX3_closingOf_15
def mX3_excessBefore (n : Int32) (d : Nat → Int32) (x1 : Int32) : Option (Int32) := ((mX3_openedBefore n d x1).bind fun r1 => some (((iI 2) * r1) - x1))
theorem hdX3_excessBefore : yX3_excessBefore.cls = RX3 ∧ yX3_excessBefore.cls ≠ "java/lang/invoke/MethodHandle" ∧ yX3_excessBefore.cls ≠ "java/lang/invoke/VarHandle" ∧ (parseMethodDescriptor yX3_excessBefore.desc).map (fun d => d.parameters.length) = some 1 := by decide +kernel
abbrev rmX3_excessBefore : Room := { frames := 4, cells := 0, slots := 0, locals := 85 }
set_option maxHeartbeats 4000000 in
set_option maxRecDepth 100000 in
theorem zX3_excessBefore (l : Launch) (D : va_G) (cI cC : ClassId) (q : Nat → Nat) (n : Int32) (d : Nat → Int32) (lb : Nat → Int32) (xd : Nat → Int32) (xl : Nat → Int32) (x1 : Int32) (r : Int32) (h : mX3_excessBefore n d x1 = some r) : Met l yX3_excessBefore wsX3_excessBefore rmX3_excessBefore (va_Pc [.ref (q 8), .int x1] (BW D cI cC (wT cI q n d lb xd xl))) (rdQ r) 0 0 (fun _ => False) := by
  refine MetI RX3 (by decide +kernel) rfl rfl (Nat.le_of_ble_eq_true rfl) ?_
  intro p e s m below meth c ls X _ hB hl
  obtain ⟨hP, hKK⟩ := hB
  have hx := X.1
  have hb := X.2.1
  replace hl : lv_has ls 2 [(0, .ref (q 8)), (1, .int x1)] := hl
  unfold mX3_excessBefore at h
  refine lv_iconst (v := iI 2) hx hb dX3_excessBefore_0 rfl ?_
  refine lv_aload_n hx hb dX3_excessBefore_1 rfl (lv_at hl 0 rfl) ?_
  refine lv_iload_n hx hb dX3_excessBefore_2 rfl (lv_at hl 1 rfl) ?_
  obtain ⟨r1, h_r1, h⟩ := obd h
  refine rcV (rest := [.int (iI 2)]) X hKK hP 1 (zX3_openedBefore l D cI cC q n d lb xd xl x1 r1 h_r1) gX3_excessBefore_X3_openedBefore rfl rfl rfl hdX3_openedBefore ⟨Nat.le_of_ble_eq_true rfl, Nat.le_of_ble_eq_true rfl⟩ [0, 1, 2, 3, 4] rfl 0 rfl rfl rfl hl.1 rfl (Nat.le_of_ble_eq_true rfl) dX3_excessBefore_3 ⟨Nat.zero_le _, Nat.zero_le _⟩ ?_
  refine lv_imul hx hb dX3_excessBefore_6 ?_
  refine lv_iload_n hx hb dX3_excessBefore_7 rfl (lv_at hl 1 rfl) ?_
  refine lv_isub hx hb dX3_excessBefore_8 ?_
  exact rd_ret X rfl (Option.some.inj h) dX3_excessBefore_9
def mX3_nodeOfPosition (n : Int32) (d : Nat → Int32) (x1 : Int32) : Option (Int32) := ((mX3_openedBefore n d (x1 + (iI 1))).bind fun r1 => (if (mX3_openingOf n d (r1 - (iI 1))) = x1 then some (r1 - (iI 1)) else ((mX3_excessBefore n d (x1 + (iI 1))).bind fun r3 => ((mX3_climb n d (r1 - (iI 1)) r3).bind fun r4 => some r4))))
theorem hdX3_nodeOfPosition : yX3_nodeOfPosition.cls = RX3 ∧ yX3_nodeOfPosition.cls ≠ "java/lang/invoke/MethodHandle" ∧ yX3_nodeOfPosition.cls ≠ "java/lang/invoke/VarHandle" ∧ (parseMethodDescriptor yX3_nodeOfPosition.desc).map (fun d => d.parameters.length) = some 1 := by decide +kernel
abbrev rmX3_nodeOfPosition : Room := { frames := 5, cells := 0, slots := 0, locals := 106 }
set_option maxHeartbeats 4000000 in
set_option maxRecDepth 100000 in
theorem zX3_nodeOfPosition (l : Launch) (D : va_G) (cI cC : ClassId) (q : Nat → Nat) (n : Int32) (d : Nat → Int32) (lb : Nat → Int32) (xd : Nat → Int32) (xl : Nat → Int32) (x1 : Int32) (r : Int32) (h : mX3_nodeOfPosition n d x1 = some r) : Met l yX3_nodeOfPosition wsX3_nodeOfPosition rmX3_nodeOfPosition (va_Pc [.ref (q 8), .int x1] (BW D cI cC (wT cI q n d lb xd xl))) (rdQ r) 0 0 (fun _ => False) := by
  refine MetI RX3 (by decide +kernel) rfl rfl (Nat.le_of_ble_eq_true rfl) ?_
  intro p e s m below meth c ls X _ hB hl
  obtain ⟨hP, hKK⟩ := hB
  have hx := X.1
  have hb := X.2.1
  replace hl : lv_has ls 3 [(0, .ref (q 8)), (1, .int x1)] := hl
  unfold mX3_nodeOfPosition at h
  refine lv_aload_n hx hb dX3_nodeOfPosition_0 rfl (lv_at hl 0 rfl) ?_
  refine lv_iload_n hx hb dX3_nodeOfPosition_1 rfl (lv_at hl 1 rfl) ?_
  refine lv_iconst (v := iI 1) hx hb dX3_nodeOfPosition_2 rfl ?_
  refine lv_iadd hx hb dX3_nodeOfPosition_3 ?_
  obtain ⟨r1, h_r1, h⟩ := obd h
  refine rcV (rest := []) X hKK hP 1 (zX3_openedBefore l D cI cC q n d lb xd xl (x1 + (iI 1)) r1 h_r1) gX3_nodeOfPosition_X3_openedBefore rfl rfl rfl hdX3_openedBefore ⟨Nat.le_of_ble_eq_true rfl, Nat.le_of_ble_eq_true rfl⟩ [0, 1, 2, 3, 4] rfl 0 rfl rfl rfl hl.1 rfl (Nat.le_of_ble_eq_true rfl) dX3_nodeOfPosition_4 ⟨Nat.zero_le _, Nat.zero_le _⟩ ?_
  refine lv_iconst (v := iI 1) hx hb dX3_nodeOfPosition_7 rfl ?_
  refine lv_isub hx hb dX3_nodeOfPosition_8 ?_
  refine lv_istore_n (lv' := [(2, .int (r1 - (iI 1))), (0, .ref (q 8)), (1, .int x1)]) hx hb dX3_nodeOfPosition_9 rfl hl (by decide) rfl (fun ls hl => ?_)
  refine lv_aload_n hx hb dX3_nodeOfPosition_10 rfl (lv_at hl 1 rfl) ?_
  refine lv_iload_n hx hb dX3_nodeOfPosition_11 rfl (lv_at hl 0 rfl) ?_
  refine rcV (rest := []) X hKK hP 1 (zX3_openingOf l D cI cC q n d lb xd xl (r1 - (iI 1)) _ rfl) gX3_nodeOfPosition_X3_openingOf rfl rfl rfl hdX3_openingOf ⟨Nat.le_of_ble_eq_true rfl, Nat.le_of_ble_eq_true rfl⟩ [0, 1, 2, 3, 4] rfl 0 rfl rfl rfl hl.1 rfl (Nat.le_of_ble_eq_true rfl) dX3_nodeOfPosition_12 ⟨Nat.zero_le _, Nat.zero_le _⟩ ?_
  refine lv_iload_n hx hb dX3_nodeOfPosition_15 rfl (lv_at hl 2 rfl) ?_
  refine lv_icmp_ne (tgt := 23) hx hb dX3_nodeOfPosition_16 (by decide) (fun c2 => ?_) (fun c2 => ?_)
  · replace h := ifn c2 h
    refine lv_aload_n hx hb dX3_nodeOfPosition_23 rfl (lv_at hl 1 rfl) ?_
    refine lv_iload_n hx hb dX3_nodeOfPosition_24 rfl (lv_at hl 0 rfl) ?_
    refine lv_aload_n hx hb dX3_nodeOfPosition_25 rfl (lv_at hl 1 rfl) ?_
    refine lv_iload_n hx hb dX3_nodeOfPosition_26 rfl (lv_at hl 2 rfl) ?_
    refine lv_iconst (v := iI 1) hx hb dX3_nodeOfPosition_27 rfl ?_
    refine lv_iadd hx hb dX3_nodeOfPosition_28 ?_
    obtain ⟨r3, h_r3, h⟩ := obd h
    refine rcV (rest := [.int (r1 - (iI 1)), .ref (q 8)]) X hKK hP 1 (zX3_excessBefore l D cI cC q n d lb xd xl (x1 + (iI 1)) r3 h_r3) gX3_nodeOfPosition_X3_excessBefore rfl rfl rfl hdX3_excessBefore ⟨Nat.le_of_ble_eq_true rfl, Nat.le_of_ble_eq_true rfl⟩ [0, 1, 2, 3, 4] rfl 0 rfl rfl rfl hl.1 rfl (Nat.le_of_ble_eq_true rfl) dX3_nodeOfPosition_29 ⟨Nat.zero_le _, Nat.zero_le _⟩ ?_
    obtain ⟨r4, h_r4, h⟩ := obd h
    refine rcV (rest := []) X hKK hP 2 (zX3_climb l D cI cC q n d lb xd xl (r1 - (iI 1)) r3 r4 h_r4) gX3_nodeOfPosition_X3_climb rfl rfl rfl hdX3_climb ⟨Nat.le_of_ble_eq_true rfl, Nat.le_of_ble_eq_true rfl⟩ [0, 1, 2, 3, 4] rfl 0 rfl rfl rfl hl.1 rfl (Nat.le_of_ble_eq_true rfl) dX3_nodeOfPosition_32 ⟨Nat.zero_le _, Nat.zero_le _⟩ ?_
    exact rd_ret X rfl (Option.some.inj h) dX3_nodeOfPosition_35
  · replace h := ifp c2 h
    refine lv_iload_n hx hb dX3_nodeOfPosition_19 rfl (lv_at hl 0 rfl) ?_
    refine lv_goto (tgt := 35) hx hb dX3_nodeOfPosition_20 (by decide) ?_
    exact rd_ret X rfl (Option.some.inj h) dX3_nodeOfPosition_35
def mX3_countLabel_12 : Nat → Int32 → (Nat → Int32) → (Nat → Int32) → Int32 → Int32 → Int32 → Int32 → Int32 → Option (Int32)
  | 0, _, _, _, _, _, _, _, _ => none
  | f + 1, n, d, lb, x1, x2, x3, x4, x5 => (if x3 ≤ x5 then some x4 else (if (mX3_labelOf lb x5) = x2 then mX3_countLabel_12 f n d lb x1 x2 x3 (x4 + iI 1) (x5 + iI 1) else mX3_countLabel_12 f n d lb x1 x2 x3 x4 (x5 + iI 1)))
def mX3_countLabel (n : Int32) (d : Nat → Int32) (lb : Nat → Int32) (x1 : Int32) (x2 : Int32) : Option (Int32) := ((mX3_endOf n d x1).bind fun r1 => mX3_countLabel_12 FU n d lb x1 x2 r1 (iI 0) x1)
theorem hdX3_countLabel : yX3_countLabel.cls = RX3 ∧ yX3_countLabel.cls ≠ "java/lang/invoke/MethodHandle" ∧ yX3_countLabel.cls ≠ "java/lang/invoke/VarHandle" ∧ (parseMethodDescriptor yX3_countLabel.desc).map (fun d => d.parameters.length) = some 2 := by decide +kernel
abbrev rmX3_countLabel : Room := { frames := 3, cells := 0, slots := 0, locals := 65 }
set_option maxHeartbeats 4000000 in
set_option maxRecDepth 100000 in
theorem kX3_countLabel_12 {p : Program} {l : Launch} {e : Env} {s : State} {m : MethodId} {args : Array Value} {below : List Frame} {meth : Method} {c : Code} {D : va_G} {cI cC : ClassId} {q : Nat → Nat} {n : Int32} {d : Nat → Int32} {lb : Nat → Int32} {xd : Nat → Int32} {xl : Nat → Int32} {r : Int32} (X : CX p s m args meth c wsX3_countLabel cX3_countLabel 6 (some .int) RX3) (hKK : KK D cI cC s) (hP : va_P D vwCl (wT cI q n d lb xd xl) s.heap) : ∀ (f : Nat), ∀ (x1 : Int32) (x2 : Int32) (x3 : Int32) (x4 : Int32) (x5 : Int32) (ls : Array Slot), lv_has ls 6 [(0, .ref (q 8)), (1, .int x1), (2, .int x2), (3, .int x3), (4, .int x4), (5, .int x5)] → mX3_countLabel_12 f n d lb x1 x2 x3 x4 x5 = some r → W p l e rmX3_countLabel s m args below meth c s.heap [] 0 0 (MQ below (rdQ r) args s 0 0 (fun _ => False)) (F0 m 12 ls []) := by
  have hx := X.1
  have hb := X.2.1
  intro f
  induction f with
  | zero =>
    intro x1 x2 x3 x4 x5 ls hl h
    exact absurd h (by unfold mX3_countLabel_12; intro h; cases h)
  | succ f ih =>
    intro x1 x2 x3 x4 x5 ls hl h
    rw [mX3_countLabel_12] at h
    refine lv_iload hx hb dX3_countLabel_12 (lv_at hl 5 rfl) ?_
    refine lv_iload_n hx hb dX3_countLabel_14 rfl (lv_at hl 3 rfl) ?_
    refine lv_icmp_ge (tgt := 37) hx hb dX3_countLabel_15 (by decide) (fun c2 => ?_) (fun c2 => ?_)
    · replace h := ifp c2 h
      refine lv_iload hx hb dX3_countLabel_37 (lv_at hl 4 rfl) ?_
      exact rd_ret X rfl (Option.some.inj h) dX3_countLabel_39
    · replace h := ifn c2 h
      refine lv_aload_n hx hb dX3_countLabel_18 rfl (lv_at hl 0 rfl) ?_
      refine lv_iload hx hb dX3_countLabel_19 (lv_at hl 5 rfl) ?_
      refine rcV (rest := []) X hKK hP 1 (zX3_labelOf l D cI cC q n d lb xd xl x5 _ rfl) gX3_countLabel_X3_labelOf rfl rfl rfl hdX3_labelOf ⟨Nat.le_of_ble_eq_true rfl, Nat.le_of_ble_eq_true rfl⟩ [0, 1, 2, 3, 4] rfl 0 rfl rfl rfl hl.1 rfl (Nat.le_of_ble_eq_true rfl) dX3_countLabel_21 ⟨Nat.zero_le _, Nat.zero_le _⟩ ?_
      refine lv_iload_n hx hb dX3_countLabel_24 rfl (lv_at hl 2 rfl) ?_
      refine lv_icmp_ne (tgt := 31) hx hb dX3_countLabel_25 (by decide) (fun c3 => ?_) (fun c3 => ?_)
      · replace h := ifn c3 h
        refine lv_iinc (v := (x5 + iI 1)) (lv' := [(5, .int (x5 + iI 1)), (0, .ref (q 8)), (1, .int x1), (2, .int x2), (3, .int x3), (4, .int x4)]) hx hb dX3_countLabel_31 hl (k := 5) rfl rfl (by decide) rfl (fun ls hl => ?_)
        refine lv_goto (tgt := 12) hx hb dX3_countLabel_34 (by decide) ?_
        exact ih x1 x2 x3 x4 (x5 + iI 1) ls (lv_sub hl [1, 2, 3, 4, 5, 0] rfl) h
      · replace h := ifp c3 h
        refine lv_iinc (v := (x4 + iI 1)) (lv' := [(4, .int (x4 + iI 1)), (0, .ref (q 8)), (1, .int x1), (2, .int x2), (3, .int x3), (5, .int x5)]) hx hb dX3_countLabel_28 hl (k := 4) rfl rfl (by decide) rfl (fun ls hl => ?_)
        refine lv_iinc (v := (x5 + iI 1)) (lv' := [(5, .int (x5 + iI 1)), (4, .int (x4 + iI 1)), (0, .ref (q 8)), (1, .int x1), (2, .int x2), (3, .int x3)]) hx hb dX3_countLabel_31 hl (k := 5) rfl rfl (by decide) rfl (fun ls hl => ?_)
        refine lv_goto (tgt := 12) hx hb dX3_countLabel_34 (by decide) ?_
        exact ih x1 x2 x3 (x4 + iI 1) (x5 + iI 1) ls (lv_sub hl [2, 3, 4, 5, 1, 0] rfl) h
set_option maxHeartbeats 4000000 in
set_option maxRecDepth 100000 in
theorem zX3_countLabel (l : Launch) (D : va_G) (cI cC : ClassId) (q : Nat → Nat) (n : Int32) (d : Nat → Int32) (lb : Nat → Int32) (xd : Nat → Int32) (xl : Nat → Int32) (x1 : Int32) (x2 : Int32) (r : Int32) (h : mX3_countLabel n d lb x1 x2 = some r) : Met l yX3_countLabel wsX3_countLabel rmX3_countLabel (va_Pc [.ref (q 8), .int x1, .int x2] (BW D cI cC (wT cI q n d lb xd xl))) (rdQ r) 0 0 (fun _ => False) := by
  refine MetI RX3 (by decide +kernel) rfl rfl (Nat.le_of_ble_eq_true rfl) ?_
  intro p e s m below meth c ls X _ hB hl
  obtain ⟨hP, hKK⟩ := hB
  have hx := X.1
  have hb := X.2.1
  replace hl : lv_has ls 6 [(0, .ref (q 8)), (1, .int x1), (2, .int x2)] := hl
  unfold mX3_countLabel at h
  refine lv_aload_n hx hb dX3_countLabel_0 rfl (lv_at hl 0 rfl) ?_
  refine lv_iload_n hx hb dX3_countLabel_1 rfl (lv_at hl 1 rfl) ?_
  obtain ⟨r1, h_r1, h⟩ := obd h
  refine rcV (rest := []) X hKK hP 1 (zX3_endOf l D cI cC q n d lb xd xl x1 r1 h_r1) gX3_countLabel_X3_endOf rfl rfl rfl hdX3_endOf ⟨Nat.le_of_ble_eq_true rfl, Nat.le_of_ble_eq_true rfl⟩ [0, 1, 2, 3, 4] rfl 0 rfl rfl rfl hl.1 rfl (Nat.le_of_ble_eq_true rfl) dX3_countLabel_2 ⟨Nat.zero_le _, Nat.zero_le _⟩ ?_
  refine lv_istore_n (lv' := [(3, .int r1), (0, .ref (q 8)), (1, .int x1), (2, .int x2)]) hx hb dX3_countLabel_5 rfl hl (by decide) rfl (fun ls hl => ?_)
  refine lv_iconst (v := iI 0) hx hb dX3_countLabel_6 rfl ?_
  refine lv_istore (lv' := [(4, .int (iI 0)), (3, .int r1), (0, .ref (q 8)), (1, .int x1), (2, .int x2)]) hx hb dX3_countLabel_7 hl (by decide) rfl (fun ls hl => ?_)
  refine lv_iload_n hx hb dX3_countLabel_9 rfl (lv_at hl 3 rfl) ?_
  refine lv_istore (lv' := [(5, .int x1), (4, .int (iI 0)), (3, .int r1), (0, .ref (q 8)), (1, .int x1), (2, .int x2)]) hx hb dX3_countLabel_10 hl (by decide) rfl (fun ls hl => ?_)
  exact kX3_countLabel_12 X hKK hP FU x1 x2 r1 (iI 0) x1 ls (lv_sub hl [3, 4, 5, 2, 1, 0] rfl) h
def mX3_findLabel_13 : Nat → Int32 → (Nat → Int32) → (Nat → Int32) → Int32 → Int32 → Int32 → Int32 → Int32 → Int32 → Option (Int32)
  | 0, _, _, _, _, _, _, _, _, _ => none
  | f + 1, n, d, lb, x1, x2, x3, x4, x5, x6 => (if x4 ≤ x6 then some (iI (-5)) else (if (mX3_labelOf lb x6) = x2 then (if x5 = x3 then some x6 else mX3_findLabel_13 f n d lb x1 x2 x3 x4 (x5 + iI 1) (x6 + iI 1)) else mX3_findLabel_13 f n d lb x1 x2 x3 x4 x5 (x6 + iI 1)))
def mX3_findLabel (n : Int32) (d : Nat → Int32) (lb : Nat → Int32) (x1 : Int32) (x2 : Int32) (x3 : Int32) : Option (Int32) := ((mX3_endOf n d x1).bind fun r1 => mX3_findLabel_13 FU n d lb x1 x2 x3 r1 (iI 0) x1)
theorem hdX3_findLabel : yX3_findLabel.cls = RX3 ∧ yX3_findLabel.cls ≠ "java/lang/invoke/MethodHandle" ∧ yX3_findLabel.cls ≠ "java/lang/invoke/VarHandle" ∧ (parseMethodDescriptor yX3_findLabel.desc).map (fun d => d.parameters.length) = some 3 := by decide +kernel
abbrev rmX3_findLabel : Room := { frames := 3, cells := 0, slots := 0, locals := 65 }
set_option maxHeartbeats 4000000 in
set_option maxRecDepth 100000 in
theorem kX3_findLabel_13 {p : Program} {l : Launch} {e : Env} {s : State} {m : MethodId} {args : Array Value} {below : List Frame} {meth : Method} {c : Code} {D : va_G} {cI cC : ClassId} {q : Nat → Nat} {n : Int32} {d : Nat → Int32} {lb : Nat → Int32} {xd : Nat → Int32} {xl : Nat → Int32} {r : Int32} (X : CX p s m args meth c wsX3_findLabel cX3_findLabel 7 (some .int) RX3) (hKK : KK D cI cC s) (hP : va_P D vwCl (wT cI q n d lb xd xl) s.heap) : ∀ (f : Nat), ∀ (x1 : Int32) (x2 : Int32) (x3 : Int32) (x4 : Int32) (x5 : Int32) (x6 : Int32) (ls : Array Slot), lv_has ls 7 [(0, .ref (q 8)), (1, .int x1), (2, .int x2), (3, .int x3), (4, .int x4), (5, .int x5), (6, .int x6)] → mX3_findLabel_13 f n d lb x1 x2 x3 x4 x5 x6 = some r → W p l e rmX3_findLabel s m args below meth c s.heap [] 0 0 (MQ below (rdQ r) args s 0 0 (fun _ => False)) (F0 m 13 ls []) := by
  have hx := X.1
  have hb := X.2.1
  intro f
  induction f with
  | zero =>
    intro x1 x2 x3 x4 x5 x6 ls hl h
    exact absurd h (by unfold mX3_findLabel_13; intro h; cases h)
  | succ f ih =>
    intro x1 x2 x3 x4 x5 x6 ls hl h
    rw [mX3_findLabel_13] at h
    refine lv_iload hx hb dX3_findLabel_13 (lv_at hl 6 rfl) ?_
    refine lv_iload hx hb dX3_findLabel_15 (lv_at hl 4 rfl) ?_
    refine lv_icmp_ge (tgt := 48) hx hb dX3_findLabel_17 (by decide) (fun c2 => ?_) (fun c2 => ?_)
    · replace h := ifp c2 h
      refine lv_bipush (v := iI (-5)) hx hb dX3_findLabel_48 (by decide) ?_
      exact rd_ret X rfl (Option.some.inj h) dX3_findLabel_50
    · replace h := ifn c2 h
      refine lv_aload_n hx hb dX3_findLabel_20 rfl (lv_at hl 0 rfl) ?_
      refine lv_iload hx hb dX3_findLabel_21 (lv_at hl 6 rfl) ?_
      refine rcV (rest := []) X hKK hP 1 (zX3_labelOf l D cI cC q n d lb xd xl x6 _ rfl) gX3_findLabel_X3_labelOf rfl rfl rfl hdX3_labelOf ⟨Nat.le_of_ble_eq_true rfl, Nat.le_of_ble_eq_true rfl⟩ [0, 1, 2, 3, 4] rfl 0 rfl rfl rfl hl.1 rfl (Nat.le_of_ble_eq_true rfl) dX3_findLabel_23 ⟨Nat.zero_le _, Nat.zero_le _⟩ ?_
      refine lv_iload_n hx hb dX3_findLabel_26 rfl (lv_at hl 2 rfl) ?_
      refine lv_icmp_ne (tgt := 42) hx hb dX3_findLabel_27 (by decide) (fun c3 => ?_) (fun c3 => ?_)
      · replace h := ifn c3 h
        refine lv_iinc (v := (x6 + iI 1)) (lv' := [(6, .int (x6 + iI 1)), (0, .ref (q 8)), (1, .int x1), (2, .int x2), (3, .int x3), (4, .int x4), (5, .int x5)]) hx hb dX3_findLabel_42 hl (k := 6) rfl rfl (by decide) rfl (fun ls hl => ?_)
        refine lv_goto (tgt := 13) hx hb dX3_findLabel_45 (by decide) ?_
        exact ih x1 x2 x3 x4 x5 (x6 + iI 1) ls (lv_sub hl [1, 2, 3, 4, 5, 6, 0] rfl) h
      · replace h := ifp c3 h
        refine lv_iload hx hb dX3_findLabel_30 (lv_at hl 5 rfl) ?_
        refine lv_iload_n hx hb dX3_findLabel_32 rfl (lv_at hl 3 rfl) ?_
        refine lv_icmp_ne (tgt := 39) hx hb dX3_findLabel_33 (by decide) (fun c4 => ?_) (fun c4 => ?_)
        · replace h := ifn c4 h
          refine lv_iinc (v := (x5 + iI 1)) (lv' := [(5, .int (x5 + iI 1)), (0, .ref (q 8)), (1, .int x1), (2, .int x2), (3, .int x3), (4, .int x4), (6, .int x6)]) hx hb dX3_findLabel_39 hl (k := 5) rfl rfl (by decide) rfl (fun ls hl => ?_)
          refine lv_iinc (v := (x6 + iI 1)) (lv' := [(6, .int (x6 + iI 1)), (5, .int (x5 + iI 1)), (0, .ref (q 8)), (1, .int x1), (2, .int x2), (3, .int x3), (4, .int x4)]) hx hb dX3_findLabel_42 hl (k := 6) rfl rfl (by decide) rfl (fun ls hl => ?_)
          refine lv_goto (tgt := 13) hx hb dX3_findLabel_45 (by decide) ?_
          exact ih x1 x2 x3 x4 (x5 + iI 1) (x6 + iI 1) ls (lv_sub hl [2, 3, 4, 5, 6, 1, 0] rfl) h
        · replace h := ifp c4 h
          refine lv_iload hx hb dX3_findLabel_36 (lv_at hl 6 rfl) ?_
          exact rd_ret X rfl (Option.some.inj h) dX3_findLabel_38
set_option maxHeartbeats 4000000 in
set_option maxRecDepth 100000 in
theorem zX3_findLabel (l : Launch) (D : va_G) (cI cC : ClassId) (q : Nat → Nat) (n : Int32) (d : Nat → Int32) (lb : Nat → Int32) (xd : Nat → Int32) (xl : Nat → Int32) (x1 : Int32) (x2 : Int32) (x3 : Int32) (r : Int32) (h : mX3_findLabel n d lb x1 x2 x3 = some r) : Met l yX3_findLabel wsX3_findLabel rmX3_findLabel (va_Pc [.ref (q 8), .int x1, .int x2, .int x3] (BW D cI cC (wT cI q n d lb xd xl))) (rdQ r) 0 0 (fun _ => False) := by
  refine MetI RX3 (by decide +kernel) rfl rfl (Nat.le_of_ble_eq_true rfl) ?_
  intro p e s m below meth c ls X _ hB hl
  obtain ⟨hP, hKK⟩ := hB
  have hx := X.1
  have hb := X.2.1
  replace hl : lv_has ls 7 [(0, .ref (q 8)), (1, .int x1), (2, .int x2), (3, .int x3)] := hl
  unfold mX3_findLabel at h
  refine lv_aload_n hx hb dX3_findLabel_0 rfl (lv_at hl 0 rfl) ?_
  refine lv_iload_n hx hb dX3_findLabel_1 rfl (lv_at hl 1 rfl) ?_
  obtain ⟨r1, h_r1, h⟩ := obd h
  refine rcV (rest := []) X hKK hP 1 (zX3_endOf l D cI cC q n d lb xd xl x1 r1 h_r1) gX3_findLabel_X3_endOf rfl rfl rfl hdX3_endOf ⟨Nat.le_of_ble_eq_true rfl, Nat.le_of_ble_eq_true rfl⟩ [0, 1, 2, 3, 4] rfl 0 rfl rfl rfl hl.1 rfl (Nat.le_of_ble_eq_true rfl) dX3_findLabel_2 ⟨Nat.zero_le _, Nat.zero_le _⟩ ?_
  refine lv_istore (lv' := [(4, .int r1), (0, .ref (q 8)), (1, .int x1), (2, .int x2), (3, .int x3)]) hx hb dX3_findLabel_5 hl (by decide) rfl (fun ls hl => ?_)
  refine lv_iconst (v := iI 0) hx hb dX3_findLabel_7 rfl ?_
  refine lv_istore (lv' := [(5, .int (iI 0)), (4, .int r1), (0, .ref (q 8)), (1, .int x1), (2, .int x2), (3, .int x3)]) hx hb dX3_findLabel_8 hl (by decide) rfl (fun ls hl => ?_)
  refine lv_iload_n hx hb dX3_findLabel_10 rfl (lv_at hl 3 rfl) ?_
  refine lv_istore (lv' := [(6, .int x1), (5, .int (iI 0)), (4, .int r1), (0, .ref (q 8)), (1, .int x1), (2, .int x2), (3, .int x3)]) hx hb dX3_findLabel_11 hl (by decide) rfl (fun ls hl => ?_)
  exact kX3_findLabel_13 X hKK hP FU x1 x2 x3 r1 (iI 0) x1 ls (lv_sub hl [3, 4, 5, 6, 2, 1, 0] rfl) h
def mX3_findAncestor_11 : Nat → Int32 → (Nat → Int32) → (Nat → Int32) → Int32 → Int32 → Int32 → Int32 → Option (Int32)
  | 0, _, _, _, _, _, _, _ => none
  | f + 1, n, d, lb, x1, x2, x3, x4 => (if x4 < 0 then some (iI (-5)) else (if x3 ≤ (mX3_depthOf n d x4) then mX3_findAncestor_11 f n d lb x1 x2 x3 (x4 + iI (-1)) else (if (mX3_labelOf lb x4) = x2 then some x4 else mX3_findAncestor_11 f n d lb x1 x2 (mX3_depthOf n d x4) (x4 + iI (-1)))))
def mX3_findAncestor (n : Int32) (d : Nat → Int32) (lb : Nat → Int32) (x1 : Int32) (x2 : Int32) : Option (Int32) := mX3_findAncestor_11 FU n d lb x1 x2 (mX3_depthOf n d x1) (x1 - (iI 1))
theorem hdX3_findAncestor : yX3_findAncestor.cls = RX3 ∧ yX3_findAncestor.cls ≠ "java/lang/invoke/MethodHandle" ∧ yX3_findAncestor.cls ≠ "java/lang/invoke/VarHandle" ∧ (parseMethodDescriptor yX3_findAncestor.desc).map (fun d => d.parameters.length) = some 2 := by decide +kernel
abbrev rmX3_findAncestor : Room := { frames := 2, cells := 0, slots := 0, locals := 42 }
set_option maxHeartbeats 4000000 in
set_option maxRecDepth 100000 in
theorem kX3_findAncestor_11 {p : Program} {l : Launch} {e : Env} {s : State} {m : MethodId} {args : Array Value} {below : List Frame} {meth : Method} {c : Code} {D : va_G} {cI cC : ClassId} {q : Nat → Nat} {n : Int32} {d : Nat → Int32} {lb : Nat → Int32} {xd : Nat → Int32} {xl : Nat → Int32} {r : Int32} (X : CX p s m args meth c wsX3_findAncestor cX3_findAncestor 5 (some .int) RX3) (hKK : KK D cI cC s) (hP : va_P D vwCl (wT cI q n d lb xd xl) s.heap) : ∀ (f : Nat), ∀ (x1 : Int32) (x2 : Int32) (x3 : Int32) (x4 : Int32) (ls : Array Slot), lv_has ls 5 [(0, .ref (q 8)), (1, .int x1), (2, .int x2), (3, .int x3), (4, .int x4)] → mX3_findAncestor_11 f n d lb x1 x2 x3 x4 = some r → W p l e rmX3_findAncestor s m args below meth c s.heap [] 0 0 (MQ below (rdQ r) args s 0 0 (fun _ => False)) (F0 m 11 ls []) := by
  have hx := X.1
  have hb := X.2.1
  intro f
  induction f with
  | zero =>
    intro x1 x2 x3 x4 ls hl h
    exact absurd h (by unfold mX3_findAncestor_11; intro h; cases h)
  | succ f ih =>
    intro x1 x2 x3 x4 ls hl h
    rw [mX3_findAncestor_11] at h
    refine lv_iload hx hb dX3_findAncestor_11 (lv_at hl 4 rfl) ?_
    refine lv_if_lt (tgt := 52) hx hb dX3_findAncestor_13 (by decide) (fun c1 => ?_) (fun c1 => ?_)
    · replace h := ifp c1 h
      refine lv_bipush (v := iI (-5)) hx hb dX3_findAncestor_52 (by decide) ?_
      exact rd_ret X rfl (Option.some.inj h) dX3_findAncestor_54
    · replace h := ifn c1 h
      refine lv_aload_n hx hb dX3_findAncestor_16 rfl (lv_at hl 0 rfl) ?_
      refine lv_iload hx hb dX3_findAncestor_17 (lv_at hl 4 rfl) ?_
      refine rcV (rest := []) X hKK hP 1 (zX3_depthOf l D cI cC q n d lb xd xl x4 _ rfl) gX3_findAncestor_X3_depthOf rfl rfl rfl hdX3_depthOf ⟨Nat.le_of_ble_eq_true rfl, Nat.le_of_ble_eq_true rfl⟩ [0, 1, 2, 3, 4] rfl 0 rfl rfl rfl hl.1 rfl (Nat.le_of_ble_eq_true rfl) dX3_findAncestor_19 ⟨Nat.zero_le _, Nat.zero_le _⟩ ?_
      refine lv_iload_n hx hb dX3_findAncestor_22 rfl (lv_at hl 3 rfl) ?_
      refine lv_icmp_ge (tgt := 46) hx hb dX3_findAncestor_23 (by decide) (fun c2 => ?_) (fun c2 => ?_)
      · replace h := ifp c2 h
        refine lv_iinc (v := (x4 + iI (-1))) (lv' := [(4, .int (x4 + iI (-1))), (0, .ref (q 8)), (1, .int x1), (2, .int x2), (3, .int x3)]) hx hb dX3_findAncestor_46 hl (k := 4) rfl rfl (by decide) rfl (fun ls hl => ?_)
        refine lv_goto (tgt := 11) hx hb dX3_findAncestor_49 (by decide) ?_
        exact ih x1 x2 x3 (x4 + iI (-1)) ls (lv_sub hl [1, 2, 3, 4, 0] rfl) h
      · replace h := ifn c2 h
        refine lv_aload_n hx hb dX3_findAncestor_26 rfl (lv_at hl 0 rfl) ?_
        refine lv_iload hx hb dX3_findAncestor_27 (lv_at hl 4 rfl) ?_
        refine rcV (rest := []) X hKK hP 1 (zX3_labelOf l D cI cC q n d lb xd xl x4 _ rfl) gX3_findAncestor_X3_labelOf rfl rfl rfl hdX3_labelOf ⟨Nat.le_of_ble_eq_true rfl, Nat.le_of_ble_eq_true rfl⟩ [0, 1, 2, 3, 4] rfl 0 rfl rfl rfl hl.1 rfl (Nat.le_of_ble_eq_true rfl) dX3_findAncestor_29 ⟨Nat.zero_le _, Nat.zero_le _⟩ ?_
        refine lv_iload_n hx hb dX3_findAncestor_32 rfl (lv_at hl 2 rfl) ?_
        refine lv_icmp_ne (tgt := 39) hx hb dX3_findAncestor_33 (by decide) (fun c3 => ?_) (fun c3 => ?_)
        · replace h := ifn c3 h
          refine lv_aload_n hx hb dX3_findAncestor_39 rfl (lv_at hl 0 rfl) ?_
          refine lv_iload hx hb dX3_findAncestor_40 (lv_at hl 4 rfl) ?_
          refine rcV (rest := []) X hKK hP 1 (zX3_depthOf l D cI cC q n d lb xd xl x4 _ rfl) gX3_findAncestor_X3_depthOf rfl rfl rfl hdX3_depthOf ⟨Nat.le_of_ble_eq_true rfl, Nat.le_of_ble_eq_true rfl⟩ [0, 1, 2, 3, 4] rfl 0 rfl rfl rfl hl.1 rfl (Nat.le_of_ble_eq_true rfl) dX3_findAncestor_42 ⟨Nat.zero_le _, Nat.zero_le _⟩ ?_
          refine lv_istore_n (lv' := [(3, .int (mX3_depthOf n d x4)), (0, .ref (q 8)), (1, .int x1), (2, .int x2), (4, .int x4)]) hx hb dX3_findAncestor_45 rfl hl (by decide) rfl (fun ls hl => ?_)
          refine lv_iinc (v := (x4 + iI (-1))) (lv' := [(4, .int (x4 + iI (-1))), (3, .int (mX3_depthOf n d x4)), (0, .ref (q 8)), (1, .int x1), (2, .int x2)]) hx hb dX3_findAncestor_46 hl (k := 4) rfl rfl (by decide) rfl (fun ls hl => ?_)
          refine lv_goto (tgt := 11) hx hb dX3_findAncestor_49 (by decide) ?_
          exact ih x1 x2 (mX3_depthOf n d x4) (x4 + iI (-1)) ls (lv_sub hl [2, 3, 4, 1, 0] rfl) h
        · replace h := ifp c3 h
          refine lv_iload hx hb dX3_findAncestor_36 (lv_at hl 4 rfl) ?_
          exact rd_ret X rfl (Option.some.inj h) dX3_findAncestor_38
set_option maxHeartbeats 4000000 in
set_option maxRecDepth 100000 in
theorem zX3_findAncestor (l : Launch) (D : va_G) (cI cC : ClassId) (q : Nat → Nat) (n : Int32) (d : Nat → Int32) (lb : Nat → Int32) (xd : Nat → Int32) (xl : Nat → Int32) (x1 : Int32) (x2 : Int32) (r : Int32) (h : mX3_findAncestor n d lb x1 x2 = some r) : Met l yX3_findAncestor wsX3_findAncestor rmX3_findAncestor (va_Pc [.ref (q 8), .int x1, .int x2] (BW D cI cC (wT cI q n d lb xd xl))) (rdQ r) 0 0 (fun _ => False) := by
  refine MetI RX3 (by decide +kernel) rfl rfl (Nat.le_of_ble_eq_true rfl) ?_
  intro p e s m below meth c ls X _ hB hl
  obtain ⟨hP, hKK⟩ := hB
  have hx := X.1
  have hb := X.2.1
  replace hl : lv_has ls 5 [(0, .ref (q 8)), (1, .int x1), (2, .int x2)] := hl
  unfold mX3_findAncestor at h
  refine lv_aload_n hx hb dX3_findAncestor_0 rfl (lv_at hl 0 rfl) ?_
  refine lv_iload_n hx hb dX3_findAncestor_1 rfl (lv_at hl 1 rfl) ?_
  refine rcV (rest := []) X hKK hP 1 (zX3_depthOf l D cI cC q n d lb xd xl x1 _ rfl) gX3_findAncestor_X3_depthOf rfl rfl rfl hdX3_depthOf ⟨Nat.le_of_ble_eq_true rfl, Nat.le_of_ble_eq_true rfl⟩ [0, 1, 2, 3, 4] rfl 0 rfl rfl rfl hl.1 rfl (Nat.le_of_ble_eq_true rfl) dX3_findAncestor_2 ⟨Nat.zero_le _, Nat.zero_le _⟩ ?_
  refine lv_istore_n (lv' := [(3, .int (mX3_depthOf n d x1)), (0, .ref (q 8)), (1, .int x1), (2, .int x2)]) hx hb dX3_findAncestor_5 rfl hl (by decide) rfl (fun ls hl => ?_)
  refine lv_iload_n hx hb dX3_findAncestor_6 rfl (lv_at hl 2 rfl) ?_
  refine lv_iconst (v := iI 1) hx hb dX3_findAncestor_7 rfl ?_
  refine lv_isub hx hb dX3_findAncestor_8 ?_
  refine lv_istore (lv' := [(4, .int (x1 - (iI 1))), (3, .int (mX3_depthOf n d x1)), (0, .ref (q 8)), (1, .int x1), (2, .int x2)]) hx hb dX3_findAncestor_9 hl (by decide) rfl (fun ls hl => ?_)
  exact kX3_findAncestor_11 X hKK hP FU x1 x2 (mX3_depthOf n d x1) (x1 - (iI 1)) ls (lv_sub hl [2, 3, 4, 1, 0] rfl) h
def mX3_sameSubtrees_33 : Nat → Int32 → (Nat → Int32) → (Nat → Int32) → Int32 → Int32 → Int32 → Int32 → Int32 → Option (Int32)
  | 0, _, _, _, _, _, _, _, _ => none
  | f + 1, n, d, lb, x1, x2, x3, x4, x5 => (if x3 ≤ x5 then some (iI 1) else (if (mX3_labelOf lb (x1 + x5)) = (mX3_labelOf lb (x2 + x5)) then (if ((mX3_depthOf n d (x1 + x5)) + x4) = (mX3_depthOf n d (x2 + x5)) then mX3_sameSubtrees_33 f n d lb x1 x2 x3 x4 (x5 + iI 1) else some (iI 0)) else some (iI 0)))
def mX3_sameSubtrees (n : Int32) (d : Nat → Int32) (lb : Nat → Int32) (x1 : Int32) (x2 : Int32) : Option (Int32) := ((mX3_sizeOf n d x1).bind fun r1 => ((mX3_sizeOf n d x2).bind fun r2 => (if r2 = r1 then mX3_sameSubtrees_33 FU n d lb x1 x2 r1 ((mX3_depthOf n d x2) - (mX3_depthOf n d x1)) (iI 0) else some (iI 0))))
theorem hdX3_sameSubtrees : yX3_sameSubtrees.cls = RX3 ∧ yX3_sameSubtrees.cls ≠ "java/lang/invoke/MethodHandle" ∧ yX3_sameSubtrees.cls ≠ "java/lang/invoke/VarHandle" ∧ (parseMethodDescriptor yX3_sameSubtrees.desc).map (fun d => d.parameters.length) = some 2 := by decide +kernel
abbrev rmX3_sameSubtrees : Room := { frames := 4, cells := 0, slots := 0, locals := 86 }
set_option maxHeartbeats 4000000 in
set_option maxRecDepth 100000 in
theorem kX3_sameSubtrees_33 {p : Program} {l : Launch} {e : Env} {s : State} {m : MethodId} {args : Array Value} {below : List Frame} {meth : Method} {c : Code} {D : va_G} {cI cC : ClassId} {q : Nat → Nat} {n : Int32} {d : Nat → Int32} {lb : Nat → Int32} {xd : Nat → Int32} {xl : Nat → Int32} {r : Int32} (X : CX p s m args meth c wsX3_sameSubtrees cX3_sameSubtrees 6 (some .boolean) RX3) (hKK : KK D cI cC s) (hP : va_P D vwCl (wT cI q n d lb xd xl) s.heap) : ∀ (f : Nat), ∀ (x1 : Int32) (x2 : Int32) (x3 : Int32) (x4 : Int32) (x5 : Int32) (ls : Array Slot), lv_has ls 6 [(0, .ref (q 8)), (1, .int x1), (2, .int x2), (3, .int x3), (4, .int x4), (5, .int x5)] → mX3_sameSubtrees_33 f n d lb x1 x2 x3 x4 x5 = some r → W p l e rmX3_sameSubtrees s m args below meth c s.heap [] 0 0 (MQ below (rdQ r) args s 0 0 (fun _ => False)) (F0 m 33 ls []) := by
  have hx := X.1
  have hb := X.2.1
  intro f
  induction f with
  | zero =>
    intro x1 x2 x3 x4 x5 ls hl h
    exact absurd h (by unfold mX3_sameSubtrees_33; intro h; cases h)
  | succ f ih =>
    intro x1 x2 x3 x4 x5 ls hl h
    rw [mX3_sameSubtrees_33] at h
    refine lv_iload hx hb dX3_sameSubtrees_33 (lv_at hl 5 rfl) ?_
    refine lv_iload_n hx hb dX3_sameSubtrees_35 rfl (lv_at hl 3 rfl) ?_
    refine lv_icmp_ge (tgt := 88) hx hb dX3_sameSubtrees_36 (by decide) (fun c4 => ?_) (fun c4 => ?_)
    · replace h := ifp c4 h
      refine lv_iconst (v := iI 1) hx hb dX3_sameSubtrees_88 rfl ?_
      exact rd_ret X rfl (Option.some.inj h) dX3_sameSubtrees_89
    · replace h := ifn c4 h
      refine lv_aload_n hx hb dX3_sameSubtrees_39 rfl (lv_at hl 0 rfl) ?_
      refine lv_iload_n hx hb dX3_sameSubtrees_40 rfl (lv_at hl 1 rfl) ?_
      refine lv_iload hx hb dX3_sameSubtrees_41 (lv_at hl 5 rfl) ?_
      refine lv_iadd hx hb dX3_sameSubtrees_43 ?_
      refine rcV (rest := []) X hKK hP 1 (zX3_labelOf l D cI cC q n d lb xd xl (x1 + x5) _ rfl) gX3_sameSubtrees_X3_labelOf rfl rfl rfl hdX3_labelOf ⟨Nat.le_of_ble_eq_true rfl, Nat.le_of_ble_eq_true rfl⟩ [0, 1, 2, 3, 4] rfl 0 rfl rfl rfl hl.1 rfl (Nat.le_of_ble_eq_true rfl) dX3_sameSubtrees_44 ⟨Nat.zero_le _, Nat.zero_le _⟩ ?_
      refine lv_aload_n hx hb dX3_sameSubtrees_47 rfl (lv_at hl 0 rfl) ?_
      refine lv_iload_n hx hb dX3_sameSubtrees_48 rfl (lv_at hl 2 rfl) ?_
      refine lv_iload hx hb dX3_sameSubtrees_49 (lv_at hl 5 rfl) ?_
      refine lv_iadd hx hb dX3_sameSubtrees_51 ?_
      refine rcV (rest := [.int (mX3_labelOf lb (x1 + x5))]) X hKK hP 1 (zX3_labelOf l D cI cC q n d lb xd xl (x2 + x5) _ rfl) gX3_sameSubtrees_X3_labelOf rfl rfl rfl hdX3_labelOf ⟨Nat.le_of_ble_eq_true rfl, Nat.le_of_ble_eq_true rfl⟩ [0, 1, 2, 3, 4] rfl 0 rfl rfl rfl hl.1 rfl (Nat.le_of_ble_eq_true rfl) dX3_sameSubtrees_52 ⟨Nat.zero_le _, Nat.zero_le _⟩ ?_
      refine lv_icmp_ne (tgt := 80) hx hb dX3_sameSubtrees_55 (by decide) (fun c5 => ?_) (fun c5 => ?_)
      · replace h := ifn c5 h
        refine lv_iconst (v := iI 0) hx hb dX3_sameSubtrees_80 rfl ?_
        exact rd_ret X rfl (Option.some.inj h) dX3_sameSubtrees_81
      · replace h := ifp c5 h
        refine lv_aload_n hx hb dX3_sameSubtrees_58 rfl (lv_at hl 0 rfl) ?_
        refine lv_iload_n hx hb dX3_sameSubtrees_59 rfl (lv_at hl 1 rfl) ?_
        refine lv_iload hx hb dX3_sameSubtrees_60 (lv_at hl 5 rfl) ?_
        refine lv_iadd hx hb dX3_sameSubtrees_62 ?_
        refine rcV (rest := []) X hKK hP 1 (zX3_depthOf l D cI cC q n d lb xd xl (x1 + x5) _ rfl) gX3_sameSubtrees_X3_depthOf rfl rfl rfl hdX3_depthOf ⟨Nat.le_of_ble_eq_true rfl, Nat.le_of_ble_eq_true rfl⟩ [0, 1, 2, 3, 4] rfl 0 rfl rfl rfl hl.1 rfl (Nat.le_of_ble_eq_true rfl) dX3_sameSubtrees_63 ⟨Nat.zero_le _, Nat.zero_le _⟩ ?_
        refine lv_iload hx hb dX3_sameSubtrees_66 (lv_at hl 4 rfl) ?_
        refine lv_iadd hx hb dX3_sameSubtrees_68 ?_
        refine lv_aload_n hx hb dX3_sameSubtrees_69 rfl (lv_at hl 0 rfl) ?_
        refine lv_iload_n hx hb dX3_sameSubtrees_70 rfl (lv_at hl 2 rfl) ?_
        refine lv_iload hx hb dX3_sameSubtrees_71 (lv_at hl 5 rfl) ?_
        refine lv_iadd hx hb dX3_sameSubtrees_73 ?_
        refine rcV (rest := [.int ((mX3_depthOf n d (x1 + x5)) + x4)]) X hKK hP 1 (zX3_depthOf l D cI cC q n d lb xd xl (x2 + x5) _ rfl) gX3_sameSubtrees_X3_depthOf rfl rfl rfl hdX3_depthOf ⟨Nat.le_of_ble_eq_true rfl, Nat.le_of_ble_eq_true rfl⟩ [0, 1, 2, 3, 4] rfl 0 rfl rfl rfl hl.1 rfl (Nat.le_of_ble_eq_true rfl) dX3_sameSubtrees_74 ⟨Nat.zero_le _, Nat.zero_le _⟩ ?_
        refine lv_icmp_eq (tgt := 82) hx hb dX3_sameSubtrees_77 (by decide) (fun c6 => ?_) (fun c6 => ?_)
        · replace h := ifp c6 h
          refine lv_iinc (v := (x5 + iI 1)) (lv' := [(5, .int (x5 + iI 1)), (0, .ref (q 8)), (1, .int x1), (2, .int x2), (3, .int x3), (4, .int x4)]) hx hb dX3_sameSubtrees_82 hl (k := 5) rfl rfl (by decide) rfl (fun ls hl => ?_)
          refine lv_goto (tgt := 33) hx hb dX3_sameSubtrees_85 (by decide) ?_
          exact ih x1 x2 x3 x4 (x5 + iI 1) ls (lv_sub hl [1, 2, 3, 4, 5, 0] rfl) h
        · replace h := ifn c6 h
          refine lv_iconst (v := iI 0) hx hb dX3_sameSubtrees_80 rfl ?_
          exact rd_ret X rfl (Option.some.inj h) dX3_sameSubtrees_81
set_option maxHeartbeats 4000000 in
set_option maxRecDepth 100000 in
theorem zX3_sameSubtrees (l : Launch) (D : va_G) (cI cC : ClassId) (q : Nat → Nat) (n : Int32) (d : Nat → Int32) (lb : Nat → Int32) (xd : Nat → Int32) (xl : Nat → Int32) (x1 : Int32) (x2 : Int32) (r : Int32) (h : mX3_sameSubtrees n d lb x1 x2 = some r) : Met l yX3_sameSubtrees wsX3_sameSubtrees rmX3_sameSubtrees (va_Pc [.ref (q 8), .int x1, .int x2] (BW D cI cC (wT cI q n d lb xd xl))) (rdQ r) 0 0 (fun _ => False) := by
  refine MetI RX3 (by decide +kernel) rfl rfl (Nat.le_of_ble_eq_true rfl) ?_
  intro p e s m below meth c ls X _ hB hl
  obtain ⟨hP, hKK⟩ := hB
  have hx := X.1
  have hb := X.2.1
  replace hl : lv_has ls 6 [(0, .ref (q 8)), (1, .int x1), (2, .int x2)] := hl
  unfold mX3_sameSubtrees at h
  refine lv_aload_n hx hb dX3_sameSubtrees_0 rfl (lv_at hl 0 rfl) ?_
  refine lv_iload_n hx hb dX3_sameSubtrees_1 rfl (lv_at hl 1 rfl) ?_
  obtain ⟨r1, h_r1, h⟩ := obd h
  refine rcV (rest := []) X hKK hP 1 (zX3_sizeOf l D cI cC q n d lb xd xl x1 r1 h_r1) gX3_sameSubtrees_X3_sizeOf rfl rfl rfl hdX3_sizeOf ⟨Nat.le_of_ble_eq_true rfl, Nat.le_of_ble_eq_true rfl⟩ [0, 1, 2, 3, 4] rfl 0 rfl rfl rfl hl.1 rfl (Nat.le_of_ble_eq_true rfl) dX3_sameSubtrees_2 ⟨Nat.zero_le _, Nat.zero_le _⟩ ?_
  refine lv_istore_n (lv' := [(3, .int r1), (0, .ref (q 8)), (1, .int x1), (2, .int x2)]) hx hb dX3_sameSubtrees_5 rfl hl (by decide) rfl (fun ls hl => ?_)
  refine lv_aload_n hx hb dX3_sameSubtrees_6 rfl (lv_at hl 1 rfl) ?_
  refine lv_iload_n hx hb dX3_sameSubtrees_7 rfl (lv_at hl 3 rfl) ?_
  obtain ⟨r2, h_r2, h⟩ := obd h
  refine rcV (rest := []) X hKK hP 1 (zX3_sizeOf l D cI cC q n d lb xd xl x2 r2 h_r2) gX3_sameSubtrees_X3_sizeOf rfl rfl rfl hdX3_sizeOf ⟨Nat.le_of_ble_eq_true rfl, Nat.le_of_ble_eq_true rfl⟩ [0, 1, 2, 3, 4] rfl 0 rfl rfl rfl hl.1 rfl (Nat.le_of_ble_eq_true rfl) dX3_sameSubtrees_8 ⟨Nat.zero_le _, Nat.zero_le _⟩ ?_
  refine lv_iload_n hx hb dX3_sameSubtrees_11 rfl (lv_at hl 0 rfl) ?_
  refine lv_icmp_eq (tgt := 17) hx hb dX3_sameSubtrees_12 (by decide) (fun c3 => ?_) (fun c3 => ?_)
  · replace h := ifp c3 h
    refine lv_aload_n hx hb dX3_sameSubtrees_17 rfl (lv_at hl 1 rfl) ?_
    refine lv_iload_n hx hb dX3_sameSubtrees_18 rfl (lv_at hl 3 rfl) ?_
    refine rcV (rest := []) X hKK hP 1 (zX3_depthOf l D cI cC q n d lb xd xl x2 _ rfl) gX3_sameSubtrees_X3_depthOf rfl rfl rfl hdX3_depthOf ⟨Nat.le_of_ble_eq_true rfl, Nat.le_of_ble_eq_true rfl⟩ [0, 1, 2, 3, 4] rfl 0 rfl rfl rfl hl.1 rfl (Nat.le_of_ble_eq_true rfl) dX3_sameSubtrees_19 ⟨Nat.zero_le _, Nat.zero_le _⟩ ?_
    refine lv_aload_n hx hb dX3_sameSubtrees_22 rfl (lv_at hl 1 rfl) ?_
    refine lv_iload_n hx hb dX3_sameSubtrees_23 rfl (lv_at hl 2 rfl) ?_
    refine rcV (rest := [.int (mX3_depthOf n d x2)]) X hKK hP 1 (zX3_depthOf l D cI cC q n d lb xd xl x1 _ rfl) gX3_sameSubtrees_X3_depthOf rfl rfl rfl hdX3_depthOf ⟨Nat.le_of_ble_eq_true rfl, Nat.le_of_ble_eq_true rfl⟩ [0, 1, 2, 3, 4] rfl 0 rfl rfl rfl hl.1 rfl (Nat.le_of_ble_eq_true rfl) dX3_sameSubtrees_24 ⟨Nat.zero_le _, Nat.zero_le _⟩ ?_
    refine lv_isub hx hb dX3_sameSubtrees_27 ?_
    refine lv_istore (lv' := [(4, .int ((mX3_depthOf n d x2) - (mX3_depthOf n d x1))), (3, .int r1), (0, .ref (q 8)), (1, .int x1), (2, .int x2)]) hx hb dX3_sameSubtrees_28 hl (by decide) rfl (fun ls hl => ?_)
    refine lv_iconst (v := iI 0) hx hb dX3_sameSubtrees_30 rfl ?_
    refine lv_istore (lv' := [(5, .int (iI 0)), (4, .int ((mX3_depthOf n d x2) - (mX3_depthOf n d x1))), (3, .int r1), (0, .ref (q 8)), (1, .int x1), (2, .int x2)]) hx hb dX3_sameSubtrees_31 hl (by decide) rfl (fun ls hl => ?_)
    exact kX3_sameSubtrees_33 X hKK hP FU x1 x2 r1 ((mX3_depthOf n d x2) - (mX3_depthOf n d x1)) (iI 0) ls (lv_sub hl [3, 4, 5, 2, 1, 0] rfl) h
  · replace h := ifn c3 h
    refine lv_iconst (v := iI 0) hx hb dX3_sameSubtrees_15 rfl ?_
    exact rd_ret X rfl (Option.some.inj h) dX3_sameSubtrees_16
def mX3_countEqual_4 : Nat → Int32 → (Nat → Int32) → (Nat → Int32) → Int32 → Int32 → Int32 → Option (Int32)
  | 0, _, _, _, _, _, _ => none
  | f + 1, n, d, lb, x1, x2, x3 => (if n ≤ x3 then some x2 else ((mX3_sameSubtrees n d lb x1 x3).bind fun r2 => (if r2 = 0 then mX3_countEqual_4 f n d lb x1 x2 (x3 + iI 1) else mX3_countEqual_4 f n d lb x1 (x2 + iI 1) (x3 + iI 1))))
def mX3_countEqual (n : Int32) (d : Nat → Int32) (lb : Nat → Int32) (x1 : Int32) : Option (Int32) := mX3_countEqual_4 FU n d lb x1 (iI 0) (iI 0)
theorem hdX3_countEqual : yX3_countEqual.cls = RX3 ∧ yX3_countEqual.cls ≠ "java/lang/invoke/MethodHandle" ∧ yX3_countEqual.cls ≠ "java/lang/invoke/VarHandle" ∧ (parseMethodDescriptor yX3_countEqual.desc).map (fun d => d.parameters.length) = some 1 := by decide +kernel
theorem flX3_countEqual_28 : Cond.fieldLink RX3 28 "BracketTree$Tree" "count" "I" ∈ wsX3_countEqual := by decide +kernel
theorem iwX3_countEqual_3 : ∀ w ∈ wsX30, w ∈ wsX3_countEqual := by decide +kernel
abbrev rmX3_countEqual : Room := { frames := 5, cells := 0, slots := 0, locals := 111 }
set_option maxHeartbeats 4000000 in
set_option maxRecDepth 100000 in
theorem kX3_countEqual_4 {p : Program} {l : Launch} {e : Env} {s : State} {m : MethodId} {args : Array Value} {below : List Frame} {meth : Method} {c : Code} {D : va_G} {cI cC : ClassId} {q : Nat → Nat} {n : Int32} {d : Nat → Int32} {lb : Nat → Int32} {xd : Nat → Int32} {xl : Nat → Int32} {r : Int32} (X : CX p s m args meth c wsX3_countEqual cX3_countEqual 4 (some .int) RX3) (hKK : KK D cI cC s) (hP : va_P D vwCl (wT cI q n d lb xd xl) s.heap) : ∀ (f : Nat), ∀ (x1 : Int32) (x2 : Int32) (x3 : Int32) (ls : Array Slot), lv_has ls 4 [(0, .ref (q 8)), (1, .int x1), (2, .int x2), (3, .int x3)] → mX3_countEqual_4 f n d lb x1 x2 x3 = some r → W p l e rmX3_countEqual s m args below meth c s.heap [] 0 0 (MQ below (rdQ r) args s 0 0 (fun _ => False)) (F0 m 4 ls []) := by
  have hx := X.1
  have hb := X.2.1
  intro f
  induction f with
  | zero =>
    intro x1 x2 x3 ls hl h
    exact absurd h (by unfold mX3_countEqual_4; intro h; cases h)
  | succ f ih =>
    intro x1 x2 x3 ls hl h
    rw [mX3_countEqual_4] at h
    refine lv_iload_n hx hb dX3_countEqual_4 rfl (lv_at hl 3 rfl) ?_
    refine lv_aload_n hx hb dX3_countEqual_5 rfl (lv_at hl 0 rfl) ?_
    refine va_get (D := D) (ci := 3) (v := .int n) (C := RX3) (T := TX3) (N := 5) hx hb X.2.2.2.2.1 iwX3_countEqual_3 X.2.2.2.1 hKK.1 hP 0 rfl rfl 4 (by decide) (X.2.2.2.2.1 _ flX3_countEqual_28) (fun _ h9 => h9) rfl dX3_countEqual_6 ?_
    refine lv_icmp_ge (tgt := 30) hx hb dX3_countEqual_9 (by decide) (fun c1 => ?_) (fun c1 => ?_)
    · replace h := ifp c1 h
      refine lv_iload_n hx hb dX3_countEqual_30 rfl (lv_at hl 2 rfl) ?_
      exact rd_ret X rfl (Option.some.inj h) dX3_countEqual_31
    · replace h := ifn c1 h
      refine lv_aload_n hx hb dX3_countEqual_12 rfl (lv_at hl 0 rfl) ?_
      refine lv_iload_n hx hb dX3_countEqual_13 rfl (lv_at hl 1 rfl) ?_
      refine lv_iload_n hx hb dX3_countEqual_14 rfl (lv_at hl 3 rfl) ?_
      obtain ⟨r2, h_r2, h⟩ := obd h
      refine rcV (rest := []) X hKK hP 2 (zX3_sameSubtrees l D cI cC q n d lb xd xl x1 x3 r2 h_r2) gX3_countEqual_X3_sameSubtrees rfl rfl rfl hdX3_sameSubtrees ⟨Nat.le_of_ble_eq_true rfl, Nat.le_of_ble_eq_true rfl⟩ [0, 1, 2, 3, 4] rfl 0 rfl rfl rfl hl.1 rfl (Nat.le_of_ble_eq_true rfl) dX3_countEqual_15 ⟨Nat.zero_le _, Nat.zero_le _⟩ ?_
      refine lv_if_eq (tgt := 24) hx hb dX3_countEqual_18 (by decide) (fun c3 => ?_) (fun c3 => ?_)
      · replace h := ifp c3 h
        refine lv_iinc (v := (x3 + iI 1)) (lv' := [(3, .int (x3 + iI 1)), (0, .ref (q 8)), (1, .int x1), (2, .int x2)]) hx hb dX3_countEqual_24 hl (k := 3) rfl rfl (by decide) rfl (fun ls hl => ?_)
        refine lv_goto (tgt := 4) hx hb dX3_countEqual_27 (by decide) ?_
        exact ih x1 x2 (x3 + iI 1) ls (lv_sub hl [1, 2, 3, 0] rfl) h
      · replace h := ifn c3 h
        refine lv_iinc (v := (x2 + iI 1)) (lv' := [(2, .int (x2 + iI 1)), (0, .ref (q 8)), (1, .int x1), (3, .int x3)]) hx hb dX3_countEqual_21 hl (k := 2) rfl rfl (by decide) rfl (fun ls hl => ?_)
        refine lv_iinc (v := (x3 + iI 1)) (lv' := [(3, .int (x3 + iI 1)), (2, .int (x2 + iI 1)), (0, .ref (q 8)), (1, .int x1)]) hx hb dX3_countEqual_24 hl (k := 3) rfl rfl (by decide) rfl (fun ls hl => ?_)
        refine lv_goto (tgt := 4) hx hb dX3_countEqual_27 (by decide) ?_
        exact ih x1 (x2 + iI 1) (x3 + iI 1) ls (lv_sub hl [2, 3, 1, 0] rfl) h
set_option maxHeartbeats 4000000 in
set_option maxRecDepth 100000 in
theorem zX3_countEqual (l : Launch) (D : va_G) (cI cC : ClassId) (q : Nat → Nat) (n : Int32) (d : Nat → Int32) (lb : Nat → Int32) (xd : Nat → Int32) (xl : Nat → Int32) (x1 : Int32) (r : Int32) (h : mX3_countEqual n d lb x1 = some r) : Met l yX3_countEqual wsX3_countEqual rmX3_countEqual (va_Pc [.ref (q 8), .int x1] (BW D cI cC (wT cI q n d lb xd xl))) (rdQ r) 0 0 (fun _ => False) := by
  refine MetI RX3 (by decide +kernel) rfl rfl (Nat.le_of_ble_eq_true rfl) ?_
  intro p e s m below meth c ls X _ hB hl
  obtain ⟨hP, hKK⟩ := hB
  have hx := X.1
  have hb := X.2.1
  replace hl : lv_has ls 4 [(0, .ref (q 8)), (1, .int x1)] := hl
  unfold mX3_countEqual at h
  refine lv_iconst (v := iI 0) hx hb dX3_countEqual_0 rfl ?_
  refine lv_istore_n (lv' := [(2, .int (iI 0)), (0, .ref (q 8)), (1, .int x1)]) hx hb dX3_countEqual_1 rfl hl (by decide) rfl (fun ls hl => ?_)
  refine lv_iconst (v := iI 0) hx hb dX3_countEqual_2 rfl ?_
  refine lv_istore_n (lv' := [(3, .int (iI 0)), (2, .int (iI 0)), (0, .ref (q 8)), (1, .int x1)]) hx hb dX3_countEqual_3 rfl hl (by decide) rfl (fun ls hl => ?_)
  exact kX3_countEqual_4 X hKK hP FU x1 (iI 0) (iI 0) ls (lv_sub hl [2, 3, 1, 0] rfl) h
def mX3_signsBehind (n : Int32) (d : Nat → Int32) (x1 : Int32) : (Int32) := (if (mX3_isLeaf n d x1) = 0 then (iI 1) else ((mX3_depthOf n d x1) - (mX3_depthOf n d (x1 + (iI 1)))))
theorem hdX3_signsBehind : yX3_signsBehind.cls = RX3 ∧ yX3_signsBehind.cls ≠ "java/lang/invoke/MethodHandle" ∧ yX3_signsBehind.cls ≠ "java/lang/invoke/VarHandle" ∧ (parseMethodDescriptor yX3_signsBehind.desc).map (fun d => d.parameters.length) = some 1 := by decide +kernel
abbrev rmX3_signsBehind : Room := { frames := 3, cells := 0, slots := 0, locals := 63 }
set_option maxHeartbeats 4000000 in
set_option maxRecDepth 100000 in
theorem zX3_signsBehind (l : Launch) (D : va_G) (cI cC : ClassId) (q : Nat → Nat) (n : Int32) (d : Nat → Int32) (lb : Nat → Int32) (xd : Nat → Int32) (xl : Nat → Int32) (x1 : Int32) (r : Int32) (h : mX3_signsBehind n d x1 = r) : Met l yX3_signsBehind wsX3_signsBehind rmX3_signsBehind (va_Pc [.ref (q 8), .int x1] (BW D cI cC (wT cI q n d lb xd xl))) (rdQ r) 0 0 (fun _ => False) := by
  refine MetI RX3 (by decide +kernel) rfl rfl (Nat.le_of_ble_eq_true rfl) ?_
  intro p e s m below meth c ls X _ hB hl
  obtain ⟨hP, hKK⟩ := hB
  have hx := X.1
  have hb := X.2.1
  replace hl : lv_has ls 2 [(0, .ref (q 8)), (1, .int x1)] := hl
  unfold mX3_signsBehind at h
  refine lv_aload_n hx hb dX3_signsBehind_0 rfl (lv_at hl 0 rfl) ?_
  refine lv_iload_n hx hb dX3_signsBehind_1 rfl (lv_at hl 1 rfl) ?_
  refine rcV (rest := []) X hKK hP 1 (zX3_isLeaf l D cI cC q n d lb xd xl x1 _ rfl) gX3_signsBehind_X3_isLeaf rfl rfl rfl hdX3_isLeaf ⟨Nat.le_of_ble_eq_true rfl, Nat.le_of_ble_eq_true rfl⟩ [0, 1, 2, 3, 4] rfl 0 rfl rfl rfl hl.1 rfl (Nat.le_of_ble_eq_true rfl) dX3_signsBehind_2 ⟨Nat.zero_le _, Nat.zero_le _⟩ ?_
  refine lv_if_eq (tgt := 24) hx hb dX3_signsBehind_5 (by decide) (fun c1 => ?_) (fun c1 => ?_)
  · replace h := ifp c1 h
    refine lv_iconst (v := iI 1) hx hb dX3_signsBehind_24 rfl ?_
    exact rd_ret X rfl h dX3_signsBehind_25
  · replace h := ifn c1 h
    refine lv_aload_n hx hb dX3_signsBehind_8 rfl (lv_at hl 0 rfl) ?_
    refine lv_iload_n hx hb dX3_signsBehind_9 rfl (lv_at hl 1 rfl) ?_
    refine rcV (rest := []) X hKK hP 1 (zX3_depthOf l D cI cC q n d lb xd xl x1 _ rfl) gX3_signsBehind_X3_depthOf rfl rfl rfl hdX3_depthOf ⟨Nat.le_of_ble_eq_true rfl, Nat.le_of_ble_eq_true rfl⟩ [0, 1, 2, 3, 4] rfl 0 rfl rfl rfl hl.1 rfl (Nat.le_of_ble_eq_true rfl) dX3_signsBehind_10 ⟨Nat.zero_le _, Nat.zero_le _⟩ ?_
    refine lv_aload_n hx hb dX3_signsBehind_13 rfl (lv_at hl 0 rfl) ?_
    refine lv_iload_n hx hb dX3_signsBehind_14 rfl (lv_at hl 1 rfl) ?_
    refine lv_iconst (v := iI 1) hx hb dX3_signsBehind_15 rfl ?_
    refine lv_iadd hx hb dX3_signsBehind_16 ?_
    refine rcV (rest := [.int (mX3_depthOf n d x1)]) X hKK hP 1 (zX3_depthOf l D cI cC q n d lb xd xl (x1 + (iI 1)) _ rfl) gX3_signsBehind_X3_depthOf rfl rfl rfl hdX3_depthOf ⟨Nat.le_of_ble_eq_true rfl, Nat.le_of_ble_eq_true rfl⟩ [0, 1, 2, 3, 4] rfl 0 rfl rfl rfl hl.1 rfl (Nat.le_of_ble_eq_true rfl) dX3_signsBehind_17 ⟨Nat.zero_le _, Nat.zero_le _⟩ ?_
    refine lv_isub hx hb dX3_signsBehind_20 ?_
    refine lv_goto (tgt := 25) hx hb dX3_signsBehind_21 (by decide) ?_
    exact rd_ret X rfl h dX3_signsBehind_25
def mX3_writtenLength_4 : Nat → Int32 → (Nat → Int32) → Int32 → Int32 → Option (Int32)
  | 0, _, _, _, _ => none
  | f + 1, n, d, x1, x2 => (if n ≤ x2 then some x1 else mX3_writtenLength_4 f n d (x1 + ((iI 1) + (mX3_signsBehind n d x2))) (x2 + iI 1))
def mX3_writtenLength (n : Int32) (d : Nat → Int32)  : Option (Int32) := mX3_writtenLength_4 FU n d (iI 0) (iI 0)
theorem hdX3_writtenLength : yX3_writtenLength.cls = RX3 ∧ yX3_writtenLength.cls ≠ "java/lang/invoke/MethodHandle" ∧ yX3_writtenLength.cls ≠ "java/lang/invoke/VarHandle" ∧ (parseMethodDescriptor yX3_writtenLength.desc).map (fun d => d.parameters.length) = some 0 := by decide +kernel
theorem flX3_writtenLength_28 : Cond.fieldLink RX3 28 "BracketTree$Tree" "count" "I" ∈ wsX3_writtenLength := by decide +kernel
theorem iwX3_writtenLength_3 : ∀ w ∈ wsX30, w ∈ wsX3_writtenLength := by decide +kernel
abbrev rmX3_writtenLength : Room := { frames := 4, cells := 0, slots := 0, locals := 84 }
set_option maxHeartbeats 4000000 in
set_option maxRecDepth 100000 in
theorem kX3_writtenLength_4 {p : Program} {l : Launch} {e : Env} {s : State} {m : MethodId} {args : Array Value} {below : List Frame} {meth : Method} {c : Code} {D : va_G} {cI cC : ClassId} {q : Nat → Nat} {n : Int32} {d : Nat → Int32} {lb : Nat → Int32} {xd : Nat → Int32} {xl : Nat → Int32} {r : Int32} (X : CX p s m args meth c wsX3_writtenLength cX3_writtenLength 3 (some .int) RX3) (hKK : KK D cI cC s) (hP : va_P D vwCl (wT cI q n d lb xd xl) s.heap) : ∀ (f : Nat), ∀ (x1 : Int32) (x2 : Int32) (ls : Array Slot), lv_has ls 3 [(0, .ref (q 8)), (1, .int x1), (2, .int x2)] → mX3_writtenLength_4 f n d x1 x2 = some r → W p l e rmX3_writtenLength s m args below meth c s.heap [] 0 0 (MQ below (rdQ r) args s 0 0 (fun _ => False)) (F0 m 4 ls []) := by
  have hx := X.1
  have hb := X.2.1
  intro f
  induction f with
  | zero =>
    intro x1 x2 ls hl h
    exact absurd h (by unfold mX3_writtenLength_4; intro h; cases h)
  | succ f ih =>
    intro x1 x2 ls hl h
    rw [mX3_writtenLength_4] at h
    refine lv_iload_n hx hb dX3_writtenLength_4 rfl (lv_at hl 2 rfl) ?_
    refine lv_aload_n hx hb dX3_writtenLength_5 rfl (lv_at hl 0 rfl) ?_
    refine va_get (D := D) (ci := 3) (v := .int n) (C := RX3) (T := TX3) (N := 5) hx hb X.2.2.2.2.1 iwX3_writtenLength_3 X.2.2.2.1 hKK.1 hP 0 rfl rfl 4 (by decide) (X.2.2.2.2.1 _ flX3_writtenLength_28) (fun _ h9 => h9) rfl dX3_writtenLength_6 ?_
    refine lv_icmp_ge (tgt := 28) hx hb dX3_writtenLength_9 (by decide) (fun c1 => ?_) (fun c1 => ?_)
    · replace h := ifp c1 h
      refine lv_iload_n hx hb dX3_writtenLength_28 rfl (lv_at hl 1 rfl) ?_
      exact rd_ret X rfl (Option.some.inj h) dX3_writtenLength_29
    · replace h := ifn c1 h
      refine lv_iload_n hx hb dX3_writtenLength_12 rfl (lv_at hl 1 rfl) ?_
      refine lv_iconst (v := iI 1) hx hb dX3_writtenLength_13 rfl ?_
      refine lv_aload_n hx hb dX3_writtenLength_14 rfl (lv_at hl 0 rfl) ?_
      refine lv_iload_n hx hb dX3_writtenLength_15 rfl (lv_at hl 2 rfl) ?_
      refine rcV (rest := [.int (iI 1), .int x1]) X hKK hP 1 (zX3_signsBehind l D cI cC q n d lb xd xl x2 _ rfl) gX3_writtenLength_X3_signsBehind rfl rfl rfl hdX3_signsBehind ⟨Nat.le_of_ble_eq_true rfl, Nat.le_of_ble_eq_true rfl⟩ [0, 1, 2, 3, 4] rfl 0 rfl rfl rfl hl.1 rfl (Nat.le_of_ble_eq_true rfl) dX3_writtenLength_16 ⟨Nat.zero_le _, Nat.zero_le _⟩ ?_
      refine lv_iadd hx hb dX3_writtenLength_19 ?_
      refine lv_iadd hx hb dX3_writtenLength_20 ?_
      refine lv_istore_n (lv' := [(1, .int (x1 + ((iI 1) + (mX3_signsBehind n d x2)))), (0, .ref (q 8)), (2, .int x2)]) hx hb dX3_writtenLength_21 rfl hl (by decide) rfl (fun ls hl => ?_)
      refine lv_iinc (v := (x2 + iI 1)) (lv' := [(2, .int (x2 + iI 1)), (1, .int (x1 + ((iI 1) + (mX3_signsBehind n d x2)))), (0, .ref (q 8))]) hx hb dX3_writtenLength_22 hl (k := 2) rfl rfl (by decide) rfl (fun ls hl => ?_)
      refine lv_goto (tgt := 4) hx hb dX3_writtenLength_25 (by decide) ?_
      exact ih (x1 + ((iI 1) + (mX3_signsBehind n d x2))) (x2 + iI 1) ls (lv_sub hl [2, 1, 0] rfl) h
set_option maxHeartbeats 4000000 in
set_option maxRecDepth 100000 in
theorem zX3_writtenLength (l : Launch) (D : va_G) (cI cC : ClassId) (q : Nat → Nat) (n : Int32) (d : Nat → Int32) (lb : Nat → Int32) (xd : Nat → Int32) (xl : Nat → Int32)  (r : Int32) (h : mX3_writtenLength n d = some r) : Met l yX3_writtenLength wsX3_writtenLength rmX3_writtenLength (va_Pc [.ref (q 8)] (BW D cI cC (wT cI q n d lb xd xl))) (rdQ r) 0 0 (fun _ => False) := by
  refine MetI RX3 (by decide +kernel) rfl rfl (Nat.le_of_ble_eq_true rfl) ?_
  intro p e s m below meth c ls X _ hB hl
  obtain ⟨hP, hKK⟩ := hB
  have hx := X.1
  have hb := X.2.1
  replace hl : lv_has ls 3 [(0, .ref (q 8))] := hl
  unfold mX3_writtenLength at h
  refine lv_iconst (v := iI 0) hx hb dX3_writtenLength_0 rfl ?_
  refine lv_istore_n (lv' := [(1, .int (iI 0)), (0, .ref (q 8))]) hx hb dX3_writtenLength_1 rfl hl (by decide) rfl (fun ls hl => ?_)
  refine lv_iconst (v := iI 0) hx hb dX3_writtenLength_2 rfl ?_
  refine lv_istore_n (lv' := [(2, .int (iI 0)), (1, .int (iI 0)), (0, .ref (q 8))]) hx hb dX3_writtenLength_3 rfl hl (by decide) rfl (fun ls hl => ?_)
  exact kX3_writtenLength_4 X hKK hP FU (iI 0) (iI 0) ls (lv_sub hl [2, 1, 0] rfl) h
def mX3_writtenAt_4 : Nat → Int32 → (Nat → Int32) → (Nat → Int32) → Int32 → Int32 → Int32 → Option (Int32)
  | 0, _, _, _, _, _, _ => none
  | f + 1, n, d, lb, x1, x2, x3 => (if n ≤ x3 then some (iI (-5)) else (if x1 = x2 then some (mX3_labelOf lb x3) else (if ((x2 + (iI 1)) + (mX3_signsBehind n d x3)) ≤ x1 then mX3_writtenAt_4 f n d lb x1 ((x2 + (iI 1)) + (mX3_signsBehind n d x3)) (x3 + iI 1) else (if (mX3_isLeaf n d x3) = 0 then some (iI 40) else some (iI 41)))))
def mX3_writtenAt (n : Int32) (d : Nat → Int32) (lb : Nat → Int32) (x1 : Int32) : Option (Int32) := mX3_writtenAt_4 FU n d lb x1 (iI 0) (iI 0)
theorem hdX3_writtenAt : yX3_writtenAt.cls = RX3 ∧ yX3_writtenAt.cls ≠ "java/lang/invoke/MethodHandle" ∧ yX3_writtenAt.cls ≠ "java/lang/invoke/VarHandle" ∧ (parseMethodDescriptor yX3_writtenAt.desc).map (fun d => d.parameters.length) = some 1 := by decide +kernel
theorem flX3_writtenAt_28 : Cond.fieldLink RX3 28 "BracketTree$Tree" "count" "I" ∈ wsX3_writtenAt := by decide +kernel
theorem iwX3_writtenAt_3 : ∀ w ∈ wsX30, w ∈ wsX3_writtenAt := by decide +kernel
abbrev rmX3_writtenAt : Room := { frames := 4, cells := 0, slots := 0, locals := 84 }
set_option maxHeartbeats 4000000 in
set_option maxRecDepth 100000 in
theorem kX3_writtenAt_4 {p : Program} {l : Launch} {e : Env} {s : State} {m : MethodId} {args : Array Value} {below : List Frame} {meth : Method} {c : Code} {D : va_G} {cI cC : ClassId} {q : Nat → Nat} {n : Int32} {d : Nat → Int32} {lb : Nat → Int32} {xd : Nat → Int32} {xl : Nat → Int32} {r : Int32} (X : CX p s m args meth c wsX3_writtenAt cX3_writtenAt 5 (some .int) RX3) (hKK : KK D cI cC s) (hP : va_P D vwCl (wT cI q n d lb xd xl) s.heap) : ∀ (f : Nat), ∀ (x1 : Int32) (x2 : Int32) (x3 : Int32) (ls : Array Slot), lv_has ls 5 [(0, .ref (q 8)), (1, .int x1), (2, .int x2), (3, .int x3)] → mX3_writtenAt_4 f n d lb x1 x2 x3 = some r → W p l e rmX3_writtenAt s m args below meth c s.heap [] 0 0 (MQ below (rdQ r) args s 0 0 (fun _ => False)) (F0 m 4 ls []) := by
  have hx := X.1
  have hb := X.2.1
  intro f
  induction f with
  | zero =>
    intro x1 x2 x3 ls hl h
    exact absurd h (by unfold mX3_writtenAt_4; intro h; cases h)
  | succ f ih =>
    intro x1 x2 x3 ls hl h
    rw [mX3_writtenAt_4] at h
    refine lv_iload_n hx hb dX3_writtenAt_4 rfl (lv_at hl 3 rfl) ?_
    refine lv_aload_n hx hb dX3_writtenAt_5 rfl (lv_at hl 0 rfl) ?_
    refine va_get (D := D) (ci := 3) (v := .int n) (C := RX3) (T := TX3) (N := 5) hx hb X.2.2.2.2.1 iwX3_writtenAt_3 X.2.2.2.1 hKK.1 hP 0 rfl rfl 4 (by decide) (X.2.2.2.2.1 _ flX3_writtenAt_28) (fun _ h9 => h9) rfl dX3_writtenAt_6 ?_
    refine lv_icmp_ge (tgt := 65) hx hb dX3_writtenAt_9 (by decide) (fun c1 => ?_) (fun c1 => ?_)
    · replace h := ifp c1 h
      refine lv_bipush (v := iI (-5)) hx hb dX3_writtenAt_65 (by decide) ?_
      exact rd_ret X rfl (Option.some.inj h) dX3_writtenAt_67
    · replace h := ifn c1 h
      refine lv_iload_n hx hb dX3_writtenAt_12 rfl (lv_at hl 2 rfl) ?_
      refine lv_iconst (v := iI 1) hx hb dX3_writtenAt_13 rfl ?_
      refine lv_iadd hx hb dX3_writtenAt_14 ?_
      refine lv_aload_n hx hb dX3_writtenAt_15 rfl (lv_at hl 0 rfl) ?_
      refine lv_iload_n hx hb dX3_writtenAt_16 rfl (lv_at hl 3 rfl) ?_
      refine rcV (rest := [.int (x2 + (iI 1))]) X hKK hP 1 (zX3_signsBehind l D cI cC q n d lb xd xl x3 _ rfl) gX3_writtenAt_X3_signsBehind rfl rfl rfl hdX3_signsBehind ⟨Nat.le_of_ble_eq_true rfl, Nat.le_of_ble_eq_true rfl⟩ [0, 1, 2, 3, 4] rfl 0 rfl rfl rfl hl.1 rfl (Nat.le_of_ble_eq_true rfl) dX3_writtenAt_17 ⟨Nat.zero_le _, Nat.zero_le _⟩ ?_
      refine lv_iadd hx hb dX3_writtenAt_20 ?_
      refine lv_istore (lv' := [(4, .int ((x2 + (iI 1)) + (mX3_signsBehind n d x3))), (0, .ref (q 8)), (1, .int x1), (2, .int x2), (3, .int x3)]) hx hb dX3_writtenAt_21 hl (by decide) rfl (fun ls hl => ?_)
      refine lv_iload_n hx hb dX3_writtenAt_23 rfl (lv_at hl 2 rfl) ?_
      refine lv_iload_n hx hb dX3_writtenAt_24 rfl (lv_at hl 3 rfl) ?_
      refine lv_icmp_ne (tgt := 34) hx hb dX3_writtenAt_25 (by decide) (fun c2 => ?_) (fun c2 => ?_)
      · replace h := ifn c2 h
        refine lv_iload_n hx hb dX3_writtenAt_34 rfl (lv_at hl 2 rfl) ?_
        refine lv_iload hx hb dX3_writtenAt_35 (lv_at hl 0 rfl) ?_
        refine lv_icmp_ge (tgt := 56) hx hb dX3_writtenAt_37 (by decide) (fun c3 => ?_) (fun c3 => ?_)
        · replace h := ifp c3 h
          refine lv_iload hx hb dX3_writtenAt_56 (lv_at hl 0 rfl) ?_
          refine lv_istore_n (lv' := [(2, .int ((x2 + (iI 1)) + (mX3_signsBehind n d x3))), (4, .int ((x2 + (iI 1)) + (mX3_signsBehind n d x3))), (0, .ref (q 8)), (1, .int x1), (3, .int x3)]) hx hb dX3_writtenAt_58 rfl hl (by decide) rfl (fun ls hl => ?_)
          refine lv_iinc (v := (x3 + iI 1)) (lv' := [(3, .int (x3 + iI 1)), (2, .int ((x2 + (iI 1)) + (mX3_signsBehind n d x3))), (4, .int ((x2 + (iI 1)) + (mX3_signsBehind n d x3))), (0, .ref (q 8)), (1, .int x1)]) hx hb dX3_writtenAt_59 hl (k := 4) rfl rfl (by decide) rfl (fun ls hl => ?_)
          refine lv_goto (tgt := 4) hx hb dX3_writtenAt_62 (by decide) ?_
          exact ih x1 ((x2 + (iI 1)) + (mX3_signsBehind n d x3)) (x3 + iI 1) ls (lv_sub hl [3, 4, 1, 0] rfl) h
        · replace h := ifn c3 h
          refine lv_aload_n hx hb dX3_writtenAt_40 rfl (lv_at hl 1 rfl) ?_
          refine lv_iload_n hx hb dX3_writtenAt_41 rfl (lv_at hl 4 rfl) ?_
          refine rcV (rest := []) X hKK hP 1 (zX3_isLeaf l D cI cC q n d lb xd xl x3 _ rfl) gX3_writtenAt_X3_isLeaf rfl rfl rfl hdX3_isLeaf ⟨Nat.le_of_ble_eq_true rfl, Nat.le_of_ble_eq_true rfl⟩ [0, 1, 2, 3, 4] rfl 0 rfl rfl rfl hl.1 rfl (Nat.le_of_ble_eq_true rfl) dX3_writtenAt_42 ⟨Nat.zero_le _, Nat.zero_le _⟩ ?_
          refine lv_if_eq (tgt := 53) hx hb dX3_writtenAt_45 (by decide) (fun c4 => ?_) (fun c4 => ?_)
          · replace h := ifp c4 h
            refine lv_bipush (v := iI 40) hx hb dX3_writtenAt_53 (by decide) ?_
            exact rd_ret X rfl (Option.some.inj h) dX3_writtenAt_55
          · replace h := ifn c4 h
            refine lv_bipush (v := iI 41) hx hb dX3_writtenAt_48 (by decide) ?_
            refine lv_goto (tgt := 55) hx hb dX3_writtenAt_50 (by decide) ?_
            exact rd_ret X rfl (Option.some.inj h) dX3_writtenAt_55
      · replace h := ifp c2 h
        refine lv_aload_n hx hb dX3_writtenAt_28 rfl (lv_at hl 1 rfl) ?_
        refine lv_iload_n hx hb dX3_writtenAt_29 rfl (lv_at hl 4 rfl) ?_
        refine rcV (rest := []) X hKK hP 1 (zX3_labelOf l D cI cC q n d lb xd xl x3 _ rfl) gX3_writtenAt_X3_labelOf rfl rfl rfl hdX3_labelOf ⟨Nat.le_of_ble_eq_true rfl, Nat.le_of_ble_eq_true rfl⟩ [0, 1, 2, 3, 4] rfl 0 rfl rfl rfl hl.1 rfl (Nat.le_of_ble_eq_true rfl) dX3_writtenAt_30 ⟨Nat.zero_le _, Nat.zero_le _⟩ ?_
        exact rd_ret X rfl (Option.some.inj h) dX3_writtenAt_33
set_option maxHeartbeats 4000000 in
set_option maxRecDepth 100000 in
theorem zX3_writtenAt (l : Launch) (D : va_G) (cI cC : ClassId) (q : Nat → Nat) (n : Int32) (d : Nat → Int32) (lb : Nat → Int32) (xd : Nat → Int32) (xl : Nat → Int32) (x1 : Int32) (r : Int32) (h : mX3_writtenAt n d lb x1 = some r) : Met l yX3_writtenAt wsX3_writtenAt rmX3_writtenAt (va_Pc [.ref (q 8), .int x1] (BW D cI cC (wT cI q n d lb xd xl))) (rdQ r) 0 0 (fun _ => False) := by
  refine MetI RX3 (by decide +kernel) rfl rfl (Nat.le_of_ble_eq_true rfl) ?_
  intro p e s m below meth c ls X _ hB hl
  obtain ⟨hP, hKK⟩ := hB
  have hx := X.1
  have hb := X.2.1
  replace hl : lv_has ls 5 [(0, .ref (q 8)), (1, .int x1)] := hl
  unfold mX3_writtenAt at h
  refine lv_iconst (v := iI 0) hx hb dX3_writtenAt_0 rfl ?_
  refine lv_istore_n (lv' := [(2, .int (iI 0)), (0, .ref (q 8)), (1, .int x1)]) hx hb dX3_writtenAt_1 rfl hl (by decide) rfl (fun ls hl => ?_)
  refine lv_iconst (v := iI 0) hx hb dX3_writtenAt_2 rfl ?_
  refine lv_istore_n (lv' := [(3, .int (iI 0)), (2, .int (iI 0)), (0, .ref (q 8)), (1, .int x1)]) hx hb dX3_writtenAt_3 rfl hl (by decide) rfl (fun ls hl => ?_)
  exact kX3_writtenAt_4 X hKK hP FU x1 (iI 0) (iI 0) ls (lv_sub hl [2, 3, 1, 0] rfl) h
