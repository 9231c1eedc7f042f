def mX3_putNode (d : Nat → Int32) (lb : Nat → Int32) (x1 : Int32) (x2 : Int32) (x3 : Int32) : ((Nat → Int32) × (Nat → Int32)) := ((mX4_put 100 d x1 x2), (mX4_put 100 lb x1 x3))
theorem hdX3_putNode : yX3_putNode.cls = RX3 ∧ yX3_putNode.cls ≠ "java/lang/invoke/MethodHandle" ∧ yX3_putNode.cls ≠ "java/lang/invoke/VarHandle" ∧ (parseMethodDescriptor yX3_putNode.desc).map (fun d => d.parameters.length) = some 3 := by decide +kernel
theorem flX3_putNode_9 : Cond.fieldLink RX3 9 "BracketTree$Tree" "depths" "[I" ∈ wsX3_putNode := by decide +kernel
theorem iwX3_putNode_3 : ∀ w ∈ wsX30, w ∈ wsX3_putNode := by decide +kernel
theorem niX3_putNode_X4_put : Cond.initialized RX4 ∈ wsX3_putNode := by decide +kernel
theorem nsX3_putNode_X4_put : Cond.static yX4_put ∈ wsX3_putNode := by decide +kernel
theorem nlX3_putNode_X4_put : Cond.methodLinkNest RX3 24 yX4_put "BracketTree" ∈ nestL := by decide +kernel
theorem flX3_putNode_15 : Cond.fieldLink RX3 15 "BracketTree$Tree" "labels" "[I" ∈ wsX3_putNode := by decide +kernel
abbrev rmX3_putNode : Room := { frames := 1, cells := 0, slots := 0, locals := 22 }
set_option maxHeartbeats 4000000 in
set_option maxRecDepth 100000 in
theorem zX3_putNode (l : Launch) (D : va_G) (cI cC : ClassId) (q : Nat → Nat) (sz : Nat) (n : Int32) (d : Nat → Int32) (lb : Nat → Int32) (xd : Nat → Int32) (xl : Nat → Int32) (x1 : Int32) (x2 : Int32) (x3 : Int32) (r : (Nat → Int32) × (Nat → Int32)) (h : mX3_putNode d lb x1 x2 x3 = r) : Met l yX3_putNode wsX3_putNode rmX3_putNode (va_Pc [.ref (q 8), .int x1, .int x2, .int x3] (MB D cI cC sz (wT cI q n d lb xd xl))) (muQ D none (wT cI q n r.1 r.2 xd xl) (va_A (wT cI q n d lb xd xl) sz)) 0 0 (va_A (wT cI q n d lb xd xl) sz) := by
  refine MetI RX3 (by decide +kernel) rfl rfl (Nat.le_of_ble_eq_true rfl) ?_
  intro p e s m below meth c ls X _ hB hl
  obtain ⟨hsz, ⟨hP, hKK⟩, hD0⟩ := hB
  subst hsz
  have hD := hD0.self (sz := s.heap.size)
  generalize hAe : va_A (wT cI q n d lb xd xl) s.heap.size = A at hD ⊢
  have hA : ∀ z : Nat, s.heap.size ≤ z → A z := fun z hz => by rw [← hAe]; exact Or.inr hz
  have hS : va_S A s.heap s.heap [] := va_S.rf
  have hx := X.1
  have hb := X.2.1
  replace hl : lv_has ls 4 [(0, .ref (q 8)), (1, .int x1), (2, .int x2), (3, .int x3)] := hl
  replace hP : va_P D vwCl (wT cI q n d lb xd xl) s.heap := hP
  unfold mX3_putNode at h
  refine lv_aload_n hx hb dX3_putNode_0 rfl (lv_at hl 0 rfl) ?_
  refine va_get (D := D) (ci := 3) (v := .ref (q 9)) (C := RX3) (T := TX3) (N := 5) hx hb X.2.2.2.2.1 iwX3_putNode_3 X.2.2.2.1 hKK.1 hP 0 rfl rfl 0 (by decide) (X.2.2.2.2.1 _ flX3_putNode_9) (fun _ h9 => h9) rfl dX3_putNode_1 ?_
  refine lv_iload_n hx hb dX3_putNode_4 rfl (lv_at hl 1 rfl) ?_
  refine lv_iload_n hx hb dX3_putNode_5 rfl (lv_at hl 2 rfl) ?_
  refine mcSN (rest := []) (wld2 := (wT cI q n (mX4_put 100 d x1 x2) lb xd xl)) (wr := pickAt [0, 2, 3, 4] (wT cI q n d lb xd xl)) X hKK hP hD hS hA 3 (zX4_put l D cI cC (q 9) 100 d x1 x2 _) gX3_putNode_X4_put_n24 rfl rfl rfl nlX3_putNode_X4_put (X.2.2.2.2.1 _ niX3_putNode_X4_put) (X.2.2.2.2.1 _ nsX3_putNode_X4_put) hdX4_put ⟨Nat.le_of_ble_eq_true rfl, Nat.le_of_ble_eq_true rfl⟩ [1] [0, 2, 3, 4] rfl rfl rfl rfl rfl (by decide) rfl [0, 4, 1, 2, 3] rfl rfl rfl rfl hl.1 rfl (Nat.le_of_ble_eq_true rfl) dX3_putNode_6 ⟨Nat.zero_le _, Nat.zero_le _⟩ (fun H locs hP hD hS => ?_)
  refine lv_aload_n hx hb dX3_putNode_9 rfl (lv_at hl 0 rfl) ?_
  refine va_get (D := D) (ci := 3) (v := .ref (q 10)) (C := RX3) (T := TX3) (N := 5) hx hb X.2.2.2.2.1 iwX3_putNode_3 X.2.2.2.1 hKK.1 hP 0 rfl rfl 1 (by decide) (X.2.2.2.2.1 _ flX3_putNode_15) (fun _ h9 => h9) rfl dX3_putNode_10 ?_
  refine lv_iload_n hx hb dX3_putNode_13 rfl (lv_at hl 1 rfl) ?_
  refine lv_iload_n hx hb dX3_putNode_14 rfl (lv_at hl 3 rfl) ?_
  refine mcSN (rest := []) (wld2 := (wT cI q n (mX4_put 100 d x1 x2) (mX4_put 100 lb x1 x3) xd xl)) (wr := pickAt [0, 1, 3, 4] (wT cI q n (mX4_put 100 d x1 x2) lb xd xl)) X hKK hP hD hS hA 3 (zX4_put l D cI cC (q 10) 100 lb x1 x3 _) gX3_putNode_X4_put_n24 rfl rfl rfl nlX3_putNode_X4_put (X.2.2.2.2.1 _ niX3_putNode_X4_put) (X.2.2.2.2.1 _ nsX3_putNode_X4_put) hdX4_put ⟨Nat.le_of_ble_eq_true rfl, Nat.le_of_ble_eq_true rfl⟩ [2] [0, 1, 3, 4] rfl rfl rfl rfl rfl (by decide) rfl [0, 1, 4, 2, 3] rfl rfl rfl rfl hl.1 rfl (Nat.le_of_ble_eq_true rfl) dX3_putNode_15 ⟨Nat.zero_le _, Nat.zero_le _⟩ (fun H locs hP hD hS => ?_)
  subst h
  exact mu_vret X hP rfl hS dX3_putNode_18
def mX3_append (n : Int32) (d : Nat → Int32) (lb : Nat → Int32) (x1 : Int32) (x2 : Int32) : (Int32 × (Nat → Int32) × (Nat → Int32)) := (if (iI 100) ≤ n then (n, d, lb) else ((n + (iI 1)), (mX3_putNode d lb n x1 x2).1, (mX3_putNode d lb n x1 x2).2))
theorem hdX3_append : yX3_append.cls = RX3 ∧ yX3_append.cls ≠ "java/lang/invoke/MethodHandle" ∧ yX3_append.cls ≠ "java/lang/invoke/VarHandle" ∧ (parseMethodDescriptor yX3_append.desc).map (fun d => d.parameters.length) = some 2 := by decide +kernel
theorem flX3_append_28 : Cond.fieldLink RX3 28 "BracketTree$Tree" "count" "I" ∈ wsX3_append := by decide +kernel
theorem iwX3_append_3 : ∀ w ∈ wsX30, w ∈ wsX3_append := by decide +kernel
abbrev rmX3_append : Room := { frames := 2, cells := 0, slots := 0, locals := 45 }
set_option maxHeartbeats 4000000 in
set_option maxRecDepth 100000 in
theorem zX3_append (l : Launch) (D : va_G) (cI cC : ClassId) (q : Nat → Nat) (sz : Nat) (n : Int32) (d : Nat → Int32) (lb : Nat → Int32) (xd : Nat → Int32) (xl : Nat → Int32) (x1 : Int32) (x2 : Int32) (r : Int32 × (Nat → Int32) × (Nat → Int32)) (h : mX3_append n d lb x1 x2 = r) : Met l yX3_append wsX3_append rmX3_append (va_Pc [.ref (q 8), .int x1, .int x2] (MB D cI cC sz (wT cI q n d lb xd xl))) (muQ D none (wT cI q r.1 r.2.1 r.2.2 xd xl) (va_A (wT cI q n d lb xd xl) sz)) 0 0 (va_A (wT cI q n d lb xd xl) sz) := by
  refine MetI RX3 (by decide +kernel) rfl rfl (Nat.le_of_ble_eq_true rfl) ?_
  intro p e s m below meth c ls X _ hB hl
  obtain ⟨hsz, ⟨hP, hKK⟩, hD0⟩ := hB
  subst hsz
  have hD := hD0.self (sz := s.heap.size)
  generalize hAe : va_A (wT cI q n d lb xd xl) s.heap.size = A at hD ⊢
  have hA : ∀ z : Nat, s.heap.size ≤ z → A z := fun z hz => by rw [← hAe]; exact Or.inr hz
  have hS : va_S A s.heap s.heap [] := va_S.rf
  have hx := X.1
  have hb := X.2.1
  replace hl : lv_has ls 3 [(0, .ref (q 8)), (1, .int x1), (2, .int x2)] := hl
  replace hP : va_P D vwCl (wT cI q n d lb xd xl) s.heap := hP
  unfold mX3_append at h
  refine lv_aload_n hx hb dX3_append_0 rfl (lv_at hl 0 rfl) ?_
  refine va_get (D := D) (ci := 3) (v := .int n) (C := RX3) (T := TX3) (N := 5) hx hb X.2.2.2.2.1 iwX3_append_3 X.2.2.2.1 hKK.1 hP 0 rfl rfl 4 (by decide) (X.2.2.2.2.1 _ flX3_append_28) (fun _ h9 => h9) rfl dX3_append_1 ?_
  refine lv_bipush (v := iI 100) hx hb dX3_append_4 (by decide) ?_
  refine lv_icmp_ge (tgt := 29) hx hb dX3_append_6 (by decide) (fun c1 => ?_) (fun c1 => ?_)
  · replace h := ifp c1 h
    subst h
    exact mu_vret X hP rfl hS dX3_append_29
  · replace h := ifn c1 h
    refine lv_aload_n hx hb dX3_append_9 rfl (lv_at hl 0 rfl) ?_
    refine lv_aload_n hx hb dX3_append_10 rfl (lv_at hl 0 rfl) ?_
    refine va_get (D := D) (ci := 3) (v := .int n) (C := RX3) (T := TX3) (N := 5) hx hb X.2.2.2.2.1 iwX3_append_3 X.2.2.2.1 hKK.1 hP 0 rfl rfl 4 (by decide) (X.2.2.2.2.1 _ flX3_append_28) (fun _ h9 => h9) rfl dX3_append_11 ?_
    refine lv_iload_n hx hb dX3_append_14 rfl (lv_at hl 1 rfl) ?_
    refine lv_iload_n hx hb dX3_append_15 rfl (lv_at hl 2 rfl) ?_
    refine mcV (rest := []) (wld2 := (wT cI q n (mX3_putNode d lb n x1 x2).1 (mX3_putNode d lb n x1 x2).2 xd xl)) (wr := pickAt [] (wT cI q n d lb xd xl)) X hKK hP hD hS hA 3 (zX3_putNode l D cI cC q _ n d lb xd xl n x1 x2 _ rfl) gX3_append_X3_putNode rfl rfl rfl hdX3_putNode ⟨Nat.le_of_ble_eq_true rfl, Nat.le_of_ble_eq_true rfl⟩ [0, 1, 2, 3, 4] [] rfl rfl rfl rfl rfl (by decide) rfl [0, 1, 2, 3, 4] rfl rfl rfl 0 rfl rfl rfl hl.1 rfl (Nat.le_of_ble_eq_true rfl) dX3_append_16 ⟨Nat.zero_le _, Nat.zero_le _⟩ (fun H locs hP hD hS => ?_)
    refine lv_aload_n hx hb dX3_append_19 rfl (lv_at hl 0 rfl) ?_
    refine lv_dup hx hb dX3_append_20 rfl ?_
    refine va_get (D := D) (ci := 3) (v := .int n) (C := RX3) (T := TX3) (N := 5) hx hb X.2.2.2.2.1 iwX3_append_3 X.2.2.2.1 hKK.1 hP 0 rfl rfl 4 (by decide) (X.2.2.2.2.1 _ flX3_append_28) (fun _ h9 => h9) rfl dX3_append_21 ?_
    refine lv_iconst (v := iI 1) hx hb dX3_append_24 rfl ?_
    refine lv_iadd hx hb dX3_append_25 ?_
    refine va_put (D := D) (ci := 3) (v := .int (n + (iI 1))) (ty := .int) (C := RX3) (T := TX3) (N := 5) hx hb X.2.2.2.2.1 iwX3_append_3 tyX3 tyX3_ok nmX3 X.2.2.2.1 hKK.1 hP hD hS 0 rfl rfl 4 (by decide) (X.2.2.2.2.1 _ flX3_append_28) (fun _ h9 => h9) rfl (by decide +kernel) rfl rfl (Nat.le_of_ble_eq_true rfl) dX3_append_26 (fun H locs hP hD hS => ?_)
    replace hP : va_P D vwCl (wT cI q (n + (iI 1)) (mX3_putNode d lb n x1 x2).1 (mX3_putNode d lb n x1 x2).2 xd xl) H := hP
    replace hD : va_D A (wT cI q (n + (iI 1)) (mX3_putNode d lb n x1 x2).1 (mX3_putNode d lb n x1 x2).2 xd xl) := hD
    subst h
    exact mu_vret X hP rfl hS dX3_append_29
def mX3_empty (n : Int32)  : (Int32) := (iI 0)
theorem hdX3_empty : yX3_empty.cls = RX3 ∧ yX3_empty.cls ≠ "java/lang/invoke/MethodHandle" ∧ yX3_empty.cls ≠ "java/lang/invoke/VarHandle" ∧ (parseMethodDescriptor yX3_empty.desc).map (fun d => d.parameters.length) = some 0 := by decide +kernel
theorem flX3_empty_28 : Cond.fieldLink RX3 28 "BracketTree$Tree" "count" "I" ∈ wsX3_empty := by decide +kernel
theorem iwX3_empty_3 : ∀ w ∈ wsX30, w ∈ wsX3_empty := by decide +kernel
abbrev rmX3_empty : Room := { frames := 0, cells := 0, slots := 0, locals := 0 }
set_option maxHeartbeats 4000000 in
set_option maxRecDepth 100000 in
theorem zX3_empty (l : Launch) (D : va_G) (cI cC : ClassId) (q : Nat → Nat) (sz : Nat) (n : Int32) (d : Nat → Int32) (lb : Nat → Int32) (xd : Nat → Int32) (xl : Nat → Int32)  (r : Int32) (h : mX3_empty n = r) : Met l yX3_empty wsX3_empty rmX3_empty (va_Pc [.ref (q 8)] (MB D cI cC sz (wT cI q n d lb xd xl))) (muQ D none (wT cI q r d lb xd xl) (va_A (wT cI q n d lb xd xl) sz)) 0 0 (va_A (wT cI q n d lb xd xl) sz) := by
  refine MetI RX3 (by decide +kernel) rfl rfl (Nat.le_of_ble_eq_true rfl) ?_
  intro p e s m below meth c ls X _ hB hl
  obtain ⟨hsz, ⟨hP, hKK⟩, hD0⟩ := hB
  subst hsz
  have hD := hD0.self (sz := s.heap.size)
  generalize hAe : va_A (wT cI q n d lb xd xl) s.heap.size = A at hD ⊢
  have hA : ∀ z : Nat, s.heap.size ≤ z → A z := fun z hz => by rw [← hAe]; exact Or.inr hz
  have hS : va_S A s.heap s.heap [] := va_S.rf
  have hx := X.1
  have hb := X.2.1
  replace hl : lv_has ls 1 [(0, .ref (q 8))] := hl
  replace hP : va_P D vwCl (wT cI q n d lb xd xl) s.heap := hP
  unfold mX3_empty at h
  refine lv_aload_n hx hb dX3_empty_0 rfl (lv_at hl 0 rfl) ?_
  refine lv_iconst (v := iI 0) hx hb dX3_empty_1 rfl ?_
  refine va_put (D := D) (ci := 3) (v := .int (iI 0)) (ty := .int) (C := RX3) (T := TX3) (N := 5) hx hb X.2.2.2.2.1 iwX3_empty_3 tyX3 tyX3_ok nmX3 X.2.2.2.1 hKK.1 hP hD hS 0 rfl rfl 4 (by decide) (X.2.2.2.2.1 _ flX3_empty_28) (fun _ h9 => h9) rfl (by decide +kernel) rfl rfl (Nat.le_of_ble_eq_true rfl) dX3_empty_2 (fun H locs hP hD hS => ?_)
  replace hP : va_P D vwCl (wT cI q (iI 0) d lb xd xl) H := hP
  replace hD : va_D A (wT cI q (iI 0) d lb xd xl) := hD
  subst h
  exact mu_vret X hP rfl hS dX3_empty_5
def mX3_openGap_7 : Nat → Int32 → (Nat → Int32) → (Nat → Int32) → Int32 → Int32 → Int32 → Option (Int32 × (Nat → Int32) × (Nat → Int32))
  | 0, _, _, _, _, _, _ => none
  | f + 1, n, d, lb, x1, x2, x3 => (if x3 < x1 then some ((iMin (n + x2) (iI 100)), d, lb) else mX3_openGap_7 f n ((mX3_putNode d lb (x3 + x2) (mX3_depthOf n d x3) (mX3_labelOf lb x3)).1) ((mX3_putNode d lb (x3 + x2) (mX3_depthOf n d x3) (mX3_labelOf lb x3)).2) x1 x2 (x3 + iI (-1)))
def mX3_openGap (n : Int32) (d : Nat → Int32) (lb : Nat → Int32) (x1 : Int32) (x2 : Int32) : Option (Int32 × (Nat → Int32) × (Nat → Int32)) := mX3_openGap_7 FU n d lb x1 x2 (n - (iI 1))
theorem hdX3_openGap : yX3_openGap.cls = RX3 ∧ yX3_openGap.cls ≠ "java/lang/invoke/MethodHandle" ∧ yX3_openGap.cls ≠ "java/lang/invoke/VarHandle" ∧ (parseMethodDescriptor yX3_openGap.desc).map (fun d => d.parameters.length) = some 2 := by decide +kernel
theorem flX3_openGap_28 : Cond.fieldLink RX3 28 "BracketTree$Tree" "count" "I" ∈ wsX3_openGap := by decide +kernel
theorem iwX3_openGap_3 : ∀ w ∈ wsX30, w ∈ wsX3_openGap := by decide +kernel
theorem mlX3_openGap_57 : Cond.methodLink RX3 57 Lib.Math.min.name ∈ wsX3_openGap := by decide +kernel
theorem msX3_openGap_57 : Cond.static Lib.Math.min.name ∈ wsX3_openGap := by decide +kernel
theorem miX3_openGap_57 : Cond.initialized "java/lang/Math" ∈ wsX3_openGap := by decide +kernel
theorem mcX3_openGap_57 : Cond.code Lib.Math.min.name Lib.Math.min.code 2 (some .int) ∈ wsX3_openGap := by decide +kernel
abbrev rmX3_openGap : Room := { frames := 2, cells := 0, slots := 0, locals := 45 }
set_option maxHeartbeats 4000000 in
set_option maxRecDepth 100000 in
theorem kX3_openGap_7 {p : Program} {l : Launch} {e : Env} {s : State} {m : MethodId} {args : Array Value} {below : List Frame} {meth : Method} {c : Code} {D : va_G} {cI cC : ClassId} {q : Nat → Nat} {xd : Nat → Int32} {xl : Nat → Int32} {r : Int32 × (Nat → Int32) × (Nat → Int32)} {A : Nat → Prop} (X : CX p s m args meth c wsX3_openGap cX3_openGap 4 none RX3) (hKK : KK D cI cC s) (hA : ∀ z, s.heap.size ≤ z → A z) : ∀ (f : Nat), ∀ (n : Int32) (d : Nat → Int32) (lb : Nat → Int32) (x1 : Int32) (x2 : Int32) (x3 : Int32) (H : Heap) (locs : List Loc) (ls : Array Slot), va_P D vwCl (wT cI q n d lb xd xl) H → va_D A (wT cI q n d lb xd xl) → va_S A s.heap H locs → lv_has ls 4 [(0, .ref (q 8)), (1, .int x1), (2, .int x2), (3, .int x3)] → mX3_openGap_7 f n d lb x1 x2 x3 = some r → W p l e rmX3_openGap s m args below meth c H locs 0 0 (MQ below (muQ D none (wT cI q r.1 r.2.1 r.2.2 xd xl) A) args s 0 0 A) (F0 m 7 ls []) := by
  have hx := X.1
  have hb := X.2.1
  intro f
  induction f with
  | zero =>
    intro n d lb x1 x2 x3 H locs ls hP hD hS hl h
    exact absurd h (by unfold mX3_openGap_7; intro h; cases h)
  | succ f ih =>
    intro n d lb x1 x2 x3 H locs ls hP hD hS hl h
    rw [mX3_openGap_7] at h
    refine lv_iload_n hx hb dX3_openGap_7 rfl (lv_at hl 3 rfl) ?_
    refine lv_iload_n hx hb dX3_openGap_8 rfl (lv_at hl 1 rfl) ?_
    refine lv_icmp_lt (tgt := 35) hx hb dX3_openGap_9 (by decide) (fun c1 => ?_) (fun c1 => ?_)
    · replace h := ifp c1 h
      refine lv_aload_n hx hb dX3_openGap_35 rfl (lv_at hl 0 rfl) ?_
      refine lv_aload_n hx hb dX3_openGap_36 rfl (lv_at hl 0 rfl) ?_
      refine va_get (D := D) (ci := 3) (v := .int n) (C := RX3) (T := TX3) (N := 5) hx hb X.2.2.2.2.1 iwX3_openGap_3 X.2.2.2.1 hKK.1 hP 0 rfl rfl 4 (by decide) (X.2.2.2.2.1 _ flX3_openGap_28) (fun _ h9 => h9) rfl dX3_openGap_37 ?_
      refine lv_iload_n hx hb dX3_openGap_40 rfl (lv_at hl 2 rfl) ?_
      refine lv_iadd hx hb dX3_openGap_41 ?_
      refine lv_bipush (v := iI 100) hx hb dX3_openGap_42 (by decide) ?_
      refine va_mmin hx hb (by rw [X.2.2.1]; exact hl.1.symm) X.2.2.2.1 (X.2.2.2.2.1 _ mlX3_openGap_57) (X.2.2.2.2.1 _ msX3_openGap_57) (X.2.2.2.2.1 _ miX3_openGap_57) (X.2.2.2.2.1 _ mcX3_openGap_57) (Nat.le_of_ble_eq_true rfl) (Nat.le_of_ble_eq_true rfl) (Nat.zero_le _) (Nat.zero_le _) dX3_openGap_44 ?_
      refine va_put (D := D) (ci := 3) (v := .int (iMin (n + x2) (iI 100))) (ty := .int) (C := RX3) (T := TX3) (N := 5) hx hb X.2.2.2.2.1 iwX3_openGap_3 tyX3 tyX3_ok nmX3 X.2.2.2.1 hKK.1 hP hD hS 0 rfl rfl 4 (by decide) (X.2.2.2.2.1 _ flX3_openGap_28) (fun _ h9 => h9) rfl (by decide +kernel) rfl rfl (Nat.le_of_ble_eq_true rfl) dX3_openGap_47 (fun H locs hP hD hS => ?_)
      replace hP : va_P D vwCl (wT cI q (iMin (n + x2) (iI 100)) d lb xd xl) H := hP
      replace hD : va_D A (wT cI q (iMin (n + x2) (iI 100)) d lb xd xl) := hD
      replace h := Option.some.inj h
      subst h
      exact mu_vret X hP rfl hS dX3_openGap_50
    · replace h := ifn c1 h
      refine lv_aload_n hx hb dX3_openGap_12 rfl (lv_at hl 0 rfl) ?_
      refine lv_iload_n hx hb dX3_openGap_13 rfl (lv_at hl 3 rfl) ?_
      refine lv_iload_n hx hb dX3_openGap_14 rfl (lv_at hl 2 rfl) ?_
      refine lv_iadd hx hb dX3_openGap_15 ?_
      refine lv_aload_n hx hb dX3_openGap_16 rfl (lv_at hl 0 rfl) ?_
      refine lv_iload_n hx hb dX3_openGap_17 rfl (lv_at hl 3 rfl) ?_
      refine rcV (rest := [.int (x3 + x2), .ref (q 8)]) X hKK hP 1 (zX3_depthOf l D cI cC q n d lb xd xl x3 _ rfl) gX3_openGap_X3_depthOf rfl rfl rfl hdX3_depthOf ⟨Nat.le_of_ble_eq_true rfl, Nat.le_of_ble_eq_true rfl⟩ [0, 1, 2, 3, 4] rfl 0 rfl rfl rfl hl.1 rfl (Nat.le_of_ble_eq_true rfl) dX3_openGap_18 ⟨Nat.zero_le _, Nat.zero_le _⟩ ?_
      refine lv_aload_n hx hb dX3_openGap_21 rfl (lv_at hl 0 rfl) ?_
      refine lv_iload_n hx hb dX3_openGap_22 rfl (lv_at hl 3 rfl) ?_
      refine rcV (rest := [.int (mX3_depthOf n d x3), .int (x3 + x2), .ref (q 8)]) X hKK hP 1 (zX3_labelOf l D cI cC q n d lb xd xl x3 _ rfl) gX3_openGap_X3_labelOf rfl rfl rfl hdX3_labelOf ⟨Nat.le_of_ble_eq_true rfl, Nat.le_of_ble_eq_true rfl⟩ [0, 1, 2, 3, 4] rfl 0 rfl rfl rfl hl.1 rfl (Nat.le_of_ble_eq_true rfl) dX3_openGap_23 ⟨Nat.zero_le _, Nat.zero_le _⟩ ?_
      refine mcV (rest := []) (wld2 := (wT cI q n (mX3_putNode d lb (x3 + x2) (mX3_depthOf n d x3) (mX3_labelOf lb x3)).1 (mX3_putNode d lb (x3 + x2) (mX3_depthOf n d x3) (mX3_labelOf lb x3)).2 xd xl)) (wr := pickAt [] (wT cI q n d lb xd xl)) X hKK hP hD hS hA 3 (zX3_putNode l D cI cC q _ n d lb xd xl (x3 + x2) (mX3_depthOf n d x3) (mX3_labelOf lb x3) _ rfl) gX3_openGap_X3_putNode rfl rfl rfl hdX3_putNode ⟨Nat.le_of_ble_eq_true rfl, Nat.le_of_ble_eq_true rfl⟩ [0, 1, 2, 3, 4] [] rfl rfl rfl rfl rfl (by decide) rfl [0, 1, 2, 3, 4] rfl rfl rfl 0 rfl rfl rfl hl.1 rfl (Nat.le_of_ble_eq_true rfl) dX3_openGap_26 ⟨Nat.zero_le _, Nat.zero_le _⟩ (fun H locs hP hD hS => ?_)
      refine lv_iinc (v := (x3 + iI (-1))) (lv' := [(3, .int (x3 + iI (-1))), (0, .ref (q 8)), (1, .int x1), (2, .int x2)]) hx hb dX3_openGap_29 hl (k := 3) rfl rfl (by decide) rfl (fun ls hl => ?_)
      refine lv_goto (tgt := 7) hx hb dX3_openGap_32 (by decide) ?_
      exact ih n ((mX3_putNode d lb (x3 + x2) (mX3_depthOf n d x3) (mX3_labelOf lb x3)).1) ((mX3_putNode d lb (x3 + x2) (mX3_depthOf n d x3) (mX3_labelOf lb x3)).2) x1 x2 (x3 + iI (-1)) _ _ ls hP hD hS (lv_sub hl [1, 2, 3, 0] rfl) h
set_option maxHeartbeats 4000000 in
set_option maxRecDepth 100000 in
theorem zX3_openGap (l : Launch) (D : va_G) (cI cC : ClassId) (q : Nat → Nat) (sz : Nat) (n : Int32) (d : Nat → Int32) (lb : Nat → Int32) (xd : Nat → Int32) (xl : Nat → Int32) (x1 : Int32) (x2 : Int32) (r : Int32 × (Nat → Int32) × (Nat → Int32)) (h : mX3_openGap n d lb x1 x2 = some r) : Met l yX3_openGap wsX3_openGap rmX3_openGap (va_Pc [.ref (q 8), .int x1, .int x2] (MB D cI cC sz (wT cI q n d lb xd xl))) (muQ D none (wT cI q r.1 r.2.1 r.2.2 xd xl) (va_A (wT cI q n d lb xd xl) sz)) 0 0 (va_A (wT cI q n d lb xd xl) sz) := by
  refine MetI RX3 (by decide +kernel) rfl rfl (Nat.le_of_ble_eq_true rfl) ?_
  intro p e s m below meth c ls X _ hB hl
  obtain ⟨hsz, ⟨hP, hKK⟩, hD0⟩ := hB
  subst hsz
  have hD := hD0.self (sz := s.heap.size)
  generalize hAe : va_A (wT cI q n d lb xd xl) s.heap.size = A at hD ⊢
  have hA : ∀ z : Nat, s.heap.size ≤ z → A z := fun z hz => by rw [← hAe]; exact Or.inr hz
  have hS : va_S A s.heap s.heap [] := va_S.rf
  have hx := X.1
  have hb := X.2.1
  replace hl : lv_has ls 4 [(0, .ref (q 8)), (1, .int x1), (2, .int x2)] := hl
  replace hP : va_P D vwCl (wT cI q n d lb xd xl) s.heap := hP
  unfold mX3_openGap at h
  refine lv_aload_n hx hb dX3_openGap_0 rfl (lv_at hl 0 rfl) ?_
  refine va_get (D := D) (ci := 3) (v := .int n) (C := RX3) (T := TX3) (N := 5) hx hb X.2.2.2.2.1 iwX3_openGap_3 X.2.2.2.1 hKK.1 hP 0 rfl rfl 4 (by decide) (X.2.2.2.2.1 _ flX3_openGap_28) (fun _ h9 => h9) rfl dX3_openGap_1 ?_
  refine lv_iconst (v := iI 1) hx hb dX3_openGap_4 rfl ?_
  refine lv_isub hx hb dX3_openGap_5 ?_
  refine lv_istore_n (lv' := [(3, .int (n - (iI 1))), (0, .ref (q 8)), (1, .int x1), (2, .int x2)]) hx hb dX3_openGap_6 rfl hl (by decide) rfl (fun ls hl => ?_)
  exact kX3_openGap_7 X hKK hA FU n d lb x1 x2 (n - (iI 1)) _ _ ls hP hD hS (lv_sub hl [1, 2, 3, 0] rfl) h
def mX3_closeGap_4 : Nat → Int32 → (Nat → Int32) → (Nat → Int32) → Int32 → Int32 → Int32 → Option (Int32 × (Nat → Int32) × (Nat → Int32))
  | 0, _, _, _, _, _, _ => none
  | f + 1, n, d, lb, x1, x2, x3 => (if n ≤ x3 then some ((iMax (n - x2) (iI 0)), d, lb) else mX3_closeGap_4 f n ((mX3_putNode d lb (x3 - x2) (mX3_depthOf n d x3) (mX3_labelOf lb x3)).1) ((mX3_putNode d lb (x3 - x2) (mX3_depthOf n d x3) (mX3_labelOf lb x3)).2) x1 x2 (x3 + iI 1))
def mX3_closeGap (n : Int32) (d : Nat → Int32) (lb : Nat → Int32) (x1 : Int32) (x2 : Int32) : Option (Int32 × (Nat → Int32) × (Nat → Int32)) := mX3_closeGap_4 FU n d lb x1 x2 (x1 + x2)
theorem hdX3_closeGap : yX3_closeGap.cls = RX3 ∧ yX3_closeGap.cls ≠ "java/lang/invoke/MethodHandle" ∧ yX3_closeGap.cls ≠ "java/lang/invoke/VarHandle" ∧ (parseMethodDescriptor yX3_closeGap.desc).map (fun d => d.parameters.length) = some 2 := by decide +kernel
theorem flX3_closeGap_28 : Cond.fieldLink RX3 28 "BracketTree$Tree" "count" "I" ∈ wsX3_closeGap := by decide +kernel
theorem iwX3_closeGap_3 : ∀ w ∈ wsX30, w ∈ wsX3_closeGap := by decide +kernel
theorem mlX3_closeGap_62 : Cond.methodLink RX3 62 Lib.Math.max.name ∈ wsX3_closeGap := by decide +kernel
theorem msX3_closeGap_62 : Cond.static Lib.Math.max.name ∈ wsX3_closeGap := by decide +kernel
theorem miX3_closeGap_62 : Cond.initialized "java/lang/Math" ∈ wsX3_closeGap := by decide +kernel
theorem mcX3_closeGap_62 : Cond.code Lib.Math.max.name Lib.Math.max.code 2 (some .int) ∈ wsX3_closeGap := by decide +kernel
abbrev rmX3_closeGap : Room := { frames := 2, cells := 0, slots := 0, locals := 45 }
set_option maxHeartbeats 4000000 in
set_option maxRecDepth 100000 in
theorem kX3_closeGap_4 {p : Program} {l : Launch} {e : Env} {s : State} {m : MethodId} {args : Array Value} {below : List Frame} {meth : Method} {c : Code} {D : va_G} {cI cC : ClassId} {q : Nat → Nat} {xd : Nat → Int32} {xl : Nat → Int32} {r : Int32 × (Nat → Int32) × (Nat → Int32)} {A : Nat → Prop} (X : CX p s m args meth c wsX3_closeGap cX3_closeGap 4 none RX3) (hKK : KK D cI cC s) (hA : ∀ z, s.heap.size ≤ z → A z) : ∀ (f : Nat), ∀ (n : Int32) (d : Nat → Int32) (lb : Nat → Int32) (x1 : Int32) (x2 : Int32) (x3 : Int32) (H : Heap) (locs : List Loc) (ls : Array Slot), va_P D vwCl (wT cI q n d lb xd xl) H → va_D A (wT cI q n d lb xd xl) → va_S A s.heap H locs → lv_has ls 4 [(0, .ref (q 8)), (1, .int x1), (2, .int x2), (3, .int x3)] → mX3_closeGap_4 f n d lb x1 x2 x3 = some r → W p l e rmX3_closeGap s m args below meth c H locs 0 0 (MQ below (muQ D none (wT cI q r.1 r.2.1 r.2.2 xd xl) A) args s 0 0 A) (F0 m 4 ls []) := by
  have hx := X.1
  have hb := X.2.1
  intro f
  induction f with
  | zero =>
    intro n d lb x1 x2 x3 H locs ls hP hD hS hl h
    exact absurd h (by unfold mX3_closeGap_4; intro h; cases h)
  | succ f ih =>
    intro n d lb x1 x2 x3 H locs ls hP hD hS hl h
    rw [mX3_closeGap_4] at h
    refine lv_iload_n hx hb dX3_closeGap_4 rfl (lv_at hl 3 rfl) ?_
    refine lv_aload_n hx hb dX3_closeGap_5 rfl (lv_at hl 0 rfl) ?_
    refine va_get (D := D) (ci := 3) (v := .int n) (C := RX3) (T := TX3) (N := 5) hx hb X.2.2.2.2.1 iwX3_closeGap_3 X.2.2.2.1 hKK.1 hP 0 rfl rfl 4 (by decide) (X.2.2.2.2.1 _ flX3_closeGap_28) (fun _ h9 => h9) rfl dX3_closeGap_6 ?_
    refine lv_icmp_ge (tgt := 35) hx hb dX3_closeGap_9 (by decide) (fun c1 => ?_) (fun c1 => ?_)
    · replace h := ifp c1 h
      refine lv_aload_n hx hb dX3_closeGap_35 rfl (lv_at hl 0 rfl) ?_
      refine lv_aload_n hx hb dX3_closeGap_36 rfl (lv_at hl 0 rfl) ?_
      refine va_get (D := D) (ci := 3) (v := .int n) (C := RX3) (T := TX3) (N := 5) hx hb X.2.2.2.2.1 iwX3_closeGap_3 X.2.2.2.1 hKK.1 hP 0 rfl rfl 4 (by decide) (X.2.2.2.2.1 _ flX3_closeGap_28) (fun _ h9 => h9) rfl dX3_closeGap_37 ?_
      refine lv_iload_n hx hb dX3_closeGap_40 rfl (lv_at hl 2 rfl) ?_
      refine lv_isub hx hb dX3_closeGap_41 ?_
      refine lv_iconst (v := iI 0) hx hb dX3_closeGap_42 rfl ?_
      refine va_mmax hx hb (by rw [X.2.2.1]; exact hl.1.symm) X.2.2.2.1 (X.2.2.2.2.1 _ mlX3_closeGap_62) (X.2.2.2.2.1 _ msX3_closeGap_62) (X.2.2.2.2.1 _ miX3_closeGap_62) (X.2.2.2.2.1 _ mcX3_closeGap_62) (Nat.le_of_ble_eq_true rfl) (Nat.le_of_ble_eq_true rfl) (Nat.zero_le _) (Nat.zero_le _) dX3_closeGap_43 ?_
      refine va_put (D := D) (ci := 3) (v := .int (iMax (n - x2) (iI 0))) (ty := .int) (C := RX3) (T := TX3) (N := 5) hx hb X.2.2.2.2.1 iwX3_closeGap_3 tyX3 tyX3_ok nmX3 X.2.2.2.1 hKK.1 hP hD hS 0 rfl rfl 4 (by decide) (X.2.2.2.2.1 _ flX3_closeGap_28) (fun _ h9 => h9) rfl (by decide +kernel) rfl rfl (Nat.le_of_ble_eq_true rfl) dX3_closeGap_46 (fun H locs hP hD hS => ?_)
      replace hP : va_P D vwCl (wT cI q (iMax (n - x2) (iI 0)) d lb xd xl) H := hP
      replace hD : va_D A (wT cI q (iMax (n - x2) (iI 0)) d lb xd xl) := hD
      replace h := Option.some.inj h
      subst h
      exact mu_vret X hP rfl hS dX3_closeGap_49
    · replace h := ifn c1 h
      refine lv_aload_n hx hb dX3_closeGap_12 rfl (lv_at hl 0 rfl) ?_
      refine lv_iload_n hx hb dX3_closeGap_13 rfl (lv_at hl 3 rfl) ?_
      refine lv_iload_n hx hb dX3_closeGap_14 rfl (lv_at hl 2 rfl) ?_
      refine lv_isub hx hb dX3_closeGap_15 ?_
      refine lv_aload_n hx hb dX3_closeGap_16 rfl (lv_at hl 0 rfl) ?_
      refine lv_iload_n hx hb dX3_closeGap_17 rfl (lv_at hl 3 rfl) ?_
      refine rcV (rest := [.int (x3 - x2), .ref (q 8)]) X hKK hP 1 (zX3_depthOf l D cI cC q n d lb xd xl x3 _ rfl) gX3_closeGap_X3_depthOf rfl rfl rfl hdX3_depthOf ⟨Nat.le_of_ble_eq_true rfl, Nat.le_of_ble_eq_true rfl⟩ [0, 1, 2, 3, 4] rfl 0 rfl rfl rfl hl.1 rfl (Nat.le_of_ble_eq_true rfl) dX3_closeGap_18 ⟨Nat.zero_le _, Nat.zero_le _⟩ ?_
      refine lv_aload_n hx hb dX3_closeGap_21 rfl (lv_at hl 0 rfl) ?_
      refine lv_iload_n hx hb dX3_closeGap_22 rfl (lv_at hl 3 rfl) ?_
      refine rcV (rest := [.int (mX3_depthOf n d x3), .int (x3 - x2), .ref (q 8)]) X hKK hP 1 (zX3_labelOf l D cI cC q n d lb xd xl x3 _ rfl) gX3_closeGap_X3_labelOf rfl rfl rfl hdX3_labelOf ⟨Nat.le_of_ble_eq_true rfl, Nat.le_of_ble_eq_true rfl⟩ [0, 1, 2, 3, 4] rfl 0 rfl rfl rfl hl.1 rfl (Nat.le_of_ble_eq_true rfl) dX3_closeGap_23 ⟨Nat.zero_le _, Nat.zero_le _⟩ ?_
      refine mcV (rest := []) (wld2 := (wT cI q n (mX3_putNode d lb (x3 - x2) (mX3_depthOf n d x3) (mX3_labelOf lb x3)).1 (mX3_putNode d lb (x3 - x2) (mX3_depthOf n d x3) (mX3_labelOf lb x3)).2 xd xl)) (wr := pickAt [] (wT cI q n d lb xd xl)) X hKK hP hD hS hA 3 (zX3_putNode l D cI cC q _ n d lb xd xl (x3 - x2) (mX3_depthOf n d x3) (mX3_labelOf lb x3) _ rfl) gX3_closeGap_X3_putNode rfl rfl rfl hdX3_putNode ⟨Nat.le_of_ble_eq_true rfl, Nat.le_of_ble_eq_true rfl⟩ [0, 1, 2, 3, 4] [] rfl rfl rfl rfl rfl (by decide) rfl [0, 1, 2, 3, 4] rfl rfl rfl 0 rfl rfl rfl hl.1 rfl (Nat.le_of_ble_eq_true rfl) dX3_closeGap_26 ⟨Nat.zero_le _, Nat.zero_le _⟩ (fun H locs hP hD hS => ?_)
      refine lv_iinc (v := (x3 + iI 1)) (lv' := [(3, .int (x3 + iI 1)), (0, .ref (q 8)), (1, .int x1), (2, .int x2)]) hx hb dX3_closeGap_29 hl (k := 3) rfl rfl (by decide) rfl (fun ls hl => ?_)
      refine lv_goto (tgt := 4) hx hb dX3_closeGap_32 (by decide) ?_
      exact ih n ((mX3_putNode d lb (x3 - x2) (mX3_depthOf n d x3) (mX3_labelOf lb x3)).1) ((mX3_putNode d lb (x3 - x2) (mX3_depthOf n d x3) (mX3_labelOf lb x3)).2) x1 x2 (x3 + iI 1) _ _ ls hP hD hS (lv_sub hl [1, 2, 3, 0] rfl) h
set_option maxHeartbeats 4000000 in
set_option maxRecDepth 100000 in
theorem zX3_closeGap (l : Launch) (D : va_G) (cI cC : ClassId) (q : Nat → Nat) (sz : Nat) (n : Int32) (d : Nat → Int32) (lb : Nat → Int32) (xd : Nat → Int32) (xl : Nat → Int32) (x1 : Int32) (x2 : Int32) (r : Int32 × (Nat → Int32) × (Nat → Int32)) (h : mX3_closeGap n d lb x1 x2 = some r) : Met l yX3_closeGap wsX3_closeGap rmX3_closeGap (va_Pc [.ref (q 8), .int x1, .int x2] (MB D cI cC sz (wT cI q n d lb xd xl))) (muQ D none (wT cI q r.1 r.2.1 r.2.2 xd xl) (va_A (wT cI q n d lb xd xl) sz)) 0 0 (va_A (wT cI q n d lb xd xl) sz) := by
  refine MetI RX3 (by decide +kernel) rfl rfl (Nat.le_of_ble_eq_true rfl) ?_
  intro p e s m below meth c ls X _ hB hl
  obtain ⟨hsz, ⟨hP, hKK⟩, hD0⟩ := hB
  subst hsz
  have hD := hD0.self (sz := s.heap.size)
  generalize hAe : va_A (wT cI q n d lb xd xl) s.heap.size = A at hD ⊢
  have hA : ∀ z : Nat, s.heap.size ≤ z → A z := fun z hz => by rw [← hAe]; exact Or.inr hz
  have hS : va_S A s.heap s.heap [] := va_S.rf
  have hx := X.1
  have hb := X.2.1
  replace hl : lv_has ls 4 [(0, .ref (q 8)), (1, .int x1), (2, .int x2)] := hl
  replace hP : va_P D vwCl (wT cI q n d lb xd xl) s.heap := hP
  unfold mX3_closeGap at h
  refine lv_iload_n hx hb dX3_closeGap_0 rfl (lv_at hl 1 rfl) ?_
  refine lv_iload_n hx hb dX3_closeGap_1 rfl (lv_at hl 2 rfl) ?_
  refine lv_iadd hx hb dX3_closeGap_2 ?_
  refine lv_istore_n (lv' := [(3, .int (x1 + x2)), (0, .ref (q 8)), (1, .int x1), (2, .int x2)]) hx hb dX3_closeGap_3 rfl hl (by decide) rfl (fun ls hl => ?_)
  exact kX3_closeGap_4 X hKK hA FU n d lb x1 x2 (x1 + x2) _ _ ls hP hD hS (lv_sub hl [1, 2, 3, 0] rfl) h
def mX3_sink_3 : Nat → Int32 → (Nat → Int32) → (Nat → Int32) → Int32 → Int32 → Int32 → Int32 → Option ((Nat → Int32) × (Nat → Int32))
  | 0, _, _, _, _, _, _, _ => none
  | f + 1, n, d, lb, x1, x2, x3, x4 => (if x2 ≤ x4 then some (d, lb) else mX3_sink_3 f n ((mX3_putNode d lb x4 ((mX3_depthOf n d x4) + x3) (mX3_labelOf lb x4)).1) ((mX3_putNode d lb x4 ((mX3_depthOf n d x4) + x3) (mX3_labelOf lb x4)).2) x1 x2 x3 (x4 + iI 1))
def mX3_sink (n : Int32) (d : Nat → Int32) (lb : Nat → Int32) (x1 : Int32) (x2 : Int32) (x3 : Int32) : Option ((Nat → Int32) × (Nat → Int32)) := mX3_sink_3 FU n d lb x1 x2 x3 x1
theorem hdX3_sink : yX3_sink.cls = RX3 ∧ yX3_sink.cls ≠ "java/lang/invoke/MethodHandle" ∧ yX3_sink.cls ≠ "java/lang/invoke/VarHandle" ∧ (parseMethodDescriptor yX3_sink.desc).map (fun d => d.parameters.length) = some 3 := by decide +kernel
abbrev rmX3_sink : Room := { frames := 2, cells := 0, slots := 0, locals := 45 }
set_option maxHeartbeats 4000000 in
set_option maxRecDepth 100000 in
theorem kX3_sink_3 {p : Program} {l : Launch} {e : Env} {s : State} {m : MethodId} {args : Array Value} {below : List Frame} {meth : Method} {c : Code} {D : va_G} {cI cC : ClassId} {q : Nat → Nat} {xd : Nat → Int32} {xl : Nat → Int32} {r : (Nat → Int32) × (Nat → Int32)} {A : Nat → Prop} (X : CX p s m args meth c wsX3_sink cX3_sink 5 none RX3) (hKK : KK D cI cC s) (hA : ∀ z, s.heap.size ≤ z → A z) : ∀ (f : Nat), ∀ (n : Int32) (d : Nat → Int32) (lb : Nat → Int32) (x1 : Int32) (x2 : Int32) (x3 : Int32) (x4 : Int32) (H : Heap) (locs : List Loc) (ls : Array Slot), va_P D vwCl (wT cI q n d lb xd xl) H → va_D A (wT cI q n d lb xd xl) → va_S A s.heap H locs → lv_has ls 5 [(0, .ref (q 8)), (1, .int x1), (2, .int x2), (3, .int x3), (4, .int x4)] → mX3_sink_3 f n d lb x1 x2 x3 x4 = some r → W p l e rmX3_sink s m args below meth c H locs 0 0 (MQ below (muQ D none (wT cI q n r.1 r.2 xd xl) A) args s 0 0 A) (F0 m 3 ls []) := by
  have hx := X.1
  have hb := X.2.1
  intro f
  induction f with
  | zero =>
    intro n d lb x1 x2 x3 x4 H locs ls hP hD hS hl h
    exact absurd h (by unfold mX3_sink_3; intro h; cases h)
  | succ f ih =>
    intro n d lb x1 x2 x3 x4 H locs ls hP hD hS hl h
    rw [mX3_sink_3] at h
    refine lv_iload hx hb dX3_sink_3 (lv_at hl 4 rfl) ?_
    refine lv_iload_n hx hb dX3_sink_5 rfl (lv_at hl 2 rfl) ?_
    refine lv_icmp_ge (tgt := 35) hx hb dX3_sink_6 (by decide) (fun c1 => ?_) (fun c1 => ?_)
    · replace h := ifp c1 h
      replace h := Option.some.inj h
      subst h
      exact mu_vret X hP rfl hS dX3_sink_35
    · replace h := ifn c1 h
      refine lv_aload_n hx hb dX3_sink_9 rfl (lv_at hl 0 rfl) ?_
      refine lv_iload hx hb dX3_sink_10 (lv_at hl 4 rfl) ?_
      refine lv_aload_n hx hb dX3_sink_12 rfl (lv_at hl 0 rfl) ?_
      refine lv_iload hx hb dX3_sink_13 (lv_at hl 4 rfl) ?_
      refine rcV (rest := [.int x4, .ref (q 8)]) X hKK hP 1 (zX3_depthOf l D cI cC q n d lb xd xl x4 _ rfl) gX3_sink_X3_depthOf rfl rfl rfl hdX3_depthOf ⟨Nat.le_of_ble_eq_true rfl, Nat.le_of_ble_eq_true rfl⟩ [0, 1, 2, 3, 4] rfl 0 rfl rfl rfl hl.1 rfl (Nat.le_of_ble_eq_true rfl) dX3_sink_15 ⟨Nat.zero_le _, Nat.zero_le _⟩ ?_
      refine lv_iload_n hx hb dX3_sink_18 rfl (lv_at hl 3 rfl) ?_
      refine lv_iadd hx hb dX3_sink_19 ?_
      refine lv_aload_n hx hb dX3_sink_20 rfl (lv_at hl 0 rfl) ?_
      refine lv_iload hx hb dX3_sink_21 (lv_at hl 4 rfl) ?_
      refine rcV (rest := [.int ((mX3_depthOf n d x4) + x3), .int x4, .ref (q 8)]) X hKK hP 1 (zX3_labelOf l D cI cC q n d lb xd xl x4 _ rfl) gX3_sink_X3_labelOf rfl rfl rfl hdX3_labelOf ⟨Nat.le_of_ble_eq_true rfl, Nat.le_of_ble_eq_true rfl⟩ [0, 1, 2, 3, 4] rfl 0 rfl rfl rfl hl.1 rfl (Nat.le_of_ble_eq_true rfl) dX3_sink_23 ⟨Nat.zero_le _, Nat.zero_le _⟩ ?_
      refine mcV (rest := []) (wld2 := (wT cI q n (mX3_putNode d lb x4 ((mX3_depthOf n d x4) + x3) (mX3_labelOf lb x4)).1 (mX3_putNode d lb x4 ((mX3_depthOf n d x4) + x3) (mX3_labelOf lb x4)).2 xd xl)) (wr := pickAt [] (wT cI q n d lb xd xl)) X hKK hP hD hS hA 3 (zX3_putNode l D cI cC q _ n d lb xd xl x4 ((mX3_depthOf n d x4) + x3) (mX3_labelOf lb x4) _ rfl) gX3_sink_X3_putNode rfl rfl rfl hdX3_putNode ⟨Nat.le_of_ble_eq_true rfl, Nat.le_of_ble_eq_true rfl⟩ [0, 1, 2, 3, 4] [] rfl rfl rfl rfl rfl (by decide) rfl [0, 1, 2, 3, 4] rfl rfl rfl 0 rfl rfl rfl hl.1 rfl (Nat.le_of_ble_eq_true rfl) dX3_sink_26 ⟨Nat.zero_le _, Nat.zero_le _⟩ (fun H locs hP hD hS => ?_)
      refine lv_iinc (v := (x4 + iI 1)) (lv' := [(4, .int (x4 + iI 1)), (0, .ref (q 8)), (1, .int x1), (2, .int x2), (3, .int x3)]) hx hb dX3_sink_29 hl (k := 4) rfl rfl (by decide) rfl (fun ls hl => ?_)
      refine lv_goto (tgt := 3) hx hb dX3_sink_32 (by decide) ?_
      exact ih n ((mX3_putNode d lb x4 ((mX3_depthOf n d x4) + x3) (mX3_labelOf lb x4)).1) ((mX3_putNode d lb x4 ((mX3_depthOf n d x4) + x3) (mX3_labelOf lb x4)).2) x1 x2 x3 (x4 + iI 1) _ _ ls hP hD hS (lv_sub hl [1, 2, 3, 4, 0] rfl) h
set_option maxHeartbeats 4000000 in
set_option maxRecDepth 100000 in
theorem zX3_sink (l : Launch) (D : va_G) (cI cC : ClassId) (q : Nat → Nat) (sz : Nat) (n : Int32) (d : Nat → Int32) (lb : Nat → Int32) (xd : Nat → Int32) (xl : Nat → Int32) (x1 : Int32) (x2 : Int32) (x3 : Int32) (r : (Nat → Int32) × (Nat → Int32)) (h : mX3_sink n d lb x1 x2 x3 = some r) : Met l yX3_sink wsX3_sink rmX3_sink (va_Pc [.ref (q 8), .int x1, .int x2, .int x3] (MB D cI cC sz (wT cI q n d lb xd xl))) (muQ D none (wT cI q n r.1 r.2 xd xl) (va_A (wT cI q n d lb xd xl) sz)) 0 0 (va_A (wT cI q n d lb xd xl) sz) := by
  refine MetI RX3 (by decide +kernel) rfl rfl (Nat.le_of_ble_eq_true rfl) ?_
  intro p e s m below meth c ls X _ hB hl
  obtain ⟨hsz, ⟨hP, hKK⟩, hD0⟩ := hB
  subst hsz
  have hD := hD0.self (sz := s.heap.size)
  generalize hAe : va_A (wT cI q n d lb xd xl) s.heap.size = A at hD ⊢
  have hA : ∀ z : Nat, s.heap.size ≤ z → A z := fun z hz => by rw [← hAe]; exact Or.inr hz
  have hS : va_S A s.heap s.heap [] := va_S.rf
  have hx := X.1
  have hb := X.2.1
  replace hl : lv_has ls 5 [(0, .ref (q 8)), (1, .int x1), (2, .int x2), (3, .int x3)] := hl
  replace hP : va_P D vwCl (wT cI q n d lb xd xl) s.heap := hP
  unfold mX3_sink at h
  refine lv_iload_n hx hb dX3_sink_0 rfl (lv_at hl 1 rfl) ?_
  refine lv_istore (lv' := [(4, .int x1), (0, .ref (q 8)), (1, .int x1), (2, .int x2), (3, .int x3)]) hx hb dX3_sink_1 hl (by decide) rfl (fun ls hl => ?_)
  exact kX3_sink_3 X hKK hA FU n d lb x1 x2 x3 x1 _ _ ls hP hD hS (lv_sub hl [1, 2, 3, 4, 0] rfl) h
def mX3_wrapChildren (n : Int32) (d : Nat → Int32) (lb : Nat → Int32) (x1 : Int32) (x2 : Int32) (x3 : Int32) (x4 : Int32) : Option (Int32 × Int32 × (Nat → Int32) × (Nat → Int32)) := ((mX3_startOfPlace n d x1 x2).bind fun r1 => ((mX3_startOfPlace n d x1 (x2 + x3)).bind fun r2 => ((mX3_sink n d lb r1 r2 (iI 1)).bind fun r3 => ((mX3_openGap n r3.1 r3.2 r1 (iI 1)).bind fun r4 => some (r1, r4.1, (mX3_putNode r4.2.1 r4.2.2 r1 ((mX3_depthOf r4.1 r4.2.1 x1) + (iI 1)) x4).1, (mX3_putNode r4.2.1 r4.2.2 r1 ((mX3_depthOf r4.1 r4.2.1 x1) + (iI 1)) x4).2)))))
theorem hdX3_wrapChildren : yX3_wrapChildren.cls = RX3 ∧ yX3_wrapChildren.cls ≠ "java/lang/invoke/MethodHandle" ∧ yX3_wrapChildren.cls ≠ "java/lang/invoke/VarHandle" ∧ (parseMethodDescriptor yX3_wrapChildren.desc).map (fun d => d.parameters.length) = some 4 := by decide +kernel
abbrev rmX3_wrapChildren : Room := { frames := 4, cells := 0, slots := 0, locals := 90 }
set_option maxHeartbeats 4000000 in
set_option maxRecDepth 100000 in
theorem zX3_wrapChildren (l : Launch) (D : va_G) (cI cC : ClassId) (q : Nat → Nat) (sz : Nat) (n : Int32) (d : Nat → Int32) (lb : Nat → Int32) (xd : Nat → Int32) (xl : Nat → Int32) (x1 : Int32) (x2 : Int32) (x3 : Int32) (x4 : Int32) (r : Int32 × Int32 × (Nat → Int32) × (Nat → Int32)) (h : mX3_wrapChildren n d lb x1 x2 x3 x4 = some r) : Met l yX3_wrapChildren wsX3_wrapChildren rmX3_wrapChildren (va_Pc [.ref (q 8), .int x1, .int x2, .int x3, .int x4] (MB D cI cC sz (wT cI q n d lb xd xl))) (muQ D (some (.int r.1)) (wT cI q r.2.1 r.2.2.1 r.2.2.2 xd xl) (va_A (wT cI q n d lb xd xl) sz)) 0 0 (va_A (wT cI q n d lb xd xl) sz) := by
  refine MetI RX3 (by decide +kernel) rfl rfl (Nat.le_of_ble_eq_true rfl) ?_
  intro p e s m below meth c ls X _ hB hl
  obtain ⟨hsz, ⟨hP, hKK⟩, hD0⟩ := hB
  subst hsz
  have hD := hD0.self (sz := s.heap.size)
  generalize hAe : va_A (wT cI q n d lb xd xl) s.heap.size = A at hD ⊢
  have hA : ∀ z : Nat, s.heap.size ≤ z → A z := fun z hz => by rw [← hAe]; exact Or.inr hz
  have hS : va_S A s.heap s.heap [] := va_S.rf
  have hx := X.1
  have hb := X.2.1
  replace hl : lv_has ls 7 [(0, .ref (q 8)), (1, .int x1), (2, .int x2), (3, .int x3), (4, .int x4)] := hl
  replace hP : va_P D vwCl (wT cI q n d lb xd xl) s.heap := hP
  unfold mX3_wrapChildren at h
  refine lv_aload_n hx hb dX3_wrapChildren_0 rfl (lv_at hl 0 rfl) ?_
  refine lv_iload_n hx hb dX3_wrapChildren_1 rfl (lv_at hl 1 rfl) ?_
  refine lv_iload_n hx hb dX3_wrapChildren_2 rfl (lv_at hl 2 rfl) ?_
  obtain ⟨r1, h_r1, h⟩ := obd h
  refine rcV (rest := []) X hKK hP 2 (zX3_startOfPlace l D cI cC q n d lb xd xl x1 x2 r1 h_r1) gX3_wrapChildren_X3_startOfPlace rfl rfl rfl hdX3_startOfPlace ⟨Nat.le_of_ble_eq_true rfl, Nat.le_of_ble_eq_true rfl⟩ [0, 1, 2, 3, 4] rfl 0 rfl rfl rfl hl.1 rfl (Nat.le_of_ble_eq_true rfl) dX3_wrapChildren_3 ⟨Nat.zero_le _, Nat.zero_le _⟩ ?_
  refine lv_istore (lv' := [(5, .int r1), (0, .ref (q 8)), (1, .int x1), (2, .int x2), (3, .int x3), (4, .int x4)]) hx hb dX3_wrapChildren_6 hl (by decide) rfl (fun ls hl => ?_)
  refine lv_aload_n hx hb dX3_wrapChildren_8 rfl (lv_at hl 1 rfl) ?_
  refine lv_iload_n hx hb dX3_wrapChildren_9 rfl (lv_at hl 2 rfl) ?_
  refine lv_iload_n hx hb dX3_wrapChildren_10 rfl (lv_at hl 3 rfl) ?_
  refine lv_iload_n hx hb dX3_wrapChildren_11 rfl (lv_at hl 4 rfl) ?_
  refine lv_iadd hx hb dX3_wrapChildren_12 ?_
  obtain ⟨r2, h_r2, h⟩ := obd h
  refine rcV (rest := []) X hKK hP 2 (zX3_startOfPlace l D cI cC q n d lb xd xl x1 (x2 + x3) r2 h_r2) gX3_wrapChildren_X3_startOfPlace rfl rfl rfl hdX3_startOfPlace ⟨Nat.le_of_ble_eq_true rfl, Nat.le_of_ble_eq_true rfl⟩ [0, 1, 2, 3, 4] rfl 0 rfl rfl rfl hl.1 rfl (Nat.le_of_ble_eq_true rfl) dX3_wrapChildren_13 ⟨Nat.zero_le _, Nat.zero_le _⟩ ?_
  refine lv_istore (lv' := [(6, .int r2), (5, .int r1), (0, .ref (q 8)), (1, .int x1), (2, .int x2), (3, .int x3), (4, .int x4)]) hx hb dX3_wrapChildren_16 hl (by decide) rfl (fun ls hl => ?_)
  refine lv_aload_n hx hb dX3_wrapChildren_18 rfl (lv_at hl 2 rfl) ?_
  refine lv_iload hx hb dX3_wrapChildren_19 (lv_at hl 1 rfl) ?_
  refine lv_iload hx hb dX3_wrapChildren_21 (lv_at hl 0 rfl) ?_
  refine lv_iconst (v := iI 1) hx hb dX3_wrapChildren_23 rfl ?_
  obtain ⟨r3, h_r3, h⟩ := obd h
  refine mcV (rest := []) (wld2 := (wT cI q n r3.1 r3.2 xd xl)) (wr := pickAt [] (wT cI q n d lb xd xl)) X hKK hP hD hS hA 3 (zX3_sink l D cI cC q _ n d lb xd xl r1 r2 (iI 1) r3 h_r3) gX3_wrapChildren_X3_sink rfl rfl rfl hdX3_sink ⟨Nat.le_of_ble_eq_true rfl, Nat.le_of_ble_eq_true rfl⟩ [0, 1, 2, 3, 4] [] rfl rfl rfl rfl rfl (by decide) rfl [0, 1, 2, 3, 4] rfl rfl rfl 0 rfl rfl rfl hl.1 rfl (Nat.le_of_ble_eq_true rfl) dX3_wrapChildren_24 ⟨Nat.zero_le _, Nat.zero_le _⟩ (fun H locs hP hD hS => ?_)
  refine lv_aload_n hx hb dX3_wrapChildren_27 rfl (lv_at hl 2 rfl) ?_
  refine lv_iload hx hb dX3_wrapChildren_28 (lv_at hl 1 rfl) ?_
  refine lv_iconst (v := iI 1) hx hb dX3_wrapChildren_30 rfl ?_
  obtain ⟨r4, h_r4, h⟩ := obd h
  refine mcV (rest := []) (wld2 := (wT cI q r4.1 r4.2.1 r4.2.2 xd xl)) (wr := pickAt [] (wT cI q n r3.1 r3.2 xd xl)) X hKK hP hD hS hA 2 (zX3_openGap l D cI cC q _ n r3.1 r3.2 xd xl r1 (iI 1) r4 h_r4) gX3_wrapChildren_X3_openGap rfl rfl rfl hdX3_openGap ⟨Nat.le_of_ble_eq_true rfl, Nat.le_of_ble_eq_true rfl⟩ [0, 1, 2, 3, 4] [] rfl rfl rfl rfl rfl (by decide) rfl [0, 1, 2, 3, 4] rfl rfl rfl 0 rfl rfl rfl hl.1 rfl (Nat.le_of_ble_eq_true rfl) dX3_wrapChildren_31 ⟨Nat.zero_le _, Nat.zero_le _⟩ (fun H locs hP hD hS => ?_)
  refine lv_aload_n hx hb dX3_wrapChildren_34 rfl (lv_at hl 2 rfl) ?_
  refine lv_iload hx hb dX3_wrapChildren_35 (lv_at hl 1 rfl) ?_
  refine lv_aload_n hx hb dX3_wrapChildren_37 rfl (lv_at hl 2 rfl) ?_
  refine lv_iload_n hx hb dX3_wrapChildren_38 rfl (lv_at hl 3 rfl) ?_
  refine rcV (rest := [.int r1, .ref (q 8)]) X hKK hP 1 (zX3_depthOf l D cI cC q r4.1 r4.2.1 r4.2.2 xd xl x1 _ rfl) gX3_wrapChildren_X3_depthOf rfl rfl rfl hdX3_depthOf ⟨Nat.le_of_ble_eq_true rfl, Nat.le_of_ble_eq_true rfl⟩ [0, 1, 2, 3, 4] rfl 0 rfl rfl rfl hl.1 rfl (Nat.le_of_ble_eq_true rfl) dX3_wrapChildren_39 ⟨Nat.zero_le _, Nat.zero_le _⟩ ?_
  refine lv_iconst (v := iI 1) hx hb dX3_wrapChildren_42 rfl ?_
  refine lv_iadd hx hb dX3_wrapChildren_43 ?_
  refine lv_iload hx hb dX3_wrapChildren_44 (lv_at hl 6 rfl) ?_
  refine mcV (rest := []) (wld2 := (wT cI q r4.1 (mX3_putNode r4.2.1 r4.2.2 r1 ((mX3_depthOf r4.1 r4.2.1 x1) + (iI 1)) x4).1 (mX3_putNode r4.2.1 r4.2.2 r1 ((mX3_depthOf r4.1 r4.2.1 x1) + (iI 1)) x4).2 xd xl)) (wr := pickAt [] (wT cI q r4.1 r4.2.1 r4.2.2 xd xl)) X hKK hP hD hS hA 3 (zX3_putNode l D cI cC q _ r4.1 r4.2.1 r4.2.2 xd xl r1 ((mX3_depthOf r4.1 r4.2.1 x1) + (iI 1)) x4 _ rfl) gX3_wrapChildren_X3_putNode rfl rfl rfl hdX3_putNode ⟨Nat.le_of_ble_eq_true rfl, Nat.le_of_ble_eq_true rfl⟩ [0, 1, 2, 3, 4] [] rfl rfl rfl rfl rfl (by decide) rfl [0, 1, 2, 3, 4] rfl rfl rfl 0 rfl rfl rfl hl.1 rfl (Nat.le_of_ble_eq_true rfl) dX3_wrapChildren_46 ⟨Nat.zero_le _, Nat.zero_le _⟩ (fun H locs hP hD hS => ?_)
  refine lv_iload hx hb dX3_wrapChildren_49 (lv_at hl 1 rfl) ?_
  replace h := Option.some.inj h
  subst h
  exact mu_ret X rfl rfl hP rfl hS dX3_wrapChildren_51
def mX3_dissolve (n : Int32) (d : Nat → Int32) (lb : Nat → Int32) (x1 : Int32) : Option (Int32 × (Nat → Int32) × (Nat → Int32)) := ((mX3_endOf n d x1).bind fun r1 => ((mX3_sink n d lb (x1 + (iI 1)) r1 (iI (-1))).bind fun r2 => ((mX3_closeGap n r2.1 r2.2 x1 (iI 1)).bind fun r3 => some (r3.1, r3.2.1, r3.2.2))))
theorem hdX3_dissolve : yX3_dissolve.cls = RX3 ∧ yX3_dissolve.cls ≠ "java/lang/invoke/MethodHandle" ∧ yX3_dissolve.cls ≠ "java/lang/invoke/VarHandle" ∧ (parseMethodDescriptor yX3_dissolve.desc).map (fun d => d.parameters.length) = some 1 := by decide +kernel
abbrev rmX3_dissolve : Room := { frames := 3, cells := 0, slots := 0, locals := 69 }
set_option maxHeartbeats 4000000 in
set_option maxRecDepth 100000 in
theorem zX3_dissolve (l : Launch) (D : va_G) (cI cC : ClassId) (q : Nat → Nat) (sz : Nat) (n : Int32) (d : Nat → Int32) (lb : Nat → Int32) (xd : Nat → Int32) (xl : Nat → Int32) (x1 : Int32) (r : Int32 × (Nat → Int32) × (Nat → Int32)) (h : mX3_dissolve n d lb x1 = some r) : Met l yX3_dissolve wsX3_dissolve rmX3_dissolve (va_Pc [.ref (q 8), .int x1] (MB D cI cC sz (wT cI q n d lb xd xl))) (muQ D none (wT cI q r.1 r.2.1 r.2.2 xd xl) (va_A (wT cI q n d lb xd xl) sz)) 0 0 (va_A (wT cI q n d lb xd xl) sz) := by
  refine MetI RX3 (by decide +kernel) rfl rfl (Nat.le_of_ble_eq_true rfl) ?_
  intro p e s m below meth c ls X _ hB hl
  obtain ⟨hsz, ⟨hP, hKK⟩, hD0⟩ := hB
  subst hsz
  have hD := hD0.self (sz := s.heap.size)
  generalize hAe : va_A (wT cI q n d lb xd xl) s.heap.size = A at hD ⊢
  have hA : ∀ z : Nat, s.heap.size ≤ z → A z := fun z hz => by rw [← hAe]; exact Or.inr hz
  have hS : va_S A s.heap s.heap [] := va_S.rf
  have hx := X.1
  have hb := X.2.1
  replace hl : lv_has ls 2 [(0, .ref (q 8)), (1, .int x1)] := hl
  replace hP : va_P D vwCl (wT cI q n d lb xd xl) s.heap := hP
  unfold mX3_dissolve at h
  refine lv_aload_n hx hb dX3_dissolve_0 rfl (lv_at hl 0 rfl) ?_
  refine lv_iload_n hx hb dX3_dissolve_1 rfl (lv_at hl 1 rfl) ?_
  refine lv_iconst (v := iI 1) hx hb dX3_dissolve_2 rfl ?_
  refine lv_iadd hx hb dX3_dissolve_3 ?_
  refine lv_aload_n hx hb dX3_dissolve_4 rfl (lv_at hl 0 rfl) ?_
  refine lv_iload_n hx hb dX3_dissolve_5 rfl (lv_at hl 1 rfl) ?_
  obtain ⟨r1, h_r1, h⟩ := obd h
  refine rcV (rest := [.int (x1 + (iI 1)), .ref (q 8)]) X hKK hP 1 (zX3_endOf l D cI cC q n d lb xd xl x1 r1 h_r1) gX3_dissolve_X3_endOf rfl rfl rfl hdX3_endOf ⟨Nat.le_of_ble_eq_true rfl, Nat.le_of_ble_eq_true rfl⟩ [0, 1, 2, 3, 4] rfl 0 rfl rfl rfl hl.1 rfl (Nat.le_of_ble_eq_true rfl) dX3_dissolve_6 ⟨Nat.zero_le _, Nat.zero_le _⟩ ?_
  refine lv_iconst (v := iI (-1)) hx hb dX3_dissolve_9 rfl ?_
  obtain ⟨r2, h_r2, h⟩ := obd h
  refine mcV (rest := []) (wld2 := (wT cI q n r2.1 r2.2 xd xl)) (wr := pickAt [] (wT cI q n d lb xd xl)) X hKK hP hD hS hA 3 (zX3_sink l D cI cC q _ n d lb xd xl (x1 + (iI 1)) r1 (iI (-1)) r2 h_r2) gX3_dissolve_X3_sink rfl rfl rfl hdX3_sink ⟨Nat.le_of_ble_eq_true rfl, Nat.le_of_ble_eq_true rfl⟩ [0, 1, 2, 3, 4] [] rfl rfl rfl rfl rfl (by decide) rfl [0, 1, 2, 3, 4] rfl rfl rfl 0 rfl rfl rfl hl.1 rfl (Nat.le_of_ble_eq_true rfl) dX3_dissolve_10 ⟨Nat.zero_le _, Nat.zero_le _⟩ (fun H locs hP hD hS => ?_)
  refine lv_aload_n hx hb dX3_dissolve_13 rfl (lv_at hl 0 rfl) ?_
  refine lv_iload_n hx hb dX3_dissolve_14 rfl (lv_at hl 1 rfl) ?_
  refine lv_iconst (v := iI 1) hx hb dX3_dissolve_15 rfl ?_
  obtain ⟨r3, h_r3, h⟩ := obd h
  refine mcV (rest := []) (wld2 := (wT cI q r3.1 r3.2.1 r3.2.2 xd xl)) (wr := pickAt [] (wT cI q n r2.1 r2.2 xd xl)) X hKK hP hD hS hA 2 (zX3_closeGap l D cI cC q _ n r2.1 r2.2 xd xl x1 (iI 1) r3 h_r3) gX3_dissolve_X3_closeGap rfl rfl rfl hdX3_closeGap ⟨Nat.le_of_ble_eq_true rfl, Nat.le_of_ble_eq_true rfl⟩ [0, 1, 2, 3, 4] [] rfl rfl rfl rfl rfl (by decide) rfl [0, 1, 2, 3, 4] rfl rfl rfl 0 rfl rfl rfl hl.1 rfl (Nat.le_of_ble_eq_true rfl) dX3_dissolve_16 ⟨Nat.zero_le _, Nat.zero_le _⟩ (fun H locs hP hD hS => ?_)
  replace h := Option.some.inj h
  subst h
  exact mu_vret X hP rfl hS dX3_dissolve_19
def mX3_hold_2 : Nat → Int32 → (Nat → Int32) → (Nat → Int32) → (Nat → Int32) → (Nat → Int32) → Int32 → Int32 → Int32 → Option ((Nat → Int32) × (Nat → Int32))
  | 0, _, _, _, _, _, _, _, _ => none
  | f + 1, n, d, lb, xd, xl, x1, x2, x3 => (if x2 ≤ x3 then some (xd, xl) else mX3_hold_2 f n d lb (mX4_put 100 xd x3 ((mX3_depthOf n d (x1 + x3)) - (mX3_depthOf n d x1))) (mX4_put 100 xl x3 (mX3_labelOf lb (x1 + x3))) x1 x2 (x3 + iI 1))
def mX3_hold (n : Int32) (d : Nat → Int32) (lb : Nat → Int32) (xd : Nat → Int32) (xl : Nat → Int32) (x1 : Int32) (x2 : Int32) : Option ((Nat → Int32) × (Nat → Int32)) := mX3_hold_2 FU n d lb xd xl x1 x2 (iI 0)
theorem hdX3_hold : yX3_hold.cls = RX3 ∧ yX3_hold.cls ≠ "java/lang/invoke/MethodHandle" ∧ yX3_hold.cls ≠ "java/lang/invoke/VarHandle" ∧ (parseMethodDescriptor yX3_hold.desc).map (fun d => d.parameters.length) = some 2 := by decide +kernel
theorem flX3_hold_18 : Cond.fieldLink RX3 18 "BracketTree$Tree" "heldDepths" "[I" ∈ wsX3_hold := by decide +kernel
theorem iwX3_hold_3 : ∀ w ∈ wsX30, w ∈ wsX3_hold := by decide +kernel
theorem niX3_hold_X4_put : Cond.initialized RX4 ∈ wsX3_hold := by decide +kernel
theorem nsX3_hold_X4_put : Cond.static yX4_put ∈ wsX3_hold := by decide +kernel
theorem nlX3_hold_X4_put : Cond.methodLinkNest RX3 24 yX4_put "BracketTree" ∈ nestL := by decide +kernel
theorem flX3_hold_21 : Cond.fieldLink RX3 21 "BracketTree$Tree" "heldLabels" "[I" ∈ wsX3_hold := by decide +kernel
abbrev rmX3_hold : Room := { frames := 2, cells := 0, slots := 0, locals := 42 }
set_option maxHeartbeats 4000000 in
set_option maxRecDepth 100000 in
theorem kX3_hold_2 {p : Program} {l : Launch} {e : Env} {s : State} {m : MethodId} {args : Array Value} {below : List Frame} {meth : Method} {c : Code} {D : va_G} {cI cC : ClassId} {q : Nat → Nat}  {r : (Nat → Int32) × (Nat → Int32)} {A : Nat → Prop} (X : CX p s m args meth c wsX3_hold cX3_hold 4 none RX3) (hKK : KK D cI cC s) (hA : ∀ z, s.heap.size ≤ z → A z) : ∀ (f : Nat), ∀ (n : Int32) (d : Nat → Int32) (lb : Nat → Int32) (xd : Nat → Int32) (xl : Nat → Int32) (x1 : Int32) (x2 : Int32) (x3 : Int32) (H : Heap) (locs : List Loc) (ls : Array Slot), va_P D vwCl (wT cI q n d lb xd xl) H → va_D A (wT cI q n d lb xd xl) → va_S A s.heap H locs → lv_has ls 4 [(0, .ref (q 8)), (1, .int x1), (2, .int x2), (3, .int x3)] → mX3_hold_2 f n d lb xd xl x1 x2 x3 = some r → W p l e rmX3_hold s m args below meth c H locs 0 0 (MQ below (muQ D none (wT cI q n d lb r.1 r.2) A) args s 0 0 A) (F0 m 2 ls []) := by
  have hx := X.1
  have hb := X.2.1
  intro f
  induction f with
  | zero =>
    intro n d lb xd xl x1 x2 x3 H locs ls hP hD hS hl h
    exact absurd h (by unfold mX3_hold_2; intro h; cases h)
  | succ f ih =>
    intro n d lb xd xl x1 x2 x3 H locs ls hP hD hS hl h
    rw [mX3_hold_2] at h
    refine lv_iload_n hx hb dX3_hold_2 rfl (lv_at hl 3 rfl) ?_
    refine lv_iload_n hx hb dX3_hold_3 rfl (lv_at hl 2 rfl) ?_
    refine lv_icmp_ge (tgt := 49) hx hb dX3_hold_4 (by decide) (fun c1 => ?_) (fun c1 => ?_)
    · replace h := ifp c1 h
      replace h := Option.some.inj h
      subst h
      exact mu_vret X hP rfl hS dX3_hold_49
    · replace h := ifn c1 h
      refine lv_aload_n hx hb dX3_hold_7 rfl (lv_at hl 0 rfl) ?_
      refine va_get (D := D) (ci := 3) (v := .ref (q 11)) (C := RX3) (T := TX3) (N := 5) hx hb X.2.2.2.2.1 iwX3_hold_3 X.2.2.2.1 hKK.1 hP 0 rfl rfl 2 (by decide) (X.2.2.2.2.1 _ flX3_hold_18) (fun _ h9 => h9) rfl dX3_hold_8 ?_
      refine lv_iload_n hx hb dX3_hold_11 rfl (lv_at hl 3 rfl) ?_
      refine lv_aload_n hx hb dX3_hold_12 rfl (lv_at hl 0 rfl) ?_
      refine lv_iload_n hx hb dX3_hold_13 rfl (lv_at hl 1 rfl) ?_
      refine lv_iload_n hx hb dX3_hold_14 rfl (lv_at hl 3 rfl) ?_
      refine lv_iadd hx hb dX3_hold_15 ?_
      refine rcV (rest := [.int x3, .ref (q 11)]) X hKK hP 1 (zX3_depthOf l D cI cC q n d lb xd xl (x1 + x3) _ rfl) gX3_hold_X3_depthOf rfl rfl rfl hdX3_depthOf ⟨Nat.le_of_ble_eq_true rfl, Nat.le_of_ble_eq_true rfl⟩ [0, 1, 2, 3, 4] rfl 0 rfl rfl rfl hl.1 rfl (Nat.le_of_ble_eq_true rfl) dX3_hold_16 ⟨Nat.zero_le _, Nat.zero_le _⟩ ?_
      refine lv_aload_n hx hb dX3_hold_19 rfl (lv_at hl 0 rfl) ?_
      refine lv_iload_n hx hb dX3_hold_20 rfl (lv_at hl 1 rfl) ?_
      refine rcV (rest := [.int (mX3_depthOf n d (x1 + x3)), .int x3, .ref (q 11)]) X hKK hP 1 (zX3_depthOf l D cI cC q n d lb xd xl x1 _ rfl) gX3_hold_X3_depthOf rfl rfl rfl hdX3_depthOf ⟨Nat.le_of_ble_eq_true rfl, Nat.le_of_ble_eq_true rfl⟩ [0, 1, 2, 3, 4] rfl 0 rfl rfl rfl hl.1 rfl (Nat.le_of_ble_eq_true rfl) dX3_hold_21 ⟨Nat.zero_le _, Nat.zero_le _⟩ ?_
      refine lv_isub hx hb dX3_hold_24 ?_
      refine mcSN (rest := []) (wld2 := (wT cI q n d lb (mX4_put 100 xd x3 ((mX3_depthOf n d (x1 + x3)) - (mX3_depthOf n d x1))) xl)) (wr := pickAt [0, 1, 2, 4] (wT cI q n d lb xd xl)) X hKK hP hD hS hA 3 (zX4_put l D cI cC (q 11) 100 xd x3 ((mX3_depthOf n d (x1 + x3)) - (mX3_depthOf n d x1)) _) gX3_hold_X4_put_n24 rfl rfl rfl nlX3_hold_X4_put (X.2.2.2.2.1 _ niX3_hold_X4_put) (X.2.2.2.2.1 _ nsX3_hold_X4_put) hdX4_put ⟨Nat.le_of_ble_eq_true rfl, Nat.le_of_ble_eq_true rfl⟩ [3] [0, 1, 2, 4] rfl rfl rfl rfl rfl (by decide) rfl [0, 1, 2, 4, 3] rfl rfl rfl rfl hl.1 rfl (Nat.le_of_ble_eq_true rfl) dX3_hold_25 ⟨Nat.zero_le _, Nat.zero_le _⟩ (fun H locs hP hD hS => ?_)
      refine lv_aload_n hx hb dX3_hold_28 rfl (lv_at hl 0 rfl) ?_
      refine va_get (D := D) (ci := 3) (v := .ref (q 12)) (C := RX3) (T := TX3) (N := 5) hx hb X.2.2.2.2.1 iwX3_hold_3 X.2.2.2.1 hKK.1 hP 0 rfl rfl 3 (by decide) (X.2.2.2.2.1 _ flX3_hold_21) (fun _ h9 => h9) rfl dX3_hold_29 ?_
      refine lv_iload_n hx hb dX3_hold_32 rfl (lv_at hl 3 rfl) ?_
      refine lv_aload_n hx hb dX3_hold_33 rfl (lv_at hl 0 rfl) ?_
      refine lv_iload_n hx hb dX3_hold_34 rfl (lv_at hl 1 rfl) ?_
      refine lv_iload_n hx hb dX3_hold_35 rfl (lv_at hl 3 rfl) ?_
      refine lv_iadd hx hb dX3_hold_36 ?_
      refine rcV (rest := [.int x3, .ref (q 12)]) X hKK hP 1 (zX3_labelOf l D cI cC q n d lb (mX4_put 100 xd x3 ((mX3_depthOf n d (x1 + x3)) - (mX3_depthOf n d x1))) xl (x1 + x3) _ rfl) gX3_hold_X3_labelOf rfl rfl rfl hdX3_labelOf ⟨Nat.le_of_ble_eq_true rfl, Nat.le_of_ble_eq_true rfl⟩ [0, 1, 2, 3, 4] rfl 0 rfl rfl rfl hl.1 rfl (Nat.le_of_ble_eq_true rfl) dX3_hold_37 ⟨Nat.zero_le _, Nat.zero_le _⟩ ?_
      refine mcSN (rest := []) (wld2 := (wT cI q n d lb (mX4_put 100 xd x3 ((mX3_depthOf n d (x1 + x3)) - (mX3_depthOf n d x1))) (mX4_put 100 xl x3 (mX3_labelOf lb (x1 + x3))))) (wr := pickAt [0, 1, 2, 3] (wT cI q n d lb (mX4_put 100 xd x3 ((mX3_depthOf n d (x1 + x3)) - (mX3_depthOf n d x1))) xl)) X hKK hP hD hS hA 3 (zX4_put l D cI cC (q 12) 100 xl x3 (mX3_labelOf lb (x1 + x3)) _) gX3_hold_X4_put_n24 rfl rfl rfl nlX3_hold_X4_put (X.2.2.2.2.1 _ niX3_hold_X4_put) (X.2.2.2.2.1 _ nsX3_hold_X4_put) hdX4_put ⟨Nat.le_of_ble_eq_true rfl, Nat.le_of_ble_eq_true rfl⟩ [4] [0, 1, 2, 3] rfl rfl rfl rfl rfl (by decide) rfl [0, 1, 2, 3, 4] rfl rfl rfl rfl hl.1 rfl (Nat.le_of_ble_eq_true rfl) dX3_hold_40 ⟨Nat.zero_le _, Nat.zero_le _⟩ (fun H locs hP hD hS => ?_)
      refine lv_iinc (v := (x3 + iI 1)) (lv' := [(3, .int (x3 + iI 1)), (0, .ref (q 8)), (1, .int x1), (2, .int x2)]) hx hb dX3_hold_43 hl (k := 3) rfl rfl (by decide) rfl (fun ls hl => ?_)
      refine lv_goto (tgt := 2) hx hb dX3_hold_46 (by decide) ?_
      exact ih n d lb (mX4_put 100 xd x3 ((mX3_depthOf n d (x1 + x3)) - (mX3_depthOf n d x1))) (mX4_put 100 xl x3 (mX3_labelOf lb (x1 + x3))) x1 x2 (x3 + iI 1) _ _ ls hP hD hS (lv_sub hl [1, 2, 3, 0] rfl) h
set_option maxHeartbeats 4000000 in
set_option maxRecDepth 100000 in
theorem zX3_hold (l : Launch) (D : va_G) (cI cC : ClassId) (q : Nat → Nat) (sz : Nat) (n : Int32) (d : Nat → Int32) (lb : Nat → Int32) (xd : Nat → Int32) (xl : Nat → Int32) (x1 : Int32) (x2 : Int32) (r : (Nat → Int32) × (Nat → Int32)) (h : mX3_hold n d lb xd xl x1 x2 = some r) : Met l yX3_hold wsX3_hold rmX3_hold (va_Pc [.ref (q 8), .int x1, .int x2] (MB D cI cC sz (wT cI q n d lb xd xl))) (muQ D none (wT cI q n d lb r.1 r.2) (va_A (wT cI q n d lb xd xl) sz)) 0 0 (va_A (wT cI q n d lb xd xl) sz) := by
  refine MetI RX3 (by decide +kernel) rfl rfl (Nat.le_of_ble_eq_true rfl) ?_
  intro p e s m below meth c ls X _ hB hl
  obtain ⟨hsz, ⟨hP, hKK⟩, hD0⟩ := hB
  subst hsz
  have hD := hD0.self (sz := s.heap.size)
  generalize hAe : va_A (wT cI q n d lb xd xl) s.heap.size = A at hD ⊢
  have hA : ∀ z : Nat, s.heap.size ≤ z → A z := fun z hz => by rw [← hAe]; exact Or.inr hz
  have hS : va_S A s.heap s.heap [] := va_S.rf
  have hx := X.1
  have hb := X.2.1
  replace hl : lv_has ls 4 [(0, .ref (q 8)), (1, .int x1), (2, .int x2)] := hl
  replace hP : va_P D vwCl (wT cI q n d lb xd xl) s.heap := hP
  unfold mX3_hold at h
  refine lv_iconst (v := iI 0) hx hb dX3_hold_0 rfl ?_
  refine lv_istore_n (lv' := [(3, .int (iI 0)), (0, .ref (q 8)), (1, .int x1), (2, .int x2)]) hx hb dX3_hold_1 rfl hl (by decide) rfl (fun ls hl => ?_)
  exact kX3_hold_2 X hKK hA FU n d lb xd xl x1 x2 (iI 0) _ _ ls hP hD hS (lv_sub hl [1, 2, 3, 0] rfl) h
def mX3_release_3 : Nat → (Nat → Int32) → (Nat → Int32) → (Nat → Int32) → (Nat → Int32) → Int32 → Int32 → Int32 → Int32 → Option ((Nat → Int32) × (Nat → Int32))
  | 0, _, _, _, _, _, _, _, _ => none
  | f + 1, d, lb, xd, xl, x1, x2, x3, x4 => (if x2 ≤ x4 then some (d, lb) else mX3_release_3 f ((mX3_putNode d lb (x1 + x4) ((mX4_get 100 xd x4) + x3) (mX4_get 100 xl x4)).1) ((mX3_putNode d lb (x1 + x4) ((mX4_get 100 xd x4) + x3) (mX4_get 100 xl x4)).2) xd xl x1 x2 x3 (x4 + iI 1))
def mX3_release (d : Nat → Int32) (lb : Nat → Int32) (xd : Nat → Int32) (xl : Nat → Int32) (x1 : Int32) (x2 : Int32) (x3 : Int32) : Option ((Nat → Int32) × (Nat → Int32)) := mX3_release_3 FU d lb xd xl x1 x2 x3 (iI 0)
theorem hdX3_release : yX3_release.cls = RX3 ∧ yX3_release.cls ≠ "java/lang/invoke/MethodHandle" ∧ yX3_release.cls ≠ "java/lang/invoke/VarHandle" ∧ (parseMethodDescriptor yX3_release.desc).map (fun d => d.parameters.length) = some 3 := by decide +kernel
theorem flX3_release_18 : Cond.fieldLink RX3 18 "BracketTree$Tree" "heldDepths" "[I" ∈ wsX3_release := by decide +kernel
theorem iwX3_release_3 : ∀ w ∈ wsX30, w ∈ wsX3_release := by decide +kernel
theorem niX3_release_X4_get : Cond.initialized RX4 ∈ wsX3_release := by decide +kernel
theorem nsX3_release_X4_get : Cond.static yX4_get ∈ wsX3_release := by decide +kernel
theorem nlX3_release_X4_get : Cond.methodLinkNest RX3 36 yX4_get "BracketTree" ∈ nestL := by decide +kernel
theorem flX3_release_21 : Cond.fieldLink RX3 21 "BracketTree$Tree" "heldLabels" "[I" ∈ wsX3_release := by decide +kernel
abbrev rmX3_release : Room := { frames := 2, cells := 0, slots := 0, locals := 45 }
set_option maxHeartbeats 4000000 in
set_option maxRecDepth 100000 in
theorem kX3_release_3 {p : Program} {l : Launch} {e : Env} {s : State} {m : MethodId} {args : Array Value} {below : List Frame} {meth : Method} {c : Code} {D : va_G} {cI cC : ClassId} {q : Nat → Nat} {n : Int32} {r : (Nat → Int32) × (Nat → Int32)} {A : Nat → Prop} (X : CX p s m args meth c wsX3_release cX3_release 5 none RX3) (hKK : KK D cI cC s) (hA : ∀ z, s.heap.size ≤ z → A z) : ∀ (f : Nat), ∀ (d : Nat → Int32) (lb : Nat → Int32) (xd : Nat → Int32) (xl : Nat → Int32) (x1 : Int32) (x2 : Int32) (x3 : Int32) (x4 : Int32) (H : Heap) (locs : List Loc) (ls : Array Slot), va_P D vwCl (wT cI q n d lb xd xl) H → va_D A (wT cI q n d lb xd xl) → va_S A s.heap H locs → lv_has ls 5 [(0, .ref (q 8)), (1, .int x1), (2, .int x2), (3, .int x3), (4, .int x4)] → mX3_release_3 f d lb xd xl x1 x2 x3 x4 = some r → W p l e rmX3_release s m args below meth c H locs 0 0 (MQ below (muQ D none (wT cI q n r.1 r.2 xd xl) A) args s 0 0 A) (F0 m 3 ls []) := by
  have hx := X.1
  have hb := X.2.1
  intro f
  induction f with
  | zero =>
    intro d lb xd xl x1 x2 x3 x4 H locs ls hP hD hS hl h
    exact absurd h (by unfold mX3_release_3; intro h; cases h)
  | succ f ih =>
    intro d lb xd xl x1 x2 x3 x4 H locs ls hP hD hS hl h
    rw [mX3_release_3] at h
    refine lv_iload hx hb dX3_release_3 (lv_at hl 4 rfl) ?_
    refine lv_iload_n hx hb dX3_release_5 rfl (lv_at hl 2 rfl) ?_
    refine lv_icmp_ge (tgt := 43) hx hb dX3_release_6 (by decide) (fun c1 => ?_) (fun c1 => ?_)
    · replace h := ifp c1 h
      replace h := Option.some.inj h
      subst h
      exact mu_vret X hP rfl hS dX3_release_43
    · replace h := ifn c1 h
      refine lv_aload_n hx hb dX3_release_9 rfl (lv_at hl 0 rfl) ?_
      refine lv_iload_n hx hb dX3_release_10 rfl (lv_at hl 1 rfl) ?_
      refine lv_iload hx hb dX3_release_11 (lv_at hl 4 rfl) ?_
      refine lv_iadd hx hb dX3_release_13 ?_
      refine lv_aload_n hx hb dX3_release_14 rfl (lv_at hl 0 rfl) ?_
      refine va_get (D := D) (ci := 3) (v := .ref (q 11)) (C := RX3) (T := TX3) (N := 5) hx hb X.2.2.2.2.1 iwX3_release_3 X.2.2.2.1 hKK.1 hP 0 rfl rfl 2 (by decide) (X.2.2.2.2.1 _ flX3_release_18) (fun _ h9 => h9) rfl dX3_release_15 ?_
      refine lv_iload hx hb dX3_release_18 (lv_at hl 4 rfl) ?_
      refine rcSN (rest := [.int (x1 + x4), .ref (q 8)]) X hKK hP 2 (zX4_get l D cI cC (q 11) 100 xd x4) gX3_release_X4_get_n36 rfl rfl rfl nlX3_release_X4_get (X.2.2.2.2.1 _ niX3_release_X4_get) (X.2.2.2.2.1 _ nsX3_release_X4_get) hdX4_get ⟨Nat.le_of_ble_eq_true rfl, Nat.le_of_ble_eq_true rfl⟩ [3] rfl rfl hl.1 rfl (Nat.le_of_ble_eq_true rfl) dX3_release_20 ⟨Nat.zero_le _, Nat.zero_le _⟩ ?_
      refine lv_iload_n hx hb dX3_release_23 rfl (lv_at hl 3 rfl) ?_
      refine lv_iadd hx hb dX3_release_24 ?_
      refine lv_aload_n hx hb dX3_release_25 rfl (lv_at hl 0 rfl) ?_
      refine va_get (D := D) (ci := 3) (v := .ref (q 12)) (C := RX3) (T := TX3) (N := 5) hx hb X.2.2.2.2.1 iwX3_release_3 X.2.2.2.1 hKK.1 hP 0 rfl rfl 3 (by decide) (X.2.2.2.2.1 _ flX3_release_21) (fun _ h9 => h9) rfl dX3_release_26 ?_
      refine lv_iload hx hb dX3_release_29 (lv_at hl 4 rfl) ?_
      refine rcSN (rest := [.int ((mX4_get 100 xd x4) + x3), .int (x1 + x4), .ref (q 8)]) X hKK hP 2 (zX4_get l D cI cC (q 12) 100 xl x4) gX3_release_X4_get_n36 rfl rfl rfl nlX3_release_X4_get (X.2.2.2.2.1 _ niX3_release_X4_get) (X.2.2.2.2.1 _ nsX3_release_X4_get) hdX4_get ⟨Nat.le_of_ble_eq_true rfl, Nat.le_of_ble_eq_true rfl⟩ [4] rfl rfl hl.1 rfl (Nat.le_of_ble_eq_true rfl) dX3_release_31 ⟨Nat.zero_le _, Nat.zero_le _⟩ ?_
      refine mcV (rest := []) (wld2 := (wT cI q n (mX3_putNode d lb (x1 + x4) ((mX4_get 100 xd x4) + x3) (mX4_get 100 xl x4)).1 (mX3_putNode d lb (x1 + x4) ((mX4_get 100 xd x4) + x3) (mX4_get 100 xl x4)).2 xd xl)) (wr := pickAt [] (wT cI q n d lb xd xl)) X hKK hP hD hS hA 3 (zX3_putNode l D cI cC q _ n d lb xd xl (x1 + x4) ((mX4_get 100 xd x4) + x3) (mX4_get 100 xl x4) _ rfl) gX3_release_X3_putNode rfl rfl rfl hdX3_putNode ⟨Nat.le_of_ble_eq_true rfl, Nat.le_of_ble_eq_true rfl⟩ [0, 1, 2, 3, 4] [] rfl rfl rfl rfl rfl (by decide) rfl [0, 1, 2, 3, 4] rfl rfl rfl 0 rfl rfl rfl hl.1 rfl (Nat.le_of_ble_eq_true rfl) dX3_release_34 ⟨Nat.zero_le _, Nat.zero_le _⟩ (fun H locs hP hD hS => ?_)
      refine lv_iinc (v := (x4 + iI 1)) (lv' := [(4, .int (x4 + iI 1)), (0, .ref (q 8)), (1, .int x1), (2, .int x2), (3, .int x3)]) hx hb dX3_release_37 hl (k := 4) rfl rfl (by decide) rfl (fun ls hl => ?_)
      refine lv_goto (tgt := 3) hx hb dX3_release_40 (by decide) ?_
      exact ih ((mX3_putNode d lb (x1 + x4) ((mX4_get 100 xd x4) + x3) (mX4_get 100 xl x4)).1) ((mX3_putNode d lb (x1 + x4) ((mX4_get 100 xd x4) + x3) (mX4_get 100 xl x4)).2) xd xl x1 x2 x3 (x4 + iI 1) _ _ ls hP hD hS (lv_sub hl [1, 2, 3, 4, 0] rfl) h
set_option maxHeartbeats 4000000 in
set_option maxRecDepth 100000 in
theorem zX3_release (l : Launch) (D : va_G) (cI cC : ClassId) (q : Nat → Nat) (sz : Nat) (n : Int32) (d : Nat → Int32) (lb : Nat → Int32) (xd : Nat → Int32) (xl : Nat → Int32) (x1 : Int32) (x2 : Int32) (x3 : Int32) (r : (Nat → Int32) × (Nat → Int32)) (h : mX3_release d lb xd xl x1 x2 x3 = some r) : Met l yX3_release wsX3_release rmX3_release (va_Pc [.ref (q 8), .int x1, .int x2, .int x3] (MB D cI cC sz (wT cI q n d lb xd xl))) (muQ D none (wT cI q n r.1 r.2 xd xl) (va_A (wT cI q n d lb xd xl) sz)) 0 0 (va_A (wT cI q n d lb xd xl) sz) := by
  refine MetI RX3 (by decide +kernel) rfl rfl (Nat.le_of_ble_eq_true rfl) ?_
  intro p e s m below meth c ls X _ hB hl
  obtain ⟨hsz, ⟨hP, hKK⟩, hD0⟩ := hB
  subst hsz
  have hD := hD0.self (sz := s.heap.size)
  generalize hAe : va_A (wT cI q n d lb xd xl) s.heap.size = A at hD ⊢
  have hA : ∀ z : Nat, s.heap.size ≤ z → A z := fun z hz => by rw [← hAe]; exact Or.inr hz
  have hS : va_S A s.heap s.heap [] := va_S.rf
  have hx := X.1
  have hb := X.2.1
  replace hl : lv_has ls 5 [(0, .ref (q 8)), (1, .int x1), (2, .int x2), (3, .int x3)] := hl
  replace hP : va_P D vwCl (wT cI q n d lb xd xl) s.heap := hP
  unfold mX3_release at h
  refine lv_iconst (v := iI 0) hx hb dX3_release_0 rfl ?_
  refine lv_istore (lv' := [(4, .int (iI 0)), (0, .ref (q 8)), (1, .int x1), (2, .int x2), (3, .int x3)]) hx hb dX3_release_1 hl (by decide) rfl (fun ls hl => ?_)
  exact kX3_release_3 X hKK hA FU d lb xd xl x1 x2 x3 (iI 0) _ _ ls hP hD hS (lv_sub hl [1, 2, 3, 4, 0] rfl) h
def mX3_transplant (n : Int32) (d : Nat → Int32) (lb : Nat → Int32) (xd : Nat → Int32) (xl : Nat → Int32) (x1 : Int32) (x2 : Int32) (x3 : Int32) : Option (Int32 × Int32 × (Nat → Int32) × (Nat → Int32) × (Nat → Int32) × (Nat → Int32)) := ((mX3_sizeOf n d x1).bind fun r1 => ((mX3_hold n d lb xd xl x1 r1).bind fun r2 => ((mX3_closeGap n d lb x1 r1).bind fun r3 => (if x1 ≤ x2 then ((mX3_startOfPlace r3.1 r3.2.1 (x2 - r1) x3).bind fun r5 => ((mX3_openGap r3.1 r3.2.1 r3.2.2 r5 r1).bind fun r6 => ((mX3_release r6.2.1 r6.2.2 r2.1 r2.2 r5 r1 ((mX3_depthOf r6.1 r6.2.1 (x2 - r1)) + (iI 1))).bind fun r7 => some (r5, r6.1, r7.1, r7.2, r2.1, r2.2)))) else ((mX3_startOfPlace r3.1 r3.2.1 x2 x3).bind fun r8 => ((mX3_openGap r3.1 r3.2.1 r3.2.2 r8 r1).bind fun r9 => ((mX3_release r9.2.1 r9.2.2 r2.1 r2.2 r8 r1 ((mX3_depthOf r9.1 r9.2.1 x2) + (iI 1))).bind fun r10 => some (r8, r9.1, r10.1, r10.2, r2.1, r2.2))))))))
theorem hdX3_transplant : yX3_transplant.cls = RX3 ∧ yX3_transplant.cls ≠ "java/lang/invoke/MethodHandle" ∧ yX3_transplant.cls ≠ "java/lang/invoke/VarHandle" ∧ (parseMethodDescriptor yX3_transplant.desc).map (fun d => d.parameters.length) = some 3 := by decide +kernel
abbrev rmX3_transplant : Room := { frames := 4, cells := 0, slots := 0, locals := 90 }
set_option maxHeartbeats 4000000 in
set_option maxRecDepth 100000 in
theorem zX3_transplant (l : Launch) (D : va_G) (cI cC : ClassId) (q : Nat → Nat) (sz : Nat) (n : Int32) (d : Nat → Int32) (lb : Nat → Int32) (xd : Nat → Int32) (xl : Nat → Int32) (x1 : Int32) (x2 : Int32) (x3 : Int32) (r : Int32 × Int32 × (Nat → Int32) × (Nat → Int32) × (Nat → Int32) × (Nat → Int32)) (h : mX3_transplant n d lb xd xl x1 x2 x3 = some r) : Met l yX3_transplant wsX3_transplant rmX3_transplant (va_Pc [.ref (q 8), .int x1, .int x2, .int x3] (MB D cI cC sz (wT cI q n d lb xd xl))) (muQ D (some (.int r.1)) (wT cI q r.2.1 r.2.2.1 r.2.2.2.1 r.2.2.2.2.1 r.2.2.2.2.2) (va_A (wT cI q n d lb xd xl) sz)) 0 0 (va_A (wT cI q n d lb xd xl) sz) := by
  refine MetI RX3 (by decide +kernel) rfl rfl (Nat.le_of_ble_eq_true rfl) ?_
  intro p e s m below meth c ls X _ hB hl
  obtain ⟨hsz, ⟨hP, hKK⟩, hD0⟩ := hB
  subst hsz
  have hD := hD0.self (sz := s.heap.size)
  generalize hAe : va_A (wT cI q n d lb xd xl) s.heap.size = A at hD ⊢
  have hA : ∀ z : Nat, s.heap.size ≤ z → A z := fun z hz => by rw [← hAe]; exact Or.inr hz
  have hS : va_S A s.heap s.heap [] := va_S.rf
  have hx := X.1
  have hb := X.2.1
  replace hl : lv_has ls 7 [(0, .ref (q 8)), (1, .int x1), (2, .int x2), (3, .int x3)] := hl
  replace hP : va_P D vwCl (wT cI q n d lb xd xl) s.heap := hP
  unfold mX3_transplant at h
  refine lv_aload_n hx hb dX3_transplant_0 rfl (lv_at hl 0 rfl) ?_
  refine lv_iload_n hx hb dX3_transplant_1 rfl (lv_at hl 1 rfl) ?_
  obtain ⟨r1, h_r1, h⟩ := obd h
  refine rcV (rest := []) X hKK hP 1 (zX3_sizeOf l D cI cC q n d lb xd xl x1 r1 h_r1) gX3_transplant_X3_sizeOf rfl rfl rfl hdX3_sizeOf ⟨Nat.le_of_ble_eq_true rfl, Nat.le_of_ble_eq_true rfl⟩ [0, 1, 2, 3, 4] rfl 0 rfl rfl rfl hl.1 rfl (Nat.le_of_ble_eq_true rfl) dX3_transplant_2 ⟨Nat.zero_le _, Nat.zero_le _⟩ ?_
  refine lv_istore (lv' := [(4, .int r1), (0, .ref (q 8)), (1, .int x1), (2, .int x2), (3, .int x3)]) hx hb dX3_transplant_5 hl (by decide) rfl (fun ls hl => ?_)
  refine lv_aload_n hx hb dX3_transplant_7 rfl (lv_at hl 1 rfl) ?_
  refine lv_iload_n hx hb dX3_transplant_8 rfl (lv_at hl 2 rfl) ?_
  refine lv_iload hx hb dX3_transplant_9 (lv_at hl 0 rfl) ?_
  obtain ⟨r2, h_r2, h⟩ := obd h
  refine mcV (rest := []) (wld2 := (wT cI q n d lb r2.1 r2.2)) (wr := pickAt [] (wT cI q n d lb xd xl)) X hKK hP hD hS hA 2 (zX3_hold l D cI cC q _ n d lb xd xl x1 r1 r2 h_r2) gX3_transplant_X3_hold rfl rfl rfl hdX3_hold ⟨Nat.le_of_ble_eq_true rfl, Nat.le_of_ble_eq_true rfl⟩ [0, 1, 2, 3, 4] [] rfl rfl rfl rfl rfl (by decide) rfl [0, 1, 2, 3, 4] rfl rfl rfl 0 rfl rfl rfl hl.1 rfl (Nat.le_of_ble_eq_true rfl) dX3_transplant_11 ⟨Nat.zero_le _, Nat.zero_le _⟩ (fun H locs hP hD hS => ?_)
  refine lv_aload_n hx hb dX3_transplant_14 rfl (lv_at hl 1 rfl) ?_
  refine lv_iload_n hx hb dX3_transplant_15 rfl (lv_at hl 2 rfl) ?_
  refine lv_iload hx hb dX3_transplant_16 (lv_at hl 0 rfl) ?_
  obtain ⟨r3, h_r3, h⟩ := obd h
  refine mcV (rest := []) (wld2 := (wT cI q r3.1 r3.2.1 r3.2.2 r2.1 r2.2)) (wr := pickAt [] (wT cI q n d lb r2.1 r2.2)) X hKK hP hD hS hA 2 (zX3_closeGap l D cI cC q _ n d lb r2.1 r2.2 x1 r1 r3 h_r3) gX3_transplant_X3_closeGap rfl rfl rfl hdX3_closeGap ⟨Nat.le_of_ble_eq_true rfl, Nat.le_of_ble_eq_true rfl⟩ [0, 1, 2, 3, 4] [] rfl rfl rfl rfl rfl (by decide) rfl [0, 1, 2, 3, 4] rfl rfl rfl 0 rfl rfl rfl hl.1 rfl (Nat.le_of_ble_eq_true rfl) dX3_transplant_18 ⟨Nat.zero_le _, Nat.zero_le _⟩ (fun H locs hP hD hS => ?_)
  refine lv_iload_n hx hb dX3_transplant_21 rfl (lv_at hl 3 rfl) ?_
  refine lv_iload_n hx hb dX3_transplant_22 rfl (lv_at hl 2 rfl) ?_
  refine lv_icmp_ge (tgt := 30) hx hb dX3_transplant_23 (by decide) (fun c4 => ?_) (fun c4 => ?_)
  · replace h := ifp c4 h
    refine lv_iload_n hx hb dX3_transplant_30 rfl (lv_at hl 3 rfl) ?_
    refine lv_iload hx hb dX3_transplant_31 (lv_at hl 0 rfl) ?_
    refine lv_isub hx hb dX3_transplant_33 ?_
    refine lv_istore (lv' := [(5, .int (x2 - r1)), (4, .int r1), (0, .ref (q 8)), (1, .int x1), (2, .int x2), (3, .int x3)]) hx hb dX3_transplant_34 hl (by decide) rfl (fun ls hl => ?_)
    refine lv_aload_n hx hb dX3_transplant_36 rfl (lv_at hl 2 rfl) ?_
    refine lv_iload hx hb dX3_transplant_37 (lv_at hl 0 rfl) ?_
    refine lv_iload_n hx hb dX3_transplant_39 rfl (lv_at hl 5 rfl) ?_
    obtain ⟨r5, h_r5, h⟩ := obd h
    refine rcV (rest := []) X hKK hP 2 (zX3_startOfPlace l D cI cC q r3.1 r3.2.1 r3.2.2 r2.1 r2.2 (x2 - r1) x3 r5 h_r5) gX3_transplant_X3_startOfPlace rfl rfl rfl hdX3_startOfPlace ⟨Nat.le_of_ble_eq_true rfl, Nat.le_of_ble_eq_true rfl⟩ [0, 1, 2, 3, 4] rfl 0 rfl rfl rfl hl.1 rfl (Nat.le_of_ble_eq_true rfl) dX3_transplant_40 ⟨Nat.zero_le _, Nat.zero_le _⟩ ?_
    refine lv_istore (lv' := [(6, .int r5), (5, .int (x2 - r1)), (4, .int r1), (0, .ref (q 8)), (1, .int x1), (2, .int x2), (3, .int x3)]) hx hb dX3_transplant_43 hl (by decide) rfl (fun ls hl => ?_)
    refine lv_aload_n hx hb dX3_transplant_45 rfl (lv_at hl 3 rfl) ?_
    refine lv_iload hx hb dX3_transplant_46 (lv_at hl 0 rfl) ?_
    refine lv_iload hx hb dX3_transplant_48 (lv_at hl 2 rfl) ?_
    obtain ⟨r6, h_r6, h⟩ := obd h
    refine mcV (rest := []) (wld2 := (wT cI q r6.1 r6.2.1 r6.2.2 r2.1 r2.2)) (wr := pickAt [] (wT cI q r3.1 r3.2.1 r3.2.2 r2.1 r2.2)) X hKK hP hD hS hA 2 (zX3_openGap l D cI cC q _ r3.1 r3.2.1 r3.2.2 r2.1 r2.2 r5 r1 r6 h_r6) gX3_transplant_X3_openGap rfl rfl rfl hdX3_openGap ⟨Nat.le_of_ble_eq_true rfl, Nat.le_of_ble_eq_true rfl⟩ [0, 1, 2, 3, 4] [] rfl rfl rfl rfl rfl (by decide) rfl [0, 1, 2, 3, 4] rfl rfl rfl 0 rfl rfl rfl hl.1 rfl (Nat.le_of_ble_eq_true rfl) dX3_transplant_50 ⟨Nat.zero_le _, Nat.zero_le _⟩ (fun H locs hP hD hS => ?_)
    refine lv_aload_n hx hb dX3_transplant_53 rfl (lv_at hl 3 rfl) ?_
    refine lv_iload hx hb dX3_transplant_54 (lv_at hl 0 rfl) ?_
    refine lv_iload hx hb dX3_transplant_56 (lv_at hl 2 rfl) ?_
    refine lv_aload_n hx hb dX3_transplant_58 rfl (lv_at hl 3 rfl) ?_
    refine lv_iload hx hb dX3_transplant_59 (lv_at hl 1 rfl) ?_
    refine rcV (rest := [.int r1, .int r5, .ref (q 8)]) X hKK hP 1 (zX3_depthOf l D cI cC q r6.1 r6.2.1 r6.2.2 r2.1 r2.2 (x2 - r1) _ rfl) gX3_transplant_X3_depthOf rfl rfl rfl hdX3_depthOf ⟨Nat.le_of_ble_eq_true rfl, Nat.le_of_ble_eq_true rfl⟩ [0, 1, 2, 3, 4] rfl 0 rfl rfl rfl hl.1 rfl (Nat.le_of_ble_eq_true rfl) dX3_transplant_61 ⟨Nat.zero_le _, Nat.zero_le _⟩ ?_
    refine lv_iconst (v := iI 1) hx hb dX3_transplant_64 rfl ?_
    refine lv_iadd hx hb dX3_transplant_65 ?_
    obtain ⟨r7, h_r7, h⟩ := obd h
    refine mcV (rest := []) (wld2 := (wT cI q r6.1 r7.1 r7.2 r2.1 r2.2)) (wr := pickAt [] (wT cI q r6.1 r6.2.1 r6.2.2 r2.1 r2.2)) X hKK hP hD hS hA 3 (zX3_release l D cI cC q _ r6.1 r6.2.1 r6.2.2 r2.1 r2.2 r5 r1 ((mX3_depthOf r6.1 r6.2.1 (x2 - r1)) + (iI 1)) r7 h_r7) gX3_transplant_X3_release rfl rfl rfl hdX3_release ⟨Nat.le_of_ble_eq_true rfl, Nat.le_of_ble_eq_true rfl⟩ [0, 1, 2, 3, 4] [] rfl rfl rfl rfl rfl (by decide) rfl [0, 1, 2, 3, 4] rfl rfl rfl 0 rfl rfl rfl hl.1 rfl (Nat.le_of_ble_eq_true rfl) dX3_transplant_66 ⟨Nat.zero_le _, Nat.zero_le _⟩ (fun H locs hP hD hS => ?_)
    refine lv_iload hx hb dX3_transplant_69 (lv_at hl 0 rfl) ?_
    replace h := Option.some.inj h
    subst h
    exact mu_ret X rfl rfl hP rfl hS dX3_transplant_71
  · replace h := ifn c4 h
    refine lv_iload_n hx hb dX3_transplant_26 rfl (lv_at hl 3 rfl) ?_
    refine lv_goto (tgt := 34) hx hb dX3_transplant_27 (by decide) ?_
    refine lv_istore (lv' := [(5, .int x2), (4, .int r1), (0, .ref (q 8)), (1, .int x1), (2, .int x2), (3, .int x3)]) hx hb dX3_transplant_34 hl (by decide) rfl (fun ls hl => ?_)
    refine lv_aload_n hx hb dX3_transplant_36 rfl (lv_at hl 2 rfl) ?_
    refine lv_iload hx hb dX3_transplant_37 (lv_at hl 0 rfl) ?_
    refine lv_iload_n hx hb dX3_transplant_39 rfl (lv_at hl 5 rfl) ?_
    obtain ⟨r8, h_r8, h⟩ := obd h
    refine rcV (rest := []) X hKK hP 2 (zX3_startOfPlace l D cI cC q r3.1 r3.2.1 r3.2.2 r2.1 r2.2 x2 x3 r8 h_r8) gX3_transplant_X3_startOfPlace rfl rfl rfl hdX3_startOfPlace ⟨Nat.le_of_ble_eq_true rfl, Nat.le_of_ble_eq_true rfl⟩ [0, 1, 2, 3, 4] rfl 0 rfl rfl rfl hl.1 rfl (Nat.le_of_ble_eq_true rfl) dX3_transplant_40 ⟨Nat.zero_le _, Nat.zero_le _⟩ ?_
    refine lv_istore (lv' := [(6, .int r8), (5, .int x2), (4, .int r1), (0, .ref (q 8)), (1, .int x1), (2, .int x2), (3, .int x3)]) hx hb dX3_transplant_43 hl (by decide) rfl (fun ls hl => ?_)
    refine lv_aload_n hx hb dX3_transplant_45 rfl (lv_at hl 3 rfl) ?_
    refine lv_iload hx hb dX3_transplant_46 (lv_at hl 0 rfl) ?_
    refine lv_iload hx hb dX3_transplant_48 (lv_at hl 2 rfl) ?_
    obtain ⟨r9, h_r9, h⟩ := obd h
    refine mcV (rest := []) (wld2 := (wT cI q r9.1 r9.2.1 r9.2.2 r2.1 r2.2)) (wr := pickAt [] (wT cI q r3.1 r3.2.1 r3.2.2 r2.1 r2.2)) X hKK hP hD hS hA 2 (zX3_openGap l D cI cC q _ r3.1 r3.2.1 r3.2.2 r2.1 r2.2 r8 r1 r9 h_r9) gX3_transplant_X3_openGap rfl rfl rfl hdX3_openGap ⟨Nat.le_of_ble_eq_true rfl, Nat.le_of_ble_eq_true rfl⟩ [0, 1, 2, 3, 4] [] rfl rfl rfl rfl rfl (by decide) rfl [0, 1, 2, 3, 4] rfl rfl rfl 0 rfl rfl rfl hl.1 rfl (Nat.le_of_ble_eq_true rfl) dX3_transplant_50 ⟨Nat.zero_le _, Nat.zero_le _⟩ (fun H locs hP hD hS => ?_)
    refine lv_aload_n hx hb dX3_transplant_53 rfl (lv_at hl 3 rfl) ?_
    refine lv_iload hx hb dX3_transplant_54 (lv_at hl 0 rfl) ?_
    refine lv_iload hx hb dX3_transplant_56 (lv_at hl 2 rfl) ?_
    refine lv_aload_n hx hb dX3_transplant_58 rfl (lv_at hl 3 rfl) ?_
    refine lv_iload hx hb dX3_transplant_59 (lv_at hl 1 rfl) ?_
    refine rcV (rest := [.int r1, .int r8, .ref (q 8)]) X hKK hP 1 (zX3_depthOf l D cI cC q r9.1 r9.2.1 r9.2.2 r2.1 r2.2 x2 _ rfl) gX3_transplant_X3_depthOf rfl rfl rfl hdX3_depthOf ⟨Nat.le_of_ble_eq_true rfl, Nat.le_of_ble_eq_true rfl⟩ [0, 1, 2, 3, 4] rfl 0 rfl rfl rfl hl.1 rfl (Nat.le_of_ble_eq_true rfl) dX3_transplant_61 ⟨Nat.zero_le _, Nat.zero_le _⟩ ?_
    refine lv_iconst (v := iI 1) hx hb dX3_transplant_64 rfl ?_
    refine lv_iadd hx hb dX3_transplant_65 ?_
    obtain ⟨r10, h_r10, h⟩ := obd h
    refine mcV (rest := []) (wld2 := (wT cI q r9.1 r10.1 r10.2 r2.1 r2.2)) (wr := pickAt [] (wT cI q r9.1 r9.2.1 r9.2.2 r2.1 r2.2)) X hKK hP hD hS hA 3 (zX3_release l D cI cC q _ r9.1 r9.2.1 r9.2.2 r2.1 r2.2 r8 r1 ((mX3_depthOf r9.1 r9.2.1 x2) + (iI 1)) r10 h_r10) gX3_transplant_X3_release rfl rfl rfl hdX3_release ⟨Nat.le_of_ble_eq_true rfl, Nat.le_of_ble_eq_true rfl⟩ [0, 1, 2, 3, 4] [] rfl rfl rfl rfl rfl (by decide) rfl [0, 1, 2, 3, 4] rfl rfl rfl 0 rfl rfl rfl hl.1 rfl (Nat.le_of_ble_eq_true rfl) dX3_transplant_66 ⟨Nat.zero_le _, Nat.zero_le _⟩ (fun H locs hP hD hS => ?_)
    refine lv_iload hx hb dX3_transplant_69 (lv_at hl 0 rfl) ?_
    replace h := Option.some.inj h
    subst h
    exact mu_ret X rfl rfl hP rfl hS dX3_transplant_71
