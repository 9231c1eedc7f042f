def mX0_changeWidth (wi : Int32) (x1 : Int32) : (Int32 × Int32) := (wi, x1)
theorem hdX0_changeWidth : yX0_changeWidth.cls = RX0 ∧ yX0_changeWidth.cls ≠ "java/lang/invoke/MethodHandle" ∧ yX0_changeWidth.cls ≠ "java/lang/invoke/VarHandle" ∧ (parseMethodDescriptor yX0_changeWidth.desc).map (fun d => d.parameters.length) = some 1 := by decide +kernel
theorem flX0_changeWidth_9 : Cond.fieldLink RX0 9 "BracketTree$Blocks" "width" "I" ∈ wsX0_changeWidth := by decide +kernel
theorem iwX0_changeWidth_0 : ∀ w ∈ wsX00, w ∈ wsX0_changeWidth := by decide +kernel
abbrev rmX0_changeWidth : Room := { frames := 0, cells := 0, slots := 0, locals := 0 }
set_option maxHeartbeats 4000000 in
set_option maxRecDepth 100000 in
theorem zX0_changeWidth (l : Launch) (D : va_G) (cI cC : ClassId) (q : Nat → Nat) (sz : Nat) (n : Int32) (d : Nat → Int32) (lb : Nat → Int32) (xd : Nat → Int32) (xl : Nat → Int32) (wi : Int32) (x1 : Int32) (r : Int32 × Int32) (h : mX0_changeWidth wi x1 = r) : Met l yX0_changeWidth wsX0_changeWidth rmX0_changeWidth (va_Pc [.ref (q 1), .int x1] (MB D cI cC sz (wB cI q n d lb xd xl wi))) (muQ D (some (.int r.1)) (wB cI q n d lb xd xl r.2) (va_A (wB cI q n d lb xd xl wi) sz)) 0 0 (va_A (wB cI q n d lb xd xl wi) sz) := by
  refine MetI RX0 (by decide +kernel) rfl rfl (Nat.le_of_ble_eq_true rfl) ?_
  intro p e s m below meth c ls X _ hB hl
  obtain ⟨hsz, ⟨hP, hKK⟩, hD0⟩ := hB
  subst hsz
  have hD := hD0.self (sz := s.heap.size)
  generalize hAe : va_A (wB cI q n d lb xd xl wi) s.heap.size = A at hD ⊢
  have hA : ∀ z : Nat, s.heap.size ≤ z → A z := fun z hz => by rw [← hAe]; exact Or.inr hz
  have hS : va_S A s.heap s.heap [] := va_S.rf
  have hx := X.1
  have hb := X.2.1
  replace hl : lv_has ls 3 [(0, .ref (q 1)), (1, .int x1)] := hl
  replace hP : va_P D vwCl (wB cI q n d lb xd xl wi) s.heap := hP
  unfold mX0_changeWidth at h
  refine lv_aload_n hx hb dX0_changeWidth_0 rfl (lv_at hl 0 rfl) ?_
  refine va_get (D := D) (ci := 0) (v := .int wi) (C := RX0) (T := TX0) (N := 1) hx hb X.2.2.2.2.1 iwX0_changeWidth_0 X.2.2.2.1 hKK.1 hP 0 rfl rfl 0 (by decide) (X.2.2.2.2.1 _ flX0_changeWidth_9) (fun _ h9 => h9) rfl dX0_changeWidth_1 ?_
  refine lv_istore_n (lv' := [(2, .int wi), (0, .ref (q 1)), (1, .int x1)]) hx hb dX0_changeWidth_4 rfl hl (by decide) rfl (fun ls hl => ?_)
  refine lv_aload_n hx hb dX0_changeWidth_5 rfl (lv_at hl 1 rfl) ?_
  refine lv_iload_n hx hb dX0_changeWidth_6 rfl (lv_at hl 2 rfl) ?_
  refine va_put (D := D) (ci := 0) (v := .int x1) (ty := .int) (C := RX0) (T := TX0) (N := 1) hx hb X.2.2.2.2.1 iwX0_changeWidth_0 tyX0 tyX0_ok nmX0 X.2.2.2.1 hKK.1 hP hD hS 0 rfl rfl 0 (by decide) (X.2.2.2.2.1 _ flX0_changeWidth_9) (fun _ h9 => h9) rfl (by decide +kernel) rfl rfl (Nat.le_of_ble_eq_true rfl) dX0_changeWidth_7 (fun H locs hP hD hS => ?_)
  replace hP : va_P D vwCl (wB cI q n d lb xd xl x1) H := hP
  replace hD : va_D A (wB cI q n d lb xd xl x1) := hD
  refine lv_iload_n hx hb dX0_changeWidth_10 rfl (lv_at hl 0 rfl) ?_
  subst h
  exact mu_ret X rfl rfl hP rfl hS dX0_changeWidth_11
def mX0_countFor (n : Int32) (wi : Int32)  : Option (Int32) := (if ¬ ((iMax wi (iI 4)) = 0) then some ((((mX3_positionCount n) + (iMax wi (iI 4))) - (iI 1)) / (iMax wi (iI 4))) else none)
theorem hdX0_countFor : yX0_countFor.cls = RX0 ∧ yX0_countFor.cls ≠ "java/lang/invoke/MethodHandle" ∧ yX0_countFor.cls ≠ "java/lang/invoke/VarHandle" ∧ (parseMethodDescriptor yX0_countFor.desc).map (fun d => d.parameters.length) = some 1 := by decide +kernel
theorem flX0_countFor_9 : Cond.fieldLink RX0 9 "BracketTree$Blocks" "width" "I" ∈ wsX0_countFor := by decide +kernel
theorem iwX0_countFor_0 : ∀ w ∈ wsX00, w ∈ wsX0_countFor := by decide +kernel
theorem mlX0_countFor_15 : Cond.methodLink RX0 15 Lib.Math.max.name ∈ wsX0_countFor := by decide +kernel
theorem msX0_countFor_15 : Cond.static Lib.Math.max.name ∈ wsX0_countFor := by decide +kernel
theorem miX0_countFor_15 : Cond.initialized "java/lang/Math" ∈ wsX0_countFor := by decide +kernel
theorem mcX0_countFor_15 : Cond.code Lib.Math.max.name Lib.Math.max.code 2 (some .int) ∈ wsX0_countFor := by decide +kernel
abbrev rmX0_countFor : Room := { frames := 1, cells := 0, slots := 0, locals := 21 }
set_option maxHeartbeats 4000000 in
set_option maxRecDepth 100000 in
theorem zX0_countFor (l : Launch) (D : va_G) (cI cC : ClassId) (q : Nat → Nat) (n : Int32) (d : Nat → Int32) (lb : Nat → Int32) (xd : Nat → Int32) (xl : Nat → Int32) (wi : Int32)  (r : Int32) (h : mX0_countFor n wi = some r) : Met l yX0_countFor wsX0_countFor rmX0_countFor (va_Pc [.ref (q 1), .ref (q 8)] (BW D cI cC (wB cI q n d lb xd xl wi))) (rdQ r) 0 0 (fun _ => False) := by
  refine MetI RX0 (by decide +kernel) rfl rfl (Nat.le_of_ble_eq_true rfl) ?_
  intro p e s m below meth c ls X _ hB hl
  obtain ⟨hP, hKK⟩ := hB
  have hx := X.1
  have hb := X.2.1
  replace hl : lv_has ls 3 [(0, .ref (q 1)), (1, .ref (q 8))] := hl
  unfold mX0_countFor at h
  refine lv_aload_n hx hb dX0_countFor_0 rfl (lv_at hl 0 rfl) ?_
  refine va_get (D := D) (ci := 0) (v := .int wi) (C := RX0) (T := TX0) (N := 1) hx hb X.2.2.2.2.1 iwX0_countFor_0 X.2.2.2.1 hKK.1 hP 0 rfl rfl 0 (by decide) (X.2.2.2.2.1 _ flX0_countFor_9) (fun _ h9 => h9) rfl dX0_countFor_1 ?_
  refine lv_iconst (v := iI 4) hx hb dX0_countFor_4 rfl ?_
  refine va_mmax hx hb (by rw [X.2.2.1]; exact hl.1.symm) X.2.2.2.1 (X.2.2.2.2.1 _ mlX0_countFor_15) (X.2.2.2.2.1 _ msX0_countFor_15) (X.2.2.2.2.1 _ miX0_countFor_15) (X.2.2.2.2.1 _ mcX0_countFor_15) (Nat.le_of_ble_eq_true rfl) (Nat.le_of_ble_eq_true rfl) (Nat.zero_le _) (Nat.zero_le _) dX0_countFor_5 ?_
  refine lv_istore_n (lv' := [(2, .int (iMax wi (iI 4))), (0, .ref (q 1)), (1, .ref (q 8))]) hx hb dX0_countFor_8 rfl hl (by decide) rfl (fun ls hl => ?_)
  refine lv_aload_n hx hb dX0_countFor_9 rfl (lv_at hl 2 rfl) ?_
  refine rcV (rest := []) X hKK hP 0 (zX3_positionCount l D cI cC q n d lb xd xl _ rfl) gX0_countFor_X3_positionCount rfl rfl rfl hdX3_positionCount ⟨Nat.le_of_ble_eq_true rfl, Nat.le_of_ble_eq_true rfl⟩ [1, 2, 3, 4, 5] rfl 0 rfl rfl rfl hl.1 rfl (Nat.le_of_ble_eq_true rfl) dX0_countFor_10 ⟨Nat.zero_le _, Nat.zero_le _⟩ ?_
  refine lv_iload_n hx hb dX0_countFor_13 rfl (lv_at hl 0 rfl) ?_
  refine lv_iadd hx hb dX0_countFor_14 ?_
  refine lv_iconst (v := iI 1) hx hb dX0_countFor_15 rfl ?_
  refine lv_isub hx hb dX0_countFor_16 ?_
  refine lv_iload_n hx hb dX0_countFor_17 rfl (lv_at hl 0 rfl) ?_
  obtain ⟨g1, h⟩ := asr h
  refine lv_idiv hx hb dX0_countFor_18 g1 ?_
  exact rd_ret X rfl (Option.some.inj h) dX0_countFor_19
def mX0_startOf (wi : Int32) (x1 : Int32) : (Int32) := (x1 * wi)
theorem hdX0_startOf : yX0_startOf.cls = RX0 ∧ yX0_startOf.cls ≠ "java/lang/invoke/MethodHandle" ∧ yX0_startOf.cls ≠ "java/lang/invoke/VarHandle" ∧ (parseMethodDescriptor yX0_startOf.desc).map (fun d => d.parameters.length) = some 1 := by decide +kernel
theorem flX0_startOf_9 : Cond.fieldLink RX0 9 "BracketTree$Blocks" "width" "I" ∈ wsX0_startOf := by decide +kernel
theorem iwX0_startOf_0 : ∀ w ∈ wsX00, w ∈ wsX0_startOf := by decide +kernel
abbrev rmX0_startOf : Room := { frames := 0, cells := 0, slots := 0, locals := 0 }
set_option maxHeartbeats 4000000 in
set_option maxRecDepth 100000 in
theorem zX0_startOf (l : Launch) (D : va_G) (cI cC : ClassId) (q : Nat → Nat) (n : Int32) (d : Nat → Int32) (lb : Nat → Int32) (xd : Nat → Int32) (xl : Nat → Int32) (wi : Int32) (x1 : Int32) (r : Int32) (h : mX0_startOf wi x1 = r) : Met l yX0_startOf wsX0_startOf rmX0_startOf (va_Pc [.ref (q 1), .int x1] (BW D cI cC (wB cI q n d lb xd xl wi))) (rdQ r) 0 0 (fun _ => False) := by
  refine MetI RX0 (by decide +kernel) rfl rfl (Nat.le_of_ble_eq_true rfl) ?_
  intro p e s m below meth c ls X _ hB hl
  obtain ⟨hP, hKK⟩ := hB
  have hx := X.1
  have hb := X.2.1
  replace hl : lv_has ls 2 [(0, .ref (q 1)), (1, .int x1)] := hl
  unfold mX0_startOf at h
  refine lv_iload_n hx hb dX0_startOf_0 rfl (lv_at hl 1 rfl) ?_
  refine lv_aload_n hx hb dX0_startOf_1 rfl (lv_at hl 0 rfl) ?_
  refine va_get (D := D) (ci := 0) (v := .int wi) (C := RX0) (T := TX0) (N := 1) hx hb X.2.2.2.2.1 iwX0_startOf_0 X.2.2.2.1 hKK.1 hP 0 rfl rfl 0 (by decide) (X.2.2.2.2.1 _ flX0_startOf_9) (fun _ h9 => h9) rfl dX0_startOf_2 ?_
  refine lv_imul hx hb dX0_startOf_5 ?_
  exact rd_ret X rfl h dX0_startOf_6
def mX0_endOf (n : Int32) (wi : Int32) (x2 : Int32) : (Int32) := (iMin ((mX0_startOf wi x2) + wi) (mX3_positionCount n))
theorem hdX0_endOf : yX0_endOf.cls = RX0 ∧ yX0_endOf.cls ≠ "java/lang/invoke/MethodHandle" ∧ yX0_endOf.cls ≠ "java/lang/invoke/VarHandle" ∧ (parseMethodDescriptor yX0_endOf.desc).map (fun d => d.parameters.length) = some 2 := by decide +kernel
theorem flX0_endOf_9 : Cond.fieldLink RX0 9 "BracketTree$Blocks" "width" "I" ∈ wsX0_endOf := by decide +kernel
theorem iwX0_endOf_0 : ∀ w ∈ wsX00, w ∈ wsX0_endOf := by decide +kernel
theorem mlX0_endOf_31 : Cond.methodLink RX0 31 Lib.Math.min.name ∈ wsX0_endOf := by decide +kernel
theorem msX0_endOf_31 : Cond.static Lib.Math.min.name ∈ wsX0_endOf := by decide +kernel
theorem miX0_endOf_31 : Cond.initialized "java/lang/Math" ∈ wsX0_endOf := by decide +kernel
theorem mcX0_endOf_31 : Cond.code Lib.Math.min.name Lib.Math.min.code 2 (some .int) ∈ wsX0_endOf := by decide +kernel
abbrev rmX0_endOf : Room := { frames := 1, cells := 0, slots := 0, locals := 21 }
set_option maxHeartbeats 4000000 in
set_option maxRecDepth 100000 in
theorem zX0_endOf (l : Launch) (D : va_G) (cI cC : ClassId) (q : Nat → Nat) (n : Int32) (d : Nat → Int32) (lb : Nat → Int32) (xd : Nat → Int32) (xl : Nat → Int32) (wi : Int32) (x2 : Int32) (r : Int32) (h : mX0_endOf n wi x2 = r) : Met l yX0_endOf wsX0_endOf rmX0_endOf (va_Pc [.ref (q 1), .ref (q 8), .int x2] (BW D cI cC (wB cI q n d lb xd xl wi))) (rdQ r) 0 0 (fun _ => False) := by
  refine MetI RX0 (by decide +kernel) rfl rfl (Nat.le_of_ble_eq_true rfl) ?_
  intro p e s m below meth c ls X _ hB hl
  obtain ⟨hP, hKK⟩ := hB
  have hx := X.1
  have hb := X.2.1
  replace hl : lv_has ls 3 [(0, .ref (q 1)), (1, .ref (q 8)), (2, .int x2)] := hl
  unfold mX0_endOf at h
  refine lv_aload_n hx hb dX0_endOf_0 rfl (lv_at hl 0 rfl) ?_
  refine lv_iload_n hx hb dX0_endOf_1 rfl (lv_at hl 2 rfl) ?_
  refine rcV (rest := []) X hKK hP 1 (zX0_startOf l D cI cC q n d lb xd xl wi x2 _ rfl) gX0_endOf_X0_startOf rfl rfl rfl hdX0_startOf ⟨Nat.le_of_ble_eq_true rfl, Nat.le_of_ble_eq_true rfl⟩ [0, 1, 2, 3, 4, 5] rfl 0 rfl rfl rfl hl.1 rfl (Nat.le_of_ble_eq_true rfl) dX0_endOf_2 ⟨Nat.zero_le _, Nat.zero_le _⟩ ?_
  refine lv_aload_n hx hb dX0_endOf_5 rfl (lv_at hl 0 rfl) ?_
  refine va_get (D := D) (ci := 0) (v := .int wi) (C := RX0) (T := TX0) (N := 1) hx hb X.2.2.2.2.1 iwX0_endOf_0 X.2.2.2.1 hKK.1 hP 0 rfl rfl 0 (by decide) (X.2.2.2.2.1 _ flX0_endOf_9) (fun _ h9 => h9) rfl dX0_endOf_6 ?_
  refine lv_iadd hx hb dX0_endOf_9 ?_
  refine lv_aload_n hx hb dX0_endOf_10 rfl (lv_at hl 1 rfl) ?_
  refine rcV (rest := [.int ((mX0_startOf wi x2) + wi)]) X hKK hP 0 (zX3_positionCount l D cI cC q n d lb xd xl _ rfl) gX0_endOf_X3_positionCount rfl rfl rfl hdX3_positionCount ⟨Nat.le_of_ble_eq_true rfl, Nat.le_of_ble_eq_true rfl⟩ [1, 2, 3, 4, 5] rfl 0 rfl rfl rfl hl.1 rfl (Nat.le_of_ble_eq_true rfl) dX0_endOf_11 ⟨Nat.zero_le _, Nat.zero_le _⟩ ?_
  refine va_mmin hx hb (by rw [X.2.2.1]; exact hl.1.symm) X.2.2.2.1 (X.2.2.2.2.1 _ mlX0_endOf_31) (X.2.2.2.2.1 _ msX0_endOf_31) (X.2.2.2.2.1 _ miX0_endOf_31) (X.2.2.2.2.1 _ mcX0_endOf_31) (Nat.le_of_ble_eq_true rfl) (Nat.le_of_ble_eq_true rfl) (Nat.zero_le _) (Nat.zero_le _) dX0_endOf_14 ?_
  exact rd_ret X rfl h dX0_endOf_17
def mX0_positionsOf (n : Int32) (wi : Int32) (x2 : Int32) : (Int32) := ((mX0_endOf n wi x2) - (mX0_startOf wi x2))
theorem hdX0_positionsOf : yX0_positionsOf.cls = RX0 ∧ yX0_positionsOf.cls ≠ "java/lang/invoke/MethodHandle" ∧ yX0_positionsOf.cls ≠ "java/lang/invoke/VarHandle" ∧ (parseMethodDescriptor yX0_positionsOf.desc).map (fun d => d.parameters.length) = some 2 := by decide +kernel
abbrev rmX0_positionsOf : Room := { frames := 2, cells := 0, slots := 0, locals := 43 }
set_option maxHeartbeats 4000000 in
set_option maxRecDepth 100000 in
theorem zX0_positionsOf (l : Launch) (D : va_G) (cI cC : ClassId) (q : Nat → Nat) (n : Int32) (d : Nat → Int32) (lb : Nat → Int32) (xd : Nat → Int32) (xl : Nat → Int32) (wi : Int32) (x2 : Int32) (r : Int32) (h : mX0_positionsOf n wi x2 = r) : Met l yX0_positionsOf wsX0_positionsOf rmX0_positionsOf (va_Pc [.ref (q 1), .ref (q 8), .int x2] (BW D cI cC (wB cI q n d lb xd xl wi))) (rdQ r) 0 0 (fun _ => False) := by
  refine MetI RX0 (by decide +kernel) rfl rfl (Nat.le_of_ble_eq_true rfl) ?_
  intro p e s m below meth c ls X _ hB hl
  obtain ⟨hP, hKK⟩ := hB
  have hx := X.1
  have hb := X.2.1
  replace hl : lv_has ls 3 [(0, .ref (q 1)), (1, .ref (q 8)), (2, .int x2)] := hl
  unfold mX0_positionsOf at h
  refine lv_aload_n hx hb dX0_positionsOf_0 rfl (lv_at hl 0 rfl) ?_
  refine lv_aload_n hx hb dX0_positionsOf_1 rfl (lv_at hl 1 rfl) ?_
  refine lv_iload_n hx hb dX0_positionsOf_2 rfl (lv_at hl 2 rfl) ?_
  refine rcV (rest := []) X hKK hP 2 (zX0_endOf l D cI cC q n d lb xd xl wi x2 _ rfl) gX0_positionsOf_X0_endOf rfl rfl rfl hdX0_endOf ⟨Nat.le_of_ble_eq_true rfl, Nat.le_of_ble_eq_true rfl⟩ [0, 1, 2, 3, 4, 5] rfl 0 rfl rfl rfl hl.1 rfl (Nat.le_of_ble_eq_true rfl) dX0_positionsOf_3 ⟨Nat.zero_le _, Nat.zero_le _⟩ ?_
  refine lv_aload_n hx hb dX0_positionsOf_6 rfl (lv_at hl 0 rfl) ?_
  refine lv_iload_n hx hb dX0_positionsOf_7 rfl (lv_at hl 2 rfl) ?_
  refine rcV (rest := [.int (mX0_endOf n wi x2)]) X hKK hP 1 (zX0_startOf l D cI cC q n d lb xd xl wi x2 _ rfl) gX0_positionsOf_X0_startOf rfl rfl rfl hdX0_startOf ⟨Nat.le_of_ble_eq_true rfl, Nat.le_of_ble_eq_true rfl⟩ [0, 1, 2, 3, 4, 5] rfl 0 rfl rfl rfl hl.1 rfl (Nat.le_of_ble_eq_true rfl) dX0_positionsOf_8 ⟨Nat.zero_le _, Nat.zero_le _⟩ ?_
  refine lv_isub hx hb dX0_positionsOf_11 ?_
  exact rd_ret X rfl h dX0_positionsOf_12
def mX0_leastExcess_29 : Nat → Int32 → (Nat → Int32) → Int32 → Int32 → Int32 → Int32 → Int32 → Int32 → Option (Int32)
  | 0, _, _, _, _, _, _, _, _ => none
  | f + 1, n, d, wi, x2, x3, x4, x5, x6 => (if x3 ≤ x6 then some x5 else mX0_leastExcess_29 f n d wi x2 x3 (x4 + (mX3_opensAt n d x4 x6)) (iMin x5 ((((iI 2) * (x4 + (mX3_opensAt n d x4 x6))) - x6) - (iI 1))) (x6 + iI 1))
def mX0_leastExcess (n : Int32) (d : Nat → Int32) (wi : Int32) (x2 : Int32) : Option (Int32) := ((mX3_openedBefore n d (mX0_startOf wi x2)).bind fun r1 => mX0_leastExcess_29 FU n d wi x2 (mX0_endOf n wi x2) r1 (iI 100) (mX0_startOf wi x2))
theorem hdX0_leastExcess : yX0_leastExcess.cls = RX0 ∧ yX0_leastExcess.cls ≠ "java/lang/invoke/MethodHandle" ∧ yX0_leastExcess.cls ≠ "java/lang/invoke/VarHandle" ∧ (parseMethodDescriptor yX0_leastExcess.desc).map (fun d => d.parameters.length) = some 2 := by decide +kernel
theorem mlX0_leastExcess_31 : Cond.methodLink RX0 31 Lib.Math.min.name ∈ wsX0_leastExcess := by decide +kernel
theorem msX0_leastExcess_31 : Cond.static Lib.Math.min.name ∈ wsX0_leastExcess := by decide +kernel
theorem miX0_leastExcess_31 : Cond.initialized "java/lang/Math" ∈ wsX0_leastExcess := by decide +kernel
theorem mcX0_leastExcess_31 : Cond.code Lib.Math.min.name Lib.Math.min.code 2 (some .int) ∈ wsX0_leastExcess := by decide +kernel
abbrev rmX0_leastExcess : Room := { frames := 4, cells := 0, slots := 0, locals := 85 }
set_option maxHeartbeats 4000000 in
set_option maxRecDepth 100000 in
theorem kX0_leastExcess_29 {p : Program} {l : Launch} {e : Env} {s : State} {m : MethodId} {args : Array Value} {below : List Frame} {meth : Method} {c : Code} {D : va_G} {cI cC : ClassId} {q : Nat → Nat} {n : Int32} {d : Nat → Int32} {lb : Nat → Int32} {xd : Nat → Int32} {xl : Nat → Int32} {wi : Int32} {r : Int32} (X : CX p s m args meth c wsX0_leastExcess cX0_leastExcess 7 (some .int) RX0) (hKK : KK D cI cC s) (hP : va_P D vwCl (wB cI q n d lb xd xl wi) s.heap) : ∀ (f : Nat), ∀ (x2 : Int32) (x3 : Int32) (x4 : Int32) (x5 : Int32) (x6 : Int32) (ls : Array Slot), lv_has ls 7 [(0, .ref (q 1)), (1, .ref (q 8)), (2, .int x2), (3, .int x3), (4, .int x4), (5, .int x5), (6, .int x6)] → mX0_leastExcess_29 f n d wi x2 x3 x4 x5 x6 = some r → W p l e rmX0_leastExcess s m args below meth c s.heap [] 0 0 (MQ below (rdQ r) args s 0 0 (fun _ => False)) (F0 m 29 ls []) := by
  have hx := X.1
  have hb := X.2.1
  intro f
  induction f with
  | zero =>
    intro x2 x3 x4 x5 x6 ls hl h
    exact absurd h (by unfold mX0_leastExcess_29; intro h; cases h)
  | succ f ih =>
    intro x2 x3 x4 x5 x6 ls hl h
    rw [mX0_leastExcess_29] at h
    refine lv_iload hx hb dX0_leastExcess_29 (lv_at hl 6 rfl) ?_
    refine lv_iload_n hx hb dX0_leastExcess_31 rfl (lv_at hl 3 rfl) ?_
    refine lv_icmp_ge (tgt := 70) hx hb dX0_leastExcess_32 (by decide) (fun c2 => ?_) (fun c2 => ?_)
    · replace h := ifp c2 h
      refine lv_iload hx hb dX0_leastExcess_70 (lv_at hl 5 rfl) ?_
      exact rd_ret X rfl (Option.some.inj h) dX0_leastExcess_72
    · replace h := ifn c2 h
      refine lv_iload hx hb dX0_leastExcess_35 (lv_at hl 4 rfl) ?_
      refine lv_aload_n hx hb dX0_leastExcess_37 rfl (lv_at hl 1 rfl) ?_
      refine lv_iload hx hb dX0_leastExcess_38 (lv_at hl 4 rfl) ?_
      refine lv_iload hx hb dX0_leastExcess_40 (lv_at hl 6 rfl) ?_
      refine rcV (rest := [.int x4]) X hKK hP 2 (zX3_opensAt l D cI cC q n d lb xd xl x4 x6 _ rfl) gX0_leastExcess_X3_opensAt rfl rfl rfl hdX3_opensAt ⟨Nat.le_of_ble_eq_true rfl, Nat.le_of_ble_eq_true rfl⟩ [1, 2, 3, 4, 5] rfl 0 rfl rfl rfl hl.1 rfl (Nat.le_of_ble_eq_true rfl) dX0_leastExcess_42 ⟨Nat.zero_le _, Nat.zero_le _⟩ ?_
      refine lv_iadd hx hb dX0_leastExcess_45 ?_
      refine lv_istore (lv' := [(4, .int (x4 + (mX3_opensAt n d x4 x6))), (0, .ref (q 1)), (1, .ref (q 8)), (2, .int x2), (3, .int x3), (5, .int x5), (6, .int x6)]) hx hb dX0_leastExcess_46 hl (by decide) rfl (fun ls hl => ?_)
      refine lv_iload hx hb dX0_leastExcess_48 (lv_at hl 5 rfl) ?_
      refine lv_iconst (v := iI 2) hx hb dX0_leastExcess_50 rfl ?_
      refine lv_iload hx hb dX0_leastExcess_51 (lv_at hl 0 rfl) ?_
      refine lv_imul hx hb dX0_leastExcess_53 ?_
      refine lv_iload hx hb dX0_leastExcess_54 (lv_at hl 6 rfl) ?_
      refine lv_isub hx hb dX0_leastExcess_56 ?_
      refine lv_iconst (v := iI 1) hx hb dX0_leastExcess_57 rfl ?_
      refine lv_isub hx hb dX0_leastExcess_58 ?_
      refine va_mmin hx hb (by rw [X.2.2.1]; exact hl.1.symm) X.2.2.2.1 (X.2.2.2.2.1 _ mlX0_leastExcess_31) (X.2.2.2.2.1 _ msX0_leastExcess_31) (X.2.2.2.2.1 _ miX0_leastExcess_31) (X.2.2.2.2.1 _ mcX0_leastExcess_31) (Nat.le_of_ble_eq_true rfl) (Nat.le_of_ble_eq_true rfl) (Nat.zero_le _) (Nat.zero_le _) dX0_leastExcess_59 ?_
      refine lv_istore (lv' := [(5, .int (iMin x5 ((((iI 2) * (x4 + (mX3_opensAt n d x4 x6))) - x6) - (iI 1)))), (4, .int (x4 + (mX3_opensAt n d x4 x6))), (0, .ref (q 1)), (1, .ref (q 8)), (2, .int x2), (3, .int x3), (6, .int x6)]) hx hb dX0_leastExcess_62 hl (by decide) rfl (fun ls hl => ?_)
      refine lv_iinc (v := (x6 + iI 1)) (lv' := [(6, .int (x6 + iI 1)), (5, .int (iMin x5 ((((iI 2) * (x4 + (mX3_opensAt n d x4 x6))) - x6) - (iI 1)))), (4, .int (x4 + (mX3_opensAt n d x4 x6))), (0, .ref (q 1)), (1, .ref (q 8)), (2, .int x2), (3, .int x3)]) hx hb dX0_leastExcess_64 hl (k := 6) rfl rfl (by decide) rfl (fun ls hl => ?_)
      refine lv_goto (tgt := 29) hx hb dX0_leastExcess_67 (by decide) ?_
      exact ih x2 x3 (x4 + (mX3_opensAt n d x4 x6)) (iMin x5 ((((iI 2) * (x4 + (mX3_opensAt n d x4 x6))) - x6) - (iI 1))) (x6 + iI 1) ls (lv_sub hl [3, 4, 5, 6, 2, 1, 0] rfl) h
set_option maxHeartbeats 4000000 in
set_option maxRecDepth 100000 in
theorem zX0_leastExcess (l : Launch) (D : va_G) (cI cC : ClassId) (q : Nat → Nat) (n : Int32) (d : Nat → Int32) (lb : Nat → Int32) (xd : Nat → Int32) (xl : Nat → Int32) (wi : Int32) (x2 : Int32) (r : Int32) (h : mX0_leastExcess n d wi x2 = some r) : Met l yX0_leastExcess wsX0_leastExcess rmX0_leastExcess (va_Pc [.ref (q 1), .ref (q 8), .int x2] (BW D cI cC (wB cI q n d lb xd xl wi))) (rdQ r) 0 0 (fun _ => False) := by
  refine MetI RX0 (by decide +kernel) rfl rfl (Nat.le_of_ble_eq_true rfl) ?_
  intro p e s m below meth c ls X _ hB hl
  obtain ⟨hP, hKK⟩ := hB
  have hx := X.1
  have hb := X.2.1
  replace hl : lv_has ls 7 [(0, .ref (q 1)), (1, .ref (q 8)), (2, .int x2)] := hl
  unfold mX0_leastExcess at h
  refine lv_aload_n hx hb dX0_leastExcess_0 rfl (lv_at hl 0 rfl) ?_
  refine lv_aload_n hx hb dX0_leastExcess_1 rfl (lv_at hl 1 rfl) ?_
  refine lv_iload_n hx hb dX0_leastExcess_2 rfl (lv_at hl 2 rfl) ?_
  refine rcV (rest := []) X hKK hP 2 (zX0_endOf l D cI cC q n d lb xd xl wi x2 _ rfl) gX0_leastExcess_X0_endOf rfl rfl rfl hdX0_endOf ⟨Nat.le_of_ble_eq_true rfl, Nat.le_of_ble_eq_true rfl⟩ [0, 1, 2, 3, 4, 5] rfl 0 rfl rfl rfl hl.1 rfl (Nat.le_of_ble_eq_true rfl) dX0_leastExcess_3 ⟨Nat.zero_le _, Nat.zero_le _⟩ ?_
  refine lv_istore_n (lv' := [(3, .int (mX0_endOf n wi x2)), (0, .ref (q 1)), (1, .ref (q 8)), (2, .int x2)]) hx hb dX0_leastExcess_6 rfl hl (by decide) rfl (fun ls hl => ?_)
  refine lv_aload_n hx hb dX0_leastExcess_7 rfl (lv_at hl 2 rfl) ?_
  refine lv_aload_n hx hb dX0_leastExcess_8 rfl (lv_at hl 1 rfl) ?_
  refine lv_iload_n hx hb dX0_leastExcess_9 rfl (lv_at hl 3 rfl) ?_
  refine rcV (rest := [.ref (q 8)]) X hKK hP 1 (zX0_startOf l D cI cC q n d lb xd xl wi x2 _ rfl) gX0_leastExcess_X0_startOf rfl rfl rfl hdX0_startOf ⟨Nat.le_of_ble_eq_true rfl, Nat.le_of_ble_eq_true rfl⟩ [0, 1, 2, 3, 4, 5] rfl 0 rfl rfl rfl hl.1 rfl (Nat.le_of_ble_eq_true rfl) dX0_leastExcess_10 ⟨Nat.zero_le _, Nat.zero_le _⟩ ?_
  obtain ⟨r1, h_r1, h⟩ := obd h
  refine rcV (rest := []) X hKK hP 1 (zX3_openedBefore l D cI cC q n d lb xd xl (mX0_startOf wi x2) r1 h_r1) gX0_leastExcess_X3_openedBefore rfl rfl rfl hdX3_openedBefore ⟨Nat.le_of_ble_eq_true rfl, Nat.le_of_ble_eq_true rfl⟩ [1, 2, 3, 4, 5] rfl 0 rfl rfl rfl hl.1 rfl (Nat.le_of_ble_eq_true rfl) dX0_leastExcess_13 ⟨Nat.zero_le _, Nat.zero_le _⟩ ?_
  refine lv_istore (lv' := [(4, .int r1), (3, .int (mX0_endOf n wi x2)), (0, .ref (q 1)), (1, .ref (q 8)), (2, .int x2)]) hx hb dX0_leastExcess_16 hl (by decide) rfl (fun ls hl => ?_)
  refine lv_bipush (v := iI 100) hx hb dX0_leastExcess_18 (by decide) ?_
  refine lv_istore (lv' := [(5, .int (iI 100)), (4, .int r1), (3, .int (mX0_endOf n wi x2)), (0, .ref (q 1)), (1, .ref (q 8)), (2, .int x2)]) hx hb dX0_leastExcess_20 hl (by decide) rfl (fun ls hl => ?_)
  refine lv_aload_n hx hb dX0_leastExcess_22 rfl (lv_at hl 3 rfl) ?_
  refine lv_iload_n hx hb dX0_leastExcess_23 rfl (lv_at hl 5 rfl) ?_
  refine rcV (rest := []) X hKK hP 1 (zX0_startOf l D cI cC q n d lb xd xl wi x2 _ rfl) gX0_leastExcess_X0_startOf rfl rfl rfl hdX0_startOf ⟨Nat.le_of_ble_eq_true rfl, Nat.le_of_ble_eq_true rfl⟩ [0, 1, 2, 3, 4, 5] rfl 0 rfl rfl rfl hl.1 rfl (Nat.le_of_ble_eq_true rfl) dX0_leastExcess_24 ⟨Nat.zero_le _, Nat.zero_le _⟩ ?_
  refine lv_istore (lv' := [(6, .int (mX0_startOf wi x2)), (5, .int (iI 100)), (4, .int r1), (3, .int (mX0_endOf n wi x2)), (0, .ref (q 1)), (1, .ref (q 8)), (2, .int x2)]) hx hb dX0_leastExcess_27 hl (by decide) rfl (fun ls hl => ?_)
  exact kX0_leastExcess_29 X hKK hP FU x2 (mX0_endOf n wi x2) r1 (iI 100) (mX0_startOf wi x2) ls (lv_sub hl [4, 5, 6, 3, 2, 1, 0] rfl) h
def mX0_greatestExcess_28 : Nat → Int32 → (Nat → Int32) → Int32 → Int32 → Int32 → Int32 → Int32 → Int32 → Option (Int32)
  | 0, _, _, _, _, _, _, _, _ => none
  | f + 1, n, d, wi, x2, x3, x4, x5, x6 => (if x3 ≤ x6 then some x5 else mX0_greatestExcess_28 f n d wi x2 x3 (x4 + (mX3_opensAt n d x4 x6)) (iMax x5 ((((iI 2) * (x4 + (mX3_opensAt n d x4 x6))) - x6) - (iI 1))) (x6 + iI 1))
def mX0_greatestExcess (n : Int32) (d : Nat → Int32) (wi : Int32) (x2 : Int32) : Option (Int32) := ((mX3_openedBefore n d (mX0_startOf wi x2)).bind fun r1 => mX0_greatestExcess_28 FU n d wi x2 (mX0_endOf n wi x2) r1 (iI 0) (mX0_startOf wi x2))
theorem hdX0_greatestExcess : yX0_greatestExcess.cls = RX0 ∧ yX0_greatestExcess.cls ≠ "java/lang/invoke/MethodHandle" ∧ yX0_greatestExcess.cls ≠ "java/lang/invoke/VarHandle" ∧ (parseMethodDescriptor yX0_greatestExcess.desc).map (fun d => d.parameters.length) = some 2 := by decide +kernel
theorem mlX0_greatestExcess_15 : Cond.methodLink RX0 15 Lib.Math.max.name ∈ wsX0_greatestExcess := by decide +kernel
theorem msX0_greatestExcess_15 : Cond.static Lib.Math.max.name ∈ wsX0_greatestExcess := by decide +kernel
theorem miX0_greatestExcess_15 : Cond.initialized "java/lang/Math" ∈ wsX0_greatestExcess := by decide +kernel
theorem mcX0_greatestExcess_15 : Cond.code Lib.Math.max.name Lib.Math.max.code 2 (some .int) ∈ wsX0_greatestExcess := by decide +kernel
abbrev rmX0_greatestExcess : Room := { frames := 4, cells := 0, slots := 0, locals := 85 }
set_option maxHeartbeats 4000000 in
set_option maxRecDepth 100000 in
theorem kX0_greatestExcess_28 {p : Program} {l : Launch} {e : Env} {s : State} {m : MethodId} {args : Array Value} {below : List Frame} {meth : Method} {c : Code} {D : va_G} {cI cC : ClassId} {q : Nat → Nat} {n : Int32} {d : Nat → Int32} {lb : Nat → Int32} {xd : Nat → Int32} {xl : Nat → Int32} {wi : Int32} {r : Int32} (X : CX p s m args meth c wsX0_greatestExcess cX0_greatestExcess 7 (some .int) RX0) (hKK : KK D cI cC s) (hP : va_P D vwCl (wB cI q n d lb xd xl wi) s.heap) : ∀ (f : Nat), ∀ (x2 : Int32) (x3 : Int32) (x4 : Int32) (x5 : Int32) (x6 : Int32) (ls : Array Slot), lv_has ls 7 [(0, .ref (q 1)), (1, .ref (q 8)), (2, .int x2), (3, .int x3), (4, .int x4), (5, .int x5), (6, .int x6)] → mX0_greatestExcess_28 f n d wi x2 x3 x4 x5 x6 = some r → W p l e rmX0_greatestExcess s m args below meth c s.heap [] 0 0 (MQ below (rdQ r) args s 0 0 (fun _ => False)) (F0 m 28 ls []) := by
  have hx := X.1
  have hb := X.2.1
  intro f
  induction f with
  | zero =>
    intro x2 x3 x4 x5 x6 ls hl h
    exact absurd h (by unfold mX0_greatestExcess_28; intro h; cases h)
  | succ f ih =>
    intro x2 x3 x4 x5 x6 ls hl h
    rw [mX0_greatestExcess_28] at h
    refine lv_iload hx hb dX0_greatestExcess_28 (lv_at hl 6 rfl) ?_
    refine lv_iload_n hx hb dX0_greatestExcess_30 rfl (lv_at hl 3 rfl) ?_
    refine lv_icmp_ge (tgt := 69) hx hb dX0_greatestExcess_31 (by decide) (fun c2 => ?_) (fun c2 => ?_)
    · replace h := ifp c2 h
      refine lv_iload hx hb dX0_greatestExcess_69 (lv_at hl 5 rfl) ?_
      exact rd_ret X rfl (Option.some.inj h) dX0_greatestExcess_71
    · replace h := ifn c2 h
      refine lv_iload hx hb dX0_greatestExcess_34 (lv_at hl 4 rfl) ?_
      refine lv_aload_n hx hb dX0_greatestExcess_36 rfl (lv_at hl 1 rfl) ?_
      refine lv_iload hx hb dX0_greatestExcess_37 (lv_at hl 4 rfl) ?_
      refine lv_iload hx hb dX0_greatestExcess_39 (lv_at hl 6 rfl) ?_
      refine rcV (rest := [.int x4]) X hKK hP 2 (zX3_opensAt l D cI cC q n d lb xd xl x4 x6 _ rfl) gX0_greatestExcess_X3_opensAt rfl rfl rfl hdX3_opensAt ⟨Nat.le_of_ble_eq_true rfl, Nat.le_of_ble_eq_true rfl⟩ [1, 2, 3, 4, 5] rfl 0 rfl rfl rfl hl.1 rfl (Nat.le_of_ble_eq_true rfl) dX0_greatestExcess_41 ⟨Nat.zero_le _, Nat.zero_le _⟩ ?_
      refine lv_iadd hx hb dX0_greatestExcess_44 ?_
      refine lv_istore (lv' := [(4, .int (x4 + (mX3_opensAt n d x4 x6))), (0, .ref (q 1)), (1, .ref (q 8)), (2, .int x2), (3, .int x3), (5, .int x5), (6, .int x6)]) hx hb dX0_greatestExcess_45 hl (by decide) rfl (fun ls hl => ?_)
      refine lv_iload hx hb dX0_greatestExcess_47 (lv_at hl 5 rfl) ?_
      refine lv_iconst (v := iI 2) hx hb dX0_greatestExcess_49 rfl ?_
      refine lv_iload hx hb dX0_greatestExcess_50 (lv_at hl 0 rfl) ?_
      refine lv_imul hx hb dX0_greatestExcess_52 ?_
      refine lv_iload hx hb dX0_greatestExcess_53 (lv_at hl 6 rfl) ?_
      refine lv_isub hx hb dX0_greatestExcess_55 ?_
      refine lv_iconst (v := iI 1) hx hb dX0_greatestExcess_56 rfl ?_
      refine lv_isub hx hb dX0_greatestExcess_57 ?_
      refine va_mmax hx hb (by rw [X.2.2.1]; exact hl.1.symm) X.2.2.2.1 (X.2.2.2.2.1 _ mlX0_greatestExcess_15) (X.2.2.2.2.1 _ msX0_greatestExcess_15) (X.2.2.2.2.1 _ miX0_greatestExcess_15) (X.2.2.2.2.1 _ mcX0_greatestExcess_15) (Nat.le_of_ble_eq_true rfl) (Nat.le_of_ble_eq_true rfl) (Nat.zero_le _) (Nat.zero_le _) dX0_greatestExcess_58 ?_
      refine lv_istore (lv' := [(5, .int (iMax x5 ((((iI 2) * (x4 + (mX3_opensAt n d x4 x6))) - x6) - (iI 1)))), (4, .int (x4 + (mX3_opensAt n d x4 x6))), (0, .ref (q 1)), (1, .ref (q 8)), (2, .int x2), (3, .int x3), (6, .int x6)]) hx hb dX0_greatestExcess_61 hl (by decide) rfl (fun ls hl => ?_)
      refine lv_iinc (v := (x6 + iI 1)) (lv' := [(6, .int (x6 + iI 1)), (5, .int (iMax x5 ((((iI 2) * (x4 + (mX3_opensAt n d x4 x6))) - x6) - (iI 1)))), (4, .int (x4 + (mX3_opensAt n d x4 x6))), (0, .ref (q 1)), (1, .ref (q 8)), (2, .int x2), (3, .int x3)]) hx hb dX0_greatestExcess_63 hl (k := 6) rfl rfl (by decide) rfl (fun ls hl => ?_)
      refine lv_goto (tgt := 28) hx hb dX0_greatestExcess_66 (by decide) ?_
      exact ih x2 x3 (x4 + (mX3_opensAt n d x4 x6)) (iMax x5 ((((iI 2) * (x4 + (mX3_opensAt n d x4 x6))) - x6) - (iI 1))) (x6 + iI 1) ls (lv_sub hl [3, 4, 5, 6, 2, 1, 0] rfl) h
set_option maxHeartbeats 4000000 in
set_option maxRecDepth 100000 in
theorem zX0_greatestExcess (l : Launch) (D : va_G) (cI cC : ClassId) (q : Nat → Nat) (n : Int32) (d : Nat → Int32) (lb : Nat → Int32) (xd : Nat → Int32) (xl : Nat → Int32) (wi : Int32) (x2 : Int32) (r : Int32) (h : mX0_greatestExcess n d wi x2 = some r) : Met l yX0_greatestExcess wsX0_greatestExcess rmX0_greatestExcess (va_Pc [.ref (q 1), .ref (q 8), .int x2] (BW D cI cC (wB cI q n d lb xd xl wi))) (rdQ r) 0 0 (fun _ => False) := by
  refine MetI RX0 (by decide +kernel) rfl rfl (Nat.le_of_ble_eq_true rfl) ?_
  intro p e s m below meth c ls X _ hB hl
  obtain ⟨hP, hKK⟩ := hB
  have hx := X.1
  have hb := X.2.1
  replace hl : lv_has ls 7 [(0, .ref (q 1)), (1, .ref (q 8)), (2, .int x2)] := hl
  unfold mX0_greatestExcess at h
  refine lv_aload_n hx hb dX0_greatestExcess_0 rfl (lv_at hl 0 rfl) ?_
  refine lv_aload_n hx hb dX0_greatestExcess_1 rfl (lv_at hl 1 rfl) ?_
  refine lv_iload_n hx hb dX0_greatestExcess_2 rfl (lv_at hl 2 rfl) ?_
  refine rcV (rest := []) X hKK hP 2 (zX0_endOf l D cI cC q n d lb xd xl wi x2 _ rfl) gX0_greatestExcess_X0_endOf rfl rfl rfl hdX0_endOf ⟨Nat.le_of_ble_eq_true rfl, Nat.le_of_ble_eq_true rfl⟩ [0, 1, 2, 3, 4, 5] rfl 0 rfl rfl rfl hl.1 rfl (Nat.le_of_ble_eq_true rfl) dX0_greatestExcess_3 ⟨Nat.zero_le _, Nat.zero_le _⟩ ?_
  refine lv_istore_n (lv' := [(3, .int (mX0_endOf n wi x2)), (0, .ref (q 1)), (1, .ref (q 8)), (2, .int x2)]) hx hb dX0_greatestExcess_6 rfl hl (by decide) rfl (fun ls hl => ?_)
  refine lv_aload_n hx hb dX0_greatestExcess_7 rfl (lv_at hl 2 rfl) ?_
  refine lv_aload_n hx hb dX0_greatestExcess_8 rfl (lv_at hl 1 rfl) ?_
  refine lv_iload_n hx hb dX0_greatestExcess_9 rfl (lv_at hl 3 rfl) ?_
  refine rcV (rest := [.ref (q 8)]) X hKK hP 1 (zX0_startOf l D cI cC q n d lb xd xl wi x2 _ rfl) gX0_greatestExcess_X0_startOf rfl rfl rfl hdX0_startOf ⟨Nat.le_of_ble_eq_true rfl, Nat.le_of_ble_eq_true rfl⟩ [0, 1, 2, 3, 4, 5] rfl 0 rfl rfl rfl hl.1 rfl (Nat.le_of_ble_eq_true rfl) dX0_greatestExcess_10 ⟨Nat.zero_le _, Nat.zero_le _⟩ ?_
  obtain ⟨r1, h_r1, h⟩ := obd h
  refine rcV (rest := []) X hKK hP 1 (zX3_openedBefore l D cI cC q n d lb xd xl (mX0_startOf wi x2) r1 h_r1) gX0_greatestExcess_X3_openedBefore rfl rfl rfl hdX3_openedBefore ⟨Nat.le_of_ble_eq_true rfl, Nat.le_of_ble_eq_true rfl⟩ [1, 2, 3, 4, 5] rfl 0 rfl rfl rfl hl.1 rfl (Nat.le_of_ble_eq_true rfl) dX0_greatestExcess_13 ⟨Nat.zero_le _, Nat.zero_le _⟩ ?_
  refine lv_istore (lv' := [(4, .int r1), (3, .int (mX0_endOf n wi x2)), (0, .ref (q 1)), (1, .ref (q 8)), (2, .int x2)]) hx hb dX0_greatestExcess_16 hl (by decide) rfl (fun ls hl => ?_)
  refine lv_iconst (v := iI 0) hx hb dX0_greatestExcess_18 rfl ?_
  refine lv_istore (lv' := [(5, .int (iI 0)), (4, .int r1), (3, .int (mX0_endOf n wi x2)), (0, .ref (q 1)), (1, .ref (q 8)), (2, .int x2)]) hx hb dX0_greatestExcess_19 hl (by decide) rfl (fun ls hl => ?_)
  refine lv_aload_n hx hb dX0_greatestExcess_21 rfl (lv_at hl 3 rfl) ?_
  refine lv_iload_n hx hb dX0_greatestExcess_22 rfl (lv_at hl 5 rfl) ?_
  refine rcV (rest := []) X hKK hP 1 (zX0_startOf l D cI cC q n d lb xd xl wi x2 _ rfl) gX0_greatestExcess_X0_startOf rfl rfl rfl hdX0_startOf ⟨Nat.le_of_ble_eq_true rfl, Nat.le_of_ble_eq_true rfl⟩ [0, 1, 2, 3, 4, 5] rfl 0 rfl rfl rfl hl.1 rfl (Nat.le_of_ble_eq_true rfl) dX0_greatestExcess_23 ⟨Nat.zero_le _, Nat.zero_le _⟩ ?_
  refine lv_istore (lv' := [(6, .int (mX0_startOf wi x2)), (5, .int (iI 0)), (4, .int r1), (3, .int (mX0_endOf n wi x2)), (0, .ref (q 1)), (1, .ref (q 8)), (2, .int x2)]) hx hb dX0_greatestExcess_26 hl (by decide) rfl (fun ls hl => ?_)
  exact kX0_greatestExcess_28 X hKK hP FU x2 (mX0_endOf n wi x2) r1 (iI 0) (mX0_startOf wi x2) ls (lv_sub hl [4, 5, 6, 3, 2, 1, 0] rfl) h
def mX1_isBlank (kp : Int32)  : (Int32) := (if kp = 0 then (iI 1) else (iI 0))
theorem hdX1_isBlank : yX1_isBlank.cls = RX1 ∧ yX1_isBlank.cls ≠ "java/lang/invoke/MethodHandle" ∧ yX1_isBlank.cls ≠ "java/lang/invoke/VarHandle" ∧ (parseMethodDescriptor yX1_isBlank.desc).map (fun d => d.parameters.length) = some 0 := by decide +kernel
theorem flX1_isBlank_21 : Cond.fieldLink RX1 21 "BracketTree$History" "kept" "I" ∈ wsX1_isBlank := by decide +kernel
theorem iwX1_isBlank_1 : ∀ w ∈ wsX10, w ∈ wsX1_isBlank := by decide +kernel
abbrev rmX1_isBlank : Room := { frames := 0, cells := 0, slots := 0, locals := 0 }
set_option maxHeartbeats 4000000 in
set_option maxRecDepth 100000 in
theorem zX1_isBlank (l : Launch) (D : va_G) (cI cC : ClassId) (q : Nat → Nat) (n : Int32) (d : Nat → Int32) (lb : Nat → Int32) (xd : Nat → Int32) (xl : Nat → Int32) (sl : Int32) (kp : Int32) (ct : Nat → Int32) (gd : Nat → Int32) (gl : Nat → Int32)  (r : Int32) (h : mX1_isBlank kp = r) : Met l yX1_isBlank wsX1_isBlank rmX1_isBlank (va_Pc [.ref (q 2)] (BW D cI cC (wH cI q n d lb xd xl sl kp ct gd gl))) (rdQ r) 0 0 (fun _ => False) := by
  refine MetI RX1 (by decide +kernel) rfl rfl (Nat.le_of_ble_eq_true rfl) ?_
  intro p e s m below meth c ls X _ hB hl
  obtain ⟨hP, hKK⟩ := hB
  have hx := X.1
  have hb := X.2.1
  replace hl : lv_has ls 1 [(0, .ref (q 2))] := hl
  unfold mX1_isBlank at h
  refine lv_aload_n hx hb dX1_isBlank_0 rfl (lv_at hl 0 rfl) ?_
  refine va_get (D := D) (ci := 1) (v := .int kp) (C := RX1) (T := TX1) (N := 5) hx hb X.2.2.2.2.1 iwX1_isBlank_1 X.2.2.2.1 hKK.1 hP 0 rfl rfl 4 (by decide) (X.2.2.2.2.1 _ flX1_isBlank_21) (fun _ h9 => h9) rfl dX1_isBlank_1 ?_
  refine lv_if_ne (tgt := 11) hx hb dX1_isBlank_4 (by decide) (fun c1 => ?_) (fun c1 => ?_)
  · replace h := ifn c1 h
    refine lv_iconst (v := iI 0) hx hb dX1_isBlank_11 rfl ?_
    exact rd_ret X rfl h dX1_isBlank_12
  · replace h := ifp c1 h
    refine lv_iconst (v := iI 1) hx hb dX1_isBlank_7 rfl ?_
    refine lv_goto (tgt := 12) hx hb dX1_isBlank_8 (by decide) ?_
    exact rd_ret X rfl h dX1_isBlank_12
def mX1_record_25 : Nat → Int32 → (Nat → Int32) → (Nat → Int32) → Int32 → Int32 → (Nat → Int32) → (Nat → Int32) → (Nat → Int32) → Int32 → Int32 → Option (Int32 × Int32 × (Nat → Int32) × (Nat → Int32) × (Nat → Int32))
  | 0, _, _, _, _, _, _, _, _, _, _ => none
  | f + 1, n, d, lb, sl, kp, ct, gd, gl, x2, x3 => (if (mX3_count n) ≤ x3 then (if (iI 15) ≤ (sl + (iI 1)) then some ((iI 0), (iMin (kp + (iI 1)) (iI 15)), ct, gd, gl) else some ((sl + (iI 1)), (iMin (kp + (iI 1)) (iI 15)), ct, gd, gl)) else mX1_record_25 f n d lb sl kp ct (mX4_put 1500 gd (x2 + x3) (mX3_depthOf n d x3)) (mX4_put 1500 gl (x2 + x3) (mX3_labelOf lb x3)) x2 (x3 + iI 1))
def mX1_record (n : Int32) (d : Nat → Int32) (lb : Nat → Int32) (sl : Int32) (kp : Int32) (ct : Nat → Int32) (gd : Nat → Int32) (gl : Nat → Int32)  : Option (Int32 × Int32 × (Nat → Int32) × (Nat → Int32) × (Nat → Int32)) := mX1_record_25 FU n d lb sl kp (mX4_put 15 ct sl (mX3_count n)) gd gl (sl * (iI 100)) (iI 0)
theorem hdX1_record : yX1_record.cls = RX1 ∧ yX1_record.cls ≠ "java/lang/invoke/MethodHandle" ∧ yX1_record.cls ≠ "java/lang/invoke/VarHandle" ∧ (parseMethodDescriptor yX1_record.desc).map (fun d => d.parameters.length) = some 1 := by decide +kernel
theorem flX1_record_25 : Cond.fieldLink RX1 25 "BracketTree$History" "slot" "I" ∈ wsX1_record := by decide +kernel
theorem iwX1_record_1 : ∀ w ∈ wsX10, w ∈ wsX1_record := by decide +kernel
theorem flX1_record_9 : Cond.fieldLink RX1 9 "BracketTree$History" "counts" "[I" ∈ wsX1_record := by decide +kernel
theorem niX1_record_X4_put : Cond.initialized RX4 ∈ wsX1_record := by decide +kernel
theorem nsX1_record_X4_put : Cond.static yX4_put ∈ wsX1_record := by decide +kernel
theorem nlX1_record_X4_put : Cond.methodLinkNest RX1 34 yX4_put "BracketTree" ∈ nestL := by decide +kernel
theorem flX1_record_21 : Cond.fieldLink RX1 21 "BracketTree$History" "kept" "I" ∈ wsX1_record := by decide +kernel
theorem mlX1_record_45 : Cond.methodLink RX1 45 Lib.Math.min.name ∈ wsX1_record := by decide +kernel
theorem msX1_record_45 : Cond.static Lib.Math.min.name ∈ wsX1_record := by decide +kernel
theorem miX1_record_45 : Cond.initialized "java/lang/Math" ∈ wsX1_record := by decide +kernel
theorem mcX1_record_45 : Cond.code Lib.Math.min.name Lib.Math.min.code 2 (some .int) ∈ wsX1_record := by decide +kernel
theorem flX1_record_15 : Cond.fieldLink RX1 15 "BracketTree$History" "depths" "[I" ∈ wsX1_record := by decide +kernel
theorem flX1_record_18 : Cond.fieldLink RX1 18 "BracketTree$History" "labels" "[I" ∈ wsX1_record := by decide +kernel
abbrev rmX1_record : Room := { frames := 2, cells := 0, slots := 0, locals := 42 }
set_option maxHeartbeats 4000000 in
set_option maxRecDepth 100000 in
theorem kX1_record_25 {p : Program} {l : Launch} {e : Env} {s : State} {m : MethodId} {args : Array Value} {below : List Frame} {meth : Method} {c : Code} {D : va_G} {cI cC : ClassId} {q : Nat → Nat} {xd : Nat → Int32} {xl : Nat → Int32} {r : Int32 × Int32 × (Nat → Int32) × (Nat → Int32) × (Nat → Int32)} {A : Nat → Prop} (X : CX p s m args meth c wsX1_record cX1_record 4 none RX1) (hKK : KK D cI cC s) (hA : ∀ z, s.heap.size ≤ z → A z) : ∀ (f : Nat), ∀ (n : Int32) (d : Nat → Int32) (lb : Nat → Int32) (sl : Int32) (kp : Int32) (ct : Nat → Int32) (gd : Nat → Int32) (gl : Nat → Int32) (x2 : Int32) (x3 : Int32) (H : Heap) (locs : List Loc) (ls : Array Slot), va_P D vwCl (wH cI q n d lb xd xl sl kp ct gd gl) H → va_D A (wH cI q n d lb xd xl sl kp ct gd gl) → va_S A s.heap H locs → lv_has ls 4 [(0, .ref (q 2)), (1, .ref (q 8)), (2, .int x2), (3, .int x3)] → mX1_record_25 f n d lb sl kp ct gd gl x2 x3 = some r → W p l e rmX1_record s m args below meth c H locs 0 0 (MQ below (muQ D none (wH cI q n d lb xd xl r.1 r.2.1 r.2.2.1 r.2.2.2.1 r.2.2.2.2) A) args s 0 0 A) (F0 m 25 ls []) := by
  have hx := X.1
  have hb := X.2.1
  intro f
  induction f with
  | zero =>
    intro n d lb sl kp ct gd gl x2 x3 H locs ls hP hD hS hl h
    exact absurd h (by unfold mX1_record_25; intro h; cases h)
  | succ f ih =>
    intro n d lb sl kp ct gd gl x2 x3 H locs ls hP hD hS hl h
    rw [mX1_record_25] at h
    refine lv_iload_n hx hb dX1_record_25 rfl (lv_at hl 3 rfl) ?_
    refine lv_aload_n hx hb dX1_record_26 rfl (lv_at hl 1 rfl) ?_
    refine rcV (rest := [.int x3]) X hKK hP 0 (zX3_count l D cI cC q n d lb xd xl _ rfl) gX1_record_X3_count rfl rfl rfl hdX3_count ⟨Nat.le_of_ble_eq_true rfl, Nat.le_of_ble_eq_true rfl⟩ [4, 5, 6, 7, 8] rfl 0 rfl rfl rfl hl.1 rfl (Nat.le_of_ble_eq_true rfl) dX1_record_27 ⟨Nat.zero_le _, Nat.zero_le _⟩ ?_
    refine lv_icmp_ge (tgt := 69) hx hb dX1_record_30 (by decide) (fun c1 => ?_) (fun c1 => ?_)
    · replace h := ifp c1 h
      refine lv_aload_n hx hb dX1_record_69 rfl (lv_at hl 0 rfl) ?_
      refine lv_aload_n hx hb dX1_record_70 rfl (lv_at hl 0 rfl) ?_
      refine va_get (D := D) (ci := 1) (v := .int sl) (C := RX1) (T := TX1) (N := 5) hx hb X.2.2.2.2.1 iwX1_record_1 X.2.2.2.1 hKK.1 hP 0 rfl rfl 3 (by decide) (X.2.2.2.2.1 _ flX1_record_25) (fun _ h9 => h9) rfl dX1_record_71 ?_
      refine lv_iconst (v := iI 1) hx hb dX1_record_74 rfl ?_
      refine lv_iadd hx hb dX1_record_75 ?_
      refine lv_bipush (v := iI 15) hx hb dX1_record_76 (by decide) ?_
      refine lv_icmp_ge (tgt := 90) hx hb dX1_record_78 (by decide) (fun c2 => ?_) (fun c2 => ?_)
      · replace h := ifp c2 h
        refine lv_iconst (v := iI 0) hx hb dX1_record_90 rfl ?_
        refine va_put (D := D) (ci := 1) (v := .int (iI 0)) (ty := .int) (C := RX1) (T := TX1) (N := 5) hx hb X.2.2.2.2.1 iwX1_record_1 tyX1 tyX1_ok nmX1 X.2.2.2.1 hKK.1 hP hD hS 0 rfl rfl 3 (by decide) (X.2.2.2.2.1 _ flX1_record_25) (fun _ h9 => h9) rfl (by decide +kernel) rfl rfl (Nat.le_of_ble_eq_true rfl) dX1_record_91 (fun H locs hP hD hS => ?_)
        replace hP : va_P D vwCl (wH cI q n d lb xd xl (iI 0) kp ct gd gl) H := hP
        replace hD : va_D A (wH cI q n d lb xd xl (iI 0) kp ct gd gl) := hD
        refine lv_aload_n hx hb dX1_record_94 rfl (lv_at hl 0 rfl) ?_
        refine lv_aload_n hx hb dX1_record_95 rfl (lv_at hl 0 rfl) ?_
        refine va_get (D := D) (ci := 1) (v := .int kp) (C := RX1) (T := TX1) (N := 5) hx hb X.2.2.2.2.1 iwX1_record_1 X.2.2.2.1 hKK.1 hP 0 rfl rfl 4 (by decide) (X.2.2.2.2.1 _ flX1_record_21) (fun _ h9 => h9) rfl dX1_record_96 ?_
        refine lv_iconst (v := iI 1) hx hb dX1_record_99 rfl ?_
        refine lv_iadd hx hb dX1_record_100 ?_
        refine lv_bipush (v := iI 15) hx hb dX1_record_101 (by decide) ?_
        refine va_mmin hx hb (by rw [X.2.2.1]; exact hl.1.symm) X.2.2.2.1 (X.2.2.2.2.1 _ mlX1_record_45) (X.2.2.2.2.1 _ msX1_record_45) (X.2.2.2.2.1 _ miX1_record_45) (X.2.2.2.2.1 _ mcX1_record_45) (Nat.le_of_ble_eq_true rfl) (Nat.le_of_ble_eq_true rfl) (Nat.zero_le _) (Nat.zero_le _) dX1_record_103 ?_
        refine va_put (D := D) (ci := 1) (v := .int (iMin (kp + (iI 1)) (iI 15))) (ty := .int) (C := RX1) (T := TX1) (N := 5) hx hb X.2.2.2.2.1 iwX1_record_1 tyX1 tyX1_ok nmX1 X.2.2.2.1 hKK.1 hP hD hS 0 rfl rfl 4 (by decide) (X.2.2.2.2.1 _ flX1_record_21) (fun _ h9 => h9) rfl (by decide +kernel) rfl rfl (Nat.le_of_ble_eq_true rfl) dX1_record_106 (fun H locs hP hD hS => ?_)
        replace hP : va_P D vwCl (wH cI q n d lb xd xl (iI 0) (iMin (kp + (iI 1)) (iI 15)) ct gd gl) H := hP
        replace hD : va_D A (wH cI q n d lb xd xl (iI 0) (iMin (kp + (iI 1)) (iI 15)) ct gd gl) := hD
        replace h := Option.some.inj h
        subst h
        exact mu_vret X hP rfl hS dX1_record_109
      · replace h := ifn c2 h
        refine lv_aload_n hx hb dX1_record_81 rfl (lv_at hl 0 rfl) ?_
        refine va_get (D := D) (ci := 1) (v := .int sl) (C := RX1) (T := TX1) (N := 5) hx hb X.2.2.2.2.1 iwX1_record_1 X.2.2.2.1 hKK.1 hP 0 rfl rfl 3 (by decide) (X.2.2.2.2.1 _ flX1_record_25) (fun _ h9 => h9) rfl dX1_record_82 ?_
        refine lv_iconst (v := iI 1) hx hb dX1_record_85 rfl ?_
        refine lv_iadd hx hb dX1_record_86 ?_
        refine lv_goto (tgt := 91) hx hb dX1_record_87 (by decide) ?_
        refine va_put (D := D) (ci := 1) (v := .int (sl + (iI 1))) (ty := .int) (C := RX1) (T := TX1) (N := 5) hx hb X.2.2.2.2.1 iwX1_record_1 tyX1 tyX1_ok nmX1 X.2.2.2.1 hKK.1 hP hD hS 0 rfl rfl 3 (by decide) (X.2.2.2.2.1 _ flX1_record_25) (fun _ h9 => h9) rfl (by decide +kernel) rfl rfl (Nat.le_of_ble_eq_true rfl) dX1_record_91 (fun H locs hP hD hS => ?_)
        replace hP : va_P D vwCl (wH cI q n d lb xd xl (sl + (iI 1)) kp ct gd gl) H := hP
        replace hD : va_D A (wH cI q n d lb xd xl (sl + (iI 1)) kp ct gd gl) := hD
        refine lv_aload_n hx hb dX1_record_94 rfl (lv_at hl 0 rfl) ?_
        refine lv_aload_n hx hb dX1_record_95 rfl (lv_at hl 0 rfl) ?_
        refine va_get (D := D) (ci := 1) (v := .int kp) (C := RX1) (T := TX1) (N := 5) hx hb X.2.2.2.2.1 iwX1_record_1 X.2.2.2.1 hKK.1 hP 0 rfl rfl 4 (by decide) (X.2.2.2.2.1 _ flX1_record_21) (fun _ h9 => h9) rfl dX1_record_96 ?_
        refine lv_iconst (v := iI 1) hx hb dX1_record_99 rfl ?_
        refine lv_iadd hx hb dX1_record_100 ?_
        refine lv_bipush (v := iI 15) hx hb dX1_record_101 (by decide) ?_
        refine va_mmin hx hb (by rw [X.2.2.1]; exact hl.1.symm) X.2.2.2.1 (X.2.2.2.2.1 _ mlX1_record_45) (X.2.2.2.2.1 _ msX1_record_45) (X.2.2.2.2.1 _ miX1_record_45) (X.2.2.2.2.1 _ mcX1_record_45) (Nat.le_of_ble_eq_true rfl) (Nat.le_of_ble_eq_true rfl) (Nat.zero_le _) (Nat.zero_le _) dX1_record_103 ?_
        refine va_put (D := D) (ci := 1) (v := .int (iMin (kp + (iI 1)) (iI 15))) (ty := .int) (C := RX1) (T := TX1) (N := 5) hx hb X.2.2.2.2.1 iwX1_record_1 tyX1 tyX1_ok nmX1 X.2.2.2.1 hKK.1 hP hD hS 0 rfl rfl 4 (by decide) (X.2.2.2.2.1 _ flX1_record_21) (fun _ h9 => h9) rfl (by decide +kernel) rfl rfl (Nat.le_of_ble_eq_true rfl) dX1_record_106 (fun H locs hP hD hS => ?_)
        replace hP : va_P D vwCl (wH cI q n d lb xd xl (sl + (iI 1)) (iMin (kp + (iI 1)) (iI 15)) ct gd gl) H := hP
        replace hD : va_D A (wH cI q n d lb xd xl (sl + (iI 1)) (iMin (kp + (iI 1)) (iI 15)) ct gd gl) := hD
        replace h := Option.some.inj h
        subst h
        exact mu_vret X hP rfl hS dX1_record_109
    · replace h := ifn c1 h
      refine lv_aload_n hx hb dX1_record_33 rfl (lv_at hl 0 rfl) ?_
      refine va_get (D := D) (ci := 1) (v := .ref (q 4)) (C := RX1) (T := TX1) (N := 5) hx hb X.2.2.2.2.1 iwX1_record_1 X.2.2.2.1 hKK.1 hP 0 rfl rfl 1 (by decide) (X.2.2.2.2.1 _ flX1_record_15) (fun _ h9 => h9) rfl dX1_record_34 ?_
      refine lv_iload_n hx hb dX1_record_37 rfl (lv_at hl 2 rfl) ?_
      refine lv_iload_n hx hb dX1_record_38 rfl (lv_at hl 3 rfl) ?_
      refine lv_iadd hx hb dX1_record_39 ?_
      refine lv_aload_n hx hb dX1_record_40 rfl (lv_at hl 1 rfl) ?_
      refine lv_iload_n hx hb dX1_record_41 rfl (lv_at hl 3 rfl) ?_
      refine rcV (rest := [.int (x2 + x3), .ref (q 4)]) X hKK hP 1 (zX3_depthOf l D cI cC q n d lb xd xl x3 _ rfl) gX1_record_X3_depthOf rfl rfl rfl hdX3_depthOf ⟨Nat.le_of_ble_eq_true rfl, Nat.le_of_ble_eq_true rfl⟩ [4, 5, 6, 7, 8] rfl 0 rfl rfl rfl hl.1 rfl (Nat.le_of_ble_eq_true rfl) dX1_record_42 ⟨Nat.zero_le _, Nat.zero_le _⟩ ?_
      refine mcSN (rest := []) (wld2 := (wH cI q n d lb xd xl sl kp ct (mX4_put 1500 gd (x2 + x3) (mX3_depthOf n d x3)) gl)) (wr := pickAt [0, 1, 3, 4, 5, 6, 7, 8] (wH cI q n d lb xd xl sl kp ct gd gl)) X hKK hP hD hS hA 3 (zX4_put l D cI cC (q 4) 1500 gd (x2 + x3) (mX3_depthOf n d x3) _) gX1_record_X4_put_n34 rfl rfl rfl nlX1_record_X4_put (X.2.2.2.2.1 _ niX1_record_X4_put) (X.2.2.2.2.1 _ nsX1_record_X4_put) hdX4_put ⟨Nat.le_of_ble_eq_true rfl, Nat.le_of_ble_eq_true rfl⟩ [2] [0, 1, 3, 4, 5, 6, 7, 8] rfl rfl rfl rfl rfl (by decide) rfl [0, 1, 8, 2, 3, 4, 5, 6, 7] rfl rfl rfl rfl hl.1 rfl (Nat.le_of_ble_eq_true rfl) dX1_record_45 ⟨Nat.zero_le _, Nat.zero_le _⟩ (fun H locs hP hD hS => ?_)
      refine lv_aload_n hx hb dX1_record_48 rfl (lv_at hl 0 rfl) ?_
      refine va_get (D := D) (ci := 1) (v := .ref (q 5)) (C := RX1) (T := TX1) (N := 5) hx hb X.2.2.2.2.1 iwX1_record_1 X.2.2.2.1 hKK.1 hP 0 rfl rfl 2 (by decide) (X.2.2.2.2.1 _ flX1_record_18) (fun _ h9 => h9) rfl dX1_record_49 ?_
      refine lv_iload_n hx hb dX1_record_52 rfl (lv_at hl 2 rfl) ?_
      refine lv_iload_n hx hb dX1_record_53 rfl (lv_at hl 3 rfl) ?_
      refine lv_iadd hx hb dX1_record_54 ?_
      refine lv_aload_n hx hb dX1_record_55 rfl (lv_at hl 1 rfl) ?_
      refine lv_iload_n hx hb dX1_record_56 rfl (lv_at hl 3 rfl) ?_
      refine rcV (rest := [.int (x2 + x3), .ref (q 5)]) X hKK hP 1 (zX3_labelOf l D cI cC q n d lb xd xl x3 _ rfl) gX1_record_X3_labelOf rfl rfl rfl hdX3_labelOf ⟨Nat.le_of_ble_eq_true rfl, Nat.le_of_ble_eq_true rfl⟩ [4, 5, 6, 7, 8] rfl 0 rfl rfl rfl hl.1 rfl (Nat.le_of_ble_eq_true rfl) dX1_record_57 ⟨Nat.zero_le _, Nat.zero_le _⟩ ?_
      refine mcSN (rest := []) (wld2 := (wH cI q n d lb xd xl sl kp ct (mX4_put 1500 gd (x2 + x3) (mX3_depthOf n d x3)) (mX4_put 1500 gl (x2 + x3) (mX3_labelOf lb x3)))) (wr := pickAt [0, 1, 2, 4, 5, 6, 7, 8] (wH cI q n d lb xd xl sl kp ct (mX4_put 1500 gd (x2 + x3) (mX3_depthOf n d x3)) gl)) X hKK hP hD hS hA 3 (zX4_put l D cI cC (q 5) 1500 gl (x2 + x3) (mX3_labelOf lb x3) _) gX1_record_X4_put_n34 rfl rfl rfl nlX1_record_X4_put (X.2.2.2.2.1 _ niX1_record_X4_put) (X.2.2.2.2.1 _ nsX1_record_X4_put) hdX4_put ⟨Nat.le_of_ble_eq_true rfl, Nat.le_of_ble_eq_true rfl⟩ [3] [0, 1, 2, 4, 5, 6, 7, 8] rfl rfl rfl rfl rfl (by decide) rfl [0, 1, 2, 8, 3, 4, 5, 6, 7] rfl rfl rfl rfl hl.1 rfl (Nat.le_of_ble_eq_true rfl) dX1_record_60 ⟨Nat.zero_le _, Nat.zero_le _⟩ (fun H locs hP hD hS => ?_)
      refine lv_iinc (v := (x3 + iI 1)) (lv' := [(3, .int (x3 + iI 1)), (0, .ref (q 2)), (1, .ref (q 8)), (2, .int x2)]) hx hb dX1_record_63 hl (k := 3) rfl rfl (by decide) rfl (fun ls hl => ?_)
      refine lv_goto (tgt := 25) hx hb dX1_record_66 (by decide) ?_
      exact ih n d lb sl kp ct (mX4_put 1500 gd (x2 + x3) (mX3_depthOf n d x3)) (mX4_put 1500 gl (x2 + x3) (mX3_labelOf lb x3)) x2 (x3 + iI 1) _ _ ls hP hD hS (lv_sub hl [1, 2, 3, 0] rfl) h
set_option maxHeartbeats 4000000 in
set_option maxRecDepth 100000 in
theorem zX1_record (l : Launch) (D : va_G) (cI cC : ClassId) (q : Nat → Nat) (sz : Nat) (n : Int32) (d : Nat → Int32) (lb : Nat → Int32) (xd : Nat → Int32) (xl : Nat → Int32) (sl : Int32) (kp : Int32) (ct : Nat → Int32) (gd : Nat → Int32) (gl : Nat → Int32)  (r : Int32 × Int32 × (Nat → Int32) × (Nat → Int32) × (Nat → Int32)) (h : mX1_record n d lb sl kp ct gd gl = some r) : Met l yX1_record wsX1_record rmX1_record (va_Pc [.ref (q 2), .ref (q 8)] (MB D cI cC sz (wH cI q n d lb xd xl sl kp ct gd gl))) (muQ D none (wH cI q n d lb xd xl r.1 r.2.1 r.2.2.1 r.2.2.2.1 r.2.2.2.2) (va_A (wH cI q n d lb xd xl sl kp ct gd gl) sz)) 0 0 (va_A (wH cI q n d lb xd xl sl kp ct gd gl) sz) := by
  refine MetI RX1 (by decide +kernel) rfl rfl (Nat.le_of_ble_eq_true rfl) ?_
  intro p e s m below meth c ls X _ hB hl
  obtain ⟨hsz, ⟨hP, hKK⟩, hD0⟩ := hB
  subst hsz
  have hD := hD0.self (sz := s.heap.size)
  generalize hAe : va_A (wH cI q n d lb xd xl sl kp ct gd gl) s.heap.size = A at hD ⊢
  have hA : ∀ z : Nat, s.heap.size ≤ z → A z := fun z hz => by rw [← hAe]; exact Or.inr hz
  have hS : va_S A s.heap s.heap [] := va_S.rf
  have hx := X.1
  have hb := X.2.1
  replace hl : lv_has ls 4 [(0, .ref (q 2)), (1, .ref (q 8))] := hl
  replace hP : va_P D vwCl (wH cI q n d lb xd xl sl kp ct gd gl) s.heap := hP
  unfold mX1_record at h
  refine lv_aload_n hx hb dX1_record_0 rfl (lv_at hl 0 rfl) ?_
  refine va_get (D := D) (ci := 1) (v := .int sl) (C := RX1) (T := TX1) (N := 5) hx hb X.2.2.2.2.1 iwX1_record_1 X.2.2.2.1 hKK.1 hP 0 rfl rfl 3 (by decide) (X.2.2.2.2.1 _ flX1_record_25) (fun _ h9 => h9) rfl dX1_record_1 ?_
  refine lv_bipush (v := iI 100) hx hb dX1_record_4 (by decide) ?_
  refine lv_imul hx hb dX1_record_6 ?_
  refine lv_istore_n (lv' := [(2, .int (sl * (iI 100))), (0, .ref (q 2)), (1, .ref (q 8))]) hx hb dX1_record_7 rfl hl (by decide) rfl (fun ls hl => ?_)
  refine lv_aload_n hx hb dX1_record_8 rfl (lv_at hl 1 rfl) ?_
  refine va_get (D := D) (ci := 1) (v := .ref (q 3)) (C := RX1) (T := TX1) (N := 5) hx hb X.2.2.2.2.1 iwX1_record_1 X.2.2.2.1 hKK.1 hP 0 rfl rfl 0 (by decide) (X.2.2.2.2.1 _ flX1_record_9) (fun _ h9 => h9) rfl dX1_record_9 ?_
  refine lv_aload_n hx hb dX1_record_12 rfl (lv_at hl 1 rfl) ?_
  refine va_get (D := D) (ci := 1) (v := .int sl) (C := RX1) (T := TX1) (N := 5) hx hb X.2.2.2.2.1 iwX1_record_1 X.2.2.2.1 hKK.1 hP 0 rfl rfl 3 (by decide) (X.2.2.2.2.1 _ flX1_record_25) (fun _ h9 => h9) rfl dX1_record_13 ?_
  refine lv_aload_n hx hb dX1_record_16 rfl (lv_at hl 2 rfl) ?_
  refine rcV (rest := [.int sl, .ref (q 3)]) X hKK hP 0 (zX3_count l D cI cC q n d lb xd xl _ rfl) gX1_record_X3_count rfl rfl rfl hdX3_count ⟨Nat.le_of_ble_eq_true rfl, Nat.le_of_ble_eq_true rfl⟩ [4, 5, 6, 7, 8] rfl 0 rfl rfl rfl hl.1 rfl (Nat.le_of_ble_eq_true rfl) dX1_record_17 ⟨Nat.zero_le _, Nat.zero_le _⟩ ?_
  refine mcSN (rest := []) (wld2 := (wH cI q n d lb xd xl sl kp (mX4_put 15 ct sl (mX3_count n)) gd gl)) (wr := pickAt [0, 2, 3, 4, 5, 6, 7, 8] (wH cI q n d lb xd xl sl kp ct gd gl)) X hKK hP hD hS hA 3 (zX4_put l D cI cC (q 3) 15 ct sl (mX3_count n) _) gX1_record_X4_put_n34 rfl rfl rfl nlX1_record_X4_put (X.2.2.2.2.1 _ niX1_record_X4_put) (X.2.2.2.2.1 _ nsX1_record_X4_put) hdX4_put ⟨Nat.le_of_ble_eq_true rfl, Nat.le_of_ble_eq_true rfl⟩ [1] [0, 2, 3, 4, 5, 6, 7, 8] rfl rfl rfl rfl rfl (by decide) rfl [0, 8, 1, 2, 3, 4, 5, 6, 7] rfl rfl rfl rfl hl.1 rfl (Nat.le_of_ble_eq_true rfl) dX1_record_20 ⟨Nat.zero_le _, Nat.zero_le _⟩ (fun H locs hP hD hS => ?_)
  refine lv_iconst (v := iI 0) hx hb dX1_record_23 rfl ?_
  refine lv_istore_n (lv' := [(3, .int (iI 0)), (2, .int (sl * (iI 100))), (0, .ref (q 2)), (1, .ref (q 8))]) hx hb dX1_record_24 rfl hl (by decide) rfl (fun ls hl => ?_)
  exact kX1_record_25 X hKK hA FU n d lb sl kp (mX4_put 15 ct sl (mX3_count n)) gd gl (sl * (iI 100)) (iI 0) _ _ ls hP hD hS (lv_sub hl [2, 3, 1, 0] rfl) h
def mX1_recall_63 : Nat → Int32 → (Nat → Int32) → (Nat → Int32) → Int32 → Int32 → (Nat → Int32) → (Nat → Int32) → (Nat → Int32) → Int32 → Int32 → Int32 → Option (Int32 × Int32 × (Nat → Int32) × (Nat → Int32) × Int32 × Int32)
  | 0, _, _, _, _, _, _, _, _, _, _, _ => none
  | f + 1, n, d, lb, sl, kp, ct, gd, gl, x2, x3, x4 => (if x3 ≤ x4 then some (kp, n, d, lb, sl, kp) else mX1_recall_63 f ((mX3_append n d lb (mX4_get 1500 gd (x2 + x4)) (mX4_get 1500 gl (x2 + x4))).1) ((mX3_append n d lb (mX4_get 1500 gd (x2 + x4)) (mX4_get 1500 gl (x2 + x4))).2.1) ((mX3_append n d lb (mX4_get 1500 gd (x2 + x4)) (mX4_get 1500 gl (x2 + x4))).2.2) sl kp ct gd gl x2 x3 (x4 + iI 1))
def mX1_recall (n : Int32) (d : Nat → Int32) (lb : Nat → Int32) (sl : Int32) (kp : Int32) (ct : Nat → Int32) (gd : Nat → Int32) (gl : Nat → Int32)  : Option (Int32 × Int32 × (Nat → Int32) × (Nat → Int32) × Int32 × Int32) := (if sl ≤ 0 then mX1_recall_63 FU (mX3_empty n) d lb (iI 14) (iMax (kp - (iI 1)) (iI 0)) ct gd gl ((iI 14) * (iI 100)) (mX4_get 15 ct (iI 14)) (iI 0) else mX1_recall_63 FU (mX3_empty n) d lb (sl - (iI 1)) (iMax (kp - (iI 1)) (iI 0)) ct gd gl ((sl - (iI 1)) * (iI 100)) (mX4_get 15 ct (sl - (iI 1))) (iI 0))
theorem hdX1_recall : yX1_recall.cls = RX1 ∧ yX1_recall.cls ≠ "java/lang/invoke/MethodHandle" ∧ yX1_recall.cls ≠ "java/lang/invoke/VarHandle" ∧ (parseMethodDescriptor yX1_recall.desc).map (fun d => d.parameters.length) = some 1 := by decide +kernel
theorem flX1_recall_25 : Cond.fieldLink RX1 25 "BracketTree$History" "slot" "I" ∈ wsX1_recall := by decide +kernel
theorem iwX1_recall_1 : ∀ w ∈ wsX10, w ∈ wsX1_recall := by decide +kernel
theorem flX1_recall_21 : Cond.fieldLink RX1 21 "BracketTree$History" "kept" "I" ∈ wsX1_recall := by decide +kernel
theorem mlX1_recall_51 : Cond.methodLink RX1 51 Lib.Math.max.name ∈ wsX1_recall := by decide +kernel
theorem msX1_recall_51 : Cond.static Lib.Math.max.name ∈ wsX1_recall := by decide +kernel
theorem miX1_recall_51 : Cond.initialized "java/lang/Math" ∈ wsX1_recall := by decide +kernel
theorem mcX1_recall_51 : Cond.code Lib.Math.max.name Lib.Math.max.code 2 (some .int) ∈ wsX1_recall := by decide +kernel
theorem flX1_recall_9 : Cond.fieldLink RX1 9 "BracketTree$History" "counts" "[I" ∈ wsX1_recall := by decide +kernel
theorem niX1_recall_X4_get : Cond.initialized RX4 ∈ wsX1_recall := by decide +kernel
theorem nsX1_recall_X4_get : Cond.static yX4_get ∈ wsX1_recall := by decide +kernel
theorem nlX1_recall_X4_get : Cond.methodLinkNest RX1 54 yX4_get "BracketTree" ∈ nestL := by decide +kernel
theorem flX1_recall_15 : Cond.fieldLink RX1 15 "BracketTree$History" "depths" "[I" ∈ wsX1_recall := by decide +kernel
theorem flX1_recall_18 : Cond.fieldLink RX1 18 "BracketTree$History" "labels" "[I" ∈ wsX1_recall := by decide +kernel
abbrev rmX1_recall : Room := { frames := 3, cells := 0, slots := 0, locals := 67 }
set_option maxHeartbeats 4000000 in
set_option maxRecDepth 100000 in
theorem kX1_recall_63 {p : Program} {l : Launch} {e : Env} {s : State} {m : MethodId} {args : Array Value} {below : List Frame} {meth : Method} {c : Code} {D : va_G} {cI cC : ClassId} {q : Nat → Nat} {xd : Nat → Int32} {xl : Nat → Int32} {r : Int32 × Int32 × (Nat → Int32) × (Nat → Int32) × Int32 × Int32} {A : Nat → Prop} (X : CX p s m args meth c wsX1_recall cX1_recall 5 (some .int) RX1) (hKK : KK D cI cC s) (hA : ∀ z, s.heap.size ≤ z → A z) : ∀ (f : Nat), ∀ (n : Int32) (d : Nat → Int32) (lb : Nat → Int32) (sl : Int32) (kp : Int32) (ct : Nat → Int32) (gd : Nat → Int32) (gl : Nat → Int32) (x2 : Int32) (x3 : Int32) (x4 : Int32) (H : Heap) (locs : List Loc) (ls : Array Slot), va_P D vwCl (wH cI q n d lb xd xl sl kp ct gd gl) H → va_D A (wH cI q n d lb xd xl sl kp ct gd gl) → va_S A s.heap H locs → lv_has ls 5 [(0, .ref (q 2)), (1, .ref (q 8)), (2, .int x2), (3, .int x3), (4, .int x4)] → mX1_recall_63 f n d lb sl kp ct gd gl x2 x3 x4 = some r → W p l e rmX1_recall s m args below meth c H locs 0 0 (MQ below (muQ D (some (.int r.1)) (wH cI q r.2.1 r.2.2.1 r.2.2.2.1 xd xl r.2.2.2.2.1 r.2.2.2.2.2 ct gd gl) A) args s 0 0 A) (F0 m 63 ls []) := by
  have hx := X.1
  have hb := X.2.1
  intro f
  induction f with
  | zero =>
    intro n d lb sl kp ct gd gl x2 x3 x4 H locs ls hP hD hS hl h
    exact absurd h (by unfold mX1_recall_63; intro h; cases h)
  | succ f ih =>
    intro n d lb sl kp ct gd gl x2 x3 x4 H locs ls hP hD hS hl h
    rw [mX1_recall_63] at h
    refine lv_iload hx hb dX1_recall_63 (lv_at hl 4 rfl) ?_
    refine lv_iload_n hx hb dX1_recall_65 rfl (lv_at hl 3 rfl) ?_
    refine lv_icmp_ge (tgt := 101) hx hb dX1_recall_66 (by decide) (fun c2 => ?_) (fun c2 => ?_)
    · replace h := ifp c2 h
      refine lv_aload_n hx hb dX1_recall_101 rfl (lv_at hl 0 rfl) ?_
      refine va_get (D := D) (ci := 1) (v := .int kp) (C := RX1) (T := TX1) (N := 5) hx hb X.2.2.2.2.1 iwX1_recall_1 X.2.2.2.1 hKK.1 hP 0 rfl rfl 4 (by decide) (X.2.2.2.2.1 _ flX1_recall_21) (fun _ h9 => h9) rfl dX1_recall_102 ?_
      replace h := Option.some.inj h
      subst h
      exact mu_ret X rfl rfl hP rfl hS dX1_recall_105
    · replace h := ifn c2 h
      refine lv_aload_n hx hb dX1_recall_69 rfl (lv_at hl 1 rfl) ?_
      refine lv_aload_n hx hb dX1_recall_70 rfl (lv_at hl 0 rfl) ?_
      refine va_get (D := D) (ci := 1) (v := .ref (q 4)) (C := RX1) (T := TX1) (N := 5) hx hb X.2.2.2.2.1 iwX1_recall_1 X.2.2.2.1 hKK.1 hP 0 rfl rfl 1 (by decide) (X.2.2.2.2.1 _ flX1_recall_15) (fun _ h9 => h9) rfl dX1_recall_71 ?_
      refine lv_iload_n hx hb dX1_recall_74 rfl (lv_at hl 2 rfl) ?_
      refine lv_iload hx hb dX1_recall_75 (lv_at hl 4 rfl) ?_
      refine lv_iadd hx hb dX1_recall_77 ?_
      refine rcSN (rest := [.ref (q 8)]) X hKK hP 2 (zX4_get l D cI cC (q 4) 1500 gd (x2 + x4)) gX1_recall_X4_get_n54 rfl rfl rfl nlX1_recall_X4_get (X.2.2.2.2.1 _ niX1_recall_X4_get) (X.2.2.2.2.1 _ nsX1_recall_X4_get) hdX4_get ⟨Nat.le_of_ble_eq_true rfl, Nat.le_of_ble_eq_true rfl⟩ [2] rfl rfl hl.1 rfl (Nat.le_of_ble_eq_true rfl) dX1_recall_78 ⟨Nat.zero_le _, Nat.zero_le _⟩ ?_
      refine lv_aload_n hx hb dX1_recall_81 rfl (lv_at hl 0 rfl) ?_
      refine va_get (D := D) (ci := 1) (v := .ref (q 5)) (C := RX1) (T := TX1) (N := 5) hx hb X.2.2.2.2.1 iwX1_recall_1 X.2.2.2.1 hKK.1 hP 0 rfl rfl 2 (by decide) (X.2.2.2.2.1 _ flX1_recall_18) (fun _ h9 => h9) rfl dX1_recall_82 ?_
      refine lv_iload_n hx hb dX1_recall_85 rfl (lv_at hl 2 rfl) ?_
      refine lv_iload hx hb dX1_recall_86 (lv_at hl 4 rfl) ?_
      refine lv_iadd hx hb dX1_recall_88 ?_
      refine rcSN (rest := [.int (mX4_get 1500 gd (x2 + x4)), .ref (q 8)]) X hKK hP 2 (zX4_get l D cI cC (q 5) 1500 gl (x2 + x4)) gX1_recall_X4_get_n54 rfl rfl rfl nlX1_recall_X4_get (X.2.2.2.2.1 _ niX1_recall_X4_get) (X.2.2.2.2.1 _ nsX1_recall_X4_get) hdX4_get ⟨Nat.le_of_ble_eq_true rfl, Nat.le_of_ble_eq_true rfl⟩ [3] rfl rfl hl.1 rfl (Nat.le_of_ble_eq_true rfl) dX1_recall_89 ⟨Nat.zero_le _, Nat.zero_le _⟩ ?_
      refine mcV (rest := []) (wld2 := (wH cI q (mX3_append n d lb (mX4_get 1500 gd (x2 + x4)) (mX4_get 1500 gl (x2 + x4))).1 (mX3_append n d lb (mX4_get 1500 gd (x2 + x4)) (mX4_get 1500 gl (x2 + x4))).2.1 (mX3_append n d lb (mX4_get 1500 gd (x2 + x4)) (mX4_get 1500 gl (x2 + x4))).2.2 xd xl sl kp ct gd gl)) (wr := pickAt [0, 1, 2, 3] (wH cI q n d lb xd xl sl kp ct gd gl)) X hKK hP hD hS hA 2 (zX3_append l D cI cC q _ n d lb xd xl (mX4_get 1500 gd (x2 + x4)) (mX4_get 1500 gl (x2 + x4)) _ rfl) gX1_recall_X3_append rfl rfl rfl hdX3_append ⟨Nat.le_of_ble_eq_true rfl, Nat.le_of_ble_eq_true rfl⟩ [4, 5, 6, 7, 8] [0, 1, 2, 3] rfl rfl rfl rfl rfl (by decide) rfl [0, 1, 2, 3, 4, 5, 6, 7, 8] rfl rfl rfl 0 rfl rfl rfl hl.1 rfl (Nat.le_of_ble_eq_true rfl) dX1_recall_92 ⟨Nat.zero_le _, Nat.zero_le _⟩ (fun H locs hP hD hS => ?_)
      refine lv_iinc (v := (x4 + iI 1)) (lv' := [(4, .int (x4 + iI 1)), (0, .ref (q 2)), (1, .ref (q 8)), (2, .int x2), (3, .int x3)]) hx hb dX1_recall_95 hl (k := 4) rfl rfl (by decide) rfl (fun ls hl => ?_)
      refine lv_goto (tgt := 63) hx hb dX1_recall_98 (by decide) ?_
      exact ih ((mX3_append n d lb (mX4_get 1500 gd (x2 + x4)) (mX4_get 1500 gl (x2 + x4))).1) ((mX3_append n d lb (mX4_get 1500 gd (x2 + x4)) (mX4_get 1500 gl (x2 + x4))).2.1) ((mX3_append n d lb (mX4_get 1500 gd (x2 + x4)) (mX4_get 1500 gl (x2 + x4))).2.2) sl kp ct gd gl x2 x3 (x4 + iI 1) _ _ ls hP hD hS (lv_sub hl [1, 2, 3, 4, 0] rfl) h
set_option maxHeartbeats 4000000 in
set_option maxRecDepth 100000 in
theorem zX1_recall (l : Launch) (D : va_G) (cI cC : ClassId) (q : Nat → Nat) (sz : Nat) (n : Int32) (d : Nat → Int32) (lb : Nat → Int32) (xd : Nat → Int32) (xl : Nat → Int32) (sl : Int32) (kp : Int32) (ct : Nat → Int32) (gd : Nat → Int32) (gl : Nat → Int32)  (r : Int32 × Int32 × (Nat → Int32) × (Nat → Int32) × Int32 × Int32) (h : mX1_recall n d lb sl kp ct gd gl = some r) : Met l yX1_recall wsX1_recall rmX1_recall (va_Pc [.ref (q 2), .ref (q 8)] (MB D cI cC sz (wH cI q n d lb xd xl sl kp ct gd gl))) (muQ D (some (.int r.1)) (wH cI q r.2.1 r.2.2.1 r.2.2.2.1 xd xl r.2.2.2.2.1 r.2.2.2.2.2 ct gd gl) (va_A (wH cI q n d lb xd xl sl kp ct gd gl) sz)) 0 0 (va_A (wH cI q n d lb xd xl sl kp ct gd gl) sz) := by
  refine MetI RX1 (by decide +kernel) rfl rfl (Nat.le_of_ble_eq_true rfl) ?_
  intro p e s m below meth c ls X _ hB hl
  obtain ⟨hsz, ⟨hP, hKK⟩, hD0⟩ := hB
  subst hsz
  have hD := hD0.self (sz := s.heap.size)
  generalize hAe : va_A (wH cI q n d lb xd xl sl kp ct gd gl) s.heap.size = A at hD ⊢
  have hA : ∀ z : Nat, s.heap.size ≤ z → A z := fun z hz => by rw [← hAe]; exact Or.inr hz
  have hS : va_S A s.heap s.heap [] := va_S.rf
  have hx := X.1
  have hb := X.2.1
  replace hl : lv_has ls 5 [(0, .ref (q 2)), (1, .ref (q 8))] := hl
  replace hP : va_P D vwCl (wH cI q n d lb xd xl sl kp ct gd gl) s.heap := hP
  unfold mX1_recall at h
  refine lv_aload_n hx hb dX1_recall_0 rfl (lv_at hl 0 rfl) ?_
  refine lv_aload_n hx hb dX1_recall_1 rfl (lv_at hl 0 rfl) ?_
  refine va_get (D := D) (ci := 1) (v := .int sl) (C := RX1) (T := TX1) (N := 5) hx hb X.2.2.2.2.1 iwX1_recall_1 X.2.2.2.1 hKK.1 hP 0 rfl rfl 3 (by decide) (X.2.2.2.2.1 _ flX1_recall_25) (fun _ h9 => h9) rfl dX1_recall_2 ?_
  refine lv_if_le (tgt := 17) hx hb dX1_recall_5 (by decide) (fun c1 => ?_) (fun c1 => ?_)
  · replace h := ifp c1 h
    refine lv_bipush (v := iI 14) hx hb dX1_recall_17 (by decide) ?_
    refine va_put (D := D) (ci := 1) (v := .int (iI 14)) (ty := .int) (C := RX1) (T := TX1) (N := 5) hx hb X.2.2.2.2.1 iwX1_recall_1 tyX1 tyX1_ok nmX1 X.2.2.2.1 hKK.1 hP hD hS 0 rfl rfl 3 (by decide) (X.2.2.2.2.1 _ flX1_recall_25) (fun _ h9 => h9) rfl (by decide +kernel) rfl rfl (Nat.le_of_ble_eq_true rfl) dX1_recall_19 (fun H locs hP hD hS => ?_)
    replace hP : va_P D vwCl (wH cI q n d lb xd xl (iI 14) kp ct gd gl) H := hP
    replace hD : va_D A (wH cI q n d lb xd xl (iI 14) kp ct gd gl) := hD
    refine lv_aload_n hx hb dX1_recall_22 rfl (lv_at hl 0 rfl) ?_
    refine lv_aload_n hx hb dX1_recall_23 rfl (lv_at hl 0 rfl) ?_
    refine va_get (D := D) (ci := 1) (v := .int kp) (C := RX1) (T := TX1) (N := 5) hx hb X.2.2.2.2.1 iwX1_recall_1 X.2.2.2.1 hKK.1 hP 0 rfl rfl 4 (by decide) (X.2.2.2.2.1 _ flX1_recall_21) (fun _ h9 => h9) rfl dX1_recall_24 ?_
    refine lv_iconst (v := iI 1) hx hb dX1_recall_27 rfl ?_
    refine lv_isub hx hb dX1_recall_28 ?_
    refine lv_iconst (v := iI 0) hx hb dX1_recall_29 rfl ?_
    refine va_mmax hx hb (by rw [X.2.2.1]; exact hl.1.symm) X.2.2.2.1 (X.2.2.2.2.1 _ mlX1_recall_51) (X.2.2.2.2.1 _ msX1_recall_51) (X.2.2.2.2.1 _ miX1_recall_51) (X.2.2.2.2.1 _ mcX1_recall_51) (Nat.le_of_ble_eq_true rfl) (Nat.le_of_ble_eq_true rfl) (Nat.zero_le _) (Nat.zero_le _) dX1_recall_30 ?_
    refine va_put (D := D) (ci := 1) (v := .int (iMax (kp - (iI 1)) (iI 0))) (ty := .int) (C := RX1) (T := TX1) (N := 5) hx hb X.2.2.2.2.1 iwX1_recall_1 tyX1 tyX1_ok nmX1 X.2.2.2.1 hKK.1 hP hD hS 0 rfl rfl 4 (by decide) (X.2.2.2.2.1 _ flX1_recall_21) (fun _ h9 => h9) rfl (by decide +kernel) rfl rfl (Nat.le_of_ble_eq_true rfl) dX1_recall_33 (fun H locs hP hD hS => ?_)
    replace hP : va_P D vwCl (wH cI q n d lb xd xl (iI 14) (iMax (kp - (iI 1)) (iI 0)) ct gd gl) H := hP
    replace hD : va_D A (wH cI q n d lb xd xl (iI 14) (iMax (kp - (iI 1)) (iI 0)) ct gd gl) := hD
    refine lv_aload_n hx hb dX1_recall_36 rfl (lv_at hl 0 rfl) ?_
    refine va_get (D := D) (ci := 1) (v := .int (iI 14)) (C := RX1) (T := TX1) (N := 5) hx hb X.2.2.2.2.1 iwX1_recall_1 X.2.2.2.1 hKK.1 hP 0 rfl rfl 3 (by decide) (X.2.2.2.2.1 _ flX1_recall_25) (fun _ h9 => h9) rfl dX1_recall_37 ?_
    refine lv_bipush (v := iI 100) hx hb dX1_recall_40 (by decide) ?_
    refine lv_imul hx hb dX1_recall_42 ?_
    refine lv_istore_n (lv' := [(2, .int ((iI 14) * (iI 100))), (0, .ref (q 2)), (1, .ref (q 8))]) hx hb dX1_recall_43 rfl hl (by decide) rfl (fun ls hl => ?_)
    refine lv_aload_n hx hb dX1_recall_44 rfl (lv_at hl 1 rfl) ?_
    refine va_get (D := D) (ci := 1) (v := .ref (q 3)) (C := RX1) (T := TX1) (N := 5) hx hb X.2.2.2.2.1 iwX1_recall_1 X.2.2.2.1 hKK.1 hP 0 rfl rfl 0 (by decide) (X.2.2.2.2.1 _ flX1_recall_9) (fun _ h9 => h9) rfl dX1_recall_45 ?_
    refine lv_aload_n hx hb dX1_recall_48 rfl (lv_at hl 1 rfl) ?_
    refine va_get (D := D) (ci := 1) (v := .int (iI 14)) (C := RX1) (T := TX1) (N := 5) hx hb X.2.2.2.2.1 iwX1_recall_1 X.2.2.2.1 hKK.1 hP 0 rfl rfl 3 (by decide) (X.2.2.2.2.1 _ flX1_recall_25) (fun _ h9 => h9) rfl dX1_recall_49 ?_
    refine rcSN (rest := []) X hKK hP 2 (zX4_get l D cI cC (q 3) 15 ct (iI 14)) gX1_recall_X4_get_n54 rfl rfl rfl nlX1_recall_X4_get (X.2.2.2.2.1 _ niX1_recall_X4_get) (X.2.2.2.2.1 _ nsX1_recall_X4_get) hdX4_get ⟨Nat.le_of_ble_eq_true rfl, Nat.le_of_ble_eq_true rfl⟩ [1] rfl rfl hl.1 rfl (Nat.le_of_ble_eq_true rfl) dX1_recall_52 ⟨Nat.zero_le _, Nat.zero_le _⟩ ?_
    refine lv_istore_n (lv' := [(3, .int (mX4_get 15 ct (iI 14))), (2, .int ((iI 14) * (iI 100))), (0, .ref (q 2)), (1, .ref (q 8))]) hx hb dX1_recall_55 rfl hl (by decide) rfl (fun ls hl => ?_)
    refine lv_aload_n hx hb dX1_recall_56 rfl (lv_at hl 3 rfl) ?_
    refine mcV (rest := []) (wld2 := (wH cI q (mX3_empty n) d lb xd xl (iI 14) (iMax (kp - (iI 1)) (iI 0)) ct gd gl)) (wr := pickAt [0, 1, 2, 3] (wH cI q n d lb xd xl (iI 14) (iMax (kp - (iI 1)) (iI 0)) ct gd gl)) X hKK hP hD hS hA 0 (zX3_empty l D cI cC q _ n d lb xd xl _ rfl) gX1_recall_X3_empty rfl rfl rfl hdX3_empty ⟨Nat.le_of_ble_eq_true rfl, Nat.le_of_ble_eq_true rfl⟩ [4, 5, 6, 7, 8] [0, 1, 2, 3] rfl rfl rfl rfl rfl (by decide) rfl [0, 1, 2, 3, 4, 5, 6, 7, 8] rfl rfl rfl 0 rfl rfl rfl hl.1 rfl (Nat.le_of_ble_eq_true rfl) dX1_recall_57 ⟨Nat.zero_le _, Nat.zero_le _⟩ (fun H locs hP hD hS => ?_)
    refine lv_iconst (v := iI 0) hx hb dX1_recall_60 rfl ?_
    refine lv_istore (lv' := [(4, .int (iI 0)), (3, .int (mX4_get 15 ct (iI 14))), (2, .int ((iI 14) * (iI 100))), (0, .ref (q 2)), (1, .ref (q 8))]) hx hb dX1_recall_61 hl (by decide) rfl (fun ls hl => ?_)
    exact kX1_recall_63 X hKK hA FU (mX3_empty n) d lb (iI 14) (iMax (kp - (iI 1)) (iI 0)) ct gd gl ((iI 14) * (iI 100)) (mX4_get 15 ct (iI 14)) (iI 0) _ _ ls hP hD hS (lv_sub hl [3, 4, 2, 1, 0] rfl) h
  · replace h := ifn c1 h
    refine lv_aload_n hx hb dX1_recall_8 rfl (lv_at hl 0 rfl) ?_
    refine va_get (D := D) (ci := 1) (v := .int sl) (C := RX1) (T := TX1) (N := 5) hx hb X.2.2.2.2.1 iwX1_recall_1 X.2.2.2.1 hKK.1 hP 0 rfl rfl 3 (by decide) (X.2.2.2.2.1 _ flX1_recall_25) (fun _ h9 => h9) rfl dX1_recall_9 ?_
    refine lv_iconst (v := iI 1) hx hb dX1_recall_12 rfl ?_
    refine lv_isub hx hb dX1_recall_13 ?_
    refine lv_goto (tgt := 19) hx hb dX1_recall_14 (by decide) ?_
    refine va_put (D := D) (ci := 1) (v := .int (sl - (iI 1))) (ty := .int) (C := RX1) (T := TX1) (N := 5) hx hb X.2.2.2.2.1 iwX1_recall_1 tyX1 tyX1_ok nmX1 X.2.2.2.1 hKK.1 hP hD hS 0 rfl rfl 3 (by decide) (X.2.2.2.2.1 _ flX1_recall_25) (fun _ h9 => h9) rfl (by decide +kernel) rfl rfl (Nat.le_of_ble_eq_true rfl) dX1_recall_19 (fun H locs hP hD hS => ?_)
    replace hP : va_P D vwCl (wH cI q n d lb xd xl (sl - (iI 1)) kp ct gd gl) H := hP
    replace hD : va_D A (wH cI q n d lb xd xl (sl - (iI 1)) kp ct gd gl) := hD
    refine lv_aload_n hx hb dX1_recall_22 rfl (lv_at hl 0 rfl) ?_
    refine lv_aload_n hx hb dX1_recall_23 rfl (lv_at hl 0 rfl) ?_
    refine va_get (D := D) (ci := 1) (v := .int kp) (C := RX1) (T := TX1) (N := 5) hx hb X.2.2.2.2.1 iwX1_recall_1 X.2.2.2.1 hKK.1 hP 0 rfl rfl 4 (by decide) (X.2.2.2.2.1 _ flX1_recall_21) (fun _ h9 => h9) rfl dX1_recall_24 ?_
    refine lv_iconst (v := iI 1) hx hb dX1_recall_27 rfl ?_
    refine lv_isub hx hb dX1_recall_28 ?_
    refine lv_iconst (v := iI 0) hx hb dX1_recall_29 rfl ?_
    refine va_mmax hx hb (by rw [X.2.2.1]; exact hl.1.symm) X.2.2.2.1 (X.2.2.2.2.1 _ mlX1_recall_51) (X.2.2.2.2.1 _ msX1_recall_51) (X.2.2.2.2.1 _ miX1_recall_51) (X.2.2.2.2.1 _ mcX1_recall_51) (Nat.le_of_ble_eq_true rfl) (Nat.le_of_ble_eq_true rfl) (Nat.zero_le _) (Nat.zero_le _) dX1_recall_30 ?_
    refine va_put (D := D) (ci := 1) (v := .int (iMax (kp - (iI 1)) (iI 0))) (ty := .int) (C := RX1) (T := TX1) (N := 5) hx hb X.2.2.2.2.1 iwX1_recall_1 tyX1 tyX1_ok nmX1 X.2.2.2.1 hKK.1 hP hD hS 0 rfl rfl 4 (by decide) (X.2.2.2.2.1 _ flX1_recall_21) (fun _ h9 => h9) rfl (by decide +kernel) rfl rfl (Nat.le_of_ble_eq_true rfl) dX1_recall_33 (fun H locs hP hD hS => ?_)
    replace hP : va_P D vwCl (wH cI q n d lb xd xl (sl - (iI 1)) (iMax (kp - (iI 1)) (iI 0)) ct gd gl) H := hP
    replace hD : va_D A (wH cI q n d lb xd xl (sl - (iI 1)) (iMax (kp - (iI 1)) (iI 0)) ct gd gl) := hD
    refine lv_aload_n hx hb dX1_recall_36 rfl (lv_at hl 0 rfl) ?_
    refine va_get (D := D) (ci := 1) (v := .int (sl - (iI 1))) (C := RX1) (T := TX1) (N := 5) hx hb X.2.2.2.2.1 iwX1_recall_1 X.2.2.2.1 hKK.1 hP 0 rfl rfl 3 (by decide) (X.2.2.2.2.1 _ flX1_recall_25) (fun _ h9 => h9) rfl dX1_recall_37 ?_
    refine lv_bipush (v := iI 100) hx hb dX1_recall_40 (by decide) ?_
    refine lv_imul hx hb dX1_recall_42 ?_
    refine lv_istore_n (lv' := [(2, .int ((sl - (iI 1)) * (iI 100))), (0, .ref (q 2)), (1, .ref (q 8))]) hx hb dX1_recall_43 rfl hl (by decide) rfl (fun ls hl => ?_)
    refine lv_aload_n hx hb dX1_recall_44 rfl (lv_at hl 1 rfl) ?_
    refine va_get (D := D) (ci := 1) (v := .ref (q 3)) (C := RX1) (T := TX1) (N := 5) hx hb X.2.2.2.2.1 iwX1_recall_1 X.2.2.2.1 hKK.1 hP 0 rfl rfl 0 (by decide) (X.2.2.2.2.1 _ flX1_recall_9) (fun _ h9 => h9) rfl dX1_recall_45 ?_
    refine lv_aload_n hx hb dX1_recall_48 rfl (lv_at hl 1 rfl) ?_
    refine va_get (D := D) (ci := 1) (v := .int (sl - (iI 1))) (C := RX1) (T := TX1) (N := 5) hx hb X.2.2.2.2.1 iwX1_recall_1 X.2.2.2.1 hKK.1 hP 0 rfl rfl 3 (by decide) (X.2.2.2.2.1 _ flX1_recall_25) (fun _ h9 => h9) rfl dX1_recall_49 ?_
    refine rcSN (rest := []) X hKK hP 2 (zX4_get l D cI cC (q 3) 15 ct (sl - (iI 1))) gX1_recall_X4_get_n54 rfl rfl rfl nlX1_recall_X4_get (X.2.2.2.2.1 _ niX1_recall_X4_get) (X.2.2.2.2.1 _ nsX1_recall_X4_get) hdX4_get ⟨Nat.le_of_ble_eq_true rfl, Nat.le_of_ble_eq_true rfl⟩ [1] rfl rfl hl.1 rfl (Nat.le_of_ble_eq_true rfl) dX1_recall_52 ⟨Nat.zero_le _, Nat.zero_le _⟩ ?_
    refine lv_istore_n (lv' := [(3, .int (mX4_get 15 ct (sl - (iI 1)))), (2, .int ((sl - (iI 1)) * (iI 100))), (0, .ref (q 2)), (1, .ref (q 8))]) hx hb dX1_recall_55 rfl hl (by decide) rfl (fun ls hl => ?_)
    refine lv_aload_n hx hb dX1_recall_56 rfl (lv_at hl 3 rfl) ?_
    refine mcV (rest := []) (wld2 := (wH cI q (mX3_empty n) d lb xd xl (sl - (iI 1)) (iMax (kp - (iI 1)) (iI 0)) ct gd gl)) (wr := pickAt [0, 1, 2, 3] (wH cI q n d lb xd xl (sl - (iI 1)) (iMax (kp - (iI 1)) (iI 0)) ct gd gl)) X hKK hP hD hS hA 0 (zX3_empty l D cI cC q _ n d lb xd xl _ rfl) gX1_recall_X3_empty rfl rfl rfl hdX3_empty ⟨Nat.le_of_ble_eq_true rfl, Nat.le_of_ble_eq_true rfl⟩ [4, 5, 6, 7, 8] [0, 1, 2, 3] rfl rfl rfl rfl rfl (by decide) rfl [0, 1, 2, 3, 4, 5, 6, 7, 8] rfl rfl rfl 0 rfl rfl rfl hl.1 rfl (Nat.le_of_ble_eq_true rfl) dX1_recall_57 ⟨Nat.zero_le _, Nat.zero_le _⟩ (fun H locs hP hD hS => ?_)
    refine lv_iconst (v := iI 0) hx hb dX1_recall_60 rfl ?_
    refine lv_istore (lv' := [(4, .int (iI 0)), (3, .int (mX4_get 15 ct (sl - (iI 1)))), (2, .int ((sl - (iI 1)) * (iI 100))), (0, .ref (q 2)), (1, .ref (q 8))]) hx hb dX1_recall_61 hl (by decide) rfl (fun ls hl => ?_)
    exact kX1_recall_63 X hKK hA FU (mX3_empty n) d lb (sl - (iI 1)) (iMax (kp - (iI 1)) (iI 0)) ct gd gl ((sl - (iI 1)) * (iI 100)) (mX4_get 15 ct (sl - (iI 1))) (iI 0) _ _ ls hP hD hS (lv_sub hl [3, 4, 2, 1, 0] rfl) h
def mX2_append (ln : Int32) (ch : Nat → Int32) (x1 : Int32) : (Int32 × Int32 × (Nat → Int32)) := (if ln < (iI 300) then ((ln + (iI 1)), (ln + (iI 1)), (mX4_put 300 ch ln x1)) else ((iI (-4)), ln, ch))
theorem hdX2_append : yX2_append.cls = RX2 ∧ yX2_append.cls ≠ "java/lang/invoke/MethodHandle" ∧ yX2_append.cls ≠ "java/lang/invoke/VarHandle" ∧ (parseMethodDescriptor yX2_append.desc).map (fun d => d.parameters.length) = some 1 := by decide +kernel
theorem flX2_append_15 : Cond.fieldLink RX2 15 "BracketTree$Text" "length" "I" ∈ wsX2_append := by decide +kernel
theorem iwX2_append_2 : ∀ w ∈ wsX20, w ∈ wsX2_append := by decide +kernel
theorem flX2_append_9 : Cond.fieldLink RX2 9 "BracketTree$Text" "characters" "[I" ∈ wsX2_append := by decide +kernel
theorem niX2_append_X4_put : Cond.initialized RX4 ∈ wsX2_append := by decide +kernel
theorem nsX2_append_X4_put : Cond.static yX4_put ∈ wsX2_append := by decide +kernel
theorem nlX2_append_X4_put : Cond.methodLinkNest RX2 19 yX4_put "BracketTree" ∈ nestL := by decide +kernel
abbrev rmX2_append : Room := { frames := 1, cells := 0, slots := 0, locals := 22 }
set_option maxHeartbeats 4000000 in
set_option maxRecDepth 100000 in
theorem zX2_append (l : Launch) (D : va_G) (cI cC : ClassId) (q : Nat → Nat) (sz : Nat) (n : Int32) (d : Nat → Int32) (lb : Nat → Int32) (xd : Nat → Int32) (xl : Nat → Int32) (ln : Int32) (ch : Nat → Int32) (x1 : Int32) (r : Int32 × Int32 × (Nat → Int32)) (h : mX2_append ln ch x1 = r) : Met l yX2_append wsX2_append rmX2_append (va_Pc [.ref (q 6), .int x1] (MB D cI cC sz (wX cI q n d lb xd xl ln ch))) (muQ D (some (.int r.1)) (wX cI q n d lb xd xl r.2.1 r.2.2) (va_A (wX cI q n d lb xd xl ln ch) sz)) 0 0 (va_A (wX cI q n d lb xd xl ln ch) sz) := by
  refine MetI RX2 (by decide +kernel) rfl rfl (Nat.le_of_ble_eq_true rfl) ?_
  intro p e s m below meth c ls X _ hB hl
  obtain ⟨hsz, ⟨hP, hKK⟩, hD0⟩ := hB
  subst hsz
  have hD := hD0.self (sz := s.heap.size)
  generalize hAe : va_A (wX cI q n d lb xd xl ln ch) s.heap.size = A at hD ⊢
  have hA : ∀ z : Nat, s.heap.size ≤ z → A z := fun z hz => by rw [← hAe]; exact Or.inr hz
  have hS : va_S A s.heap s.heap [] := va_S.rf
  have hx := X.1
  have hb := X.2.1
  replace hl : lv_has ls 2 [(0, .ref (q 6)), (1, .int x1)] := hl
  replace hP : va_P D vwCl (wX cI q n d lb xd xl ln ch) s.heap := hP
  unfold mX2_append at h
  refine lv_aload_n hx hb dX2_append_0 rfl (lv_at hl 0 rfl) ?_
  refine va_get (D := D) (ci := 2) (v := .int ln) (C := RX2) (T := TX2) (N := 2) hx hb X.2.2.2.2.1 iwX2_append_2 X.2.2.2.1 hKK.1 hP 0 rfl rfl 1 (by decide) (X.2.2.2.2.1 _ flX2_append_15) (fun _ h9 => h9) rfl dX2_append_1 ?_
  refine lv_sipush (v := iI 300) hx hb dX2_append_4 (by decide) ?_
  refine lv_icmp_lt (tgt := 13) hx hb dX2_append_7 (by decide) (fun c1 => ?_) (fun c1 => ?_)
  · replace h := ifp c1 h
    refine lv_aload_n hx hb dX2_append_13 rfl (lv_at hl 0 rfl) ?_
    refine va_get (D := D) (ci := 2) (v := .ref (q 7)) (C := RX2) (T := TX2) (N := 2) hx hb X.2.2.2.2.1 iwX2_append_2 X.2.2.2.1 hKK.1 hP 0 rfl rfl 0 (by decide) (X.2.2.2.2.1 _ flX2_append_9) (fun _ h9 => h9) rfl dX2_append_14 ?_
    refine lv_aload_n hx hb dX2_append_17 rfl (lv_at hl 0 rfl) ?_
    refine va_get (D := D) (ci := 2) (v := .int ln) (C := RX2) (T := TX2) (N := 2) hx hb X.2.2.2.2.1 iwX2_append_2 X.2.2.2.1 hKK.1 hP 0 rfl rfl 1 (by decide) (X.2.2.2.2.1 _ flX2_append_15) (fun _ h9 => h9) rfl dX2_append_18 ?_
    refine lv_iload_n hx hb dX2_append_21 rfl (lv_at hl 1 rfl) ?_
    refine mcSN (rest := []) (wld2 := (wX cI q n d lb xd xl ln (mX4_put 300 ch ln x1))) (wr := pickAt [0, 2, 3, 4, 5, 6] (wX cI q n d lb xd xl ln ch)) X hKK hP hD hS hA 3 (zX4_put l D cI cC (q 7) 300 ch ln x1 _) gX2_append_X4_put_n19 rfl rfl rfl nlX2_append_X4_put (X.2.2.2.2.1 _ niX2_append_X4_put) (X.2.2.2.2.1 _ nsX2_append_X4_put) hdX4_put ⟨Nat.le_of_ble_eq_true rfl, Nat.le_of_ble_eq_true rfl⟩ [1] [0, 2, 3, 4, 5, 6] rfl rfl rfl rfl rfl (by decide) rfl [0, 6, 1, 2, 3, 4, 5] rfl rfl rfl rfl hl.1 rfl (Nat.le_of_ble_eq_true rfl) dX2_append_22 ⟨Nat.zero_le _, Nat.zero_le _⟩ (fun H locs hP hD hS => ?_)
    refine lv_aload_n hx hb dX2_append_25 rfl (lv_at hl 0 rfl) ?_
    refine lv_dup hx hb dX2_append_26 rfl ?_
    refine va_get (D := D) (ci := 2) (v := .int ln) (C := RX2) (T := TX2) (N := 2) hx hb X.2.2.2.2.1 iwX2_append_2 X.2.2.2.1 hKK.1 hP 0 rfl rfl 1 (by decide) (X.2.2.2.2.1 _ flX2_append_15) (fun _ h9 => h9) rfl dX2_append_27 ?_
    refine lv_iconst (v := iI 1) hx hb dX2_append_30 rfl ?_
    refine lv_iadd hx hb dX2_append_31 ?_
    refine va_put (D := D) (ci := 2) (v := .int (ln + (iI 1))) (ty := .int) (C := RX2) (T := TX2) (N := 2) hx hb X.2.2.2.2.1 iwX2_append_2 tyX2 tyX2_ok nmX2 X.2.2.2.1 hKK.1 hP hD hS 0 rfl rfl 1 (by decide) (X.2.2.2.2.1 _ flX2_append_15) (fun _ h9 => h9) rfl (by decide +kernel) rfl rfl (Nat.le_of_ble_eq_true rfl) dX2_append_32 (fun H locs hP hD hS => ?_)
    replace hP : va_P D vwCl (wX cI q n d lb xd xl (ln + (iI 1)) (mX4_put 300 ch ln x1)) H := hP
    replace hD : va_D A (wX cI q n d lb xd xl (ln + (iI 1)) (mX4_put 300 ch ln x1)) := hD
    refine lv_aload_n hx hb dX2_append_35 rfl (lv_at hl 0 rfl) ?_
    refine va_get (D := D) (ci := 2) (v := .int (ln + (iI 1))) (C := RX2) (T := TX2) (N := 2) hx hb X.2.2.2.2.1 iwX2_append_2 X.2.2.2.1 hKK.1 hP 0 rfl rfl 1 (by decide) (X.2.2.2.2.1 _ flX2_append_15) (fun _ h9 => h9) rfl dX2_append_36 ?_
    subst h
    exact mu_ret X rfl rfl hP rfl hS dX2_append_39
  · replace h := ifn c1 h
    refine lv_bipush (v := iI (-4)) hx hb dX2_append_10 (by decide) ?_
    subst h
    exact mu_ret X rfl rfl hP rfl hS dX2_append_12
def mX2_empty (ln : Int32)  : (Int32 × Int32) := (ln, (iI 0))
theorem hdX2_empty : yX2_empty.cls = RX2 ∧ yX2_empty.cls ≠ "java/lang/invoke/MethodHandle" ∧ yX2_empty.cls ≠ "java/lang/invoke/VarHandle" ∧ (parseMethodDescriptor yX2_empty.desc).map (fun d => d.parameters.length) = some 0 := by decide +kernel
theorem flX2_empty_15 : Cond.fieldLink RX2 15 "BracketTree$Text" "length" "I" ∈ wsX2_empty := by decide +kernel
theorem iwX2_empty_2 : ∀ w ∈ wsX20, w ∈ wsX2_empty := by decide +kernel
abbrev rmX2_empty : Room := { frames := 0, cells := 0, slots := 0, locals := 0 }
set_option maxHeartbeats 4000000 in
set_option maxRecDepth 100000 in
theorem zX2_empty (l : Launch) (D : va_G) (cI cC : ClassId) (q : Nat → Nat) (sz : Nat) (n : Int32) (d : Nat → Int32) (lb : Nat → Int32) (xd : Nat → Int32) (xl : Nat → Int32) (ln : Int32) (ch : Nat → Int32)  (r : Int32 × Int32) (h : mX2_empty ln = r) : Met l yX2_empty wsX2_empty rmX2_empty (va_Pc [.ref (q 6)] (MB D cI cC sz (wX cI q n d lb xd xl ln ch))) (muQ D (some (.int r.1)) (wX cI q n d lb xd xl r.2 ch) (va_A (wX cI q n d lb xd xl ln ch) sz)) 0 0 (va_A (wX cI q n d lb xd xl ln ch) sz) := by
  refine MetI RX2 (by decide +kernel) rfl rfl (Nat.le_of_ble_eq_true rfl) ?_
  intro p e s m below meth c ls X _ hB hl
  obtain ⟨hsz, ⟨hP, hKK⟩, hD0⟩ := hB
  subst hsz
  have hD := hD0.self (sz := s.heap.size)
  generalize hAe : va_A (wX cI q n d lb xd xl ln ch) s.heap.size = A at hD ⊢
  have hA : ∀ z : Nat, s.heap.size ≤ z → A z := fun z hz => by rw [← hAe]; exact Or.inr hz
  have hS : va_S A s.heap s.heap [] := va_S.rf
  have hx := X.1
  have hb := X.2.1
  replace hl : lv_has ls 2 [(0, .ref (q 6))] := hl
  replace hP : va_P D vwCl (wX cI q n d lb xd xl ln ch) s.heap := hP
  unfold mX2_empty at h
  refine lv_aload_n hx hb dX2_empty_0 rfl (lv_at hl 0 rfl) ?_
  refine va_get (D := D) (ci := 2) (v := .int ln) (C := RX2) (T := TX2) (N := 2) hx hb X.2.2.2.2.1 iwX2_empty_2 X.2.2.2.1 hKK.1 hP 0 rfl rfl 1 (by decide) (X.2.2.2.2.1 _ flX2_empty_15) (fun _ h9 => h9) rfl dX2_empty_1 ?_
  refine lv_istore_n (lv' := [(1, .int ln), (0, .ref (q 6))]) hx hb dX2_empty_4 rfl hl (by decide) rfl (fun ls hl => ?_)
  refine lv_aload_n hx hb dX2_empty_5 rfl (lv_at hl 1 rfl) ?_
  refine lv_iconst (v := iI 0) hx hb dX2_empty_6 rfl ?_
  refine va_put (D := D) (ci := 2) (v := .int (iI 0)) (ty := .int) (C := RX2) (T := TX2) (N := 2) hx hb X.2.2.2.2.1 iwX2_empty_2 tyX2 tyX2_ok nmX2 X.2.2.2.1 hKK.1 hP hD hS 0 rfl rfl 1 (by decide) (X.2.2.2.2.1 _ flX2_empty_15) (fun _ h9 => h9) rfl (by decide +kernel) rfl rfl (Nat.le_of_ble_eq_true rfl) dX2_empty_7 (fun H locs hP hD hS => ?_)
  replace hP : va_P D vwCl (wX cI q n d lb xd xl (iI 0) ch) H := hP
  replace hD : va_D A (wX cI q n d lb xd xl (iI 0) ch) := hD
  refine lv_iload_n hx hb dX2_empty_10 rfl (lv_at hl 0 rfl) ?_
  subst h
  exact mu_ret X rfl rfl hP rfl hS dX2_empty_11
def mX2_deeper (ch : Nat → Int32) (x1 : Int32) : (Int32) := (if (mX4_get 300 ch x1) = (iI 40) then (iI 1) else (if (mX4_get 300 ch x1) = (iI 41) then (iI (-1)) else (iI 0)))
theorem hdX2_deeper : yX2_deeper.cls = RX2 ∧ yX2_deeper.cls ≠ "java/lang/invoke/MethodHandle" ∧ yX2_deeper.cls ≠ "java/lang/invoke/VarHandle" ∧ (parseMethodDescriptor yX2_deeper.desc).map (fun d => d.parameters.length) = some 1 := by decide +kernel
theorem flX2_deeper_9 : Cond.fieldLink RX2 9 "BracketTree$Text" "characters" "[I" ∈ wsX2_deeper := by decide +kernel
theorem iwX2_deeper_2 : ∀ w ∈ wsX20, w ∈ wsX2_deeper := by decide +kernel
theorem niX2_deeper_X4_get : Cond.initialized RX4 ∈ wsX2_deeper := by decide +kernel
theorem nsX2_deeper_X4_get : Cond.static yX4_get ∈ wsX2_deeper := by decide +kernel
theorem nlX2_deeper_X4_get : Cond.methodLinkNest RX2 31 yX4_get "BracketTree" ∈ nestL := by decide +kernel
abbrev rmX2_deeper : Room := { frames := 1, cells := 0, slots := 0, locals := 21 }
set_option maxHeartbeats 4000000 in
set_option maxRecDepth 100000 in
theorem zX2_deeper (l : Launch) (D : va_G) (cI cC : ClassId) (q : Nat → Nat) (n : Int32) (d : Nat → Int32) (lb : Nat → Int32) (xd : Nat → Int32) (xl : Nat → Int32) (ln : Int32) (ch : Nat → Int32) (x1 : Int32) (r : Int32) (h : mX2_deeper ch x1 = r) : Met l yX2_deeper wsX2_deeper rmX2_deeper (va_Pc [.ref (q 6), .int x1] (BW D cI cC (wX cI q n d lb xd xl ln ch))) (rdQ r) 0 0 (fun _ => False) := by
  refine MetI RX2 (by decide +kernel) rfl rfl (Nat.le_of_ble_eq_true rfl) ?_
  intro p e s m below meth c ls X _ hB hl
  obtain ⟨hP, hKK⟩ := hB
  have hx := X.1
  have hb := X.2.1
  replace hl : lv_has ls 3 [(0, .ref (q 6)), (1, .int x1)] := hl
  unfold mX2_deeper at h
  refine lv_aload_n hx hb dX2_deeper_0 rfl (lv_at hl 0 rfl) ?_
  refine va_get (D := D) (ci := 2) (v := .ref (q 7)) (C := RX2) (T := TX2) (N := 2) hx hb X.2.2.2.2.1 iwX2_deeper_2 X.2.2.2.1 hKK.1 hP 0 rfl rfl 0 (by decide) (X.2.2.2.2.1 _ flX2_deeper_9) (fun _ h9 => h9) rfl dX2_deeper_1 ?_
  refine lv_iload_n hx hb dX2_deeper_4 rfl (lv_at hl 1 rfl) ?_
  refine rcSN (rest := []) X hKK hP 2 (zX4_get l D cI cC (q 7) 300 ch x1) gX2_deeper_X4_get_n31 rfl rfl rfl nlX2_deeper_X4_get (X.2.2.2.2.1 _ niX2_deeper_X4_get) (X.2.2.2.2.1 _ nsX2_deeper_X4_get) hdX4_get ⟨Nat.le_of_ble_eq_true rfl, Nat.le_of_ble_eq_true rfl⟩ [1] rfl rfl hl.1 rfl (Nat.le_of_ble_eq_true rfl) dX2_deeper_5 ⟨Nat.zero_le _, Nat.zero_le _⟩ ?_
  refine lv_istore_n (lv' := [(2, .int (mX4_get 300 ch x1)), (0, .ref (q 6)), (1, .int x1)]) hx hb dX2_deeper_8 rfl hl (by decide) rfl (fun ls hl => ?_)
  refine lv_iload_n hx hb dX2_deeper_9 rfl (lv_at hl 0 rfl) ?_
  refine lv_bipush (v := iI 40) hx hb dX2_deeper_10 (by decide) ?_
  refine lv_icmp_ne (tgt := 19) hx hb dX2_deeper_12 (by decide) (fun c1 => ?_) (fun c1 => ?_)
  · replace h := ifn c1 h
    refine lv_iload_n hx hb dX2_deeper_19 rfl (lv_at hl 0 rfl) ?_
    refine lv_bipush (v := iI 41) hx hb dX2_deeper_20 (by decide) ?_
    refine lv_icmp_ne (tgt := 29) hx hb dX2_deeper_22 (by decide) (fun c2 => ?_) (fun c2 => ?_)
    · replace h := ifn c2 h
      refine lv_iconst (v := iI 0) hx hb dX2_deeper_29 rfl ?_
      exact rd_ret X rfl h dX2_deeper_30
    · replace h := ifp c2 h
      refine lv_iconst (v := iI (-1)) hx hb dX2_deeper_25 rfl ?_
      refine lv_goto (tgt := 30) hx hb dX2_deeper_26 (by decide) ?_
      exact rd_ret X rfl h dX2_deeper_30
  · replace h := ifp c1 h
    refine lv_iconst (v := iI 1) hx hb dX2_deeper_15 rfl ?_
    refine lv_goto (tgt := 30) hx hb dX2_deeper_16 (by decide) ?_
    exact rd_ret X rfl h dX2_deeper_30
def mX2_isAllowed (ch : Nat → Int32) (x1 : Int32) (x2 : Int32) (x3 : Int32) : Option (Int32) := (if x1 ≤ 0 then (if (mX4_get 300 ch x1) = (iI 40) then (if (mX4_isLetter (iI 0)) = iI 0 ∨ (mX4_isLetter (iI 0)) = iI 1 then some (mX4_isLetter (iI 0)) else none) else (if (mX4_get 300 ch x1) = (iI 41) then (if x2 ≤ 0 then some (iI 0) else (if (iI 0) = (iI 40) then some (iI 0) else some (iI 1))) else (if (mX4_isLetter (mX4_get 300 ch x1)) = 0 then some (iI 0) else (if x1 = 0 then (if (iI 100) ≤ x3 then some (iI 0) else some (iI 1)) else (if x2 ≤ 0 then some (iI 0) else (if (iI 100) ≤ x3 then some (iI 0) else some (iI 1))))))) else (if (mX4_get 300 ch x1) = (iI 40) then (if (mX4_isLetter (mX4_get 300 ch (x1 - (iI 1)))) = iI 0 ∨ (mX4_isLetter (mX4_get 300 ch (x1 - (iI 1)))) = iI 1 then some (mX4_isLetter (mX4_get 300 ch (x1 - (iI 1)))) else none) else (if (mX4_get 300 ch x1) = (iI 41) then (if x2 ≤ 0 then some (iI 0) else (if (mX4_get 300 ch (x1 - (iI 1))) = (iI 40) then some (iI 0) else some (iI 1))) else (if (mX4_isLetter (mX4_get 300 ch x1)) = 0 then some (iI 0) else (if x1 = 0 then (if (iI 100) ≤ x3 then some (iI 0) else some (iI 1)) else (if x2 ≤ 0 then some (iI 0) else (if (iI 100) ≤ x3 then some (iI 0) else some (iI 1))))))))
theorem hdX2_isAllowed : yX2_isAllowed.cls = RX2 ∧ yX2_isAllowed.cls ≠ "java/lang/invoke/MethodHandle" ∧ yX2_isAllowed.cls ≠ "java/lang/invoke/VarHandle" ∧ (parseMethodDescriptor yX2_isAllowed.desc).map (fun d => d.parameters.length) = some 3 := by decide +kernel
theorem flX2_isAllowed_9 : Cond.fieldLink RX2 9 "BracketTree$Text" "characters" "[I" ∈ wsX2_isAllowed := by decide +kernel
theorem iwX2_isAllowed_2 : ∀ w ∈ wsX20, w ∈ wsX2_isAllowed := by decide +kernel
theorem niX2_isAllowed_X4_get : Cond.initialized RX4 ∈ wsX2_isAllowed := by decide +kernel
theorem nsX2_isAllowed_X4_get : Cond.static yX4_get ∈ wsX2_isAllowed := by decide +kernel
theorem nlX2_isAllowed_X4_get : Cond.methodLinkNest RX2 31 yX4_get "BracketTree" ∈ nestL := by decide +kernel
theorem niX2_isAllowed_X4_isLetter : Cond.initialized RX4 ∈ wsX2_isAllowed := by decide +kernel
theorem nsX2_isAllowed_X4_isLetter : Cond.static yX4_isLetter ∈ wsX2_isAllowed := by decide +kernel
theorem nlX2_isAllowed_X4_isLetter : Cond.methodLinkNest RX2 35 yX4_isLetter "BracketTree" ∈ nestL := by decide +kernel
abbrev rmX2_isAllowed : Room := { frames := 1, cells := 0, slots := 0, locals := 21 }
set_option maxHeartbeats 4000000 in
set_option maxRecDepth 100000 in
theorem zX2_isAllowed (l : Launch) (D : va_G) (cI cC : ClassId) (q : Nat → Nat) (n : Int32) (d : Nat → Int32) (lb : Nat → Int32) (xd : Nat → Int32) (xl : Nat → Int32) (ln : Int32) (ch : Nat → Int32) (x1 : Int32) (x2 : Int32) (x3 : Int32) (r : Int32) (h : mX2_isAllowed ch x1 x2 x3 = some r) : Met l yX2_isAllowed wsX2_isAllowed rmX2_isAllowed (va_Pc [.ref (q 6), .int x1, .int x2, .int x3] (BW D cI cC (wX cI q n d lb xd xl ln ch))) (rdQ r) 0 0 (fun _ => False) := by
  refine MetI RX2 (by decide +kernel) rfl rfl (Nat.le_of_ble_eq_true rfl) ?_
  intro p e s m below meth c ls X _ hB hl
  obtain ⟨hP, hKK⟩ := hB
  have hx := X.1
  have hb := X.2.1
  replace hl : lv_has ls 6 [(0, .ref (q 6)), (1, .int x1), (2, .int x2), (3, .int x3)] := hl
  unfold mX2_isAllowed at h
  refine lv_aload_n hx hb dX2_isAllowed_0 rfl (lv_at hl 0 rfl) ?_
  refine va_get (D := D) (ci := 2) (v := .ref (q 7)) (C := RX2) (T := TX2) (N := 2) hx hb X.2.2.2.2.1 iwX2_isAllowed_2 X.2.2.2.1 hKK.1 hP 0 rfl rfl 0 (by decide) (X.2.2.2.2.1 _ flX2_isAllowed_9) (fun _ h9 => h9) rfl dX2_isAllowed_1 ?_
  refine lv_iload_n hx hb dX2_isAllowed_4 rfl (lv_at hl 1 rfl) ?_
  refine rcSN (rest := []) X hKK hP 2 (zX4_get l D cI cC (q 7) 300 ch x1) gX2_isAllowed_X4_get_n31 rfl rfl rfl nlX2_isAllowed_X4_get (X.2.2.2.2.1 _ niX2_isAllowed_X4_get) (X.2.2.2.2.1 _ nsX2_isAllowed_X4_get) hdX4_get ⟨Nat.le_of_ble_eq_true rfl, Nat.le_of_ble_eq_true rfl⟩ [1] rfl rfl hl.1 rfl (Nat.le_of_ble_eq_true rfl) dX2_isAllowed_5 ⟨Nat.zero_le _, Nat.zero_le _⟩ ?_
  refine lv_istore (lv' := [(4, .int (mX4_get 300 ch x1)), (0, .ref (q 6)), (1, .int x1), (2, .int x2), (3, .int x3)]) hx hb dX2_isAllowed_8 hl (by decide) rfl (fun ls hl => ?_)
  refine lv_iload_n hx hb dX2_isAllowed_10 rfl (lv_at hl 2 rfl) ?_
  refine lv_if_le (tgt := 27) hx hb dX2_isAllowed_11 (by decide) (fun c1 => ?_) (fun c1 => ?_)
  · replace h := ifp c1 h
    refine lv_iconst (v := iI 0) hx hb dX2_isAllowed_27 rfl ?_
    refine lv_istore (lv' := [(5, .int (iI 0)), (4, .int (mX4_get 300 ch x1)), (0, .ref (q 6)), (1, .int x1), (2, .int x2), (3, .int x3)]) hx hb dX2_isAllowed_28 hl (by decide) rfl (fun ls hl => ?_)
    refine lv_iload hx hb dX2_isAllowed_30 (lv_at hl 1 rfl) ?_
    refine lv_bipush (v := iI 40) hx hb dX2_isAllowed_32 (by decide) ?_
    refine lv_icmp_ne (tgt := 43) hx hb dX2_isAllowed_34 (by decide) (fun c2 => ?_) (fun c2 => ?_)
    · replace h := ifn c2 h
      refine lv_iload hx hb dX2_isAllowed_43 (lv_at hl 1 rfl) ?_
      refine lv_bipush (v := iI 41) hx hb dX2_isAllowed_45 (by decide) ?_
      refine lv_icmp_ne (tgt := 67) hx hb dX2_isAllowed_47 (by decide) (fun c3 => ?_) (fun c3 => ?_)
      · replace h := ifn c3 h
        refine lv_iload hx hb dX2_isAllowed_67 (lv_at hl 1 rfl) ?_
        refine rcSN (rest := []) X hKK hP 1 (zX4_isLetter l D cI cC (mX4_get 300 ch x1) _ rfl) gX2_isAllowed_X4_isLetter_n35 rfl rfl rfl nlX2_isAllowed_X4_isLetter (X.2.2.2.2.1 _ niX2_isAllowed_X4_isLetter) (X.2.2.2.2.1 _ nsX2_isAllowed_X4_isLetter) hdX4_isLetterN ⟨Nat.le_of_ble_eq_true rfl, Nat.le_of_ble_eq_true rfl⟩ [] rfl rfl hl.1 rfl (Nat.le_of_ble_eq_true rfl) dX2_isAllowed_69 ⟨Nat.zero_le _, Nat.zero_le _⟩ ?_
        refine lv_if_eq (tgt := 93) hx hb dX2_isAllowed_72 (by decide) (fun c4 => ?_) (fun c4 => ?_)
        · replace h := ifp c4 h
          refine lv_iconst (v := iI 0) hx hb dX2_isAllowed_93 rfl ?_
          exact rd_ret X rfl (Option.some.inj h) dX2_isAllowed_94
        · replace h := ifn c4 h
          refine lv_iload_n hx hb dX2_isAllowed_75 rfl (lv_at hl 3 rfl) ?_
          refine lv_if_eq (tgt := 83) hx hb dX2_isAllowed_76 (by decide) (fun c5 => ?_) (fun c5 => ?_)
          · replace h := ifp c5 h
            refine lv_iload_n hx hb dX2_isAllowed_83 rfl (lv_at hl 5 rfl) ?_
            refine lv_bipush (v := iI 100) hx hb dX2_isAllowed_84 (by decide) ?_
            refine lv_icmp_ge (tgt := 93) hx hb dX2_isAllowed_86 (by decide) (fun c6 => ?_) (fun c6 => ?_)
            · replace h := ifp c6 h
              refine lv_iconst (v := iI 0) hx hb dX2_isAllowed_93 rfl ?_
              exact rd_ret X rfl (Option.some.inj h) dX2_isAllowed_94
            · replace h := ifn c6 h
              refine lv_iconst (v := iI 1) hx hb dX2_isAllowed_89 rfl ?_
              refine lv_goto (tgt := 94) hx hb dX2_isAllowed_90 (by decide) ?_
              exact rd_ret X rfl (Option.some.inj h) dX2_isAllowed_94
          · replace h := ifn c5 h
            refine lv_iload_n hx hb dX2_isAllowed_79 rfl (lv_at hl 4 rfl) ?_
            refine lv_if_le (tgt := 93) hx hb dX2_isAllowed_80 (by decide) (fun c7 => ?_) (fun c7 => ?_)
            · replace h := ifp c7 h
              refine lv_iconst (v := iI 0) hx hb dX2_isAllowed_93 rfl ?_
              exact rd_ret X rfl (Option.some.inj h) dX2_isAllowed_94
            · replace h := ifn c7 h
              refine lv_iload_n hx hb dX2_isAllowed_83 rfl (lv_at hl 5 rfl) ?_
              refine lv_bipush (v := iI 100) hx hb dX2_isAllowed_84 (by decide) ?_
              refine lv_icmp_ge (tgt := 93) hx hb dX2_isAllowed_86 (by decide) (fun c8 => ?_) (fun c8 => ?_)
              · replace h := ifp c8 h
                refine lv_iconst (v := iI 0) hx hb dX2_isAllowed_93 rfl ?_
                exact rd_ret X rfl (Option.some.inj h) dX2_isAllowed_94
              · replace h := ifn c8 h
                refine lv_iconst (v := iI 1) hx hb dX2_isAllowed_89 rfl ?_
                refine lv_goto (tgt := 94) hx hb dX2_isAllowed_90 (by decide) ?_
                exact rd_ret X rfl (Option.some.inj h) dX2_isAllowed_94
      · replace h := ifp c3 h
        refine lv_iload_n hx hb dX2_isAllowed_50 rfl (lv_at hl 4 rfl) ?_
        refine lv_if_le (tgt := 65) hx hb dX2_isAllowed_51 (by decide) (fun c9 => ?_) (fun c9 => ?_)
        · replace h := ifp c9 h
          refine lv_iconst (v := iI 0) hx hb dX2_isAllowed_65 rfl ?_
          exact rd_ret X rfl (Option.some.inj h) dX2_isAllowed_66
        · replace h := ifn c9 h
          refine lv_iload hx hb dX2_isAllowed_54 (lv_at hl 0 rfl) ?_
          refine lv_bipush (v := iI 40) hx hb dX2_isAllowed_56 (by decide) ?_
          refine lv_icmp_eq (tgt := 65) hx hb dX2_isAllowed_58 (by decide) (fun c10 => ?_) (fun c10 => ?_)
          · replace h := ifp c10 h
            refine lv_iconst (v := iI 0) hx hb dX2_isAllowed_65 rfl ?_
            exact rd_ret X rfl (Option.some.inj h) dX2_isAllowed_66
          · replace h := ifn c10 h
            refine lv_iconst (v := iI 1) hx hb dX2_isAllowed_61 rfl ?_
            refine lv_goto (tgt := 66) hx hb dX2_isAllowed_62 (by decide) ?_
            exact rd_ret X rfl (Option.some.inj h) dX2_isAllowed_66
    · replace h := ifp c2 h
      refine lv_iload hx hb dX2_isAllowed_37 (lv_at hl 0 rfl) ?_
      refine rcSN (rest := []) X hKK hP 1 (zX4_isLetter l D cI cC (iI 0) _ rfl) gX2_isAllowed_X4_isLetter_n35 rfl rfl rfl nlX2_isAllowed_X4_isLetter (X.2.2.2.2.1 _ niX2_isAllowed_X4_isLetter) (X.2.2.2.2.1 _ nsX2_isAllowed_X4_isLetter) hdX4_isLetterN ⟨Nat.le_of_ble_eq_true rfl, Nat.le_of_ble_eq_true rfl⟩ [] rfl rfl hl.1 rfl (Nat.le_of_ble_eq_true rfl) dX2_isAllowed_39 ⟨Nat.zero_le _, Nat.zero_le _⟩ ?_
      obtain ⟨g11, h⟩ := asr h
      exact rd_ret X (nbool g11) (Option.some.inj h) dX2_isAllowed_42
  · replace h := ifn c1 h
    refine lv_aload_n hx hb dX2_isAllowed_14 rfl (lv_at hl 1 rfl) ?_
    refine va_get (D := D) (ci := 2) (v := .ref (q 7)) (C := RX2) (T := TX2) (N := 2) hx hb X.2.2.2.2.1 iwX2_isAllowed_2 X.2.2.2.1 hKK.1 hP 0 rfl rfl 0 (by decide) (X.2.2.2.2.1 _ flX2_isAllowed_9) (fun _ h9 => h9) rfl dX2_isAllowed_15 ?_
    refine lv_iload_n hx hb dX2_isAllowed_18 rfl (lv_at hl 2 rfl) ?_
    refine lv_iconst (v := iI 1) hx hb dX2_isAllowed_19 rfl ?_
    refine lv_isub hx hb dX2_isAllowed_20 ?_
    refine rcSN (rest := []) X hKK hP 2 (zX4_get l D cI cC (q 7) 300 ch (x1 - (iI 1))) gX2_isAllowed_X4_get_n31 rfl rfl rfl nlX2_isAllowed_X4_get (X.2.2.2.2.1 _ niX2_isAllowed_X4_get) (X.2.2.2.2.1 _ nsX2_isAllowed_X4_get) hdX4_get ⟨Nat.le_of_ble_eq_true rfl, Nat.le_of_ble_eq_true rfl⟩ [1] rfl rfl hl.1 rfl (Nat.le_of_ble_eq_true rfl) dX2_isAllowed_21 ⟨Nat.zero_le _, Nat.zero_le _⟩ ?_
    refine lv_goto (tgt := 28) hx hb dX2_isAllowed_24 (by decide) ?_
    refine lv_istore (lv' := [(5, .int (mX4_get 300 ch (x1 - (iI 1)))), (4, .int (mX4_get 300 ch x1)), (0, .ref (q 6)), (1, .int x1), (2, .int x2), (3, .int x3)]) hx hb dX2_isAllowed_28 hl (by decide) rfl (fun ls hl => ?_)
    refine lv_iload hx hb dX2_isAllowed_30 (lv_at hl 1 rfl) ?_
    refine lv_bipush (v := iI 40) hx hb dX2_isAllowed_32 (by decide) ?_
    refine lv_icmp_ne (tgt := 43) hx hb dX2_isAllowed_34 (by decide) (fun c12 => ?_) (fun c12 => ?_)
    · replace h := ifn c12 h
      refine lv_iload hx hb dX2_isAllowed_43 (lv_at hl 1 rfl) ?_
      refine lv_bipush (v := iI 41) hx hb dX2_isAllowed_45 (by decide) ?_
      refine lv_icmp_ne (tgt := 67) hx hb dX2_isAllowed_47 (by decide) (fun c13 => ?_) (fun c13 => ?_)
      · replace h := ifn c13 h
        refine lv_iload hx hb dX2_isAllowed_67 (lv_at hl 1 rfl) ?_
        refine rcSN (rest := []) X hKK hP 1 (zX4_isLetter l D cI cC (mX4_get 300 ch x1) _ rfl) gX2_isAllowed_X4_isLetter_n35 rfl rfl rfl nlX2_isAllowed_X4_isLetter (X.2.2.2.2.1 _ niX2_isAllowed_X4_isLetter) (X.2.2.2.2.1 _ nsX2_isAllowed_X4_isLetter) hdX4_isLetterN ⟨Nat.le_of_ble_eq_true rfl, Nat.le_of_ble_eq_true rfl⟩ [] rfl rfl hl.1 rfl (Nat.le_of_ble_eq_true rfl) dX2_isAllowed_69 ⟨Nat.zero_le _, Nat.zero_le _⟩ ?_
        refine lv_if_eq (tgt := 93) hx hb dX2_isAllowed_72 (by decide) (fun c14 => ?_) (fun c14 => ?_)
        · replace h := ifp c14 h
          refine lv_iconst (v := iI 0) hx hb dX2_isAllowed_93 rfl ?_
          exact rd_ret X rfl (Option.some.inj h) dX2_isAllowed_94
        · replace h := ifn c14 h
          refine lv_iload_n hx hb dX2_isAllowed_75 rfl (lv_at hl 3 rfl) ?_
          refine lv_if_eq (tgt := 83) hx hb dX2_isAllowed_76 (by decide) (fun c15 => ?_) (fun c15 => ?_)
          · replace h := ifp c15 h
            refine lv_iload_n hx hb dX2_isAllowed_83 rfl (lv_at hl 5 rfl) ?_
            refine lv_bipush (v := iI 100) hx hb dX2_isAllowed_84 (by decide) ?_
            refine lv_icmp_ge (tgt := 93) hx hb dX2_isAllowed_86 (by decide) (fun c16 => ?_) (fun c16 => ?_)
            · replace h := ifp c16 h
              refine lv_iconst (v := iI 0) hx hb dX2_isAllowed_93 rfl ?_
              exact rd_ret X rfl (Option.some.inj h) dX2_isAllowed_94
            · replace h := ifn c16 h
              refine lv_iconst (v := iI 1) hx hb dX2_isAllowed_89 rfl ?_
              refine lv_goto (tgt := 94) hx hb dX2_isAllowed_90 (by decide) ?_
              exact rd_ret X rfl (Option.some.inj h) dX2_isAllowed_94
          · replace h := ifn c15 h
            refine lv_iload_n hx hb dX2_isAllowed_79 rfl (lv_at hl 4 rfl) ?_
            refine lv_if_le (tgt := 93) hx hb dX2_isAllowed_80 (by decide) (fun c17 => ?_) (fun c17 => ?_)
            · replace h := ifp c17 h
              refine lv_iconst (v := iI 0) hx hb dX2_isAllowed_93 rfl ?_
              exact rd_ret X rfl (Option.some.inj h) dX2_isAllowed_94
            · replace h := ifn c17 h
              refine lv_iload_n hx hb dX2_isAllowed_83 rfl (lv_at hl 5 rfl) ?_
              refine lv_bipush (v := iI 100) hx hb dX2_isAllowed_84 (by decide) ?_
              refine lv_icmp_ge (tgt := 93) hx hb dX2_isAllowed_86 (by decide) (fun c18 => ?_) (fun c18 => ?_)
              · replace h := ifp c18 h
                refine lv_iconst (v := iI 0) hx hb dX2_isAllowed_93 rfl ?_
                exact rd_ret X rfl (Option.some.inj h) dX2_isAllowed_94
              · replace h := ifn c18 h
                refine lv_iconst (v := iI 1) hx hb dX2_isAllowed_89 rfl ?_
                refine lv_goto (tgt := 94) hx hb dX2_isAllowed_90 (by decide) ?_
                exact rd_ret X rfl (Option.some.inj h) dX2_isAllowed_94
      · replace h := ifp c13 h
        refine lv_iload_n hx hb dX2_isAllowed_50 rfl (lv_at hl 4 rfl) ?_
        refine lv_if_le (tgt := 65) hx hb dX2_isAllowed_51 (by decide) (fun c19 => ?_) (fun c19 => ?_)
        · replace h := ifp c19 h
          refine lv_iconst (v := iI 0) hx hb dX2_isAllowed_65 rfl ?_
          exact rd_ret X rfl (Option.some.inj h) dX2_isAllowed_66
        · replace h := ifn c19 h
          refine lv_iload hx hb dX2_isAllowed_54 (lv_at hl 0 rfl) ?_
          refine lv_bipush (v := iI 40) hx hb dX2_isAllowed_56 (by decide) ?_
          refine lv_icmp_eq (tgt := 65) hx hb dX2_isAllowed_58 (by decide) (fun c20 => ?_) (fun c20 => ?_)
          · replace h := ifp c20 h
            refine lv_iconst (v := iI 0) hx hb dX2_isAllowed_65 rfl ?_
            exact rd_ret X rfl (Option.some.inj h) dX2_isAllowed_66
          · replace h := ifn c20 h
            refine lv_iconst (v := iI 1) hx hb dX2_isAllowed_61 rfl ?_
            refine lv_goto (tgt := 66) hx hb dX2_isAllowed_62 (by decide) ?_
            exact rd_ret X rfl (Option.some.inj h) dX2_isAllowed_66
    · replace h := ifp c12 h
      refine lv_iload hx hb dX2_isAllowed_37 (lv_at hl 0 rfl) ?_
      refine rcSN (rest := []) X hKK hP 1 (zX4_isLetter l D cI cC (mX4_get 300 ch (x1 - (iI 1))) _ rfl) gX2_isAllowed_X4_isLetter_n35 rfl rfl rfl nlX2_isAllowed_X4_isLetter (X.2.2.2.2.1 _ niX2_isAllowed_X4_isLetter) (X.2.2.2.2.1 _ nsX2_isAllowed_X4_isLetter) hdX4_isLetterN ⟨Nat.le_of_ble_eq_true rfl, Nat.le_of_ble_eq_true rfl⟩ [] rfl rfl hl.1 rfl (Nat.le_of_ble_eq_true rfl) dX2_isAllowed_39 ⟨Nat.zero_le _, Nat.zero_le _⟩ ?_
      obtain ⟨g21, h⟩ := asr h
      exact rd_ret X (nbool g21) (Option.some.inj h) dX2_isAllowed_42
def mX2_findFault_6 : Nat → Int32 → (Nat → Int32) → Int32 → Int32 → Int32 → Option (Int32)
  | 0, _, _, _, _, _ => none
  | f + 1, ln, ch, x1, x2, x3 => (if ln ≤ x3 then (if ln ≤ 0 then some ln else (if x1 = 0 then some (iI (-1)) else some ln)) else ((mX2_isAllowed ch x3 x1 x2).bind fun r4 => (if r4 = 0 then some x3 else (if (mX4_isLetter (mX4_get 300 ch x3)) = 0 then mX2_findFault_6 f ln ch (x1 + (mX2_deeper ch x3)) (x2 + (iI 0)) (x3 + iI 1) else mX2_findFault_6 f ln ch (x1 + (mX2_deeper ch x3)) (x2 + (iI 1)) (x3 + iI 1)))))
def mX2_findFault (ln : Int32) (ch : Nat → Int32)  : Option (Int32) := mX2_findFault_6 FU ln ch (iI 0) (iI 0) (iI 0)
theorem hdX2_findFault : yX2_findFault.cls = RX2 ∧ yX2_findFault.cls ≠ "java/lang/invoke/MethodHandle" ∧ yX2_findFault.cls ≠ "java/lang/invoke/VarHandle" ∧ (parseMethodDescriptor yX2_findFault.desc).map (fun d => d.parameters.length) = some 0 := by decide +kernel
theorem flX2_findFault_15 : Cond.fieldLink RX2 15 "BracketTree$Text" "length" "I" ∈ wsX2_findFault := by decide +kernel
theorem iwX2_findFault_2 : ∀ w ∈ wsX20, w ∈ wsX2_findFault := by decide +kernel
theorem flX2_findFault_9 : Cond.fieldLink RX2 9 "BracketTree$Text" "characters" "[I" ∈ wsX2_findFault := by decide +kernel
theorem niX2_findFault_X4_get : Cond.initialized RX4 ∈ wsX2_findFault := by decide +kernel
theorem nsX2_findFault_X4_get : Cond.static yX4_get ∈ wsX2_findFault := by decide +kernel
theorem nlX2_findFault_X4_get : Cond.methodLinkNest RX2 31 yX4_get "BracketTree" ∈ nestL := by decide +kernel
theorem niX2_findFault_X4_isLetter : Cond.initialized RX4 ∈ wsX2_findFault := by decide +kernel
theorem nsX2_findFault_X4_isLetter : Cond.static yX4_isLetter ∈ wsX2_findFault := by decide +kernel
theorem nlX2_findFault_X4_isLetter : Cond.methodLinkNest RX2 35 yX4_isLetter "BracketTree" ∈ nestL := by decide +kernel
abbrev rmX2_findFault : Room := { frames := 2, cells := 0, slots := 0, locals := 46 }
set_option maxHeartbeats 4000000 in
set_option maxRecDepth 100000 in
theorem kX2_findFault_6 {p : Program} {l : Launch} {e : Env} {s : State} {m : MethodId} {args : Array Value} {below : List Frame} {meth : Method} {c : Code} {D : va_G} {cI cC : ClassId} {q : Nat → Nat} {n : Int32} {d : Nat → Int32} {lb : Nat → Int32} {xd : Nat → Int32} {xl : Nat → Int32} {ln : Int32} {ch : Nat → Int32} {r : Int32} (X : CX p s m args meth c wsX2_findFault cX2_findFault 4 (some .int) RX2) (hKK : KK D cI cC s) (hP : va_P D vwCl (wX cI q n d lb xd xl ln ch) s.heap) : ∀ (f : Nat), ∀ (x1 : Int32) (x2 : Int32) (x3 : Int32) (ls : Array Slot), lv_has ls 4 [(0, .ref (q 6)), (1, .int x1), (2, .int x2), (3, .int x3)] → mX2_findFault_6 f ln ch x1 x2 x3 = some r → W p l e rmX2_findFault s m args below meth c s.heap [] 0 0 (MQ below (rdQ r) args s 0 0 (fun _ => False)) (F0 m 6 ls []) := by
  have hx := X.1
  have hb := X.2.1
  intro f
  induction f with
  | zero =>
    intro x1 x2 x3 ls hl h
    exact absurd h (by unfold mX2_findFault_6; intro h; cases h)
  | succ f ih =>
    intro x1 x2 x3 ls hl h
    rw [mX2_findFault_6] at h
    refine lv_iload_n hx hb dX2_findFault_6 rfl (lv_at hl 3 rfl) ?_
    refine lv_aload_n hx hb dX2_findFault_7 rfl (lv_at hl 0 rfl) ?_
    refine va_get (D := D) (ci := 2) (v := .int ln) (C := RX2) (T := TX2) (N := 2) hx hb X.2.2.2.2.1 iwX2_findFault_2 X.2.2.2.1 hKK.1 hP 0 rfl rfl 1 (by decide) (X.2.2.2.2.1 _ flX2_findFault_15) (fun _ h9 => h9) rfl dX2_findFault_8 ?_
    refine lv_icmp_ge (tgt := 62) hx hb dX2_findFault_11 (by decide) (fun c1 => ?_) (fun c1 => ?_)
    · replace h := ifp c1 h
      refine lv_aload_n hx hb dX2_findFault_62 rfl (lv_at hl 0 rfl) ?_
      refine va_get (D := D) (ci := 2) (v := .int ln) (C := RX2) (T := TX2) (N := 2) hx hb X.2.2.2.2.1 iwX2_findFault_2 X.2.2.2.1 hKK.1 hP 0 rfl rfl 1 (by decide) (X.2.2.2.2.1 _ flX2_findFault_15) (fun _ h9 => h9) rfl dX2_findFault_63 ?_
      refine lv_if_le (tgt := 77) hx hb dX2_findFault_66 (by decide) (fun c2 => ?_) (fun c2 => ?_)
      · replace h := ifp c2 h
        refine lv_aload_n hx hb dX2_findFault_77 rfl (lv_at hl 0 rfl) ?_
        refine va_get (D := D) (ci := 2) (v := .int ln) (C := RX2) (T := TX2) (N := 2) hx hb X.2.2.2.2.1 iwX2_findFault_2 X.2.2.2.1 hKK.1 hP 0 rfl rfl 1 (by decide) (X.2.2.2.2.1 _ flX2_findFault_15) (fun _ h9 => h9) rfl dX2_findFault_78 ?_
        exact rd_ret X rfl (Option.some.inj h) dX2_findFault_81
      · replace h := ifn c2 h
        refine lv_iload_n hx hb dX2_findFault_69 rfl (lv_at hl 1 rfl) ?_
        refine lv_if_ne (tgt := 77) hx hb dX2_findFault_70 (by decide) (fun c3 => ?_) (fun c3 => ?_)
        · replace h := ifn c3 h
          refine lv_aload_n hx hb dX2_findFault_77 rfl (lv_at hl 0 rfl) ?_
          refine va_get (D := D) (ci := 2) (v := .int ln) (C := RX2) (T := TX2) (N := 2) hx hb X.2.2.2.2.1 iwX2_findFault_2 X.2.2.2.1 hKK.1 hP 0 rfl rfl 1 (by decide) (X.2.2.2.2.1 _ flX2_findFault_15) (fun _ h9 => h9) rfl dX2_findFault_78 ?_
          exact rd_ret X rfl (Option.some.inj h) dX2_findFault_81
        · replace h := ifp c3 h
          refine lv_iconst (v := iI (-1)) hx hb dX2_findFault_73 rfl ?_
          refine lv_goto (tgt := 81) hx hb dX2_findFault_74 (by decide) ?_
          exact rd_ret X rfl (Option.some.inj h) dX2_findFault_81
    · replace h := ifn c1 h
      refine lv_aload_n hx hb dX2_findFault_14 rfl (lv_at hl 0 rfl) ?_
      refine lv_iload_n hx hb dX2_findFault_15 rfl (lv_at hl 3 rfl) ?_
      refine lv_iload_n hx hb dX2_findFault_16 rfl (lv_at hl 1 rfl) ?_
      refine lv_iload_n hx hb dX2_findFault_17 rfl (lv_at hl 2 rfl) ?_
      obtain ⟨r4, h_r4, h⟩ := obd h
      refine rcV (rest := []) X hKK hP 3 (zX2_isAllowed l D cI cC q n d lb xd xl ln ch x3 x1 x2 r4 h_r4) gX2_findFault_X2_isAllowed rfl rfl rfl hdX2_isAllowed ⟨Nat.le_of_ble_eq_true rfl, Nat.le_of_ble_eq_true rfl⟩ [0, 1, 2, 3, 4, 5, 6] rfl 0 rfl rfl rfl hl.1 rfl (Nat.le_of_ble_eq_true rfl) dX2_findFault_18 ⟨Nat.zero_le _, Nat.zero_le _⟩ ?_
      refine lv_if_ne (tgt := 26) hx hb dX2_findFault_21 (by decide) (fun c5 => ?_) (fun c5 => ?_)
      · replace h := ifn c5 h
        refine lv_iload_n hx hb dX2_findFault_26 rfl (lv_at hl 1 rfl) ?_
        refine lv_aload_n hx hb dX2_findFault_27 rfl (lv_at hl 0 rfl) ?_
        refine lv_iload_n hx hb dX2_findFault_28 rfl (lv_at hl 3 rfl) ?_
        refine rcV (rest := [.int x1]) X hKK hP 1 (zX2_deeper l D cI cC q n d lb xd xl ln ch x3 _ rfl) gX2_findFault_X2_deeper rfl rfl rfl hdX2_deeper ⟨Nat.le_of_ble_eq_true rfl, Nat.le_of_ble_eq_true rfl⟩ [0, 1, 2, 3, 4, 5, 6] rfl 0 rfl rfl rfl hl.1 rfl (Nat.le_of_ble_eq_true rfl) dX2_findFault_29 ⟨Nat.zero_le _, Nat.zero_le _⟩ ?_
        refine lv_iadd hx hb dX2_findFault_32 ?_
        refine lv_istore_n (lv' := [(1, .int (x1 + (mX2_deeper ch x3))), (0, .ref (q 6)), (2, .int x2), (3, .int x3)]) hx hb dX2_findFault_33 rfl hl (by decide) rfl (fun ls hl => ?_)
        refine lv_iload_n hx hb dX2_findFault_34 rfl (lv_at hl 2 rfl) ?_
        refine lv_aload_n hx hb dX2_findFault_35 rfl (lv_at hl 1 rfl) ?_
        refine va_get (D := D) (ci := 2) (v := .ref (q 7)) (C := RX2) (T := TX2) (N := 2) hx hb X.2.2.2.2.1 iwX2_findFault_2 X.2.2.2.1 hKK.1 hP 0 rfl rfl 0 (by decide) (X.2.2.2.2.1 _ flX2_findFault_9) (fun _ h9 => h9) rfl dX2_findFault_36 ?_
        refine lv_iload_n hx hb dX2_findFault_39 rfl (lv_at hl 3 rfl) ?_
        refine rcSN (rest := [.int x2]) X hKK hP 2 (zX4_get l D cI cC (q 7) 300 ch x3) gX2_findFault_X4_get_n31 rfl rfl rfl nlX2_findFault_X4_get (X.2.2.2.2.1 _ niX2_findFault_X4_get) (X.2.2.2.2.1 _ nsX2_findFault_X4_get) hdX4_get ⟨Nat.le_of_ble_eq_true rfl, Nat.le_of_ble_eq_true rfl⟩ [1] rfl rfl hl.1 rfl (Nat.le_of_ble_eq_true rfl) dX2_findFault_40 ⟨Nat.zero_le _, Nat.zero_le _⟩ ?_
        refine rcSN (rest := [.int x2]) X hKK hP 1 (zX4_isLetter l D cI cC (mX4_get 300 ch x3) _ rfl) gX2_findFault_X4_isLetter_n35 rfl rfl rfl nlX2_findFault_X4_isLetter (X.2.2.2.2.1 _ niX2_findFault_X4_isLetter) (X.2.2.2.2.1 _ nsX2_findFault_X4_isLetter) hdX4_isLetterN ⟨Nat.le_of_ble_eq_true rfl, Nat.le_of_ble_eq_true rfl⟩ [] rfl rfl hl.1 rfl (Nat.le_of_ble_eq_true rfl) dX2_findFault_43 ⟨Nat.zero_le _, Nat.zero_le _⟩ ?_
        refine lv_if_eq (tgt := 53) hx hb dX2_findFault_46 (by decide) (fun c6 => ?_) (fun c6 => ?_)
        · replace h := ifp c6 h
          refine lv_iconst (v := iI 0) hx hb dX2_findFault_53 rfl ?_
          refine lv_iadd hx hb dX2_findFault_54 ?_
          refine lv_istore_n (lv' := [(2, .int (x2 + (iI 0))), (1, .int (x1 + (mX2_deeper ch x3))), (0, .ref (q 6)), (3, .int x3)]) hx hb dX2_findFault_55 rfl hl (by decide) rfl (fun ls hl => ?_)
          refine lv_iinc (v := (x3 + iI 1)) (lv' := [(3, .int (x3 + iI 1)), (2, .int (x2 + (iI 0))), (1, .int (x1 + (mX2_deeper ch x3))), (0, .ref (q 6))]) hx hb dX2_findFault_56 hl (k := 3) rfl rfl (by decide) rfl (fun ls hl => ?_)
          refine lv_goto (tgt := 6) hx hb dX2_findFault_59 (by decide) ?_
          exact ih (x1 + (mX2_deeper ch x3)) (x2 + (iI 0)) (x3 + iI 1) ls (lv_sub hl [3, 2, 1, 0] rfl) h
        · replace h := ifn c6 h
          refine lv_iconst (v := iI 1) hx hb dX2_findFault_49 rfl ?_
          refine lv_goto (tgt := 54) hx hb dX2_findFault_50 (by decide) ?_
          refine lv_iadd hx hb dX2_findFault_54 ?_
          refine lv_istore_n (lv' := [(2, .int (x2 + (iI 1))), (1, .int (x1 + (mX2_deeper ch x3))), (0, .ref (q 6)), (3, .int x3)]) hx hb dX2_findFault_55 rfl hl (by decide) rfl (fun ls hl => ?_)
          refine lv_iinc (v := (x3 + iI 1)) (lv' := [(3, .int (x3 + iI 1)), (2, .int (x2 + (iI 1))), (1, .int (x1 + (mX2_deeper ch x3))), (0, .ref (q 6))]) hx hb dX2_findFault_56 hl (k := 3) rfl rfl (by decide) rfl (fun ls hl => ?_)
          refine lv_goto (tgt := 6) hx hb dX2_findFault_59 (by decide) ?_
          exact ih (x1 + (mX2_deeper ch x3)) (x2 + (iI 1)) (x3 + iI 1) ls (lv_sub hl [3, 2, 1, 0] rfl) h
      · replace h := ifp c5 h
        refine lv_iload_n hx hb dX2_findFault_24 rfl (lv_at hl 3 rfl) ?_
        exact rd_ret X rfl (Option.some.inj h) dX2_findFault_25
set_option maxHeartbeats 4000000 in
set_option maxRecDepth 100000 in
theorem zX2_findFault (l : Launch) (D : va_G) (cI cC : ClassId) (q : Nat → Nat) (n : Int32) (d : Nat → Int32) (lb : Nat → Int32) (xd : Nat → Int32) (xl : Nat → Int32) (ln : Int32) (ch : Nat → Int32)  (r : Int32) (h : mX2_findFault ln ch = some r) : Met l yX2_findFault wsX2_findFault rmX2_findFault (va_Pc [.ref (q 6)] (BW D cI cC (wX cI q n d lb xd xl ln ch))) (rdQ r) 0 0 (fun _ => False) := by
  refine MetI RX2 (by decide +kernel) rfl rfl (Nat.le_of_ble_eq_true rfl) ?_
  intro p e s m below meth c ls X _ hB hl
  obtain ⟨hP, hKK⟩ := hB
  have hx := X.1
  have hb := X.2.1
  replace hl : lv_has ls 4 [(0, .ref (q 6))] := hl
  unfold mX2_findFault at h
  refine lv_iconst (v := iI 0) hx hb dX2_findFault_0 rfl ?_
  refine lv_istore_n (lv' := [(1, .int (iI 0)), (0, .ref (q 6))]) hx hb dX2_findFault_1 rfl hl (by decide) rfl (fun ls hl => ?_)
  refine lv_iconst (v := iI 0) hx hb dX2_findFault_2 rfl ?_
  refine lv_istore_n (lv' := [(2, .int (iI 0)), (1, .int (iI 0)), (0, .ref (q 6))]) hx hb dX2_findFault_3 rfl hl (by decide) rfl (fun ls hl => ?_)
  refine lv_iconst (v := iI 0) hx hb dX2_findFault_4 rfl ?_
  refine lv_istore_n (lv' := [(3, .int (iI 0)), (2, .int (iI 0)), (1, .int (iI 0)), (0, .ref (q 6))]) hx hb dX2_findFault_5 rfl hl (by decide) rfl (fun ls hl => ?_)
  exact kX2_findFault_6 X hKK hP FU (iI 0) (iI 0) (iI 0) ls (lv_sub hl [3, 2, 1, 0] rfl) h
def mX2_makeTree_8 : Nat → Int32 → (Nat → Int32) → (Nat → Int32) → Int32 → (Nat → Int32) → Int32 → Int32 → Option (Int32 × (Nat → Int32) × (Nat → Int32))
  | 0, _, _, _, _, _, _, _ => none
  | f + 1, n, d, lb, ln, ch, x2, x3 => (if ln ≤ x3 then some (n, d, lb) else (if (mX4_isLetter (mX4_get 300 ch x3)) = 0 then mX2_makeTree_8 f n d lb ln ch (x2 + (mX2_deeper ch x3)) (x3 + iI 1) else mX2_makeTree_8 f ((mX3_append n d lb x2 (mX4_get 300 ch x3)).1) ((mX3_append n d lb x2 (mX4_get 300 ch x3)).2.1) ((mX3_append n d lb x2 (mX4_get 300 ch x3)).2.2) ln ch (x2 + (mX2_deeper ch x3)) (x3 + iI 1)))
def mX2_makeTree (n : Int32) (d : Nat → Int32) (lb : Nat → Int32) (ln : Int32) (ch : Nat → Int32)  : Option (Int32 × (Nat → Int32) × (Nat → Int32)) := mX2_makeTree_8 FU (mX3_empty n) d lb ln ch (iI 0) (iI 0)
theorem hdX2_makeTree : yX2_makeTree.cls = RX2 ∧ yX2_makeTree.cls ≠ "java/lang/invoke/MethodHandle" ∧ yX2_makeTree.cls ≠ "java/lang/invoke/VarHandle" ∧ (parseMethodDescriptor yX2_makeTree.desc).map (fun d => d.parameters.length) = some 1 := by decide +kernel
theorem flX2_makeTree_15 : Cond.fieldLink RX2 15 "BracketTree$Text" "length" "I" ∈ wsX2_makeTree := by decide +kernel
theorem iwX2_makeTree_2 : ∀ w ∈ wsX20, w ∈ wsX2_makeTree := by decide +kernel
theorem flX2_makeTree_9 : Cond.fieldLink RX2 9 "BracketTree$Text" "characters" "[I" ∈ wsX2_makeTree := by decide +kernel
theorem niX2_makeTree_X4_get : Cond.initialized RX4 ∈ wsX2_makeTree := by decide +kernel
theorem nsX2_makeTree_X4_get : Cond.static yX4_get ∈ wsX2_makeTree := by decide +kernel
theorem nlX2_makeTree_X4_get : Cond.methodLinkNest RX2 31 yX4_get "BracketTree" ∈ nestL := by decide +kernel
theorem niX2_makeTree_X4_isLetter : Cond.initialized RX4 ∈ wsX2_makeTree := by decide +kernel
theorem nsX2_makeTree_X4_isLetter : Cond.static yX4_isLetter ∈ wsX2_makeTree := by decide +kernel
theorem nlX2_makeTree_X4_isLetter : Cond.methodLinkNest RX2 35 yX4_isLetter "BracketTree" ∈ nestL := by decide +kernel
abbrev rmX2_makeTree : Room := { frames := 3, cells := 0, slots := 0, locals := 67 }
set_option maxHeartbeats 4000000 in
set_option maxRecDepth 100000 in
theorem kX2_makeTree_8 {p : Program} {l : Launch} {e : Env} {s : State} {m : MethodId} {args : Array Value} {below : List Frame} {meth : Method} {c : Code} {D : va_G} {cI cC : ClassId} {q : Nat → Nat} {xd : Nat → Int32} {xl : Nat → Int32} {r : Int32 × (Nat → Int32) × (Nat → Int32)} {A : Nat → Prop} (X : CX p s m args meth c wsX2_makeTree cX2_makeTree 4 none RX2) (hKK : KK D cI cC s) (hA : ∀ z, s.heap.size ≤ z → A z) : ∀ (f : Nat), ∀ (n : Int32) (d : Nat → Int32) (lb : Nat → Int32) (ln : Int32) (ch : Nat → Int32) (x2 : Int32) (x3 : Int32) (H : Heap) (locs : List Loc) (ls : Array Slot), va_P D vwCl (wX cI q n d lb xd xl ln ch) H → va_D A (wX cI q n d lb xd xl ln ch) → va_S A s.heap H locs → lv_has ls 4 [(0, .ref (q 6)), (1, .ref (q 8)), (2, .int x2), (3, .int x3)] → mX2_makeTree_8 f n d lb ln ch x2 x3 = some r → W p l e rmX2_makeTree s m args below meth c H locs 0 0 (MQ below (muQ D none (wX cI q r.1 r.2.1 r.2.2 xd xl ln ch) A) args s 0 0 A) (F0 m 8 ls []) := by
  have hx := X.1
  have hb := X.2.1
  intro f
  induction f with
  | zero =>
    intro n d lb ln ch x2 x3 H locs ls hP hD hS hl h
    exact absurd h (by unfold mX2_makeTree_8; intro h; cases h)
  | succ f ih =>
    intro n d lb ln ch x2 x3 H locs ls hP hD hS hl h
    rw [mX2_makeTree_8] at h
    refine lv_iload_n hx hb dX2_makeTree_8 rfl (lv_at hl 3 rfl) ?_
    refine lv_aload_n hx hb dX2_makeTree_9 rfl (lv_at hl 0 rfl) ?_
    refine va_get (D := D) (ci := 2) (v := .int ln) (C := RX2) (T := TX2) (N := 2) hx hb X.2.2.2.2.1 iwX2_makeTree_2 X.2.2.2.1 hKK.1 hP 0 rfl rfl 1 (by decide) (X.2.2.2.2.1 _ flX2_makeTree_15) (fun _ h9 => h9) rfl dX2_makeTree_10 ?_
    refine lv_icmp_ge (tgt := 57) hx hb dX2_makeTree_13 (by decide) (fun c1 => ?_) (fun c1 => ?_)
    · replace h := ifp c1 h
      replace h := Option.some.inj h
      subst h
      exact mu_vret X hP rfl hS dX2_makeTree_57
    · replace h := ifn c1 h
      refine lv_aload_n hx hb dX2_makeTree_16 rfl (lv_at hl 0 rfl) ?_
      refine va_get (D := D) (ci := 2) (v := .ref (q 7)) (C := RX2) (T := TX2) (N := 2) hx hb X.2.2.2.2.1 iwX2_makeTree_2 X.2.2.2.1 hKK.1 hP 0 rfl rfl 0 (by decide) (X.2.2.2.2.1 _ flX2_makeTree_9) (fun _ h9 => h9) rfl dX2_makeTree_17 ?_
      refine lv_iload_n hx hb dX2_makeTree_20 rfl (lv_at hl 3 rfl) ?_
      refine rcSN (rest := []) X hKK hP 2 (zX4_get l D cI cC (q 7) 300 ch x3) gX2_makeTree_X4_get_n31 rfl rfl rfl nlX2_makeTree_X4_get (X.2.2.2.2.1 _ niX2_makeTree_X4_get) (X.2.2.2.2.1 _ nsX2_makeTree_X4_get) hdX4_get ⟨Nat.le_of_ble_eq_true rfl, Nat.le_of_ble_eq_true rfl⟩ [1] rfl rfl hl.1 rfl (Nat.le_of_ble_eq_true rfl) dX2_makeTree_21 ⟨Nat.zero_le _, Nat.zero_le _⟩ ?_
      refine rcSN (rest := []) X hKK hP 1 (zX4_isLetter l D cI cC (mX4_get 300 ch x3) _ rfl) gX2_makeTree_X4_isLetter_n35 rfl rfl rfl nlX2_makeTree_X4_isLetter (X.2.2.2.2.1 _ niX2_makeTree_X4_isLetter) (X.2.2.2.2.1 _ nsX2_makeTree_X4_isLetter) hdX4_isLetterN ⟨Nat.le_of_ble_eq_true rfl, Nat.le_of_ble_eq_true rfl⟩ [] rfl rfl hl.1 rfl (Nat.le_of_ble_eq_true rfl) dX2_makeTree_24 ⟨Nat.zero_le _, Nat.zero_le _⟩ ?_
      refine lv_if_eq (tgt := 43) hx hb dX2_makeTree_27 (by decide) (fun c2 => ?_) (fun c2 => ?_)
      · replace h := ifp c2 h
        refine lv_iload_n hx hb dX2_makeTree_43 rfl (lv_at hl 2 rfl) ?_
        refine lv_aload_n hx hb dX2_makeTree_44 rfl (lv_at hl 0 rfl) ?_
        refine lv_iload_n hx hb dX2_makeTree_45 rfl (lv_at hl 3 rfl) ?_
        refine rcV (rest := [.int x2]) X hKK hP 1 (zX2_deeper l D cI cC q n d lb xd xl ln ch x3 _ rfl) gX2_makeTree_X2_deeper rfl rfl rfl hdX2_deeper ⟨Nat.le_of_ble_eq_true rfl, Nat.le_of_ble_eq_true rfl⟩ [0, 1, 2, 3, 4, 5, 6] rfl 0 rfl rfl rfl hl.1 rfl (Nat.le_of_ble_eq_true rfl) dX2_makeTree_46 ⟨Nat.zero_le _, Nat.zero_le _⟩ ?_
        refine lv_iadd hx hb dX2_makeTree_49 ?_
        refine lv_istore_n (lv' := [(2, .int (x2 + (mX2_deeper ch x3))), (0, .ref (q 6)), (1, .ref (q 8)), (3, .int x3)]) hx hb dX2_makeTree_50 rfl hl (by decide) rfl (fun ls hl => ?_)
        refine lv_iinc (v := (x3 + iI 1)) (lv' := [(3, .int (x3 + iI 1)), (2, .int (x2 + (mX2_deeper ch x3))), (0, .ref (q 6)), (1, .ref (q 8))]) hx hb dX2_makeTree_51 hl (k := 3) rfl rfl (by decide) rfl (fun ls hl => ?_)
        refine lv_goto (tgt := 8) hx hb dX2_makeTree_54 (by decide) ?_
        exact ih n d lb ln ch (x2 + (mX2_deeper ch x3)) (x3 + iI 1) _ _ ls hP hD hS (lv_sub hl [2, 3, 1, 0] rfl) h
      · replace h := ifn c2 h
        refine lv_aload_n hx hb dX2_makeTree_30 rfl (lv_at hl 1 rfl) ?_
        refine lv_iload_n hx hb dX2_makeTree_31 rfl (lv_at hl 2 rfl) ?_
        refine lv_aload_n hx hb dX2_makeTree_32 rfl (lv_at hl 0 rfl) ?_
        refine va_get (D := D) (ci := 2) (v := .ref (q 7)) (C := RX2) (T := TX2) (N := 2) hx hb X.2.2.2.2.1 iwX2_makeTree_2 X.2.2.2.1 hKK.1 hP 0 rfl rfl 0 (by decide) (X.2.2.2.2.1 _ flX2_makeTree_9) (fun _ h9 => h9) rfl dX2_makeTree_33 ?_
        refine lv_iload_n hx hb dX2_makeTree_36 rfl (lv_at hl 3 rfl) ?_
        refine rcSN (rest := [.int x2, .ref (q 8)]) X hKK hP 2 (zX4_get l D cI cC (q 7) 300 ch x3) gX2_makeTree_X4_get_n31 rfl rfl rfl nlX2_makeTree_X4_get (X.2.2.2.2.1 _ niX2_makeTree_X4_get) (X.2.2.2.2.1 _ nsX2_makeTree_X4_get) hdX4_get ⟨Nat.le_of_ble_eq_true rfl, Nat.le_of_ble_eq_true rfl⟩ [1] rfl rfl hl.1 rfl (Nat.le_of_ble_eq_true rfl) dX2_makeTree_37 ⟨Nat.zero_le _, Nat.zero_le _⟩ ?_
        refine mcV (rest := []) (wld2 := (wX cI q (mX3_append n d lb x2 (mX4_get 300 ch x3)).1 (mX3_append n d lb x2 (mX4_get 300 ch x3)).2.1 (mX3_append n d lb x2 (mX4_get 300 ch x3)).2.2 xd xl ln ch)) (wr := pickAt [0, 1] (wX cI q n d lb xd xl ln ch)) X hKK hP hD hS hA 2 (zX3_append l D cI cC q _ n d lb xd xl x2 (mX4_get 300 ch x3) _ rfl) gX2_makeTree_X3_append rfl rfl rfl hdX3_append ⟨Nat.le_of_ble_eq_true rfl, Nat.le_of_ble_eq_true rfl⟩ [2, 3, 4, 5, 6] [0, 1] rfl rfl rfl rfl rfl (by decide) rfl [0, 1, 2, 3, 4, 5, 6] rfl rfl rfl 0 rfl rfl rfl hl.1 rfl (Nat.le_of_ble_eq_true rfl) dX2_makeTree_40 ⟨Nat.zero_le _, Nat.zero_le _⟩ (fun H locs hP hD hS => ?_)
        refine lv_iload_n hx hb dX2_makeTree_43 rfl (lv_at hl 2 rfl) ?_
        refine lv_aload_n hx hb dX2_makeTree_44 rfl (lv_at hl 0 rfl) ?_
        refine lv_iload_n hx hb dX2_makeTree_45 rfl (lv_at hl 3 rfl) ?_
        refine rcV (rest := [.int x2]) X hKK hP 1 (zX2_deeper l D cI cC q ((mX3_append n d lb x2 (mX4_get 300 ch x3)).1) ((mX3_append n d lb x2 (mX4_get 300 ch x3)).2.1) ((mX3_append n d lb x2 (mX4_get 300 ch x3)).2.2) xd xl ln ch x3 _ rfl) gX2_makeTree_X2_deeper rfl rfl rfl hdX2_deeper ⟨Nat.le_of_ble_eq_true rfl, Nat.le_of_ble_eq_true rfl⟩ [0, 1, 2, 3, 4, 5, 6] rfl 0 rfl rfl rfl hl.1 rfl (Nat.le_of_ble_eq_true rfl) dX2_makeTree_46 ⟨Nat.zero_le _, Nat.zero_le _⟩ ?_
        refine lv_iadd hx hb dX2_makeTree_49 ?_
        refine lv_istore_n (lv' := [(2, .int (x2 + (mX2_deeper ch x3))), (0, .ref (q 6)), (1, .ref (q 8)), (3, .int x3)]) hx hb dX2_makeTree_50 rfl hl (by decide) rfl (fun ls hl => ?_)
        refine lv_iinc (v := (x3 + iI 1)) (lv' := [(3, .int (x3 + iI 1)), (2, .int (x2 + (mX2_deeper ch x3))), (0, .ref (q 6)), (1, .ref (q 8))]) hx hb dX2_makeTree_51 hl (k := 3) rfl rfl (by decide) rfl (fun ls hl => ?_)
        refine lv_goto (tgt := 8) hx hb dX2_makeTree_54 (by decide) ?_
        exact ih ((mX3_append n d lb x2 (mX4_get 300 ch x3)).1) ((mX3_append n d lb x2 (mX4_get 300 ch x3)).2.1) ((mX3_append n d lb x2 (mX4_get 300 ch x3)).2.2) ln ch (x2 + (mX2_deeper ch x3)) (x3 + iI 1) _ _ ls hP hD hS (lv_sub hl [2, 3, 1, 0] rfl) h
set_option maxHeartbeats 4000000 in
set_option maxRecDepth 100000 in
theorem zX2_makeTree (l : Launch) (D : va_G) (cI cC : ClassId) (q : Nat → Nat) (sz : Nat) (n : Int32) (d : Nat → Int32) (lb : Nat → Int32) (xd : Nat → Int32) (xl : Nat → Int32) (ln : Int32) (ch : Nat → Int32)  (r : Int32 × (Nat → Int32) × (Nat → Int32)) (h : mX2_makeTree n d lb ln ch = some r) : Met l yX2_makeTree wsX2_makeTree rmX2_makeTree (va_Pc [.ref (q 6), .ref (q 8)] (MB D cI cC sz (wX cI q n d lb xd xl ln ch))) (muQ D none (wX cI q r.1 r.2.1 r.2.2 xd xl ln ch) (va_A (wX cI q n d lb xd xl ln ch) sz)) 0 0 (va_A (wX cI q n d lb xd xl ln ch) sz) := by
  refine MetI RX2 (by decide +kernel) rfl rfl (Nat.le_of_ble_eq_true rfl) ?_
  intro p e s m below meth c ls X _ hB hl
  obtain ⟨hsz, ⟨hP, hKK⟩, hD0⟩ := hB
  subst hsz
  have hD := hD0.self (sz := s.heap.size)
  generalize hAe : va_A (wX cI q n d lb xd xl ln ch) s.heap.size = A at hD ⊢
  have hA : ∀ z : Nat, s.heap.size ≤ z → A z := fun z hz => by rw [← hAe]; exact Or.inr hz
  have hS : va_S A s.heap s.heap [] := va_S.rf
  have hx := X.1
  have hb := X.2.1
  replace hl : lv_has ls 4 [(0, .ref (q 6)), (1, .ref (q 8))] := hl
  replace hP : va_P D vwCl (wX cI q n d lb xd xl ln ch) s.heap := hP
  unfold mX2_makeTree at h
  refine lv_iconst (v := iI 0) hx hb dX2_makeTree_0 rfl ?_
  refine lv_istore_n (lv' := [(2, .int (iI 0)), (0, .ref (q 6)), (1, .ref (q 8))]) hx hb dX2_makeTree_1 rfl hl (by decide) rfl (fun ls hl => ?_)
  refine lv_aload_n hx hb dX2_makeTree_2 rfl (lv_at hl 2 rfl) ?_
  refine mcV (rest := []) (wld2 := (wX cI q (mX3_empty n) d lb xd xl ln ch)) (wr := pickAt [0, 1] (wX cI q n d lb xd xl ln ch)) X hKK hP hD hS hA 0 (zX3_empty l D cI cC q _ n d lb xd xl _ rfl) gX2_makeTree_X3_empty rfl rfl rfl hdX3_empty ⟨Nat.le_of_ble_eq_true rfl, Nat.le_of_ble_eq_true rfl⟩ [2, 3, 4, 5, 6] [0, 1] rfl rfl rfl rfl rfl (by decide) rfl [0, 1, 2, 3, 4, 5, 6] rfl rfl rfl 0 rfl rfl rfl hl.1 rfl (Nat.le_of_ble_eq_true rfl) dX2_makeTree_3 ⟨Nat.zero_le _, Nat.zero_le _⟩ (fun H locs hP hD hS => ?_)
  refine lv_iconst (v := iI 0) hx hb dX2_makeTree_6 rfl ?_
  refine lv_istore_n (lv' := [(3, .int (iI 0)), (2, .int (iI 0)), (0, .ref (q 6)), (1, .ref (q 8))]) hx hb dX2_makeTree_7 rfl hl (by decide) rfl (fun ls hl => ?_)
  exact kX2_makeTree_8 X hKK hA FU (mX3_empty n) d lb ln ch (iI 0) (iI 0) _ _ ls hP hD hS (lv_sub hl [2, 3, 1, 0] rfl) h
