def mX4_type (ln : Int32) (ch : Nat → Int32) (x1 : Int32) : (Int32 × Int32 × (Nat → Int32)) := ((mX2_append ln ch x1).1, (mX2_append ln ch x1).2.1, (mX2_append ln ch x1).2.2)
theorem hdX4_type : yX4_type.cls = RX4 ∧ yX4_type.cls ≠ "java/lang/invoke/MethodHandle" ∧ yX4_type.cls ≠ "java/lang/invoke/VarHandle" ∧ (parseMethodDescriptor yX4_type.desc).map (fun d => d.parameters.length) = some 1 := by decide +kernel
theorem flX4_type_33 : Cond.fieldLink RX4 33 "BracketTree" "text" "LBracketTree$Text;" ∈ wsX4_type := by decide +kernel
theorem iwX4_type_4 : ∀ w ∈ wsX40, w ∈ wsX4_type := by decide +kernel
abbrev rmX4_type : Room := { frames := 2, cells := 0, slots := 0, locals := 43 }
set_option maxHeartbeats 4000000 in
set_option maxRecDepth 100000 in
theorem zX4_type (l : Launch) (D : va_G) (cI cC : ClassId) (q : Nat → Nat) (sz : Nat) (n : Int32) (d : Nat → Int32) (lb : Nat → Int32) (xd : Nat → Int32) (xl : Nat → Int32) (wi : Int32) (sl : Int32) (kp : Int32) (ct : Nat → Int32) (gd : Nat → Int32) (gl : Nat → Int32) (ln : Int32) (ch : Nat → Int32) (x1 : Int32) (r : Int32 × Int32 × (Nat → Int32)) (h : mX4_type ln ch x1 = r) : Met l yX4_type wsX4_type rmX4_type (va_Pc [.ref (q 0), .int x1] (MB D cI cC sz (wA cI q n d lb xd xl wi sl kp ct gd gl ln ch))) (muQ D (some (.int r.1)) (wA cI q n d lb xd xl wi sl kp ct gd gl r.2.1 r.2.2) (va_A (wA cI q n d lb xd xl wi sl kp ct gd gl ln ch) sz)) 0 0 (va_A (wA cI q n d lb xd xl wi sl kp ct gd gl ln ch) sz) := by
  refine MetI RX4 (by decide +kernel) rfl rfl (Nat.le_of_ble_eq_true rfl) ?_
  intro p e s m below meth c ls X _ hB hl
  obtain ⟨hsz, ⟨hP, hKK⟩, hD0⟩ := hB
  subst hsz
  have hD := hD0.self (sz := s.heap.size)
  generalize hAe : va_A (wA cI q n d lb xd xl wi sl kp ct gd gl ln ch) s.heap.size = A at hD ⊢
  have hA : ∀ z : Nat, s.heap.size ≤ z → A z := fun z hz => by rw [← hAe]; exact Or.inr hz
  have hS : va_S A s.heap s.heap [] := va_S.rf
  have hx := X.1
  have hb := X.2.1
  replace hl : lv_has ls 2 [(0, .ref (q 0)), (1, .int x1)] := hl
  replace hP : va_P D vwCl (wA cI q n d lb xd xl wi sl kp ct gd gl ln ch) s.heap := hP
  unfold mX4_type at h
  refine lv_aload_n hx hb dX4_type_0 rfl (lv_at hl 0 rfl) ?_
  refine va_get (D := D) (ci := 4) (v := .ref (q 6)) (C := RX4) (T := TX4) (N := 4) hx hb X.2.2.2.2.1 iwX4_type_4 X.2.2.2.1 hKK.1 hP 0 rfl rfl 3 (by decide) (X.2.2.2.2.1 _ flX4_type_33) (fun _ h9 => h9) rfl dX4_type_1 ?_
  refine lv_iload_n hx hb dX4_type_4 rfl (lv_at hl 1 rfl) ?_
  refine mcV (rest := []) (wld2 := (wA cI q n d lb xd xl wi sl kp ct gd gl (mX2_append ln ch x1).2.1 (mX2_append ln ch x1).2.2)) (wr := pickAt [0, 1, 2, 3, 4, 5] (wA cI q n d lb xd xl wi sl kp ct gd gl ln ch)) X hKK hP hD hS hA 1 (zX2_append l D cI cC q _ n d lb xd xl ln ch x1 _ rfl) gX4_type_X2_append rfl rfl rfl hdX2_append ⟨Nat.le_of_ble_eq_true rfl, Nat.le_of_ble_eq_true rfl⟩ [6, 7, 8, 9, 10, 11, 12] [0, 1, 2, 3, 4, 5] rfl rfl rfl rfl rfl (by decide) rfl [0, 1, 2, 3, 4, 5, 6, 7, 8, 9, 10, 11, 12] rfl rfl rfl 0 rfl rfl rfl hl.1 rfl (Nat.le_of_ble_eq_true rfl) dX4_type_5 ⟨Nat.zero_le _, Nat.zero_le _⟩ (fun H locs hP hD hS => ?_)
  subst h
  exact mu_ret X rfl rfl hP rfl hS dX4_type_8
def mX4_clearText (ln : Int32)  : (Int32 × Int32) := ((mX2_empty ln).1, (mX2_empty ln).2)
theorem hdX4_clearText : yX4_clearText.cls = RX4 ∧ yX4_clearText.cls ≠ "java/lang/invoke/MethodHandle" ∧ yX4_clearText.cls ≠ "java/lang/invoke/VarHandle" ∧ (parseMethodDescriptor yX4_clearText.desc).map (fun d => d.parameters.length) = some 0 := by decide +kernel
theorem flX4_clearText_33 : Cond.fieldLink RX4 33 "BracketTree" "text" "LBracketTree$Text;" ∈ wsX4_clearText := by decide +kernel
theorem iwX4_clearText_4 : ∀ w ∈ wsX40, w ∈ wsX4_clearText := by decide +kernel
abbrev rmX4_clearText : Room := { frames := 1, cells := 0, slots := 0, locals := 21 }
set_option maxHeartbeats 4000000 in
set_option maxRecDepth 100000 in
theorem zX4_clearText (l : Launch) (D : va_G) (cI cC : ClassId) (q : Nat → Nat) (sz : Nat) (n : Int32) (d : Nat → Int32) (lb : Nat → Int32) (xd : Nat → Int32) (xl : Nat → Int32) (wi : Int32) (sl : Int32) (kp : Int32) (ct : Nat → Int32) (gd : Nat → Int32) (gl : Nat → Int32) (ln : Int32) (ch : Nat → Int32)  (r : Int32 × Int32) (h : mX4_clearText ln = r) : Met l yX4_clearText wsX4_clearText rmX4_clearText (va_Pc [.ref (q 0)] (MB D cI cC sz (wA cI q n d lb xd xl wi sl kp ct gd gl ln ch))) (muQ D (some (.int r.1)) (wA cI q n d lb xd xl wi sl kp ct gd gl r.2 ch) (va_A (wA cI q n d lb xd xl wi sl kp ct gd gl ln ch) sz)) 0 0 (va_A (wA cI q n d lb xd xl wi sl kp ct gd gl ln ch) sz) := by
  refine MetI RX4 (by decide +kernel) rfl rfl (Nat.le_of_ble_eq_true rfl) ?_
  intro p e s m below meth c ls X _ hB hl
  obtain ⟨hsz, ⟨hP, hKK⟩, hD0⟩ := hB
  subst hsz
  have hD := hD0.self (sz := s.heap.size)
  generalize hAe : va_A (wA cI q n d lb xd xl wi sl kp ct gd gl ln ch) s.heap.size = A at hD ⊢
  have hA : ∀ z : Nat, s.heap.size ≤ z → A z := fun z hz => by rw [← hAe]; exact Or.inr hz
  have hS : va_S A s.heap s.heap [] := va_S.rf
  have hx := X.1
  have hb := X.2.1
  replace hl : lv_has ls 1 [(0, .ref (q 0))] := hl
  replace hP : va_P D vwCl (wA cI q n d lb xd xl wi sl kp ct gd gl ln ch) s.heap := hP
  unfold mX4_clearText at h
  refine lv_aload_n hx hb dX4_clearText_0 rfl (lv_at hl 0 rfl) ?_
  refine va_get (D := D) (ci := 4) (v := .ref (q 6)) (C := RX4) (T := TX4) (N := 4) hx hb X.2.2.2.2.1 iwX4_clearText_4 X.2.2.2.1 hKK.1 hP 0 rfl rfl 3 (by decide) (X.2.2.2.2.1 _ flX4_clearText_33) (fun _ h9 => h9) rfl dX4_clearText_1 ?_
  refine mcV (rest := []) (wld2 := (wA cI q n d lb xd xl wi sl kp ct gd gl (mX2_empty ln).2 ch)) (wr := pickAt [0, 1, 2, 3, 4, 5] (wA cI q n d lb xd xl wi sl kp ct gd gl ln ch)) X hKK hP hD hS hA 0 (zX2_empty l D cI cC q _ n d lb xd xl ln ch _ rfl) gX4_clearText_X2_empty rfl rfl rfl hdX2_empty ⟨Nat.le_of_ble_eq_true rfl, Nat.le_of_ble_eq_true rfl⟩ [6, 7, 8, 9, 10, 11, 12] [0, 1, 2, 3, 4, 5] rfl rfl rfl rfl rfl (by decide) rfl [0, 1, 2, 3, 4, 5, 6, 7, 8, 9, 10, 11, 12] rfl rfl rfl 0 rfl rfl rfl hl.1 rfl (Nat.le_of_ble_eq_true rfl) dX4_clearText_4 ⟨Nat.zero_le _, Nat.zero_le _⟩ (fun H locs hP hD hS => ?_)
  subst h
  exact mu_ret X rfl rfl hP rfl hS dX4_clearText_7
def mX4_read (n : Int32) (d : Nat → Int32) (lb : Nat → Int32) (sl : Int32) (kp : Int32) (ct : Nat → Int32) (gd : Nat → Int32) (gl : Nat → Int32) (ln : Int32) (ch : Nat → Int32)  : Option (Int32 × Int32 × (Nat → Int32) × (Nat → Int32) × Int32 × Int32 × (Nat → Int32) × (Nat → Int32) × (Nat → Int32)) := ((mX2_findFault ln ch).bind fun r1 => (if r1 = (iI (-1)) then ((mX1_record n d lb sl kp ct gd gl).bind fun r3 => ((mX2_makeTree n d lb ln ch).bind fun r4 => some ((mX3_count r4.1), r4.1, r4.2.1, r4.2.2, r3.1, r3.2.1, r3.2.2.1, r3.2.2.2.1, r3.2.2.2.2))) else some (((iI (-100)) - r1), n, d, lb, sl, kp, ct, gd, gl)))
theorem hdX4_read : yX4_read.cls = RX4 ∧ yX4_read.cls ≠ "java/lang/invoke/MethodHandle" ∧ yX4_read.cls ≠ "java/lang/invoke/VarHandle" ∧ (parseMethodDescriptor yX4_read.desc).map (fun d => d.parameters.length) = some 0 := by decide +kernel
theorem flX4_read_33 : Cond.fieldLink RX4 33 "BracketTree" "text" "LBracketTree$Text;" ∈ wsX4_read := by decide +kernel
theorem iwX4_read_4 : ∀ w ∈ wsX40, w ∈ wsX4_read := by decide +kernel
theorem flX4_read_26 : Cond.fieldLink RX4 26 "BracketTree" "history" "LBracketTree$History;" ∈ wsX4_read := by decide +kernel
theorem flX4_read_10 : Cond.fieldLink RX4 10 "BracketTree" "tree" "LBracketTree$Tree;" ∈ wsX4_read := by decide +kernel
abbrev rmX4_read : Room := { frames := 4, cells := 0, slots := 0, locals := 90 }
set_option maxHeartbeats 4000000 in
set_option maxRecDepth 100000 in
theorem zX4_read (l : Launch) (D : va_G) (cI cC : ClassId) (q : Nat → Nat) (sz : Nat) (n : Int32) (d : Nat → Int32) (lb : Nat → Int32) (xd : Nat → Int32) (xl : Nat → Int32) (wi : Int32) (sl : Int32) (kp : Int32) (ct : Nat → Int32) (gd : Nat → Int32) (gl : Nat → Int32) (ln : Int32) (ch : Nat → Int32)  (r : Int32 × Int32 × (Nat → Int32) × (Nat → Int32) × Int32 × Int32 × (Nat → Int32) × (Nat → Int32) × (Nat → Int32)) (h : mX4_read n d lb sl kp ct gd gl ln ch = some r) : Met l yX4_read wsX4_read rmX4_read (va_Pc [.ref (q 0)] (MB D cI cC sz (wA cI q n d lb xd xl wi sl kp ct gd gl ln ch))) (muQ D (some (.int r.1)) (wA cI q r.2.1 r.2.2.1 r.2.2.2.1 xd xl wi r.2.2.2.2.1 r.2.2.2.2.2.1 r.2.2.2.2.2.2.1 r.2.2.2.2.2.2.2.1 r.2.2.2.2.2.2.2.2 ln ch) (va_A (wA cI q n d lb xd xl wi sl kp ct gd gl ln ch) sz)) 0 0 (va_A (wA cI q n d lb xd xl wi sl kp ct gd gl ln ch) sz) := by
  refine MetI RX4 (by decide +kernel) rfl rfl (Nat.le_of_ble_eq_true rfl) ?_
  intro p e s m below meth c ls X _ hB hl
  obtain ⟨hsz, ⟨hP, hKK⟩, hD0⟩ := hB
  subst hsz
  have hD := hD0.self (sz := s.heap.size)
  generalize hAe : va_A (wA cI q n d lb xd xl wi sl kp ct gd gl ln ch) s.heap.size = A at hD ⊢
  have hA : ∀ z : Nat, s.heap.size ≤ z → A z := fun z hz => by rw [← hAe]; exact Or.inr hz
  have hS : va_S A s.heap s.heap [] := va_S.rf
  have hx := X.1
  have hb := X.2.1
  replace hl : lv_has ls 2 [(0, .ref (q 0))] := hl
  replace hP : va_P D vwCl (wA cI q n d lb xd xl wi sl kp ct gd gl ln ch) s.heap := hP
  unfold mX4_read at h
  refine lv_aload_n hx hb dX4_read_0 rfl (lv_at hl 0 rfl) ?_
  refine va_get (D := D) (ci := 4) (v := .ref (q 6)) (C := RX4) (T := TX4) (N := 4) hx hb X.2.2.2.2.1 iwX4_read_4 X.2.2.2.1 hKK.1 hP 0 rfl rfl 3 (by decide) (X.2.2.2.2.1 _ flX4_read_33) (fun _ h9 => h9) rfl dX4_read_1 ?_
  obtain ⟨r1, h_r1, h⟩ := obd h
  refine rcV (rest := []) X hKK hP 0 (zX2_findFault l D cI cC q n d lb xd xl ln ch r1 h_r1) gX4_read_X2_findFault rfl rfl rfl hdX2_findFault ⟨Nat.le_of_ble_eq_true rfl, Nat.le_of_ble_eq_true rfl⟩ [6, 7, 8, 9, 10, 11, 12] rfl 0 rfl rfl rfl hl.1 rfl (Nat.le_of_ble_eq_true rfl) dX4_read_4 ⟨Nat.zero_le _, Nat.zero_le _⟩ ?_
  refine lv_istore_n (lv' := [(1, .int r1), (0, .ref (q 0))]) hx hb dX4_read_7 rfl hl (by decide) rfl (fun ls hl => ?_)
  refine lv_iload_n hx hb dX4_read_8 rfl (lv_at hl 0 rfl) ?_
  refine lv_iconst (v := iI (-1)) hx hb dX4_read_9 rfl ?_
  refine lv_icmp_eq (tgt := 18) hx hb dX4_read_10 (by decide) (fun c2 => ?_) (fun c2 => ?_)
  · replace h := ifp c2 h
    refine lv_aload_n hx hb dX4_read_18 rfl (lv_at hl 1 rfl) ?_
    refine va_get (D := D) (ci := 4) (v := .ref (q 2)) (C := RX4) (T := TX4) (N := 4) hx hb X.2.2.2.2.1 iwX4_read_4 X.2.2.2.1 hKK.1 hP 0 rfl rfl 2 (by decide) (X.2.2.2.2.1 _ flX4_read_26) (fun _ h9 => h9) rfl dX4_read_19 ?_
    refine lv_aload_n hx hb dX4_read_22 rfl (lv_at hl 1 rfl) ?_
    refine va_get (D := D) (ci := 4) (v := .ref (q 8)) (C := RX4) (T := TX4) (N := 4) hx hb X.2.2.2.2.1 iwX4_read_4 X.2.2.2.1 hKK.1 hP 0 rfl rfl 0 (by decide) (X.2.2.2.2.1 _ flX4_read_10) (fun _ h9 => h9) rfl dX4_read_23 ?_
    obtain ⟨r3, h_r3, h⟩ := obd h
    refine mcV (rest := []) (wld2 := (wA cI q n d lb xd xl wi r3.1 r3.2.1 r3.2.2.1 r3.2.2.2.1 r3.2.2.2.2 ln ch)) (wr := pickAt [0, 1, 6, 7] (wA cI q n d lb xd xl wi sl kp ct gd gl ln ch)) X hKK hP hD hS hA 1 (zX1_record l D cI cC q _ n d lb xd xl sl kp ct gd gl r3 h_r3) gX4_read_X1_record rfl rfl rfl hdX1_record ⟨Nat.le_of_ble_eq_true rfl, Nat.le_of_ble_eq_true rfl⟩ [2, 3, 4, 5, 8, 9, 10, 11, 12] [0, 1, 6, 7] rfl rfl rfl rfl rfl (by decide) rfl [0, 1, 4, 5, 6, 7, 2, 3, 8, 9, 10, 11, 12] rfl rfl rfl 0 rfl rfl rfl hl.1 rfl (Nat.le_of_ble_eq_true rfl) dX4_read_26 ⟨Nat.zero_le _, Nat.zero_le _⟩ (fun H locs hP hD hS => ?_)
    refine lv_aload_n hx hb dX4_read_29 rfl (lv_at hl 1 rfl) ?_
    refine va_get (D := D) (ci := 4) (v := .ref (q 6)) (C := RX4) (T := TX4) (N := 4) hx hb X.2.2.2.2.1 iwX4_read_4 X.2.2.2.1 hKK.1 hP 0 rfl rfl 3 (by decide) (X.2.2.2.2.1 _ flX4_read_33) (fun _ h9 => h9) rfl dX4_read_30 ?_
    refine lv_aload_n hx hb dX4_read_33 rfl (lv_at hl 1 rfl) ?_
    refine va_get (D := D) (ci := 4) (v := .ref (q 8)) (C := RX4) (T := TX4) (N := 4) hx hb X.2.2.2.2.1 iwX4_read_4 X.2.2.2.1 hKK.1 hP 0 rfl rfl 0 (by decide) (X.2.2.2.2.1 _ flX4_read_10) (fun _ h9 => h9) rfl dX4_read_34 ?_
    obtain ⟨r4, h_r4, h⟩ := obd h
    refine mcV (rest := []) (wld2 := (wA cI q r4.1 r4.2.1 r4.2.2 xd xl wi r3.1 r3.2.1 r3.2.2.1 r3.2.2.2.1 r3.2.2.2.2 ln ch)) (wr := pickAt [0, 1, 2, 3, 4, 5] (wA cI q n d lb xd xl wi r3.1 r3.2.1 r3.2.2.1 r3.2.2.2.1 r3.2.2.2.2 ln ch)) X hKK hP hD hS hA 1 (zX2_makeTree l D cI cC q _ n d lb xd xl ln ch r4 h_r4) gX4_read_X2_makeTree rfl rfl rfl hdX2_makeTree ⟨Nat.le_of_ble_eq_true rfl, Nat.le_of_ble_eq_true rfl⟩ [6, 7, 8, 9, 10, 11, 12] [0, 1, 2, 3, 4, 5] rfl rfl rfl rfl rfl (by decide) rfl [0, 1, 2, 3, 4, 5, 6, 7, 8, 9, 10, 11, 12] rfl rfl rfl 0 rfl rfl rfl hl.1 rfl (Nat.le_of_ble_eq_true rfl) dX4_read_37 ⟨Nat.zero_le _, Nat.zero_le _⟩ (fun H locs hP hD hS => ?_)
    refine lv_aload_n hx hb dX4_read_40 rfl (lv_at hl 1 rfl) ?_
    refine va_get (D := D) (ci := 4) (v := .ref (q 8)) (C := RX4) (T := TX4) (N := 4) hx hb X.2.2.2.2.1 iwX4_read_4 X.2.2.2.1 hKK.1 hP 0 rfl rfl 0 (by decide) (X.2.2.2.2.1 _ flX4_read_10) (fun _ h9 => h9) rfl dX4_read_41 ?_
    refine rcV (rest := []) X hKK hP 0 (zX3_count l D cI cC q r4.1 r4.2.1 r4.2.2 xd xl _ rfl) gX4_read_X3_count rfl rfl rfl hdX3_count ⟨Nat.le_of_ble_eq_true rfl, Nat.le_of_ble_eq_true rfl⟩ [8, 9, 10, 11, 12] rfl 0 rfl rfl rfl hl.1 rfl (Nat.le_of_ble_eq_true rfl) dX4_read_44 ⟨Nat.zero_le _, Nat.zero_le _⟩ ?_
    replace h := Option.some.inj h
    subst h
    exact mu_ret X rfl rfl hP rfl hS dX4_read_47
  · replace h := ifn c2 h
    refine lv_bipush (v := iI (-100)) hx hb dX4_read_13 (by decide) ?_
    refine lv_iload_n hx hb dX4_read_15 rfl (lv_at hl 0 rfl) ?_
    refine lv_isub hx hb dX4_read_16 ?_
    replace h := Option.some.inj h
    subst h
    exact mu_ret X rfl rfl hP rfl hS dX4_read_17
def mX4_written (n : Int32) (d : Nat → Int32) (lb : Nat → Int32) (x1 : Int32) : Option (Int32) := (if (iI (-1)) ≤ x1 then (if x1 = (iI (-1)) then ((mX3_writtenLength n d).bind fun r4 => some r4) else ((mX3_writtenAt n d lb x1).bind fun r3 => some r3)) else some (iI (-2)))
theorem hdX4_written : yX4_written.cls = RX4 ∧ yX4_written.cls ≠ "java/lang/invoke/MethodHandle" ∧ yX4_written.cls ≠ "java/lang/invoke/VarHandle" ∧ (parseMethodDescriptor yX4_written.desc).map (fun d => d.parameters.length) = some 1 := by decide +kernel
theorem flX4_written_10 : Cond.fieldLink RX4 10 "BracketTree" "tree" "LBracketTree$Tree;" ∈ wsX4_written := by decide +kernel
theorem iwX4_written_4 : ∀ w ∈ wsX40, w ∈ wsX4_written := by decide +kernel
abbrev rmX4_written : Room := { frames := 5, cells := 0, slots := 0, locals := 108 }
set_option maxHeartbeats 4000000 in
set_option maxRecDepth 100000 in
theorem zX4_written (l : Launch) (D : va_G) (cI cC : ClassId) (q : Nat → Nat) (n : Int32) (d : Nat → Int32) (lb : Nat → Int32) (xd : Nat → Int32) (xl : Nat → Int32) (wi : Int32) (sl : Int32) (kp : Int32) (ct : Nat → Int32) (gd : Nat → Int32) (gl : Nat → Int32) (ln : Int32) (ch : Nat → Int32) (x1 : Int32) (r : Int32) (h : mX4_written n d lb x1 = some r) : Met l yX4_written wsX4_written rmX4_written (va_Pc [.ref (q 0), .int x1] (BW D cI cC (wA cI q n d lb xd xl wi sl kp ct gd gl ln ch))) (rdQ r) 0 0 (fun _ => False) := by
  refine MetI RX4 (by decide +kernel) rfl rfl (Nat.le_of_ble_eq_true rfl) ?_
  intro p e s m below meth c ls X _ hB hl
  obtain ⟨hP, hKK⟩ := hB
  have hx := X.1
  have hb := X.2.1
  replace hl : lv_has ls 2 [(0, .ref (q 0)), (1, .int x1)] := hl
  unfold mX4_written at h
  refine lv_iload_n hx hb dX4_written_0 rfl (lv_at hl 1 rfl) ?_
  refine lv_iconst (v := iI (-1)) hx hb dX4_written_1 rfl ?_
  refine lv_icmp_ge (tgt := 8) hx hb dX4_written_2 (by decide) (fun c1 => ?_) (fun c1 => ?_)
  · replace h := ifp c1 h
    refine lv_iload_n hx hb dX4_written_8 rfl (lv_at hl 1 rfl) ?_
    refine lv_iconst (v := iI (-1)) hx hb dX4_written_9 rfl ?_
    refine lv_icmp_ne (tgt := 23) hx hb dX4_written_10 (by decide) (fun c2 => ?_) (fun c2 => ?_)
    · replace h := ifn c2 h
      refine lv_aload_n hx hb dX4_written_23 rfl (lv_at hl 0 rfl) ?_
      refine va_get (D := D) (ci := 4) (v := .ref (q 8)) (C := RX4) (T := TX4) (N := 4) hx hb X.2.2.2.2.1 iwX4_written_4 X.2.2.2.1 hKK.1 hP 0 rfl rfl 0 (by decide) (X.2.2.2.2.1 _ flX4_written_10) (fun _ h9 => h9) rfl dX4_written_24 ?_
      refine lv_iload_n hx hb dX4_written_27 rfl (lv_at hl 1 rfl) ?_
      obtain ⟨r3, h_r3, h⟩ := obd h
      refine rcV (rest := []) X hKK hP 1 (zX3_writtenAt l D cI cC q n d lb xd xl x1 r3 h_r3) gX4_written_X3_writtenAt rfl rfl rfl hdX3_writtenAt ⟨Nat.le_of_ble_eq_true rfl, Nat.le_of_ble_eq_true rfl⟩ [8, 9, 10, 11, 12] rfl 0 rfl rfl rfl hl.1 rfl (Nat.le_of_ble_eq_true rfl) dX4_written_28 ⟨Nat.zero_le _, Nat.zero_le _⟩ ?_
      exact rd_ret X rfl (Option.some.inj h) dX4_written_31
    · replace h := ifp c2 h
      refine lv_aload_n hx hb dX4_written_13 rfl (lv_at hl 0 rfl) ?_
      refine va_get (D := D) (ci := 4) (v := .ref (q 8)) (C := RX4) (T := TX4) (N := 4) hx hb X.2.2.2.2.1 iwX4_written_4 X.2.2.2.1 hKK.1 hP 0 rfl rfl 0 (by decide) (X.2.2.2.2.1 _ flX4_written_10) (fun _ h9 => h9) rfl dX4_written_14 ?_
      obtain ⟨r4, h_r4, h⟩ := obd h
      refine rcV (rest := []) X hKK hP 0 (zX3_writtenLength l D cI cC q n d lb xd xl r4 h_r4) gX4_written_X3_writtenLength rfl rfl rfl hdX3_writtenLength ⟨Nat.le_of_ble_eq_true rfl, Nat.le_of_ble_eq_true rfl⟩ [8, 9, 10, 11, 12] rfl 0 rfl rfl rfl hl.1 rfl (Nat.le_of_ble_eq_true rfl) dX4_written_17 ⟨Nat.zero_le _, Nat.zero_le _⟩ ?_
      refine lv_goto (tgt := 31) hx hb dX4_written_20 (by decide) ?_
      exact rd_ret X rfl (Option.some.inj h) dX4_written_31
  · replace h := ifn c1 h
    refine lv_bipush (v := iI (-2)) hx hb dX4_written_5 (by decide) ?_
    exact rd_ret X rfl (Option.some.inj h) dX4_written_7
def mX4_size (n : Int32)  : (Int32) := (mX3_count n)
theorem hdX4_size : yX4_size.cls = RX4 ∧ yX4_size.cls ≠ "java/lang/invoke/MethodHandle" ∧ yX4_size.cls ≠ "java/lang/invoke/VarHandle" ∧ (parseMethodDescriptor yX4_size.desc).map (fun d => d.parameters.length) = some 0 := by decide +kernel
theorem flX4_size_10 : Cond.fieldLink RX4 10 "BracketTree" "tree" "LBracketTree$Tree;" ∈ wsX4_size := by decide +kernel
theorem iwX4_size_4 : ∀ w ∈ wsX40, w ∈ wsX4_size := by decide +kernel
abbrev rmX4_size : Room := { frames := 1, cells := 0, slots := 0, locals := 20 }
set_option maxHeartbeats 4000000 in
set_option maxRecDepth 100000 in
theorem zX4_size (l : Launch) (D : va_G) (cI cC : ClassId) (q : Nat → Nat) (n : Int32) (d : Nat → Int32) (lb : Nat → Int32) (xd : Nat → Int32) (xl : Nat → Int32) (wi : Int32) (sl : Int32) (kp : Int32) (ct : Nat → Int32) (gd : Nat → Int32) (gl : Nat → Int32) (ln : Int32) (ch : Nat → Int32)  (r : Int32) (h : mX4_size n = r) : Met l yX4_size wsX4_size rmX4_size (va_Pc [.ref (q 0)] (BW D cI cC (wA cI q n d lb xd xl wi sl kp ct gd gl ln ch))) (rdQ r) 0 0 (fun _ => False) := by
  refine MetI RX4 (by decide +kernel) rfl rfl (Nat.le_of_ble_eq_true rfl) ?_
  intro p e s m below meth c ls X _ hB hl
  obtain ⟨hP, hKK⟩ := hB
  have hx := X.1
  have hb := X.2.1
  replace hl : lv_has ls 1 [(0, .ref (q 0))] := hl
  unfold mX4_size at h
  refine lv_aload_n hx hb dX4_size_0 rfl (lv_at hl 0 rfl) ?_
  refine va_get (D := D) (ci := 4) (v := .ref (q 8)) (C := RX4) (T := TX4) (N := 4) hx hb X.2.2.2.2.1 iwX4_size_4 X.2.2.2.1 hKK.1 hP 0 rfl rfl 0 (by decide) (X.2.2.2.2.1 _ flX4_size_10) (fun _ h9 => h9) rfl dX4_size_1 ?_
  refine rcV (rest := []) X hKK hP 0 (zX3_count l D cI cC q n d lb xd xl _ rfl) gX4_size_X3_count rfl rfl rfl hdX3_count ⟨Nat.le_of_ble_eq_true rfl, Nat.le_of_ble_eq_true rfl⟩ [8, 9, 10, 11, 12] rfl 0 rfl rfl rfl hl.1 rfl (Nat.le_of_ble_eq_true rfl) dX4_size_4 ⟨Nat.zero_le _, Nat.zero_le _⟩ ?_
  exact rd_ret X rfl h dX4_size_7
def mX4_node (n : Int32) (d : Nat → Int32) (lb : Nat → Int32) (x1 : Int32) (x2 : Int32) : Option (Int32) := (if (mX3_has n x1) = 0 then some (iI (-1)) else (if x2 = iI 0 then some (mX3_depthOf n d x1) else (if x2 = iI 1 then ((mX3_parentOf n d x1).bind fun r4 => some r4) else (if x2 = iI 2 then ((mX3_childCount n d x1).bind fun r6 => some r6) else (if x2 = iI 3 then ((mX3_sizeOf n d x1).bind fun r8 => some r8) else (if x2 = iI 4 then ((mX3_deepestOf n d x1).bind fun r10 => some ((mX3_depthOf n d r10) - (mX3_depthOf n d x1))) else (if x2 = iI 5 then ((mX3_placeOf n d x1).bind fun r12 => some r12) else (if x2 = iI 6 then ((mX3_leafCount n d x1).bind fun r14 => some r14) else (if x2 = iI 7 then some (mX3_openingOf n d x1) else (if x2 = iI 8 then ((mX3_closingOf n d x1).bind fun r17 => some r17) else (if x2 = iI 9 then ((mX3_postorderOf n d x1).bind fun r19 => some r19) else (if x2 = iI 10 then some (mX3_labelOf lb x1) else some (iI (-2))))))))))))))
theorem hdX4_node : yX4_node.cls = RX4 ∧ yX4_node.cls ≠ "java/lang/invoke/MethodHandle" ∧ yX4_node.cls ≠ "java/lang/invoke/VarHandle" ∧ (parseMethodDescriptor yX4_node.desc).map (fun d => d.parameters.length) = some 2 := by decide +kernel
theorem flX4_node_10 : Cond.fieldLink RX4 10 "BracketTree" "tree" "LBracketTree$Tree;" ∈ wsX4_node := by decide +kernel
theorem iwX4_node_4 : ∀ w ∈ wsX40, w ∈ wsX4_node := by decide +kernel
abbrev rmX4_node : Room := { frames := 5, cells := 0, slots := 0, locals := 107 }
set_option maxHeartbeats 4000000 in
set_option maxRecDepth 100000 in
theorem zX4_node (l : Launch) (D : va_G) (cI cC : ClassId) (q : Nat → Nat) (n : Int32) (d : Nat → Int32) (lb : Nat → Int32) (xd : Nat → Int32) (xl : Nat → Int32) (wi : Int32) (sl : Int32) (kp : Int32) (ct : Nat → Int32) (gd : Nat → Int32) (gl : Nat → Int32) (ln : Int32) (ch : Nat → Int32) (x1 : Int32) (x2 : Int32) (r : Int32) (h : mX4_node n d lb x1 x2 = some r) : Met l yX4_node wsX4_node rmX4_node (va_Pc [.ref (q 0), .int x1, .int x2] (BW D cI cC (wA cI q n d lb xd xl wi sl kp ct gd gl ln ch))) (rdQ r) 0 0 (fun _ => False) := by
  refine MetI RX4 (by decide +kernel) rfl rfl (Nat.le_of_ble_eq_true rfl) ?_
  intro p e s m below meth c ls X _ hB hl
  obtain ⟨hP, hKK⟩ := hB
  have hx := X.1
  have hb := X.2.1
  replace hl : lv_has ls 3 [(0, .ref (q 0)), (1, .int x1), (2, .int x2)] := hl
  unfold mX4_node at h
  refine lv_aload_n hx hb dX4_node_0 rfl (lv_at hl 0 rfl) ?_
  refine va_get (D := D) (ci := 4) (v := .ref (q 8)) (C := RX4) (T := TX4) (N := 4) hx hb X.2.2.2.2.1 iwX4_node_4 X.2.2.2.1 hKK.1 hP 0 rfl rfl 0 (by decide) (X.2.2.2.2.1 _ flX4_node_10) (fun _ h9 => h9) rfl dX4_node_1 ?_
  refine lv_iload_n hx hb dX4_node_4 rfl (lv_at hl 1 rfl) ?_
  refine rcV (rest := []) X hKK hP 1 (zX3_has l D cI cC q n d lb xd xl x1 _ rfl) gX4_node_X3_has rfl rfl rfl hdX3_has ⟨Nat.le_of_ble_eq_true rfl, Nat.le_of_ble_eq_true rfl⟩ [8, 9, 10, 11, 12] rfl 0 rfl rfl rfl hl.1 rfl (Nat.le_of_ble_eq_true rfl) dX4_node_5 ⟨Nat.zero_le _, Nat.zero_le _⟩ ?_
  refine lv_if_ne (tgt := 13) hx hb dX4_node_8 (by decide) (fun c1 => ?_) (fun c1 => ?_)
  · replace h := ifn c1 h
    refine lv_iload_n hx hb dX4_node_13 rfl (lv_at hl 2 rfl) ?_
    by_cases c2 : x2 = iI 0
    · replace h := ifp c2 h
      refine lv_tableIn (tgt := 72) hx hb dX4_node_14 (by rw [c2]; decide) (by rw [c2]; decide) (by rw [c2]; rfl) (by decide) ?_
      refine lv_aload_n hx hb dX4_node_72 rfl (lv_at hl 0 rfl) ?_
      refine va_get (D := D) (ci := 4) (v := .ref (q 8)) (C := RX4) (T := TX4) (N := 4) hx hb X.2.2.2.2.1 iwX4_node_4 X.2.2.2.1 hKK.1 hP 0 rfl rfl 0 (by decide) (X.2.2.2.2.1 _ flX4_node_10) (fun _ h9 => h9) rfl dX4_node_73 ?_
      refine lv_iload_n hx hb dX4_node_76 rfl (lv_at hl 1 rfl) ?_
      refine rcV (rest := []) X hKK hP 1 (zX3_depthOf l D cI cC q n d lb xd xl x1 _ rfl) gX4_node_X3_depthOf rfl rfl rfl hdX3_depthOf ⟨Nat.le_of_ble_eq_true rfl, Nat.le_of_ble_eq_true rfl⟩ [8, 9, 10, 11, 12] rfl 0 rfl rfl rfl hl.1 rfl (Nat.le_of_ble_eq_true rfl) dX4_node_77 ⟨Nat.zero_le _, Nat.zero_le _⟩ ?_
      exact rd_ret X rfl (Option.some.inj h) dX4_node_80
    replace h := ifn c2 h
    by_cases c3 : x2 = iI 1
    · replace h := ifp c3 h
      refine lv_tableIn (tgt := 81) hx hb dX4_node_14 (by rw [c3]; decide) (by rw [c3]; decide) (by rw [c3]; rfl) (by decide) ?_
      refine lv_aload_n hx hb dX4_node_81 rfl (lv_at hl 0 rfl) ?_
      refine va_get (D := D) (ci := 4) (v := .ref (q 8)) (C := RX4) (T := TX4) (N := 4) hx hb X.2.2.2.2.1 iwX4_node_4 X.2.2.2.1 hKK.1 hP 0 rfl rfl 0 (by decide) (X.2.2.2.2.1 _ flX4_node_10) (fun _ h9 => h9) rfl dX4_node_82 ?_
      refine lv_iload_n hx hb dX4_node_85 rfl (lv_at hl 1 rfl) ?_
      obtain ⟨r4, h_r4, h⟩ := obd h
      refine rcV (rest := []) X hKK hP 1 (zX3_parentOf l D cI cC q n d lb xd xl x1 r4 h_r4) gX4_node_X3_parentOf rfl rfl rfl hdX3_parentOf ⟨Nat.le_of_ble_eq_true rfl, Nat.le_of_ble_eq_true rfl⟩ [8, 9, 10, 11, 12] rfl 0 rfl rfl rfl hl.1 rfl (Nat.le_of_ble_eq_true rfl) dX4_node_86 ⟨Nat.zero_le _, Nat.zero_le _⟩ ?_
      exact rd_ret X rfl (Option.some.inj h) dX4_node_89
    replace h := ifn c3 h
    by_cases c5 : x2 = iI 2
    · replace h := ifp c5 h
      refine lv_tableIn (tgt := 90) hx hb dX4_node_14 (by rw [c5]; decide) (by rw [c5]; decide) (by rw [c5]; rfl) (by decide) ?_
      refine lv_aload_n hx hb dX4_node_90 rfl (lv_at hl 0 rfl) ?_
      refine va_get (D := D) (ci := 4) (v := .ref (q 8)) (C := RX4) (T := TX4) (N := 4) hx hb X.2.2.2.2.1 iwX4_node_4 X.2.2.2.1 hKK.1 hP 0 rfl rfl 0 (by decide) (X.2.2.2.2.1 _ flX4_node_10) (fun _ h9 => h9) rfl dX4_node_91 ?_
      refine lv_iload_n hx hb dX4_node_94 rfl (lv_at hl 1 rfl) ?_
      obtain ⟨r6, h_r6, h⟩ := obd h
      refine rcV (rest := []) X hKK hP 1 (zX3_childCount l D cI cC q n d lb xd xl x1 r6 h_r6) gX4_node_X3_childCount rfl rfl rfl hdX3_childCount ⟨Nat.le_of_ble_eq_true rfl, Nat.le_of_ble_eq_true rfl⟩ [8, 9, 10, 11, 12] rfl 0 rfl rfl rfl hl.1 rfl (Nat.le_of_ble_eq_true rfl) dX4_node_95 ⟨Nat.zero_le _, Nat.zero_le _⟩ ?_
      exact rd_ret X rfl (Option.some.inj h) dX4_node_98
    replace h := ifn c5 h
    by_cases c7 : x2 = iI 3
    · replace h := ifp c7 h
      refine lv_tableIn (tgt := 99) hx hb dX4_node_14 (by rw [c7]; decide) (by rw [c7]; decide) (by rw [c7]; rfl) (by decide) ?_
      refine lv_aload_n hx hb dX4_node_99 rfl (lv_at hl 0 rfl) ?_
      refine va_get (D := D) (ci := 4) (v := .ref (q 8)) (C := RX4) (T := TX4) (N := 4) hx hb X.2.2.2.2.1 iwX4_node_4 X.2.2.2.1 hKK.1 hP 0 rfl rfl 0 (by decide) (X.2.2.2.2.1 _ flX4_node_10) (fun _ h9 => h9) rfl dX4_node_100 ?_
      refine lv_iload_n hx hb dX4_node_103 rfl (lv_at hl 1 rfl) ?_
      obtain ⟨r8, h_r8, h⟩ := obd h
      refine rcV (rest := []) X hKK hP 1 (zX3_sizeOf l D cI cC q n d lb xd xl x1 r8 h_r8) gX4_node_X3_sizeOf rfl rfl rfl hdX3_sizeOf ⟨Nat.le_of_ble_eq_true rfl, Nat.le_of_ble_eq_true rfl⟩ [8, 9, 10, 11, 12] rfl 0 rfl rfl rfl hl.1 rfl (Nat.le_of_ble_eq_true rfl) dX4_node_104 ⟨Nat.zero_le _, Nat.zero_le _⟩ ?_
      exact rd_ret X rfl (Option.some.inj h) dX4_node_107
    replace h := ifn c7 h
    by_cases c9 : x2 = iI 4
    · replace h := ifp c9 h
      refine lv_tableIn (tgt := 108) hx hb dX4_node_14 (by rw [c9]; decide) (by rw [c9]; decide) (by rw [c9]; rfl) (by decide) ?_
      refine lv_aload_n hx hb dX4_node_108 rfl (lv_at hl 0 rfl) ?_
      refine va_get (D := D) (ci := 4) (v := .ref (q 8)) (C := RX4) (T := TX4) (N := 4) hx hb X.2.2.2.2.1 iwX4_node_4 X.2.2.2.1 hKK.1 hP 0 rfl rfl 0 (by decide) (X.2.2.2.2.1 _ flX4_node_10) (fun _ h9 => h9) rfl dX4_node_109 ?_
      refine lv_aload_n hx hb dX4_node_112 rfl (lv_at hl 0 rfl) ?_
      refine va_get (D := D) (ci := 4) (v := .ref (q 8)) (C := RX4) (T := TX4) (N := 4) hx hb X.2.2.2.2.1 iwX4_node_4 X.2.2.2.1 hKK.1 hP 0 rfl rfl 0 (by decide) (X.2.2.2.2.1 _ flX4_node_10) (fun _ h9 => h9) rfl dX4_node_113 ?_
      refine lv_iload_n hx hb dX4_node_116 rfl (lv_at hl 1 rfl) ?_
      obtain ⟨r10, h_r10, h⟩ := obd h
      refine rcV (rest := [.ref (q 8)]) X hKK hP 1 (zX3_deepestOf l D cI cC q n d lb xd xl x1 r10 h_r10) gX4_node_X3_deepestOf rfl rfl rfl hdX3_deepestOf ⟨Nat.le_of_ble_eq_true rfl, Nat.le_of_ble_eq_true rfl⟩ [8, 9, 10, 11, 12] rfl 0 rfl rfl rfl hl.1 rfl (Nat.le_of_ble_eq_true rfl) dX4_node_117 ⟨Nat.zero_le _, Nat.zero_le _⟩ ?_
      refine rcV (rest := []) X hKK hP 1 (zX3_depthOf l D cI cC q n d lb xd xl r10 _ rfl) gX4_node_X3_depthOf rfl rfl rfl hdX3_depthOf ⟨Nat.le_of_ble_eq_true rfl, Nat.le_of_ble_eq_true rfl⟩ [8, 9, 10, 11, 12] rfl 0 rfl rfl rfl hl.1 rfl (Nat.le_of_ble_eq_true rfl) dX4_node_120 ⟨Nat.zero_le _, Nat.zero_le _⟩ ?_
      refine lv_aload_n hx hb dX4_node_123 rfl (lv_at hl 0 rfl) ?_
      refine va_get (D := D) (ci := 4) (v := .ref (q 8)) (C := RX4) (T := TX4) (N := 4) hx hb X.2.2.2.2.1 iwX4_node_4 X.2.2.2.1 hKK.1 hP 0 rfl rfl 0 (by decide) (X.2.2.2.2.1 _ flX4_node_10) (fun _ h9 => h9) rfl dX4_node_124 ?_
      refine lv_iload_n hx hb dX4_node_127 rfl (lv_at hl 1 rfl) ?_
      refine rcV (rest := [.int (mX3_depthOf n d r10)]) X hKK hP 1 (zX3_depthOf l D cI cC q n d lb xd xl x1 _ rfl) gX4_node_X3_depthOf rfl rfl rfl hdX3_depthOf ⟨Nat.le_of_ble_eq_true rfl, Nat.le_of_ble_eq_true rfl⟩ [8, 9, 10, 11, 12] rfl 0 rfl rfl rfl hl.1 rfl (Nat.le_of_ble_eq_true rfl) dX4_node_128 ⟨Nat.zero_le _, Nat.zero_le _⟩ ?_
      refine lv_isub hx hb dX4_node_131 ?_
      exact rd_ret X rfl (Option.some.inj h) dX4_node_132
    replace h := ifn c9 h
    by_cases c11 : x2 = iI 5
    · replace h := ifp c11 h
      refine lv_tableIn (tgt := 133) hx hb dX4_node_14 (by rw [c11]; decide) (by rw [c11]; decide) (by rw [c11]; rfl) (by decide) ?_
      refine lv_aload_n hx hb dX4_node_133 rfl (lv_at hl 0 rfl) ?_
      refine va_get (D := D) (ci := 4) (v := .ref (q 8)) (C := RX4) (T := TX4) (N := 4) hx hb X.2.2.2.2.1 iwX4_node_4 X.2.2.2.1 hKK.1 hP 0 rfl rfl 0 (by decide) (X.2.2.2.2.1 _ flX4_node_10) (fun _ h9 => h9) rfl dX4_node_134 ?_
      refine lv_iload_n hx hb dX4_node_137 rfl (lv_at hl 1 rfl) ?_
      obtain ⟨r12, h_r12, h⟩ := obd h
      refine rcV (rest := []) X hKK hP 1 (zX3_placeOf l D cI cC q n d lb xd xl x1 r12 h_r12) gX4_node_X3_placeOf rfl rfl rfl hdX3_placeOf ⟨Nat.le_of_ble_eq_true rfl, Nat.le_of_ble_eq_true rfl⟩ [8, 9, 10, 11, 12] rfl 0 rfl rfl rfl hl.1 rfl (Nat.le_of_ble_eq_true rfl) dX4_node_138 ⟨Nat.zero_le _, Nat.zero_le _⟩ ?_
      exact rd_ret X rfl (Option.some.inj h) dX4_node_141
    replace h := ifn c11 h
    by_cases c13 : x2 = iI 6
    · replace h := ifp c13 h
      refine lv_tableIn (tgt := 142) hx hb dX4_node_14 (by rw [c13]; decide) (by rw [c13]; decide) (by rw [c13]; rfl) (by decide) ?_
      refine lv_aload_n hx hb dX4_node_142 rfl (lv_at hl 0 rfl) ?_
      refine va_get (D := D) (ci := 4) (v := .ref (q 8)) (C := RX4) (T := TX4) (N := 4) hx hb X.2.2.2.2.1 iwX4_node_4 X.2.2.2.1 hKK.1 hP 0 rfl rfl 0 (by decide) (X.2.2.2.2.1 _ flX4_node_10) (fun _ h9 => h9) rfl dX4_node_143 ?_
      refine lv_iload_n hx hb dX4_node_146 rfl (lv_at hl 1 rfl) ?_
      obtain ⟨r14, h_r14, h⟩ := obd h
      refine rcV (rest := []) X hKK hP 1 (zX3_leafCount l D cI cC q n d lb xd xl x1 r14 h_r14) gX4_node_X3_leafCount rfl rfl rfl hdX3_leafCount ⟨Nat.le_of_ble_eq_true rfl, Nat.le_of_ble_eq_true rfl⟩ [8, 9, 10, 11, 12] rfl 0 rfl rfl rfl hl.1 rfl (Nat.le_of_ble_eq_true rfl) dX4_node_147 ⟨Nat.zero_le _, Nat.zero_le _⟩ ?_
      exact rd_ret X rfl (Option.some.inj h) dX4_node_150
    replace h := ifn c13 h
    by_cases c15 : x2 = iI 7
    · replace h := ifp c15 h
      refine lv_tableIn (tgt := 151) hx hb dX4_node_14 (by rw [c15]; decide) (by rw [c15]; decide) (by rw [c15]; rfl) (by decide) ?_
      refine lv_aload_n hx hb dX4_node_151 rfl (lv_at hl 0 rfl) ?_
      refine va_get (D := D) (ci := 4) (v := .ref (q 8)) (C := RX4) (T := TX4) (N := 4) hx hb X.2.2.2.2.1 iwX4_node_4 X.2.2.2.1 hKK.1 hP 0 rfl rfl 0 (by decide) (X.2.2.2.2.1 _ flX4_node_10) (fun _ h9 => h9) rfl dX4_node_152 ?_
      refine lv_iload_n hx hb dX4_node_155 rfl (lv_at hl 1 rfl) ?_
      refine rcV (rest := []) X hKK hP 1 (zX3_openingOf l D cI cC q n d lb xd xl x1 _ rfl) gX4_node_X3_openingOf rfl rfl rfl hdX3_openingOf ⟨Nat.le_of_ble_eq_true rfl, Nat.le_of_ble_eq_true rfl⟩ [8, 9, 10, 11, 12] rfl 0 rfl rfl rfl hl.1 rfl (Nat.le_of_ble_eq_true rfl) dX4_node_156 ⟨Nat.zero_le _, Nat.zero_le _⟩ ?_
      exact rd_ret X rfl (Option.some.inj h) dX4_node_159
    replace h := ifn c15 h
    by_cases c16 : x2 = iI 8
    · replace h := ifp c16 h
      refine lv_tableIn (tgt := 160) hx hb dX4_node_14 (by rw [c16]; decide) (by rw [c16]; decide) (by rw [c16]; rfl) (by decide) ?_
      refine lv_aload_n hx hb dX4_node_160 rfl (lv_at hl 0 rfl) ?_
      refine va_get (D := D) (ci := 4) (v := .ref (q 8)) (C := RX4) (T := TX4) (N := 4) hx hb X.2.2.2.2.1 iwX4_node_4 X.2.2.2.1 hKK.1 hP 0 rfl rfl 0 (by decide) (X.2.2.2.2.1 _ flX4_node_10) (fun _ h9 => h9) rfl dX4_node_161 ?_
      refine lv_iload_n hx hb dX4_node_164 rfl (lv_at hl 1 rfl) ?_
      obtain ⟨r17, h_r17, h⟩ := obd h
      refine rcV (rest := []) X hKK hP 1 (zX3_closingOf l D cI cC q n d lb xd xl x1 r17 h_r17) gX4_node_X3_closingOf rfl rfl rfl hdX3_closingOf ⟨Nat.le_of_ble_eq_true rfl, Nat.le_of_ble_eq_true rfl⟩ [8, 9, 10, 11, 12] rfl 0 rfl rfl rfl hl.1 rfl (Nat.le_of_ble_eq_true rfl) dX4_node_165 ⟨Nat.zero_le _, Nat.zero_le _⟩ ?_
      exact rd_ret X rfl (Option.some.inj h) dX4_node_168
    replace h := ifn c16 h
    by_cases c18 : x2 = iI 9
    · replace h := ifp c18 h
      refine lv_tableIn (tgt := 169) hx hb dX4_node_14 (by rw [c18]; decide) (by rw [c18]; decide) (by rw [c18]; rfl) (by decide) ?_
      refine lv_aload_n hx hb dX4_node_169 rfl (lv_at hl 0 rfl) ?_
      refine va_get (D := D) (ci := 4) (v := .ref (q 8)) (C := RX4) (T := TX4) (N := 4) hx hb X.2.2.2.2.1 iwX4_node_4 X.2.2.2.1 hKK.1 hP 0 rfl rfl 0 (by decide) (X.2.2.2.2.1 _ flX4_node_10) (fun _ h9 => h9) rfl dX4_node_170 ?_
      refine lv_iload_n hx hb dX4_node_173 rfl (lv_at hl 1 rfl) ?_
      obtain ⟨r19, h_r19, h⟩ := obd h
      refine rcV (rest := []) X hKK hP 1 (zX3_postorderOf l D cI cC q n d lb xd xl x1 r19 h_r19) gX4_node_X3_postorderOf rfl rfl rfl hdX3_postorderOf ⟨Nat.le_of_ble_eq_true rfl, Nat.le_of_ble_eq_true rfl⟩ [8, 9, 10, 11, 12] rfl 0 rfl rfl rfl hl.1 rfl (Nat.le_of_ble_eq_true rfl) dX4_node_174 ⟨Nat.zero_le _, Nat.zero_le _⟩ ?_
      exact rd_ret X rfl (Option.some.inj h) dX4_node_177
    replace h := ifn c18 h
    by_cases c20 : x2 = iI 10
    · replace h := ifp c20 h
      refine lv_tableIn (tgt := 178) hx hb dX4_node_14 (by rw [c20]; decide) (by rw [c20]; decide) (by rw [c20]; rfl) (by decide) ?_
      refine lv_aload_n hx hb dX4_node_178 rfl (lv_at hl 0 rfl) ?_
      refine va_get (D := D) (ci := 4) (v := .ref (q 8)) (C := RX4) (T := TX4) (N := 4) hx hb X.2.2.2.2.1 iwX4_node_4 X.2.2.2.1 hKK.1 hP 0 rfl rfl 0 (by decide) (X.2.2.2.2.1 _ flX4_node_10) (fun _ h9 => h9) rfl dX4_node_179 ?_
      refine lv_iload_n hx hb dX4_node_182 rfl (lv_at hl 1 rfl) ?_
      refine rcV (rest := []) X hKK hP 1 (zX3_labelOf l D cI cC q n d lb xd xl x1 _ rfl) gX4_node_X3_labelOf rfl rfl rfl hdX3_labelOf ⟨Nat.le_of_ble_eq_true rfl, Nat.le_of_ble_eq_true rfl⟩ [8, 9, 10, 11, 12] rfl 0 rfl rfl rfl hl.1 rfl (Nat.le_of_ble_eq_true rfl) dX4_node_183 ⟨Nat.zero_le _, Nat.zero_le _⟩ ?_
      exact rd_ret X rfl (Option.some.inj h) dX4_node_186
    replace h := ifn c20 h
    refine lv_tableOut (tgt := 187) hx hb dX4_node_14 (sw10 c2 c3 c5 c7 c9 c11 c13 c15 c16 c18 c20) (by decide) ?_
    refine lv_bipush (v := iI (-2)) hx hb dX4_node_187 (by decide) ?_
    exact rd_ret X rfl (Option.some.inj h) dX4_node_189
  · replace h := ifp c1 h
    refine lv_iconst (v := iI (-1)) hx hb dX4_node_11 rfl ?_
    exact rd_ret X rfl (Option.some.inj h) dX4_node_12
def mX4_child (n : Int32) (d : Nat → Int32) (x1 : Int32) (x2 : Int32) : Option (Int32) := (if (mX3_has n x1) = 0 then some (iI (-1)) else (if 0 ≤ x2 then ((mX3_childCount n d x1).bind fun r3 => (if r3 ≤ x2 then some (iI (-5)) else ((mX3_startOfPlace n d x1 x2).bind fun r5 => some r5))) else some (iI (-2))))
theorem hdX4_child : yX4_child.cls = RX4 ∧ yX4_child.cls ≠ "java/lang/invoke/MethodHandle" ∧ yX4_child.cls ≠ "java/lang/invoke/VarHandle" ∧ (parseMethodDescriptor yX4_child.desc).map (fun d => d.parameters.length) = some 2 := by decide +kernel
theorem flX4_child_10 : Cond.fieldLink RX4 10 "BracketTree" "tree" "LBracketTree$Tree;" ∈ wsX4_child := by decide +kernel
theorem iwX4_child_4 : ∀ w ∈ wsX40, w ∈ wsX4_child := by decide +kernel
abbrev rmX4_child : Room := { frames := 4, cells := 0, slots := 0, locals := 90 }
set_option maxHeartbeats 4000000 in
set_option maxRecDepth 100000 in
theorem zX4_child (l : Launch) (D : va_G) (cI cC : ClassId) (q : Nat → Nat) (n : Int32) (d : Nat → Int32) (lb : Nat → Int32) (xd : Nat → Int32) (xl : Nat → Int32) (wi : Int32) (sl : Int32) (kp : Int32) (ct : Nat → Int32) (gd : Nat → Int32) (gl : Nat → Int32) (ln : Int32) (ch : Nat → Int32) (x1 : Int32) (x2 : Int32) (r : Int32) (h : mX4_child n d x1 x2 = some r) : Met l yX4_child wsX4_child rmX4_child (va_Pc [.ref (q 0), .int x1, .int x2] (BW D cI cC (wA cI q n d lb xd xl wi sl kp ct gd gl ln ch))) (rdQ r) 0 0 (fun _ => False) := by
  refine MetI RX4 (by decide +kernel) rfl rfl (Nat.le_of_ble_eq_true rfl) ?_
  intro p e s m below meth c ls X _ hB hl
  obtain ⟨hP, hKK⟩ := hB
  have hx := X.1
  have hb := X.2.1
  replace hl : lv_has ls 3 [(0, .ref (q 0)), (1, .int x1), (2, .int x2)] := hl
  unfold mX4_child at h
  refine lv_aload_n hx hb dX4_child_0 rfl (lv_at hl 0 rfl) ?_
  refine va_get (D := D) (ci := 4) (v := .ref (q 8)) (C := RX4) (T := TX4) (N := 4) hx hb X.2.2.2.2.1 iwX4_child_4 X.2.2.2.1 hKK.1 hP 0 rfl rfl 0 (by decide) (X.2.2.2.2.1 _ flX4_child_10) (fun _ h9 => h9) rfl dX4_child_1 ?_
  refine lv_iload_n hx hb dX4_child_4 rfl (lv_at hl 1 rfl) ?_
  refine rcV (rest := []) X hKK hP 1 (zX3_has l D cI cC q n d lb xd xl x1 _ rfl) gX4_child_X3_has rfl rfl rfl hdX3_has ⟨Nat.le_of_ble_eq_true rfl, Nat.le_of_ble_eq_true rfl⟩ [8, 9, 10, 11, 12] rfl 0 rfl rfl rfl hl.1 rfl (Nat.le_of_ble_eq_true rfl) dX4_child_5 ⟨Nat.zero_le _, Nat.zero_le _⟩ ?_
  refine lv_if_ne (tgt := 13) hx hb dX4_child_8 (by decide) (fun c1 => ?_) (fun c1 => ?_)
  · replace h := ifn c1 h
    refine lv_iload_n hx hb dX4_child_13 rfl (lv_at hl 2 rfl) ?_
    refine lv_if_ge (tgt := 20) hx hb dX4_child_14 (by decide) (fun c2 => ?_) (fun c2 => ?_)
    · replace h := ifp c2 h
      refine lv_iload_n hx hb dX4_child_20 rfl (lv_at hl 2 rfl) ?_
      refine lv_aload_n hx hb dX4_child_21 rfl (lv_at hl 0 rfl) ?_
      refine va_get (D := D) (ci := 4) (v := .ref (q 8)) (C := RX4) (T := TX4) (N := 4) hx hb X.2.2.2.2.1 iwX4_child_4 X.2.2.2.1 hKK.1 hP 0 rfl rfl 0 (by decide) (X.2.2.2.2.1 _ flX4_child_10) (fun _ h9 => h9) rfl dX4_child_22 ?_
      refine lv_iload_n hx hb dX4_child_25 rfl (lv_at hl 1 rfl) ?_
      obtain ⟨r3, h_r3, h⟩ := obd h
      refine rcV (rest := [.int x2]) X hKK hP 1 (zX3_childCount l D cI cC q n d lb xd xl x1 r3 h_r3) gX4_child_X3_childCount rfl rfl rfl hdX3_childCount ⟨Nat.le_of_ble_eq_true rfl, Nat.le_of_ble_eq_true rfl⟩ [8, 9, 10, 11, 12] rfl 0 rfl rfl rfl hl.1 rfl (Nat.le_of_ble_eq_true rfl) dX4_child_26 ⟨Nat.zero_le _, Nat.zero_le _⟩ ?_
      refine lv_icmp_ge (tgt := 44) hx hb dX4_child_29 (by decide) (fun c4 => ?_) (fun c4 => ?_)
      · replace h := ifp c4 h
        refine lv_bipush (v := iI (-5)) hx hb dX4_child_44 (by decide) ?_
        exact rd_ret X rfl (Option.some.inj h) dX4_child_46
      · replace h := ifn c4 h
        refine lv_aload_n hx hb dX4_child_32 rfl (lv_at hl 0 rfl) ?_
        refine va_get (D := D) (ci := 4) (v := .ref (q 8)) (C := RX4) (T := TX4) (N := 4) hx hb X.2.2.2.2.1 iwX4_child_4 X.2.2.2.1 hKK.1 hP 0 rfl rfl 0 (by decide) (X.2.2.2.2.1 _ flX4_child_10) (fun _ h9 => h9) rfl dX4_child_33 ?_
        refine lv_iload_n hx hb dX4_child_36 rfl (lv_at hl 1 rfl) ?_
        refine lv_iload_n hx hb dX4_child_37 rfl (lv_at hl 2 rfl) ?_
        obtain ⟨r5, h_r5, h⟩ := obd h
        refine rcV (rest := []) X hKK hP 2 (zX3_startOfPlace l D cI cC q n d lb xd xl x1 x2 r5 h_r5) gX4_child_X3_startOfPlace rfl rfl rfl hdX3_startOfPlace ⟨Nat.le_of_ble_eq_true rfl, Nat.le_of_ble_eq_true rfl⟩ [8, 9, 10, 11, 12] rfl 0 rfl rfl rfl hl.1 rfl (Nat.le_of_ble_eq_true rfl) dX4_child_38 ⟨Nat.zero_le _, Nat.zero_le _⟩ ?_
        refine lv_goto (tgt := 46) hx hb dX4_child_41 (by decide) ?_
        exact rd_ret X rfl (Option.some.inj h) dX4_child_46
    · replace h := ifn c2 h
      refine lv_bipush (v := iI (-2)) hx hb dX4_child_17 (by decide) ?_
      exact rd_ret X rfl (Option.some.inj h) dX4_child_19
  · replace h := ifp c1 h
    refine lv_iconst (v := iI (-1)) hx hb dX4_child_11 rfl ?_
    exact rd_ret X rfl (Option.some.inj h) dX4_child_12
def mX4_neighbour (n : Int32) (d : Nat → Int32) (x1 : Int32) (x2 : Int32) : Option (Int32) := (if (mX3_has n x1) = 0 then some (iI (-1)) else (if x2 = iI 0 then ((mX3_nextSibling n d x1).bind fun r3 => some r3) else (if x2 = iI 1 then ((mX3_previousSibling n d x1).bind fun r5 => some r5) else (if x2 = iI 2 then ((mX3_nextAtDepth n d x1).bind fun r7 => some r7) else (if x2 = iI 3 then ((mX3_previousAtDepth n d x1).bind fun r9 => some r9) else (if x2 = iI 4 then ((mX3_nextLeaf n d x1).bind fun r11 => some r11) else (if x2 = iI 5 then ((mX3_largestChild n d x1).bind fun r13 => some r13) else some (iI (-2)))))))))
theorem hdX4_neighbour : yX4_neighbour.cls = RX4 ∧ yX4_neighbour.cls ≠ "java/lang/invoke/MethodHandle" ∧ yX4_neighbour.cls ≠ "java/lang/invoke/VarHandle" ∧ (parseMethodDescriptor yX4_neighbour.desc).map (fun d => d.parameters.length) = some 2 := by decide +kernel
theorem flX4_neighbour_10 : Cond.fieldLink RX4 10 "BracketTree" "tree" "LBracketTree$Tree;" ∈ wsX4_neighbour := by decide +kernel
theorem iwX4_neighbour_4 : ∀ w ∈ wsX40, w ∈ wsX4_neighbour := by decide +kernel
abbrev rmX4_neighbour : Room := { frames := 5, cells := 0, slots := 0, locals := 111 }
set_option maxHeartbeats 4000000 in
set_option maxRecDepth 100000 in
theorem zX4_neighbour (l : Launch) (D : va_G) (cI cC : ClassId) (q : Nat → Nat) (n : Int32) (d : Nat → Int32) (lb : Nat → Int32) (xd : Nat → Int32) (xl : Nat → Int32) (wi : Int32) (sl : Int32) (kp : Int32) (ct : Nat → Int32) (gd : Nat → Int32) (gl : Nat → Int32) (ln : Int32) (ch : Nat → Int32) (x1 : Int32) (x2 : Int32) (r : Int32) (h : mX4_neighbour n d x1 x2 = some r) : Met l yX4_neighbour wsX4_neighbour rmX4_neighbour (va_Pc [.ref (q 0), .int x1, .int x2] (BW D cI cC (wA cI q n d lb xd xl wi sl kp ct gd gl ln ch))) (rdQ r) 0 0 (fun _ => False) := by
  refine MetI RX4 (by decide +kernel) rfl rfl (Nat.le_of_ble_eq_true rfl) ?_
  intro p e s m below meth c ls X _ hB hl
  obtain ⟨hP, hKK⟩ := hB
  have hx := X.1
  have hb := X.2.1
  replace hl : lv_has ls 3 [(0, .ref (q 0)), (1, .int x1), (2, .int x2)] := hl
  unfold mX4_neighbour at h
  refine lv_aload_n hx hb dX4_neighbour_0 rfl (lv_at hl 0 rfl) ?_
  refine va_get (D := D) (ci := 4) (v := .ref (q 8)) (C := RX4) (T := TX4) (N := 4) hx hb X.2.2.2.2.1 iwX4_neighbour_4 X.2.2.2.1 hKK.1 hP 0 rfl rfl 0 (by decide) (X.2.2.2.2.1 _ flX4_neighbour_10) (fun _ h9 => h9) rfl dX4_neighbour_1 ?_
  refine lv_iload_n hx hb dX4_neighbour_4 rfl (lv_at hl 1 rfl) ?_
  refine rcV (rest := []) X hKK hP 1 (zX3_has l D cI cC q n d lb xd xl x1 _ rfl) gX4_neighbour_X3_has rfl rfl rfl hdX3_has ⟨Nat.le_of_ble_eq_true rfl, Nat.le_of_ble_eq_true rfl⟩ [8, 9, 10, 11, 12] rfl 0 rfl rfl rfl hl.1 rfl (Nat.le_of_ble_eq_true rfl) dX4_neighbour_5 ⟨Nat.zero_le _, Nat.zero_le _⟩ ?_
  refine lv_if_ne (tgt := 13) hx hb dX4_neighbour_8 (by decide) (fun c1 => ?_) (fun c1 => ?_)
  · replace h := ifn c1 h
    refine lv_iload_n hx hb dX4_neighbour_13 rfl (lv_at hl 2 rfl) ?_
    by_cases c2 : x2 = iI 0
    · replace h := ifp c2 h
      refine lv_tableIn (tgt := 52) hx hb dX4_neighbour_14 (by rw [c2]; decide) (by rw [c2]; decide) (by rw [c2]; rfl) (by decide) ?_
      refine lv_aload_n hx hb dX4_neighbour_52 rfl (lv_at hl 0 rfl) ?_
      refine va_get (D := D) (ci := 4) (v := .ref (q 8)) (C := RX4) (T := TX4) (N := 4) hx hb X.2.2.2.2.1 iwX4_neighbour_4 X.2.2.2.1 hKK.1 hP 0 rfl rfl 0 (by decide) (X.2.2.2.2.1 _ flX4_neighbour_10) (fun _ h9 => h9) rfl dX4_neighbour_53 ?_
      refine lv_iload_n hx hb dX4_neighbour_56 rfl (lv_at hl 1 rfl) ?_
      obtain ⟨r3, h_r3, h⟩ := obd h
      refine rcV (rest := []) X hKK hP 1 (zX3_nextSibling l D cI cC q n d lb xd xl x1 r3 h_r3) gX4_neighbour_X3_nextSibling rfl rfl rfl hdX3_nextSibling ⟨Nat.le_of_ble_eq_true rfl, Nat.le_of_ble_eq_true rfl⟩ [8, 9, 10, 11, 12] rfl 0 rfl rfl rfl hl.1 rfl (Nat.le_of_ble_eq_true rfl) dX4_neighbour_57 ⟨Nat.zero_le _, Nat.zero_le _⟩ ?_
      exact rd_ret X rfl (Option.some.inj h) dX4_neighbour_60
    replace h := ifn c2 h
    by_cases c4 : x2 = iI 1
    · replace h := ifp c4 h
      refine lv_tableIn (tgt := 61) hx hb dX4_neighbour_14 (by rw [c4]; decide) (by rw [c4]; decide) (by rw [c4]; rfl) (by decide) ?_
      refine lv_aload_n hx hb dX4_neighbour_61 rfl (lv_at hl 0 rfl) ?_
      refine va_get (D := D) (ci := 4) (v := .ref (q 8)) (C := RX4) (T := TX4) (N := 4) hx hb X.2.2.2.2.1 iwX4_neighbour_4 X.2.2.2.1 hKK.1 hP 0 rfl rfl 0 (by decide) (X.2.2.2.2.1 _ flX4_neighbour_10) (fun _ h9 => h9) rfl dX4_neighbour_62 ?_
      refine lv_iload_n hx hb dX4_neighbour_65 rfl (lv_at hl 1 rfl) ?_
      obtain ⟨r5, h_r5, h⟩ := obd h
      refine rcV (rest := []) X hKK hP 1 (zX3_previousSibling l D cI cC q n d lb xd xl x1 r5 h_r5) gX4_neighbour_X3_previousSibling rfl rfl rfl hdX3_previousSibling ⟨Nat.le_of_ble_eq_true rfl, Nat.le_of_ble_eq_true rfl⟩ [8, 9, 10, 11, 12] rfl 0 rfl rfl rfl hl.1 rfl (Nat.le_of_ble_eq_true rfl) dX4_neighbour_66 ⟨Nat.zero_le _, Nat.zero_le _⟩ ?_
      exact rd_ret X rfl (Option.some.inj h) dX4_neighbour_69
    replace h := ifn c4 h
    by_cases c6 : x2 = iI 2
    · replace h := ifp c6 h
      refine lv_tableIn (tgt := 70) hx hb dX4_neighbour_14 (by rw [c6]; decide) (by rw [c6]; decide) (by rw [c6]; rfl) (by decide) ?_
      refine lv_aload_n hx hb dX4_neighbour_70 rfl (lv_at hl 0 rfl) ?_
      refine va_get (D := D) (ci := 4) (v := .ref (q 8)) (C := RX4) (T := TX4) (N := 4) hx hb X.2.2.2.2.1 iwX4_neighbour_4 X.2.2.2.1 hKK.1 hP 0 rfl rfl 0 (by decide) (X.2.2.2.2.1 _ flX4_neighbour_10) (fun _ h9 => h9) rfl dX4_neighbour_71 ?_
      refine lv_iload_n hx hb dX4_neighbour_74 rfl (lv_at hl 1 rfl) ?_
      obtain ⟨r7, h_r7, h⟩ := obd h
      refine rcV (rest := []) X hKK hP 1 (zX3_nextAtDepth l D cI cC q n d lb xd xl x1 r7 h_r7) gX4_neighbour_X3_nextAtDepth rfl rfl rfl hdX3_nextAtDepth ⟨Nat.le_of_ble_eq_true rfl, Nat.le_of_ble_eq_true rfl⟩ [8, 9, 10, 11, 12] rfl 0 rfl rfl rfl hl.1 rfl (Nat.le_of_ble_eq_true rfl) dX4_neighbour_75 ⟨Nat.zero_le _, Nat.zero_le _⟩ ?_
      exact rd_ret X rfl (Option.some.inj h) dX4_neighbour_78
    replace h := ifn c6 h
    by_cases c8 : x2 = iI 3
    · replace h := ifp c8 h
      refine lv_tableIn (tgt := 79) hx hb dX4_neighbour_14 (by rw [c8]; decide) (by rw [c8]; decide) (by rw [c8]; rfl) (by decide) ?_
      refine lv_aload_n hx hb dX4_neighbour_79 rfl (lv_at hl 0 rfl) ?_
      refine va_get (D := D) (ci := 4) (v := .ref (q 8)) (C := RX4) (T := TX4) (N := 4) hx hb X.2.2.2.2.1 iwX4_neighbour_4 X.2.2.2.1 hKK.1 hP 0 rfl rfl 0 (by decide) (X.2.2.2.2.1 _ flX4_neighbour_10) (fun _ h9 => h9) rfl dX4_neighbour_80 ?_
      refine lv_iload_n hx hb dX4_neighbour_83 rfl (lv_at hl 1 rfl) ?_
      obtain ⟨r9, h_r9, h⟩ := obd h
      refine rcV (rest := []) X hKK hP 1 (zX3_previousAtDepth l D cI cC q n d lb xd xl x1 r9 h_r9) gX4_neighbour_X3_previousAtDepth rfl rfl rfl hdX3_previousAtDepth ⟨Nat.le_of_ble_eq_true rfl, Nat.le_of_ble_eq_true rfl⟩ [8, 9, 10, 11, 12] rfl 0 rfl rfl rfl hl.1 rfl (Nat.le_of_ble_eq_true rfl) dX4_neighbour_84 ⟨Nat.zero_le _, Nat.zero_le _⟩ ?_
      exact rd_ret X rfl (Option.some.inj h) dX4_neighbour_87
    replace h := ifn c8 h
    by_cases c10 : x2 = iI 4
    · replace h := ifp c10 h
      refine lv_tableIn (tgt := 88) hx hb dX4_neighbour_14 (by rw [c10]; decide) (by rw [c10]; decide) (by rw [c10]; rfl) (by decide) ?_
      refine lv_aload_n hx hb dX4_neighbour_88 rfl (lv_at hl 0 rfl) ?_
      refine va_get (D := D) (ci := 4) (v := .ref (q 8)) (C := RX4) (T := TX4) (N := 4) hx hb X.2.2.2.2.1 iwX4_neighbour_4 X.2.2.2.1 hKK.1 hP 0 rfl rfl 0 (by decide) (X.2.2.2.2.1 _ flX4_neighbour_10) (fun _ h9 => h9) rfl dX4_neighbour_89 ?_
      refine lv_iload_n hx hb dX4_neighbour_92 rfl (lv_at hl 1 rfl) ?_
      obtain ⟨r11, h_r11, h⟩ := obd h
      refine rcV (rest := []) X hKK hP 1 (zX3_nextLeaf l D cI cC q n d lb xd xl x1 r11 h_r11) gX4_neighbour_X3_nextLeaf rfl rfl rfl hdX3_nextLeaf ⟨Nat.le_of_ble_eq_true rfl, Nat.le_of_ble_eq_true rfl⟩ [8, 9, 10, 11, 12] rfl 0 rfl rfl rfl hl.1 rfl (Nat.le_of_ble_eq_true rfl) dX4_neighbour_93 ⟨Nat.zero_le _, Nat.zero_le _⟩ ?_
      exact rd_ret X rfl (Option.some.inj h) dX4_neighbour_96
    replace h := ifn c10 h
    by_cases c12 : x2 = iI 5
    · replace h := ifp c12 h
      refine lv_tableIn (tgt := 97) hx hb dX4_neighbour_14 (by rw [c12]; decide) (by rw [c12]; decide) (by rw [c12]; rfl) (by decide) ?_
      refine lv_aload_n hx hb dX4_neighbour_97 rfl (lv_at hl 0 rfl) ?_
      refine va_get (D := D) (ci := 4) (v := .ref (q 8)) (C := RX4) (T := TX4) (N := 4) hx hb X.2.2.2.2.1 iwX4_neighbour_4 X.2.2.2.1 hKK.1 hP 0 rfl rfl 0 (by decide) (X.2.2.2.2.1 _ flX4_neighbour_10) (fun _ h9 => h9) rfl dX4_neighbour_98 ?_
      refine lv_iload_n hx hb dX4_neighbour_101 rfl (lv_at hl 1 rfl) ?_
      obtain ⟨r13, h_r13, h⟩ := obd h
      refine rcV (rest := []) X hKK hP 1 (zX3_largestChild l D cI cC q n d lb xd xl x1 r13 h_r13) gX4_neighbour_X3_largestChild rfl rfl rfl hdX3_largestChild ⟨Nat.le_of_ble_eq_true rfl, Nat.le_of_ble_eq_true rfl⟩ [8, 9, 10, 11, 12] rfl 0 rfl rfl rfl hl.1 rfl (Nat.le_of_ble_eq_true rfl) dX4_neighbour_102 ⟨Nat.zero_le _, Nat.zero_le _⟩ ?_
      exact rd_ret X rfl (Option.some.inj h) dX4_neighbour_105
    replace h := ifn c12 h
    refine lv_tableOut (tgt := 106) hx hb dX4_neighbour_14 (sw5 c2 c4 c6 c8 c10 c12) (by decide) ?_
    refine lv_bipush (v := iI (-2)) hx hb dX4_neighbour_106 (by decide) ?_
    exact rd_ret X rfl (Option.some.inj h) dX4_neighbour_108
  · replace h := ifp c1 h
    refine lv_iconst (v := iI (-1)) hx hb dX4_neighbour_11 rfl ?_
    exact rd_ret X rfl (Option.some.inj h) dX4_neighbour_12
def mX4_ancestorAt (n : Int32) (d : Nat → Int32) (x1 : Int32) (x2 : Int32) : Option (Int32) := (if (mX3_has n x1) = 0 then some (iI (-1)) else (if x2 < 0 then some (iI (-2)) else (if x2 ≤ (mX3_depthOf n d x1) then ((mX3_climb n d x1 x2).bind fun r4 => some r4) else some (iI (-2)))))
theorem hdX4_ancestorAt : yX4_ancestorAt.cls = RX4 ∧ yX4_ancestorAt.cls ≠ "java/lang/invoke/MethodHandle" ∧ yX4_ancestorAt.cls ≠ "java/lang/invoke/VarHandle" ∧ (parseMethodDescriptor yX4_ancestorAt.desc).map (fun d => d.parameters.length) = some 2 := by decide +kernel
theorem flX4_ancestorAt_10 : Cond.fieldLink RX4 10 "BracketTree" "tree" "LBracketTree$Tree;" ∈ wsX4_ancestorAt := by decide +kernel
theorem iwX4_ancestorAt_4 : ∀ w ∈ wsX40, w ∈ wsX4_ancestorAt := by decide +kernel
abbrev rmX4_ancestorAt : Room := { frames := 3, cells := 0, slots := 0, locals := 65 }
set_option maxHeartbeats 4000000 in
set_option maxRecDepth 100000 in
theorem zX4_ancestorAt (l : Launch) (D : va_G) (cI cC : ClassId) (q : Nat → Nat) (n : Int32) (d : Nat → Int32) (lb : Nat → Int32) (xd : Nat → Int32) (xl : Nat → Int32) (wi : Int32) (sl : Int32) (kp : Int32) (ct : Nat → Int32) (gd : Nat → Int32) (gl : Nat → Int32) (ln : Int32) (ch : Nat → Int32) (x1 : Int32) (x2 : Int32) (r : Int32) (h : mX4_ancestorAt n d x1 x2 = some r) : Met l yX4_ancestorAt wsX4_ancestorAt rmX4_ancestorAt (va_Pc [.ref (q 0), .int x1, .int x2] (BW D cI cC (wA cI q n d lb xd xl wi sl kp ct gd gl ln ch))) (rdQ r) 0 0 (fun _ => False) := by
  refine MetI RX4 (by decide +kernel) rfl rfl (Nat.le_of_ble_eq_true rfl) ?_
  intro p e s m below meth c ls X _ hB hl
  obtain ⟨hP, hKK⟩ := hB
  have hx := X.1
  have hb := X.2.1
  replace hl : lv_has ls 3 [(0, .ref (q 0)), (1, .int x1), (2, .int x2)] := hl
  unfold mX4_ancestorAt at h
  refine lv_aload_n hx hb dX4_ancestorAt_0 rfl (lv_at hl 0 rfl) ?_
  refine va_get (D := D) (ci := 4) (v := .ref (q 8)) (C := RX4) (T := TX4) (N := 4) hx hb X.2.2.2.2.1 iwX4_ancestorAt_4 X.2.2.2.1 hKK.1 hP 0 rfl rfl 0 (by decide) (X.2.2.2.2.1 _ flX4_ancestorAt_10) (fun _ h9 => h9) rfl dX4_ancestorAt_1 ?_
  refine lv_iload_n hx hb dX4_ancestorAt_4 rfl (lv_at hl 1 rfl) ?_
  refine rcV (rest := []) X hKK hP 1 (zX3_has l D cI cC q n d lb xd xl x1 _ rfl) gX4_ancestorAt_X3_has rfl rfl rfl hdX3_has ⟨Nat.le_of_ble_eq_true rfl, Nat.le_of_ble_eq_true rfl⟩ [8, 9, 10, 11, 12] rfl 0 rfl rfl rfl hl.1 rfl (Nat.le_of_ble_eq_true rfl) dX4_ancestorAt_5 ⟨Nat.zero_le _, Nat.zero_le _⟩ ?_
  refine lv_if_ne (tgt := 13) hx hb dX4_ancestorAt_8 (by decide) (fun c1 => ?_) (fun c1 => ?_)
  · replace h := ifn c1 h
    refine lv_iload_n hx hb dX4_ancestorAt_13 rfl (lv_at hl 2 rfl) ?_
    refine lv_if_lt (tgt := 29) hx hb dX4_ancestorAt_14 (by decide) (fun c2 => ?_) (fun c2 => ?_)
    · replace h := ifp c2 h
      refine lv_bipush (v := iI (-2)) hx hb dX4_ancestorAt_29 (by decide) ?_
      exact rd_ret X rfl (Option.some.inj h) dX4_ancestorAt_31
    · replace h := ifn c2 h
      refine lv_iload_n hx hb dX4_ancestorAt_17 rfl (lv_at hl 2 rfl) ?_
      refine lv_aload_n hx hb dX4_ancestorAt_18 rfl (lv_at hl 0 rfl) ?_
      refine va_get (D := D) (ci := 4) (v := .ref (q 8)) (C := RX4) (T := TX4) (N := 4) hx hb X.2.2.2.2.1 iwX4_ancestorAt_4 X.2.2.2.1 hKK.1 hP 0 rfl rfl 0 (by decide) (X.2.2.2.2.1 _ flX4_ancestorAt_10) (fun _ h9 => h9) rfl dX4_ancestorAt_19 ?_
      refine lv_iload_n hx hb dX4_ancestorAt_22 rfl (lv_at hl 1 rfl) ?_
      refine rcV (rest := [.int x2]) X hKK hP 1 (zX3_depthOf l D cI cC q n d lb xd xl x1 _ rfl) gX4_ancestorAt_X3_depthOf rfl rfl rfl hdX3_depthOf ⟨Nat.le_of_ble_eq_true rfl, Nat.le_of_ble_eq_true rfl⟩ [8, 9, 10, 11, 12] rfl 0 rfl rfl rfl hl.1 rfl (Nat.le_of_ble_eq_true rfl) dX4_ancestorAt_23 ⟨Nat.zero_le _, Nat.zero_le _⟩ ?_
      refine lv_icmp_le (tgt := 32) hx hb dX4_ancestorAt_26 (by decide) (fun c3 => ?_) (fun c3 => ?_)
      · replace h := ifp c3 h
        refine lv_aload_n hx hb dX4_ancestorAt_32 rfl (lv_at hl 0 rfl) ?_
        refine va_get (D := D) (ci := 4) (v := .ref (q 8)) (C := RX4) (T := TX4) (N := 4) hx hb X.2.2.2.2.1 iwX4_ancestorAt_4 X.2.2.2.1 hKK.1 hP 0 rfl rfl 0 (by decide) (X.2.2.2.2.1 _ flX4_ancestorAt_10) (fun _ h9 => h9) rfl dX4_ancestorAt_33 ?_
        refine lv_iload_n hx hb dX4_ancestorAt_36 rfl (lv_at hl 1 rfl) ?_
        refine lv_iload_n hx hb dX4_ancestorAt_37 rfl (lv_at hl 2 rfl) ?_
        obtain ⟨r4, h_r4, h⟩ := obd h
        refine rcV (rest := []) X hKK hP 2 (zX3_climb l D cI cC q n d lb xd xl x1 x2 r4 h_r4) gX4_ancestorAt_X3_climb rfl rfl rfl hdX3_climb ⟨Nat.le_of_ble_eq_true rfl, Nat.le_of_ble_eq_true rfl⟩ [8, 9, 10, 11, 12] rfl 0 rfl rfl rfl hl.1 rfl (Nat.le_of_ble_eq_true rfl) dX4_ancestorAt_38 ⟨Nat.zero_le _, Nat.zero_le _⟩ ?_
        exact rd_ret X rfl (Option.some.inj h) dX4_ancestorAt_41
      · replace h := ifn c3 h
        refine lv_bipush (v := iI (-2)) hx hb dX4_ancestorAt_29 (by decide) ?_
        exact rd_ret X rfl (Option.some.inj h) dX4_ancestorAt_31
  · replace h := ifp c1 h
    refine lv_iconst (v := iI (-1)) hx hb dX4_ancestorAt_11 rfl ?_
    exact rd_ret X rfl (Option.some.inj h) dX4_ancestorAt_12
def mX4_common (n : Int32) (d : Nat → Int32) (x1 : Int32) (x2 : Int32) : Option (Int32) := (if (mX3_has n x1) = 0 then some (iI (-1)) else (if (mX3_has n x2) = 0 then some (iI (-1)) else ((mX3_meetingOf n d x1 x2).bind fun r3 => some r3)))
theorem hdX4_common : yX4_common.cls = RX4 ∧ yX4_common.cls ≠ "java/lang/invoke/MethodHandle" ∧ yX4_common.cls ≠ "java/lang/invoke/VarHandle" ∧ (parseMethodDescriptor yX4_common.desc).map (fun d => d.parameters.length) = some 2 := by decide +kernel
theorem flX4_common_10 : Cond.fieldLink RX4 10 "BracketTree" "tree" "LBracketTree$Tree;" ∈ wsX4_common := by decide +kernel
theorem iwX4_common_4 : ∀ w ∈ wsX40, w ∈ wsX4_common := by decide +kernel
abbrev rmX4_common : Room := { frames := 4, cells := 0, slots := 0, locals := 91 }
set_option maxHeartbeats 4000000 in
set_option maxRecDepth 100000 in
theorem zX4_common (l : Launch) (D : va_G) (cI cC : ClassId) (q : Nat → Nat) (n : Int32) (d : Nat → Int32) (lb : Nat → Int32) (xd : Nat → Int32) (xl : Nat → Int32) (wi : Int32) (sl : Int32) (kp : Int32) (ct : Nat → Int32) (gd : Nat → Int32) (gl : Nat → Int32) (ln : Int32) (ch : Nat → Int32) (x1 : Int32) (x2 : Int32) (r : Int32) (h : mX4_common n d x1 x2 = some r) : Met l yX4_common wsX4_common rmX4_common (va_Pc [.ref (q 0), .int x1, .int x2] (BW D cI cC (wA cI q n d lb xd xl wi sl kp ct gd gl ln ch))) (rdQ r) 0 0 (fun _ => False) := by
  refine MetI RX4 (by decide +kernel) rfl rfl (Nat.le_of_ble_eq_true rfl) ?_
  intro p e s m below meth c ls X _ hB hl
  obtain ⟨hP, hKK⟩ := hB
  have hx := X.1
  have hb := X.2.1
  replace hl : lv_has ls 3 [(0, .ref (q 0)), (1, .int x1), (2, .int x2)] := hl
  unfold mX4_common at h
  refine lv_aload_n hx hb dX4_common_0 rfl (lv_at hl 0 rfl) ?_
  refine va_get (D := D) (ci := 4) (v := .ref (q 8)) (C := RX4) (T := TX4) (N := 4) hx hb X.2.2.2.2.1 iwX4_common_4 X.2.2.2.1 hKK.1 hP 0 rfl rfl 0 (by decide) (X.2.2.2.2.1 _ flX4_common_10) (fun _ h9 => h9) rfl dX4_common_1 ?_
  refine lv_iload_n hx hb dX4_common_4 rfl (lv_at hl 1 rfl) ?_
  refine rcV (rest := []) X hKK hP 1 (zX3_has l D cI cC q n d lb xd xl x1 _ rfl) gX4_common_X3_has rfl rfl rfl hdX3_has ⟨Nat.le_of_ble_eq_true rfl, Nat.le_of_ble_eq_true rfl⟩ [8, 9, 10, 11, 12] rfl 0 rfl rfl rfl hl.1 rfl (Nat.le_of_ble_eq_true rfl) dX4_common_5 ⟨Nat.zero_le _, Nat.zero_le _⟩ ?_
  refine lv_if_eq (tgt := 22) hx hb dX4_common_8 (by decide) (fun c1 => ?_) (fun c1 => ?_)
  · replace h := ifp c1 h
    refine lv_iconst (v := iI (-1)) hx hb dX4_common_22 rfl ?_
    exact rd_ret X rfl (Option.some.inj h) dX4_common_23
  · replace h := ifn c1 h
    refine lv_aload_n hx hb dX4_common_11 rfl (lv_at hl 0 rfl) ?_
    refine va_get (D := D) (ci := 4) (v := .ref (q 8)) (C := RX4) (T := TX4) (N := 4) hx hb X.2.2.2.2.1 iwX4_common_4 X.2.2.2.1 hKK.1 hP 0 rfl rfl 0 (by decide) (X.2.2.2.2.1 _ flX4_common_10) (fun _ h9 => h9) rfl dX4_common_12 ?_
    refine lv_iload_n hx hb dX4_common_15 rfl (lv_at hl 2 rfl) ?_
    refine rcV (rest := []) X hKK hP 1 (zX3_has l D cI cC q n d lb xd xl x2 _ rfl) gX4_common_X3_has rfl rfl rfl hdX3_has ⟨Nat.le_of_ble_eq_true rfl, Nat.le_of_ble_eq_true rfl⟩ [8, 9, 10, 11, 12] rfl 0 rfl rfl rfl hl.1 rfl (Nat.le_of_ble_eq_true rfl) dX4_common_16 ⟨Nat.zero_le _, Nat.zero_le _⟩ ?_
    refine lv_if_ne (tgt := 24) hx hb dX4_common_19 (by decide) (fun c2 => ?_) (fun c2 => ?_)
    · replace h := ifn c2 h
      refine lv_aload_n hx hb dX4_common_24 rfl (lv_at hl 0 rfl) ?_
      refine va_get (D := D) (ci := 4) (v := .ref (q 8)) (C := RX4) (T := TX4) (N := 4) hx hb X.2.2.2.2.1 iwX4_common_4 X.2.2.2.1 hKK.1 hP 0 rfl rfl 0 (by decide) (X.2.2.2.2.1 _ flX4_common_10) (fun _ h9 => h9) rfl dX4_common_25 ?_
      refine lv_iload_n hx hb dX4_common_28 rfl (lv_at hl 1 rfl) ?_
      refine lv_iload_n hx hb dX4_common_29 rfl (lv_at hl 2 rfl) ?_
      obtain ⟨r3, h_r3, h⟩ := obd h
      refine rcV (rest := []) X hKK hP 2 (zX3_meetingOf l D cI cC q n d lb xd xl x1 x2 r3 h_r3) gX4_common_X3_meetingOf rfl rfl rfl hdX3_meetingOf ⟨Nat.le_of_ble_eq_true rfl, Nat.le_of_ble_eq_true rfl⟩ [8, 9, 10, 11, 12] rfl 0 rfl rfl rfl hl.1 rfl (Nat.le_of_ble_eq_true rfl) dX4_common_30 ⟨Nat.zero_le _, Nat.zero_le _⟩ ?_
      exact rd_ret X rfl (Option.some.inj h) dX4_common_33
    · replace h := ifp c2 h
      refine lv_iconst (v := iI (-1)) hx hb dX4_common_22 rfl ?_
      exact rd_ret X rfl (Option.some.inj h) dX4_common_23
def mX4_way (n : Int32) (d : Nat → Int32) (x1 : Int32) (x2 : Int32) (x3 : Int32) : Option (Int32) := (if (mX3_has n x1) = 0 then some (iI (-1)) else (if (mX3_has n x2) = 0 then some (iI (-1)) else (if (iI (-1)) ≤ x3 then ((mX3_meetingOf n d x1 x2).bind fun r4 => (if x3 = (iI (-1)) then some ((((mX3_depthOf n d x1) - (mX3_depthOf n d r4)) + (mX3_depthOf n d x2)) - (mX3_depthOf n d r4)) else (if x3 ≤ ((((mX3_depthOf n d x1) - (mX3_depthOf n d r4)) + (mX3_depthOf n d x2)) - (mX3_depthOf n d r4)) then (if ((mX3_depthOf n d x1) - (mX3_depthOf n d r4)) < x3 then ((mX3_climb n d x2 (((mX3_depthOf n d r4) + x3) - ((mX3_depthOf n d x1) - (mX3_depthOf n d r4)))).bind fun r8 => some r8) else ((mX3_climb n d x1 ((mX3_depthOf n d x1) - x3)).bind fun r9 => some r9)) else some (iI (-5))))) else some (iI (-2)))))
theorem hdX4_way : yX4_way.cls = RX4 ∧ yX4_way.cls ≠ "java/lang/invoke/MethodHandle" ∧ yX4_way.cls ≠ "java/lang/invoke/VarHandle" ∧ (parseMethodDescriptor yX4_way.desc).map (fun d => d.parameters.length) = some 3 := by decide +kernel
theorem flX4_way_10 : Cond.fieldLink RX4 10 "BracketTree" "tree" "LBracketTree$Tree;" ∈ wsX4_way := by decide +kernel
theorem iwX4_way_4 : ∀ w ∈ wsX40, w ∈ wsX4_way := by decide +kernel
abbrev rmX4_way : Room := { frames := 4, cells := 0, slots := 0, locals := 91 }
set_option maxHeartbeats 4000000 in
set_option maxRecDepth 100000 in
theorem zX4_way (l : Launch) (D : va_G) (cI cC : ClassId) (q : Nat → Nat) (n : Int32) (d : Nat → Int32) (lb : Nat → Int32) (xd : Nat → Int32) (xl : Nat → Int32) (wi : Int32) (sl : Int32) (kp : Int32) (ct : Nat → Int32) (gd : Nat → Int32) (gl : Nat → Int32) (ln : Int32) (ch : Nat → Int32) (x1 : Int32) (x2 : Int32) (x3 : Int32) (r : Int32) (h : mX4_way n d x1 x2 x3 = some r) : Met l yX4_way wsX4_way rmX4_way (va_Pc [.ref (q 0), .int x1, .int x2, .int x3] (BW D cI cC (wA cI q n d lb xd xl wi sl kp ct gd gl ln ch))) (rdQ r) 0 0 (fun _ => False) := by
  refine MetI RX4 (by decide +kernel) rfl rfl (Nat.le_of_ble_eq_true rfl) ?_
  intro p e s m below meth c ls X _ hB hl
  obtain ⟨hP, hKK⟩ := hB
  have hx := X.1
  have hb := X.2.1
  replace hl : lv_has ls 7 [(0, .ref (q 0)), (1, .int x1), (2, .int x2), (3, .int x3)] := hl
  unfold mX4_way at h
  refine lv_aload_n hx hb dX4_way_0 rfl (lv_at hl 0 rfl) ?_
  refine va_get (D := D) (ci := 4) (v := .ref (q 8)) (C := RX4) (T := TX4) (N := 4) hx hb X.2.2.2.2.1 iwX4_way_4 X.2.2.2.1 hKK.1 hP 0 rfl rfl 0 (by decide) (X.2.2.2.2.1 _ flX4_way_10) (fun _ h9 => h9) rfl dX4_way_1 ?_
  refine lv_iload_n hx hb dX4_way_4 rfl (lv_at hl 1 rfl) ?_
  refine rcV (rest := []) X hKK hP 1 (zX3_has l D cI cC q n d lb xd xl x1 _ rfl) gX4_way_X3_has rfl rfl rfl hdX3_has ⟨Nat.le_of_ble_eq_true rfl, Nat.le_of_ble_eq_true rfl⟩ [8, 9, 10, 11, 12] rfl 0 rfl rfl rfl hl.1 rfl (Nat.le_of_ble_eq_true rfl) dX4_way_5 ⟨Nat.zero_le _, Nat.zero_le _⟩ ?_
  refine lv_if_eq (tgt := 22) hx hb dX4_way_8 (by decide) (fun c1 => ?_) (fun c1 => ?_)
  · replace h := ifp c1 h
    refine lv_iconst (v := iI (-1)) hx hb dX4_way_22 rfl ?_
    exact rd_ret X rfl (Option.some.inj h) dX4_way_23
  · replace h := ifn c1 h
    refine lv_aload_n hx hb dX4_way_11 rfl (lv_at hl 0 rfl) ?_
    refine va_get (D := D) (ci := 4) (v := .ref (q 8)) (C := RX4) (T := TX4) (N := 4) hx hb X.2.2.2.2.1 iwX4_way_4 X.2.2.2.1 hKK.1 hP 0 rfl rfl 0 (by decide) (X.2.2.2.2.1 _ flX4_way_10) (fun _ h9 => h9) rfl dX4_way_12 ?_
    refine lv_iload_n hx hb dX4_way_15 rfl (lv_at hl 2 rfl) ?_
    refine rcV (rest := []) X hKK hP 1 (zX3_has l D cI cC q n d lb xd xl x2 _ rfl) gX4_way_X3_has rfl rfl rfl hdX3_has ⟨Nat.le_of_ble_eq_true rfl, Nat.le_of_ble_eq_true rfl⟩ [8, 9, 10, 11, 12] rfl 0 rfl rfl rfl hl.1 rfl (Nat.le_of_ble_eq_true rfl) dX4_way_16 ⟨Nat.zero_le _, Nat.zero_le _⟩ ?_
    refine lv_if_ne (tgt := 24) hx hb dX4_way_19 (by decide) (fun c2 => ?_) (fun c2 => ?_)
    · replace h := ifn c2 h
      refine lv_iload_n hx hb dX4_way_24 rfl (lv_at hl 3 rfl) ?_
      refine lv_iconst (v := iI (-1)) hx hb dX4_way_25 rfl ?_
      refine lv_icmp_ge (tgt := 32) hx hb dX4_way_26 (by decide) (fun c3 => ?_) (fun c3 => ?_)
      · replace h := ifp c3 h
        refine lv_aload_n hx hb dX4_way_32 rfl (lv_at hl 0 rfl) ?_
        refine va_get (D := D) (ci := 4) (v := .ref (q 8)) (C := RX4) (T := TX4) (N := 4) hx hb X.2.2.2.2.1 iwX4_way_4 X.2.2.2.1 hKK.1 hP 0 rfl rfl 0 (by decide) (X.2.2.2.2.1 _ flX4_way_10) (fun _ h9 => h9) rfl dX4_way_33 ?_
        refine lv_aload_n hx hb dX4_way_36 rfl (lv_at hl 0 rfl) ?_
        refine va_get (D := D) (ci := 4) (v := .ref (q 8)) (C := RX4) (T := TX4) (N := 4) hx hb X.2.2.2.2.1 iwX4_way_4 X.2.2.2.1 hKK.1 hP 0 rfl rfl 0 (by decide) (X.2.2.2.2.1 _ flX4_way_10) (fun _ h9 => h9) rfl dX4_way_37 ?_
        refine lv_iload_n hx hb dX4_way_40 rfl (lv_at hl 1 rfl) ?_
        refine lv_iload_n hx hb dX4_way_41 rfl (lv_at hl 2 rfl) ?_
        obtain ⟨r4, h_r4, h⟩ := obd h
        refine rcV (rest := [.ref (q 8)]) X hKK hP 2 (zX3_meetingOf l D cI cC q n d lb xd xl x1 x2 r4 h_r4) gX4_way_X3_meetingOf rfl rfl rfl hdX3_meetingOf ⟨Nat.le_of_ble_eq_true rfl, Nat.le_of_ble_eq_true rfl⟩ [8, 9, 10, 11, 12] rfl 0 rfl rfl rfl hl.1 rfl (Nat.le_of_ble_eq_true rfl) dX4_way_42 ⟨Nat.zero_le _, Nat.zero_le _⟩ ?_
        refine rcV (rest := []) X hKK hP 1 (zX3_depthOf l D cI cC q n d lb xd xl r4 _ rfl) gX4_way_X3_depthOf rfl rfl rfl hdX3_depthOf ⟨Nat.le_of_ble_eq_true rfl, Nat.le_of_ble_eq_true rfl⟩ [8, 9, 10, 11, 12] rfl 0 rfl rfl rfl hl.1 rfl (Nat.le_of_ble_eq_true rfl) dX4_way_45 ⟨Nat.zero_le _, Nat.zero_le _⟩ ?_
        refine lv_istore (lv' := [(4, .int (mX3_depthOf n d r4)), (0, .ref (q 0)), (1, .int x1), (2, .int x2), (3, .int x3)]) hx hb dX4_way_48 hl (by decide) rfl (fun ls hl => ?_)
        refine lv_aload_n hx hb dX4_way_50 rfl (lv_at hl 1 rfl) ?_
        refine va_get (D := D) (ci := 4) (v := .ref (q 8)) (C := RX4) (T := TX4) (N := 4) hx hb X.2.2.2.2.1 iwX4_way_4 X.2.2.2.1 hKK.1 hP 0 rfl rfl 0 (by decide) (X.2.2.2.2.1 _ flX4_way_10) (fun _ h9 => h9) rfl dX4_way_51 ?_
        refine lv_iload_n hx hb dX4_way_54 rfl (lv_at hl 2 rfl) ?_
        refine rcV (rest := []) X hKK hP 1 (zX3_depthOf l D cI cC q n d lb xd xl x1 _ rfl) gX4_way_X3_depthOf rfl rfl rfl hdX3_depthOf ⟨Nat.le_of_ble_eq_true rfl, Nat.le_of_ble_eq_true rfl⟩ [8, 9, 10, 11, 12] rfl 0 rfl rfl rfl hl.1 rfl (Nat.le_of_ble_eq_true rfl) dX4_way_55 ⟨Nat.zero_le _, Nat.zero_le _⟩ ?_
        refine lv_iload hx hb dX4_way_58 (lv_at hl 0 rfl) ?_
        refine lv_isub hx hb dX4_way_60 ?_
        refine lv_istore (lv' := [(5, .int ((mX3_depthOf n d x1) - (mX3_depthOf n d r4))), (4, .int (mX3_depthOf n d r4)), (0, .ref (q 0)), (1, .int x1), (2, .int x2), (3, .int x3)]) hx hb dX4_way_61 hl (by decide) rfl (fun ls hl => ?_)
        refine lv_iload hx hb dX4_way_63 (lv_at hl 0 rfl) ?_
        refine lv_aload_n hx hb dX4_way_65 rfl (lv_at hl 2 rfl) ?_
        refine va_get (D := D) (ci := 4) (v := .ref (q 8)) (C := RX4) (T := TX4) (N := 4) hx hb X.2.2.2.2.1 iwX4_way_4 X.2.2.2.1 hKK.1 hP 0 rfl rfl 0 (by decide) (X.2.2.2.2.1 _ flX4_way_10) (fun _ h9 => h9) rfl dX4_way_66 ?_
        refine lv_iload_n hx hb dX4_way_69 rfl (lv_at hl 4 rfl) ?_
        refine rcV (rest := [.int ((mX3_depthOf n d x1) - (mX3_depthOf n d r4))]) X hKK hP 1 (zX3_depthOf l D cI cC q n d lb xd xl x2 _ rfl) gX4_way_X3_depthOf rfl rfl rfl hdX3_depthOf ⟨Nat.le_of_ble_eq_true rfl, Nat.le_of_ble_eq_true rfl⟩ [8, 9, 10, 11, 12] rfl 0 rfl rfl rfl hl.1 rfl (Nat.le_of_ble_eq_true rfl) dX4_way_70 ⟨Nat.zero_le _, Nat.zero_le _⟩ ?_
        refine lv_iadd hx hb dX4_way_73 ?_
        refine lv_iload hx hb dX4_way_74 (lv_at hl 1 rfl) ?_
        refine lv_isub hx hb dX4_way_76 ?_
        refine lv_istore (lv' := [(6, .int ((((mX3_depthOf n d x1) - (mX3_depthOf n d r4)) + (mX3_depthOf n d x2)) - (mX3_depthOf n d r4))), (5, .int ((mX3_depthOf n d x1) - (mX3_depthOf n d r4))), (4, .int (mX3_depthOf n d r4)), (0, .ref (q 0)), (1, .int x1), (2, .int x2), (3, .int x3)]) hx hb dX4_way_77 hl (by decide) rfl (fun ls hl => ?_)
        refine lv_iload_n hx hb dX4_way_79 rfl (lv_at hl 6 rfl) ?_
        refine lv_iconst (v := iI (-1)) hx hb dX4_way_80 rfl ?_
        refine lv_icmp_ne (tgt := 87) hx hb dX4_way_81 (by decide) (fun c5 => ?_) (fun c5 => ?_)
        · replace h := ifn c5 h
          refine lv_iload_n hx hb dX4_way_87 rfl (lv_at hl 6 rfl) ?_
          refine lv_iload hx hb dX4_way_88 (lv_at hl 0 rfl) ?_
          refine lv_icmp_le (tgt := 96) hx hb dX4_way_90 (by decide) (fun c6 => ?_) (fun c6 => ?_)
          · replace h := ifp c6 h
            refine lv_iload_n hx hb dX4_way_96 rfl (lv_at hl 6 rfl) ?_
            refine lv_iload hx hb dX4_way_97 (lv_at hl 1 rfl) ?_
            refine lv_icmp_gt (tgt := 123) hx hb dX4_way_99 (by decide) (fun c7 => ?_) (fun c7 => ?_)
            · replace h := ifp c7 h
              refine lv_aload_n hx hb dX4_way_123 rfl (lv_at hl 3 rfl) ?_
              refine va_get (D := D) (ci := 4) (v := .ref (q 8)) (C := RX4) (T := TX4) (N := 4) hx hb X.2.2.2.2.1 iwX4_way_4 X.2.2.2.1 hKK.1 hP 0 rfl rfl 0 (by decide) (X.2.2.2.2.1 _ flX4_way_10) (fun _ h9 => h9) rfl dX4_way_124 ?_
              refine lv_iload_n hx hb dX4_way_127 rfl (lv_at hl 5 rfl) ?_
              refine lv_iload hx hb dX4_way_128 (lv_at hl 2 rfl) ?_
              refine lv_iload_n hx hb dX4_way_130 rfl (lv_at hl 6 rfl) ?_
              refine lv_iadd hx hb dX4_way_131 ?_
              refine lv_iload hx hb dX4_way_132 (lv_at hl 1 rfl) ?_
              refine lv_isub hx hb dX4_way_134 ?_
              obtain ⟨r8, h_r8, h⟩ := obd h
              refine rcV (rest := []) X hKK hP 2 (zX3_climb l D cI cC q n d lb xd xl x2 (((mX3_depthOf n d r4) + x3) - ((mX3_depthOf n d x1) - (mX3_depthOf n d r4))) r8 h_r8) gX4_way_X3_climb rfl rfl rfl hdX3_climb ⟨Nat.le_of_ble_eq_true rfl, Nat.le_of_ble_eq_true rfl⟩ [8, 9, 10, 11, 12] rfl 0 rfl rfl rfl hl.1 rfl (Nat.le_of_ble_eq_true rfl) dX4_way_135 ⟨Nat.zero_le _, Nat.zero_le _⟩ ?_
              exact rd_ret X rfl (Option.some.inj h) dX4_way_138
            · replace h := ifn c7 h
              refine lv_aload_n hx hb dX4_way_102 rfl (lv_at hl 3 rfl) ?_
              refine va_get (D := D) (ci := 4) (v := .ref (q 8)) (C := RX4) (T := TX4) (N := 4) hx hb X.2.2.2.2.1 iwX4_way_4 X.2.2.2.1 hKK.1 hP 0 rfl rfl 0 (by decide) (X.2.2.2.2.1 _ flX4_way_10) (fun _ h9 => h9) rfl dX4_way_103 ?_
              refine lv_iload_n hx hb dX4_way_106 rfl (lv_at hl 4 rfl) ?_
              refine lv_aload_n hx hb dX4_way_107 rfl (lv_at hl 3 rfl) ?_
              refine va_get (D := D) (ci := 4) (v := .ref (q 8)) (C := RX4) (T := TX4) (N := 4) hx hb X.2.2.2.2.1 iwX4_way_4 X.2.2.2.1 hKK.1 hP 0 rfl rfl 0 (by decide) (X.2.2.2.2.1 _ flX4_way_10) (fun _ h9 => h9) rfl dX4_way_108 ?_
              refine lv_iload_n hx hb dX4_way_111 rfl (lv_at hl 4 rfl) ?_
              refine rcV (rest := [.int x1, .ref (q 8)]) X hKK hP 1 (zX3_depthOf l D cI cC q n d lb xd xl x1 _ rfl) gX4_way_X3_depthOf rfl rfl rfl hdX3_depthOf ⟨Nat.le_of_ble_eq_true rfl, Nat.le_of_ble_eq_true rfl⟩ [8, 9, 10, 11, 12] rfl 0 rfl rfl rfl hl.1 rfl (Nat.le_of_ble_eq_true rfl) dX4_way_112 ⟨Nat.zero_le _, Nat.zero_le _⟩ ?_
              refine lv_iload_n hx hb dX4_way_115 rfl (lv_at hl 6 rfl) ?_
              refine lv_isub hx hb dX4_way_116 ?_
              obtain ⟨r9, h_r9, h⟩ := obd h
              refine rcV (rest := []) X hKK hP 2 (zX3_climb l D cI cC q n d lb xd xl x1 ((mX3_depthOf n d x1) - x3) r9 h_r9) gX4_way_X3_climb rfl rfl rfl hdX3_climb ⟨Nat.le_of_ble_eq_true rfl, Nat.le_of_ble_eq_true rfl⟩ [8, 9, 10, 11, 12] rfl 0 rfl rfl rfl hl.1 rfl (Nat.le_of_ble_eq_true rfl) dX4_way_117 ⟨Nat.zero_le _, Nat.zero_le _⟩ ?_
              refine lv_goto (tgt := 138) hx hb dX4_way_120 (by decide) ?_
              exact rd_ret X rfl (Option.some.inj h) dX4_way_138
          · replace h := ifn c6 h
            refine lv_bipush (v := iI (-5)) hx hb dX4_way_93 (by decide) ?_
            exact rd_ret X rfl (Option.some.inj h) dX4_way_95
        · replace h := ifp c5 h
          refine lv_iload hx hb dX4_way_84 (lv_at hl 0 rfl) ?_
          exact rd_ret X rfl (Option.some.inj h) dX4_way_86
      · replace h := ifn c3 h
        refine lv_bipush (v := iI (-2)) hx hb dX4_way_29 (by decide) ?_
        exact rd_ret X rfl (Option.some.inj h) dX4_way_31
    · replace h := ifp c2 h
      refine lv_iconst (v := iI (-1)) hx hb dX4_way_22 rfl ?_
      exact rd_ret X rfl (Option.some.inj h) dX4_way_23
def mX4_level (n : Int32) (d : Nat → Int32) (x1 : Int32) (x2 : Int32) : Option (Int32) := (if x1 < 0 then some (iI (-2)) else (if (iI (-1)) ≤ x2 then (if x2 = (iI (-1)) then ((mX3_countAtDepth n d x1).bind fun r5 => some r5) else ((mX3_findAtDepth n d x1 x2).bind fun r4 => some r4)) else some (iI (-2))))
theorem hdX4_level : yX4_level.cls = RX4 ∧ yX4_level.cls ≠ "java/lang/invoke/MethodHandle" ∧ yX4_level.cls ≠ "java/lang/invoke/VarHandle" ∧ (parseMethodDescriptor yX4_level.desc).map (fun d => d.parameters.length) = some 2 := by decide +kernel
theorem flX4_level_10 : Cond.fieldLink RX4 10 "BracketTree" "tree" "LBracketTree$Tree;" ∈ wsX4_level := by decide +kernel
theorem iwX4_level_4 : ∀ w ∈ wsX40, w ∈ wsX4_level := by decide +kernel
abbrev rmX4_level : Room := { frames := 3, cells := 0, slots := 0, locals := 66 }
set_option maxHeartbeats 4000000 in
set_option maxRecDepth 100000 in
theorem zX4_level (l : Launch) (D : va_G) (cI cC : ClassId) (q : Nat → Nat) (n : Int32) (d : Nat → Int32) (lb : Nat → Int32) (xd : Nat → Int32) (xl : Nat → Int32) (wi : Int32) (sl : Int32) (kp : Int32) (ct : Nat → Int32) (gd : Nat → Int32) (gl : Nat → Int32) (ln : Int32) (ch : Nat → Int32) (x1 : Int32) (x2 : Int32) (r : Int32) (h : mX4_level n d x1 x2 = some r) : Met l yX4_level wsX4_level rmX4_level (va_Pc [.ref (q 0), .int x1, .int x2] (BW D cI cC (wA cI q n d lb xd xl wi sl kp ct gd gl ln ch))) (rdQ r) 0 0 (fun _ => False) := by
  refine MetI RX4 (by decide +kernel) rfl rfl (Nat.le_of_ble_eq_true rfl) ?_
  intro p e s m below meth c ls X _ hB hl
  obtain ⟨hP, hKK⟩ := hB
  have hx := X.1
  have hb := X.2.1
  replace hl : lv_has ls 3 [(0, .ref (q 0)), (1, .int x1), (2, .int x2)] := hl
  unfold mX4_level at h
  refine lv_iload_n hx hb dX4_level_0 rfl (lv_at hl 1 rfl) ?_
  refine lv_if_lt (tgt := 9) hx hb dX4_level_1 (by decide) (fun c1 => ?_) (fun c1 => ?_)
  · replace h := ifp c1 h
    refine lv_bipush (v := iI (-2)) hx hb dX4_level_9 (by decide) ?_
    exact rd_ret X rfl (Option.some.inj h) dX4_level_11
  · replace h := ifn c1 h
    refine lv_iload_n hx hb dX4_level_4 rfl (lv_at hl 2 rfl) ?_
    refine lv_iconst (v := iI (-1)) hx hb dX4_level_5 rfl ?_
    refine lv_icmp_ge (tgt := 12) hx hb dX4_level_6 (by decide) (fun c2 => ?_) (fun c2 => ?_)
    · replace h := ifp c2 h
      refine lv_iload_n hx hb dX4_level_12 rfl (lv_at hl 2 rfl) ?_
      refine lv_iconst (v := iI (-1)) hx hb dX4_level_13 rfl ?_
      refine lv_icmp_ne (tgt := 28) hx hb dX4_level_14 (by decide) (fun c3 => ?_) (fun c3 => ?_)
      · replace h := ifn c3 h
        refine lv_aload_n hx hb dX4_level_28 rfl (lv_at hl 0 rfl) ?_
        refine va_get (D := D) (ci := 4) (v := .ref (q 8)) (C := RX4) (T := TX4) (N := 4) hx hb X.2.2.2.2.1 iwX4_level_4 X.2.2.2.1 hKK.1 hP 0 rfl rfl 0 (by decide) (X.2.2.2.2.1 _ flX4_level_10) (fun _ h9 => h9) rfl dX4_level_29 ?_
        refine lv_iload_n hx hb dX4_level_32 rfl (lv_at hl 1 rfl) ?_
        refine lv_iload_n hx hb dX4_level_33 rfl (lv_at hl 2 rfl) ?_
        obtain ⟨r4, h_r4, h⟩ := obd h
        refine rcV (rest := []) X hKK hP 2 (zX3_findAtDepth l D cI cC q n d lb xd xl x1 x2 r4 h_r4) gX4_level_X3_findAtDepth rfl rfl rfl hdX3_findAtDepth ⟨Nat.le_of_ble_eq_true rfl, Nat.le_of_ble_eq_true rfl⟩ [8, 9, 10, 11, 12] rfl 0 rfl rfl rfl hl.1 rfl (Nat.le_of_ble_eq_true rfl) dX4_level_34 ⟨Nat.zero_le _, Nat.zero_le _⟩ ?_
        exact rd_ret X rfl (Option.some.inj h) dX4_level_37
      · replace h := ifp c3 h
        refine lv_aload_n hx hb dX4_level_17 rfl (lv_at hl 0 rfl) ?_
        refine va_get (D := D) (ci := 4) (v := .ref (q 8)) (C := RX4) (T := TX4) (N := 4) hx hb X.2.2.2.2.1 iwX4_level_4 X.2.2.2.1 hKK.1 hP 0 rfl rfl 0 (by decide) (X.2.2.2.2.1 _ flX4_level_10) (fun _ h9 => h9) rfl dX4_level_18 ?_
        refine lv_iload_n hx hb dX4_level_21 rfl (lv_at hl 1 rfl) ?_
        obtain ⟨r5, h_r5, h⟩ := obd h
        refine rcV (rest := []) X hKK hP 1 (zX3_countAtDepth l D cI cC q n d lb xd xl x1 r5 h_r5) gX4_level_X3_countAtDepth rfl rfl rfl hdX3_countAtDepth ⟨Nat.le_of_ble_eq_true rfl, Nat.le_of_ble_eq_true rfl⟩ [8, 9, 10, 11, 12] rfl 0 rfl rfl rfl hl.1 rfl (Nat.le_of_ble_eq_true rfl) dX4_level_22 ⟨Nat.zero_le _, Nat.zero_le _⟩ ?_
        refine lv_goto (tgt := 37) hx hb dX4_level_25 (by decide) ?_
        exact rd_ret X rfl (Option.some.inj h) dX4_level_37
    · replace h := ifn c2 h
      refine lv_bipush (v := iI (-2)) hx hb dX4_level_9 (by decide) ?_
      exact rd_ret X rfl (Option.some.inj h) dX4_level_11
def mX4_byPostorder (n : Int32) (d : Nat → Int32) (x1 : Int32) : Option (Int32) := (if x1 < 0 then some (iI (-2)) else (if x1 < (mX3_count n) then ((mX3_findByPostorder n d x1).bind fun r3 => some r3) else some (iI (-2))))
theorem hdX4_byPostorder : yX4_byPostorder.cls = RX4 ∧ yX4_byPostorder.cls ≠ "java/lang/invoke/MethodHandle" ∧ yX4_byPostorder.cls ≠ "java/lang/invoke/VarHandle" ∧ (parseMethodDescriptor yX4_byPostorder.desc).map (fun d => d.parameters.length) = some 1 := by decide +kernel
theorem flX4_byPostorder_10 : Cond.fieldLink RX4 10 "BracketTree" "tree" "LBracketTree$Tree;" ∈ wsX4_byPostorder := by decide +kernel
theorem iwX4_byPostorder_4 : ∀ w ∈ wsX40, w ∈ wsX4_byPostorder := by decide +kernel
abbrev rmX4_byPostorder : Room := { frames := 5, cells := 0, slots := 0, locals := 108 }
set_option maxHeartbeats 4000000 in
set_option maxRecDepth 100000 in
theorem zX4_byPostorder (l : Launch) (D : va_G) (cI cC : ClassId) (q : Nat → Nat) (n : Int32) (d : Nat → Int32) (lb : Nat → Int32) (xd : Nat → Int32) (xl : Nat → Int32) (wi : Int32) (sl : Int32) (kp : Int32) (ct : Nat → Int32) (gd : Nat → Int32) (gl : Nat → Int32) (ln : Int32) (ch : Nat → Int32) (x1 : Int32) (r : Int32) (h : mX4_byPostorder n d x1 = some r) : Met l yX4_byPostorder wsX4_byPostorder rmX4_byPostorder (va_Pc [.ref (q 0), .int x1] (BW D cI cC (wA cI q n d lb xd xl wi sl kp ct gd gl ln ch))) (rdQ r) 0 0 (fun _ => False) := by
  refine MetI RX4 (by decide +kernel) rfl rfl (Nat.le_of_ble_eq_true rfl) ?_
  intro p e s m below meth c ls X _ hB hl
  obtain ⟨hP, hKK⟩ := hB
  have hx := X.1
  have hb := X.2.1
  replace hl : lv_has ls 2 [(0, .ref (q 0)), (1, .int x1)] := hl
  unfold mX4_byPostorder at h
  refine lv_iload_n hx hb dX4_byPostorder_0 rfl (lv_at hl 1 rfl) ?_
  refine lv_if_lt (tgt := 15) hx hb dX4_byPostorder_1 (by decide) (fun c1 => ?_) (fun c1 => ?_)
  · replace h := ifp c1 h
    refine lv_bipush (v := iI (-2)) hx hb dX4_byPostorder_15 (by decide) ?_
    exact rd_ret X rfl (Option.some.inj h) dX4_byPostorder_17
  · replace h := ifn c1 h
    refine lv_iload_n hx hb dX4_byPostorder_4 rfl (lv_at hl 1 rfl) ?_
    refine lv_aload_n hx hb dX4_byPostorder_5 rfl (lv_at hl 0 rfl) ?_
    refine va_get (D := D) (ci := 4) (v := .ref (q 8)) (C := RX4) (T := TX4) (N := 4) hx hb X.2.2.2.2.1 iwX4_byPostorder_4 X.2.2.2.1 hKK.1 hP 0 rfl rfl 0 (by decide) (X.2.2.2.2.1 _ flX4_byPostorder_10) (fun _ h9 => h9) rfl dX4_byPostorder_6 ?_
    refine rcV (rest := [.int x1]) X hKK hP 0 (zX3_count l D cI cC q n d lb xd xl _ rfl) gX4_byPostorder_X3_count rfl rfl rfl hdX3_count ⟨Nat.le_of_ble_eq_true rfl, Nat.le_of_ble_eq_true rfl⟩ [8, 9, 10, 11, 12] rfl 0 rfl rfl rfl hl.1 rfl (Nat.le_of_ble_eq_true rfl) dX4_byPostorder_9 ⟨Nat.zero_le _, Nat.zero_le _⟩ ?_
    refine lv_icmp_lt (tgt := 18) hx hb dX4_byPostorder_12 (by decide) (fun c2 => ?_) (fun c2 => ?_)
    · replace h := ifp c2 h
      refine lv_aload_n hx hb dX4_byPostorder_18 rfl (lv_at hl 0 rfl) ?_
      refine va_get (D := D) (ci := 4) (v := .ref (q 8)) (C := RX4) (T := TX4) (N := 4) hx hb X.2.2.2.2.1 iwX4_byPostorder_4 X.2.2.2.1 hKK.1 hP 0 rfl rfl 0 (by decide) (X.2.2.2.2.1 _ flX4_byPostorder_10) (fun _ h9 => h9) rfl dX4_byPostorder_19 ?_
      refine lv_iload_n hx hb dX4_byPostorder_22 rfl (lv_at hl 1 rfl) ?_
      obtain ⟨r3, h_r3, h⟩ := obd h
      refine rcV (rest := []) X hKK hP 1 (zX3_findByPostorder l D cI cC q n d lb xd xl x1 r3 h_r3) gX4_byPostorder_X3_findByPostorder rfl rfl rfl hdX3_findByPostorder ⟨Nat.le_of_ble_eq_true rfl, Nat.le_of_ble_eq_true rfl⟩ [8, 9, 10, 11, 12] rfl 0 rfl rfl rfl hl.1 rfl (Nat.le_of_ble_eq_true rfl) dX4_byPostorder_23 ⟨Nat.zero_le _, Nat.zero_le _⟩ ?_
      exact rd_ret X rfl (Option.some.inj h) dX4_byPostorder_26
    · replace h := ifn c2 h
      refine lv_bipush (v := iI (-2)) hx hb dX4_byPostorder_15 (by decide) ?_
      exact rd_ret X rfl (Option.some.inj h) dX4_byPostorder_17
def mX4_deepest (n : Int32) (d : Nat → Int32) (x1 : Int32) : Option (Int32) := (if (mX3_has n x1) = 0 then some (iI (-1)) else ((mX3_deepestOf n d x1).bind fun r2 => some r2))
theorem hdX4_deepest : yX4_deepest.cls = RX4 ∧ yX4_deepest.cls ≠ "java/lang/invoke/MethodHandle" ∧ yX4_deepest.cls ≠ "java/lang/invoke/VarHandle" ∧ (parseMethodDescriptor yX4_deepest.desc).map (fun d => d.parameters.length) = some 1 := by decide +kernel
theorem flX4_deepest_10 : Cond.fieldLink RX4 10 "BracketTree" "tree" "LBracketTree$Tree;" ∈ wsX4_deepest := by decide +kernel
theorem iwX4_deepest_4 : ∀ w ∈ wsX40, w ∈ wsX4_deepest := by decide +kernel
abbrev rmX4_deepest : Room := { frames := 4, cells := 0, slots := 0, locals := 89 }
set_option maxHeartbeats 4000000 in
set_option maxRecDepth 100000 in
theorem zX4_deepest (l : Launch) (D : va_G) (cI cC : ClassId) (q : Nat → Nat) (n : Int32) (d : Nat → Int32) (lb : Nat → Int32) (xd : Nat → Int32) (xl : Nat → Int32) (wi : Int32) (sl : Int32) (kp : Int32) (ct : Nat → Int32) (gd : Nat → Int32) (gl : Nat → Int32) (ln : Int32) (ch : Nat → Int32) (x1 : Int32) (r : Int32) (h : mX4_deepest n d x1 = some r) : Met l yX4_deepest wsX4_deepest rmX4_deepest (va_Pc [.ref (q 0), .int x1] (BW D cI cC (wA cI q n d lb xd xl wi sl kp ct gd gl ln ch))) (rdQ r) 0 0 (fun _ => False) := by
  refine MetI RX4 (by decide +kernel) rfl rfl (Nat.le_of_ble_eq_true rfl) ?_
  intro p e s m below meth c ls X _ hB hl
  obtain ⟨hP, hKK⟩ := hB
  have hx := X.1
  have hb := X.2.1
  replace hl : lv_has ls 2 [(0, .ref (q 0)), (1, .int x1)] := hl
  unfold mX4_deepest at h
  refine lv_aload_n hx hb dX4_deepest_0 rfl (lv_at hl 0 rfl) ?_
  refine va_get (D := D) (ci := 4) (v := .ref (q 8)) (C := RX4) (T := TX4) (N := 4) hx hb X.2.2.2.2.1 iwX4_deepest_4 X.2.2.2.1 hKK.1 hP 0 rfl rfl 0 (by decide) (X.2.2.2.2.1 _ flX4_deepest_10) (fun _ h9 => h9) rfl dX4_deepest_1 ?_
  refine lv_iload_n hx hb dX4_deepest_4 rfl (lv_at hl 1 rfl) ?_
  refine rcV (rest := []) X hKK hP 1 (zX3_has l D cI cC q n d lb xd xl x1 _ rfl) gX4_deepest_X3_has rfl rfl rfl hdX3_has ⟨Nat.le_of_ble_eq_true rfl, Nat.le_of_ble_eq_true rfl⟩ [8, 9, 10, 11, 12] rfl 0 rfl rfl rfl hl.1 rfl (Nat.le_of_ble_eq_true rfl) dX4_deepest_5 ⟨Nat.zero_le _, Nat.zero_le _⟩ ?_
  refine lv_if_eq (tgt := 22) hx hb dX4_deepest_8 (by decide) (fun c1 => ?_) (fun c1 => ?_)
  · replace h := ifp c1 h
    refine lv_iconst (v := iI (-1)) hx hb dX4_deepest_22 rfl ?_
    exact rd_ret X rfl (Option.some.inj h) dX4_deepest_23
  · replace h := ifn c1 h
    refine lv_aload_n hx hb dX4_deepest_11 rfl (lv_at hl 0 rfl) ?_
    refine va_get (D := D) (ci := 4) (v := .ref (q 8)) (C := RX4) (T := TX4) (N := 4) hx hb X.2.2.2.2.1 iwX4_deepest_4 X.2.2.2.1 hKK.1 hP 0 rfl rfl 0 (by decide) (X.2.2.2.2.1 _ flX4_deepest_10) (fun _ h9 => h9) rfl dX4_deepest_12 ?_
    refine lv_iload_n hx hb dX4_deepest_15 rfl (lv_at hl 1 rfl) ?_
    obtain ⟨r2, h_r2, h⟩ := obd h
    refine rcV (rest := []) X hKK hP 1 (zX3_deepestOf l D cI cC q n d lb xd xl x1 r2 h_r2) gX4_deepest_X3_deepestOf rfl rfl rfl hdX3_deepestOf ⟨Nat.le_of_ble_eq_true rfl, Nat.le_of_ble_eq_true rfl⟩ [8, 9, 10, 11, 12] rfl 0 rfl rfl rfl hl.1 rfl (Nat.le_of_ble_eq_true rfl) dX4_deepest_16 ⟨Nat.zero_le _, Nat.zero_le _⟩ ?_
    refine lv_goto (tgt := 23) hx hb dX4_deepest_19 (by decide) ?_
    exact rd_ret X rfl (Option.some.inj h) dX4_deepest_23
def mX4_bracket (n : Int32) (d : Nat → Int32) (x1 : Int32) (x2 : Int32) : Option (Int32) := (if x1 < 0 then some (iI (-1)) else (if x1 < (mX3_positionCount n) then ((mX3_nodeOfPosition n d x1).bind fun r3 => (if (mX3_openingOf n d r3) = x1 then (if x2 = iI 0 then (if (iI 1) = 0 then some (iI 0) else some (iI 1)) else (if x2 = iI 1 then ((mX3_excessBefore n d (x1 + (iI 1))).bind fun r19 => some r19) else (if x2 = iI 2 then (if (iI 1) = 0 then some (mX3_openingOf n d r3) else ((mX3_closingOf n d r3).bind fun r22 => some r22)) else (if x2 = iI 3 then (if r3 = 0 then some (iI (-5)) else ((mX3_parentOf n d r3).bind fun r25 => some (mX3_openingOf n d r25))) else (if x2 = iI 4 then some r3 else some (iI (-2))))))) else (if x2 = iI 0 then (if (iI 0) = 0 then some (iI 0) else some (iI 1)) else (if x2 = iI 1 then ((mX3_excessBefore n d (x1 + (iI 1))).bind fun r8 => some r8) else (if x2 = iI 2 then (if (iI 0) = 0 then some (mX3_openingOf n d r3) else ((mX3_closingOf n d r3).bind fun r11 => some r11)) else (if x2 = iI 3 then (if r3 = 0 then some (iI (-5)) else ((mX3_parentOf n d r3).bind fun r14 => some (mX3_openingOf n d r14))) else (if x2 = iI 4 then some r3 else some (iI (-2))))))))) else some (iI (-1))))
theorem hdX4_bracket : yX4_bracket.cls = RX4 ∧ yX4_bracket.cls ≠ "java/lang/invoke/MethodHandle" ∧ yX4_bracket.cls ≠ "java/lang/invoke/VarHandle" ∧ (parseMethodDescriptor yX4_bracket.desc).map (fun d => d.parameters.length) = some 2 := by decide +kernel
theorem flX4_bracket_10 : Cond.fieldLink RX4 10 "BracketTree" "tree" "LBracketTree$Tree;" ∈ wsX4_bracket := by decide +kernel
theorem iwX4_bracket_4 : ∀ w ∈ wsX40, w ∈ wsX4_bracket := by decide +kernel
abbrev rmX4_bracket : Room := { frames := 6, cells := 0, slots := 0, locals := 128 }
set_option maxHeartbeats 4000000 in
set_option maxRecDepth 100000 in
theorem zX4_bracket (l : Launch) (D : va_G) (cI cC : ClassId) (q : Nat → Nat) (n : Int32) (d : Nat → Int32) (lb : Nat → Int32) (xd : Nat → Int32) (xl : Nat → Int32) (wi : Int32) (sl : Int32) (kp : Int32) (ct : Nat → Int32) (gd : Nat → Int32) (gl : Nat → Int32) (ln : Int32) (ch : Nat → Int32) (x1 : Int32) (x2 : Int32) (r : Int32) (h : mX4_bracket n d x1 x2 = some r) : Met l yX4_bracket wsX4_bracket rmX4_bracket (va_Pc [.ref (q 0), .int x1, .int x2] (BW D cI cC (wA cI q n d lb xd xl wi sl kp ct gd gl ln ch))) (rdQ r) 0 0 (fun _ => False) := by
  refine MetI RX4 (by decide +kernel) rfl rfl (Nat.le_of_ble_eq_true rfl) ?_
  intro p e s m below meth c ls X _ hB hl
  obtain ⟨hP, hKK⟩ := hB
  have hx := X.1
  have hb := X.2.1
  replace hl : lv_has ls 5 [(0, .ref (q 0)), (1, .int x1), (2, .int x2)] := hl
  unfold mX4_bracket at h
  refine lv_iload_n hx hb dX4_bracket_0 rfl (lv_at hl 1 rfl) ?_
  refine lv_if_lt (tgt := 15) hx hb dX4_bracket_1 (by decide) (fun c1 => ?_) (fun c1 => ?_)
  · replace h := ifp c1 h
    refine lv_iconst (v := iI (-1)) hx hb dX4_bracket_15 rfl ?_
    exact rd_ret X rfl (Option.some.inj h) dX4_bracket_16
  · replace h := ifn c1 h
    refine lv_iload_n hx hb dX4_bracket_4 rfl (lv_at hl 1 rfl) ?_
    refine lv_aload_n hx hb dX4_bracket_5 rfl (lv_at hl 0 rfl) ?_
    refine va_get (D := D) (ci := 4) (v := .ref (q 8)) (C := RX4) (T := TX4) (N := 4) hx hb X.2.2.2.2.1 iwX4_bracket_4 X.2.2.2.1 hKK.1 hP 0 rfl rfl 0 (by decide) (X.2.2.2.2.1 _ flX4_bracket_10) (fun _ h9 => h9) rfl dX4_bracket_6 ?_
    refine rcV (rest := [.int x1]) X hKK hP 0 (zX3_positionCount l D cI cC q n d lb xd xl _ rfl) gX4_bracket_X3_positionCount rfl rfl rfl hdX3_positionCount ⟨Nat.le_of_ble_eq_true rfl, Nat.le_of_ble_eq_true rfl⟩ [8, 9, 10, 11, 12] rfl 0 rfl rfl rfl hl.1 rfl (Nat.le_of_ble_eq_true rfl) dX4_bracket_9 ⟨Nat.zero_le _, Nat.zero_le _⟩ ?_
    refine lv_icmp_lt (tgt := 17) hx hb dX4_bracket_12 (by decide) (fun c2 => ?_) (fun c2 => ?_)
    · replace h := ifp c2 h
      refine lv_aload_n hx hb dX4_bracket_17 rfl (lv_at hl 0 rfl) ?_
      refine va_get (D := D) (ci := 4) (v := .ref (q 8)) (C := RX4) (T := TX4) (N := 4) hx hb X.2.2.2.2.1 iwX4_bracket_4 X.2.2.2.1 hKK.1 hP 0 rfl rfl 0 (by decide) (X.2.2.2.2.1 _ flX4_bracket_10) (fun _ h9 => h9) rfl dX4_bracket_18 ?_
      refine lv_iload_n hx hb dX4_bracket_21 rfl (lv_at hl 1 rfl) ?_
      obtain ⟨r3, h_r3, h⟩ := obd h
      refine rcV (rest := []) X hKK hP 1 (zX3_nodeOfPosition l D cI cC q n d lb xd xl x1 r3 h_r3) gX4_bracket_X3_nodeOfPosition rfl rfl rfl hdX3_nodeOfPosition ⟨Nat.le_of_ble_eq_true rfl, Nat.le_of_ble_eq_true rfl⟩ [8, 9, 10, 11, 12] rfl 0 rfl rfl rfl hl.1 rfl (Nat.le_of_ble_eq_true rfl) dX4_bracket_22 ⟨Nat.zero_le _, Nat.zero_le _⟩ ?_
      refine lv_istore_n (lv' := [(3, .int r3), (0, .ref (q 0)), (1, .int x1), (2, .int x2)]) hx hb dX4_bracket_25 rfl hl (by decide) rfl (fun ls hl => ?_)
      refine lv_aload_n hx hb dX4_bracket_26 rfl (lv_at hl 1 rfl) ?_
      refine va_get (D := D) (ci := 4) (v := .ref (q 8)) (C := RX4) (T := TX4) (N := 4) hx hb X.2.2.2.2.1 iwX4_bracket_4 X.2.2.2.1 hKK.1 hP 0 rfl rfl 0 (by decide) (X.2.2.2.2.1 _ flX4_bracket_10) (fun _ h9 => h9) rfl dX4_bracket_27 ?_
      refine lv_iload_n hx hb dX4_bracket_30 rfl (lv_at hl 0 rfl) ?_
      refine rcV (rest := []) X hKK hP 1 (zX3_openingOf l D cI cC q n d lb xd xl r3 _ rfl) gX4_bracket_X3_openingOf rfl rfl rfl hdX3_openingOf ⟨Nat.le_of_ble_eq_true rfl, Nat.le_of_ble_eq_true rfl⟩ [8, 9, 10, 11, 12] rfl 0 rfl rfl rfl hl.1 rfl (Nat.le_of_ble_eq_true rfl) dX4_bracket_31 ⟨Nat.zero_le _, Nat.zero_le _⟩ ?_
      refine lv_iload_n hx hb dX4_bracket_34 rfl (lv_at hl 2 rfl) ?_
      refine lv_icmp_ne (tgt := 42) hx hb dX4_bracket_35 (by decide) (fun c4 => ?_) (fun c4 => ?_)
      · replace h := ifn c4 h
        refine lv_iconst (v := iI 0) hx hb dX4_bracket_42 rfl ?_
        refine lv_istore (lv' := [(4, .int (iI 0)), (3, .int r3), (0, .ref (q 0)), (1, .int x1), (2, .int x2)]) hx hb dX4_bracket_43 hl (by decide) rfl (fun ls hl => ?_)
        refine lv_iload_n hx hb dX4_bracket_45 rfl (lv_at hl 4 rfl) ?_
        by_cases c5 : x2 = iI 0
        · replace h := ifp c5 h
          refine lv_tableIn (tgt := 80) hx hb dX4_bracket_46 (by rw [c5]; decide) (by rw [c5]; decide) (by rw [c5]; rfl) (by decide) ?_
          refine lv_iload hx hb dX4_bracket_80 (lv_at hl 0 rfl) ?_
          refine lv_if_eq (tgt := 89) hx hb dX4_bracket_82 (by decide) (fun c6 => ?_) (fun c6 => ?_)
          · replace h := ifp c6 h
            refine lv_iconst (v := iI 0) hx hb dX4_bracket_89 rfl ?_
            exact rd_ret X rfl (Option.some.inj h) dX4_bracket_90
          · replace h := ifn c6 h
            refine lv_iconst (v := iI 1) hx hb dX4_bracket_85 rfl ?_
            refine lv_goto (tgt := 90) hx hb dX4_bracket_86 (by decide) ?_
            exact rd_ret X rfl (Option.some.inj h) dX4_bracket_90
        replace h := ifn c5 h
        by_cases c7 : x2 = iI 1
        · replace h := ifp c7 h
          refine lv_tableIn (tgt := 91) hx hb dX4_bracket_46 (by rw [c7]; decide) (by rw [c7]; decide) (by rw [c7]; rfl) (by decide) ?_
          refine lv_aload_n hx hb dX4_bracket_91 rfl (lv_at hl 2 rfl) ?_
          refine va_get (D := D) (ci := 4) (v := .ref (q 8)) (C := RX4) (T := TX4) (N := 4) hx hb X.2.2.2.2.1 iwX4_bracket_4 X.2.2.2.1 hKK.1 hP 0 rfl rfl 0 (by decide) (X.2.2.2.2.1 _ flX4_bracket_10) (fun _ h9 => h9) rfl dX4_bracket_92 ?_
          refine lv_iload_n hx hb dX4_bracket_95 rfl (lv_at hl 3 rfl) ?_
          refine lv_iconst (v := iI 1) hx hb dX4_bracket_96 rfl ?_
          refine lv_iadd hx hb dX4_bracket_97 ?_
          obtain ⟨r8, h_r8, h⟩ := obd h
          refine rcV (rest := []) X hKK hP 1 (zX3_excessBefore l D cI cC q n d lb xd xl (x1 + (iI 1)) r8 h_r8) gX4_bracket_X3_excessBefore rfl rfl rfl hdX3_excessBefore ⟨Nat.le_of_ble_eq_true rfl, Nat.le_of_ble_eq_true rfl⟩ [8, 9, 10, 11, 12] rfl 0 rfl rfl rfl hl.1 rfl (Nat.le_of_ble_eq_true rfl) dX4_bracket_98 ⟨Nat.zero_le _, Nat.zero_le _⟩ ?_
          exact rd_ret X rfl (Option.some.inj h) dX4_bracket_101
        replace h := ifn c7 h
        by_cases c9 : x2 = iI 2
        · replace h := ifp c9 h
          refine lv_tableIn (tgt := 102) hx hb dX4_bracket_46 (by rw [c9]; decide) (by rw [c9]; decide) (by rw [c9]; rfl) (by decide) ?_
          refine lv_iload hx hb dX4_bracket_102 (lv_at hl 0 rfl) ?_
          refine lv_if_eq (tgt := 118) hx hb dX4_bracket_104 (by decide) (fun c10 => ?_) (fun c10 => ?_)
          · replace h := ifp c10 h
            refine lv_aload_n hx hb dX4_bracket_118 rfl (lv_at hl 2 rfl) ?_
            refine va_get (D := D) (ci := 4) (v := .ref (q 8)) (C := RX4) (T := TX4) (N := 4) hx hb X.2.2.2.2.1 iwX4_bracket_4 X.2.2.2.1 hKK.1 hP 0 rfl rfl 0 (by decide) (X.2.2.2.2.1 _ flX4_bracket_10) (fun _ h9 => h9) rfl dX4_bracket_119 ?_
            refine lv_iload_n hx hb dX4_bracket_122 rfl (lv_at hl 1 rfl) ?_
            refine rcV (rest := []) X hKK hP 1 (zX3_openingOf l D cI cC q n d lb xd xl r3 _ rfl) gX4_bracket_X3_openingOf rfl rfl rfl hdX3_openingOf ⟨Nat.le_of_ble_eq_true rfl, Nat.le_of_ble_eq_true rfl⟩ [8, 9, 10, 11, 12] rfl 0 rfl rfl rfl hl.1 rfl (Nat.le_of_ble_eq_true rfl) dX4_bracket_123 ⟨Nat.zero_le _, Nat.zero_le _⟩ ?_
            exact rd_ret X rfl (Option.some.inj h) dX4_bracket_126
          · replace h := ifn c10 h
            refine lv_aload_n hx hb dX4_bracket_107 rfl (lv_at hl 2 rfl) ?_
            refine va_get (D := D) (ci := 4) (v := .ref (q 8)) (C := RX4) (T := TX4) (N := 4) hx hb X.2.2.2.2.1 iwX4_bracket_4 X.2.2.2.1 hKK.1 hP 0 rfl rfl 0 (by decide) (X.2.2.2.2.1 _ flX4_bracket_10) (fun _ h9 => h9) rfl dX4_bracket_108 ?_
            refine lv_iload_n hx hb dX4_bracket_111 rfl (lv_at hl 1 rfl) ?_
            obtain ⟨r11, h_r11, h⟩ := obd h
            refine rcV (rest := []) X hKK hP 1 (zX3_closingOf l D cI cC q n d lb xd xl r3 r11 h_r11) gX4_bracket_X3_closingOf rfl rfl rfl hdX3_closingOf ⟨Nat.le_of_ble_eq_true rfl, Nat.le_of_ble_eq_true rfl⟩ [8, 9, 10, 11, 12] rfl 0 rfl rfl rfl hl.1 rfl (Nat.le_of_ble_eq_true rfl) dX4_bracket_112 ⟨Nat.zero_le _, Nat.zero_le _⟩ ?_
            refine lv_goto (tgt := 126) hx hb dX4_bracket_115 (by decide) ?_
            exact rd_ret X rfl (Option.some.inj h) dX4_bracket_126
        replace h := ifn c9 h
        by_cases c12 : x2 = iI 3
        · replace h := ifp c12 h
          refine lv_tableIn (tgt := 127) hx hb dX4_bracket_46 (by rw [c12]; decide) (by rw [c12]; decide) (by rw [c12]; rfl) (by decide) ?_
          refine lv_iload_n hx hb dX4_bracket_127 rfl (lv_at hl 1 rfl) ?_
          refine lv_if_ne (tgt := 136) hx hb dX4_bracket_128 (by decide) (fun c13 => ?_) (fun c13 => ?_)
          · replace h := ifn c13 h
            refine lv_aload_n hx hb dX4_bracket_136 rfl (lv_at hl 2 rfl) ?_
            refine va_get (D := D) (ci := 4) (v := .ref (q 8)) (C := RX4) (T := TX4) (N := 4) hx hb X.2.2.2.2.1 iwX4_bracket_4 X.2.2.2.1 hKK.1 hP 0 rfl rfl 0 (by decide) (X.2.2.2.2.1 _ flX4_bracket_10) (fun _ h9 => h9) rfl dX4_bracket_137 ?_
            refine lv_aload_n hx hb dX4_bracket_140 rfl (lv_at hl 2 rfl) ?_
            refine va_get (D := D) (ci := 4) (v := .ref (q 8)) (C := RX4) (T := TX4) (N := 4) hx hb X.2.2.2.2.1 iwX4_bracket_4 X.2.2.2.1 hKK.1 hP 0 rfl rfl 0 (by decide) (X.2.2.2.2.1 _ flX4_bracket_10) (fun _ h9 => h9) rfl dX4_bracket_141 ?_
            refine lv_iload_n hx hb dX4_bracket_144 rfl (lv_at hl 1 rfl) ?_
            obtain ⟨r14, h_r14, h⟩ := obd h
            refine rcV (rest := [.ref (q 8)]) X hKK hP 1 (zX3_parentOf l D cI cC q n d lb xd xl r3 r14 h_r14) gX4_bracket_X3_parentOf rfl rfl rfl hdX3_parentOf ⟨Nat.le_of_ble_eq_true rfl, Nat.le_of_ble_eq_true rfl⟩ [8, 9, 10, 11, 12] rfl 0 rfl rfl rfl hl.1 rfl (Nat.le_of_ble_eq_true rfl) dX4_bracket_145 ⟨Nat.zero_le _, Nat.zero_le _⟩ ?_
            refine rcV (rest := []) X hKK hP 1 (zX3_openingOf l D cI cC q n d lb xd xl r14 _ rfl) gX4_bracket_X3_openingOf rfl rfl rfl hdX3_openingOf ⟨Nat.le_of_ble_eq_true rfl, Nat.le_of_ble_eq_true rfl⟩ [8, 9, 10, 11, 12] rfl 0 rfl rfl rfl hl.1 rfl (Nat.le_of_ble_eq_true rfl) dX4_bracket_148 ⟨Nat.zero_le _, Nat.zero_le _⟩ ?_
            exact rd_ret X rfl (Option.some.inj h) dX4_bracket_151
          · replace h := ifp c13 h
            refine lv_bipush (v := iI (-5)) hx hb dX4_bracket_131 (by decide) ?_
            refine lv_goto (tgt := 151) hx hb dX4_bracket_133 (by decide) ?_
            exact rd_ret X rfl (Option.some.inj h) dX4_bracket_151
        replace h := ifn c12 h
        by_cases c15 : x2 = iI 4
        · replace h := ifp c15 h
          refine lv_tableIn (tgt := 152) hx hb dX4_bracket_46 (by rw [c15]; decide) (by rw [c15]; decide) (by rw [c15]; rfl) (by decide) ?_
          refine lv_iload_n hx hb dX4_bracket_152 rfl (lv_at hl 1 rfl) ?_
          exact rd_ret X rfl (Option.some.inj h) dX4_bracket_153
        replace h := ifn c15 h
        refine lv_tableOut (tgt := 154) hx hb dX4_bracket_46 (sw4 c5 c7 c9 c12 c15) (by decide) ?_
        refine lv_bipush (v := iI (-2)) hx hb dX4_bracket_154 (by decide) ?_
        exact rd_ret X rfl (Option.some.inj h) dX4_bracket_156
      · replace h := ifp c4 h
        refine lv_iconst (v := iI 1) hx hb dX4_bracket_38 rfl ?_
        refine lv_goto (tgt := 43) hx hb dX4_bracket_39 (by decide) ?_
        refine lv_istore (lv' := [(4, .int (iI 1)), (3, .int r3), (0, .ref (q 0)), (1, .int x1), (2, .int x2)]) hx hb dX4_bracket_43 hl (by decide) rfl (fun ls hl => ?_)
        refine lv_iload_n hx hb dX4_bracket_45 rfl (lv_at hl 4 rfl) ?_
        by_cases c16 : x2 = iI 0
        · replace h := ifp c16 h
          refine lv_tableIn (tgt := 80) hx hb dX4_bracket_46 (by rw [c16]; decide) (by rw [c16]; decide) (by rw [c16]; rfl) (by decide) ?_
          refine lv_iload hx hb dX4_bracket_80 (lv_at hl 0 rfl) ?_
          refine lv_if_eq (tgt := 89) hx hb dX4_bracket_82 (by decide) (fun c17 => ?_) (fun c17 => ?_)
          · replace h := ifp c17 h
            refine lv_iconst (v := iI 0) hx hb dX4_bracket_89 rfl ?_
            exact rd_ret X rfl (Option.some.inj h) dX4_bracket_90
          · replace h := ifn c17 h
            refine lv_iconst (v := iI 1) hx hb dX4_bracket_85 rfl ?_
            refine lv_goto (tgt := 90) hx hb dX4_bracket_86 (by decide) ?_
            exact rd_ret X rfl (Option.some.inj h) dX4_bracket_90
        replace h := ifn c16 h
        by_cases c18 : x2 = iI 1
        · replace h := ifp c18 h
          refine lv_tableIn (tgt := 91) hx hb dX4_bracket_46 (by rw [c18]; decide) (by rw [c18]; decide) (by rw [c18]; rfl) (by decide) ?_
          refine lv_aload_n hx hb dX4_bracket_91 rfl (lv_at hl 2 rfl) ?_
          refine va_get (D := D) (ci := 4) (v := .ref (q 8)) (C := RX4) (T := TX4) (N := 4) hx hb X.2.2.2.2.1 iwX4_bracket_4 X.2.2.2.1 hKK.1 hP 0 rfl rfl 0 (by decide) (X.2.2.2.2.1 _ flX4_bracket_10) (fun _ h9 => h9) rfl dX4_bracket_92 ?_
          refine lv_iload_n hx hb dX4_bracket_95 rfl (lv_at hl 3 rfl) ?_
          refine lv_iconst (v := iI 1) hx hb dX4_bracket_96 rfl ?_
          refine lv_iadd hx hb dX4_bracket_97 ?_
          obtain ⟨r19, h_r19, h⟩ := obd h
          refine rcV (rest := []) X hKK hP 1 (zX3_excessBefore l D cI cC q n d lb xd xl (x1 + (iI 1)) r19 h_r19) gX4_bracket_X3_excessBefore rfl rfl rfl hdX3_excessBefore ⟨Nat.le_of_ble_eq_true rfl, Nat.le_of_ble_eq_true rfl⟩ [8, 9, 10, 11, 12] rfl 0 rfl rfl rfl hl.1 rfl (Nat.le_of_ble_eq_true rfl) dX4_bracket_98 ⟨Nat.zero_le _, Nat.zero_le _⟩ ?_
          exact rd_ret X rfl (Option.some.inj h) dX4_bracket_101
        replace h := ifn c18 h
        by_cases c20 : x2 = iI 2
        · replace h := ifp c20 h
          refine lv_tableIn (tgt := 102) hx hb dX4_bracket_46 (by rw [c20]; decide) (by rw [c20]; decide) (by rw [c20]; rfl) (by decide) ?_
          refine lv_iload hx hb dX4_bracket_102 (lv_at hl 0 rfl) ?_
          refine lv_if_eq (tgt := 118) hx hb dX4_bracket_104 (by decide) (fun c21 => ?_) (fun c21 => ?_)
          · replace h := ifp c21 h
            refine lv_aload_n hx hb dX4_bracket_118 rfl (lv_at hl 2 rfl) ?_
            refine va_get (D := D) (ci := 4) (v := .ref (q 8)) (C := RX4) (T := TX4) (N := 4) hx hb X.2.2.2.2.1 iwX4_bracket_4 X.2.2.2.1 hKK.1 hP 0 rfl rfl 0 (by decide) (X.2.2.2.2.1 _ flX4_bracket_10) (fun _ h9 => h9) rfl dX4_bracket_119 ?_
            refine lv_iload_n hx hb dX4_bracket_122 rfl (lv_at hl 1 rfl) ?_
            refine rcV (rest := []) X hKK hP 1 (zX3_openingOf l D cI cC q n d lb xd xl r3 _ rfl) gX4_bracket_X3_openingOf rfl rfl rfl hdX3_openingOf ⟨Nat.le_of_ble_eq_true rfl, Nat.le_of_ble_eq_true rfl⟩ [8, 9, 10, 11, 12] rfl 0 rfl rfl rfl hl.1 rfl (Nat.le_of_ble_eq_true rfl) dX4_bracket_123 ⟨Nat.zero_le _, Nat.zero_le _⟩ ?_
            exact rd_ret X rfl (Option.some.inj h) dX4_bracket_126
          · replace h := ifn c21 h
            refine lv_aload_n hx hb dX4_bracket_107 rfl (lv_at hl 2 rfl) ?_
            refine va_get (D := D) (ci := 4) (v := .ref (q 8)) (C := RX4) (T := TX4) (N := 4) hx hb X.2.2.2.2.1 iwX4_bracket_4 X.2.2.2.1 hKK.1 hP 0 rfl rfl 0 (by decide) (X.2.2.2.2.1 _ flX4_bracket_10) (fun _ h9 => h9) rfl dX4_bracket_108 ?_
            refine lv_iload_n hx hb dX4_bracket_111 rfl (lv_at hl 1 rfl) ?_
            obtain ⟨r22, h_r22, h⟩ := obd h
            refine rcV (rest := []) X hKK hP 1 (zX3_closingOf l D cI cC q n d lb xd xl r3 r22 h_r22) gX4_bracket_X3_closingOf rfl rfl rfl hdX3_closingOf ⟨Nat.le_of_ble_eq_true rfl, Nat.le_of_ble_eq_true rfl⟩ [8, 9, 10, 11, 12] rfl 0 rfl rfl rfl hl.1 rfl (Nat.le_of_ble_eq_true rfl) dX4_bracket_112 ⟨Nat.zero_le _, Nat.zero_le _⟩ ?_
            refine lv_goto (tgt := 126) hx hb dX4_bracket_115 (by decide) ?_
            exact rd_ret X rfl (Option.some.inj h) dX4_bracket_126
        replace h := ifn c20 h
        by_cases c23 : x2 = iI 3
        · replace h := ifp c23 h
          refine lv_tableIn (tgt := 127) hx hb dX4_bracket_46 (by rw [c23]; decide) (by rw [c23]; decide) (by rw [c23]; rfl) (by decide) ?_
          refine lv_iload_n hx hb dX4_bracket_127 rfl (lv_at hl 1 rfl) ?_
          refine lv_if_ne (tgt := 136) hx hb dX4_bracket_128 (by decide) (fun c24 => ?_) (fun c24 => ?_)
          · replace h := ifn c24 h
            refine lv_aload_n hx hb dX4_bracket_136 rfl (lv_at hl 2 rfl) ?_
            refine va_get (D := D) (ci := 4) (v := .ref (q 8)) (C := RX4) (T := TX4) (N := 4) hx hb X.2.2.2.2.1 iwX4_bracket_4 X.2.2.2.1 hKK.1 hP 0 rfl rfl 0 (by decide) (X.2.2.2.2.1 _ flX4_bracket_10) (fun _ h9 => h9) rfl dX4_bracket_137 ?_
            refine lv_aload_n hx hb dX4_bracket_140 rfl (lv_at hl 2 rfl) ?_
            refine va_get (D := D) (ci := 4) (v := .ref (q 8)) (C := RX4) (T := TX4) (N := 4) hx hb X.2.2.2.2.1 iwX4_bracket_4 X.2.2.2.1 hKK.1 hP 0 rfl rfl 0 (by decide) (X.2.2.2.2.1 _ flX4_bracket_10) (fun _ h9 => h9) rfl dX4_bracket_141 ?_
            refine lv_iload_n hx hb dX4_bracket_144 rfl (lv_at hl 1 rfl) ?_
            obtain ⟨r25, h_r25, h⟩ := obd h
            refine rcV (rest := [.ref (q 8)]) X hKK hP 1 (zX3_parentOf l D cI cC q n d lb xd xl r3 r25 h_r25) gX4_bracket_X3_parentOf rfl rfl rfl hdX3_parentOf ⟨Nat.le_of_ble_eq_true rfl, Nat.le_of_ble_eq_true rfl⟩ [8, 9, 10, 11, 12] rfl 0 rfl rfl rfl hl.1 rfl (Nat.le_of_ble_eq_true rfl) dX4_bracket_145 ⟨Nat.zero_le _, Nat.zero_le _⟩ ?_
            refine rcV (rest := []) X hKK hP 1 (zX3_openingOf l D cI cC q n d lb xd xl r25 _ rfl) gX4_bracket_X3_openingOf rfl rfl rfl hdX3_openingOf ⟨Nat.le_of_ble_eq_true rfl, Nat.le_of_ble_eq_true rfl⟩ [8, 9, 10, 11, 12] rfl 0 rfl rfl rfl hl.1 rfl (Nat.le_of_ble_eq_true rfl) dX4_bracket_148 ⟨Nat.zero_le _, Nat.zero_le _⟩ ?_
            exact rd_ret X rfl (Option.some.inj h) dX4_bracket_151
          · replace h := ifp c24 h
            refine lv_bipush (v := iI (-5)) hx hb dX4_bracket_131 (by decide) ?_
            refine lv_goto (tgt := 151) hx hb dX4_bracket_133 (by decide) ?_
            exact rd_ret X rfl (Option.some.inj h) dX4_bracket_151
        replace h := ifn c23 h
        by_cases c26 : x2 = iI 4
        · replace h := ifp c26 h
          refine lv_tableIn (tgt := 152) hx hb dX4_bracket_46 (by rw [c26]; decide) (by rw [c26]; decide) (by rw [c26]; rfl) (by decide) ?_
          refine lv_iload_n hx hb dX4_bracket_152 rfl (lv_at hl 1 rfl) ?_
          exact rd_ret X rfl (Option.some.inj h) dX4_bracket_153
        replace h := ifn c26 h
        refine lv_tableOut (tgt := 154) hx hb dX4_bracket_46 (sw4 c16 c18 c20 c23 c26) (by decide) ?_
        refine lv_bipush (v := iI (-2)) hx hb dX4_bracket_154 (by decide) ?_
        exact rd_ret X rfl (Option.some.inj h) dX4_bracket_156
    · replace h := ifn c2 h
      refine lv_iconst (v := iI (-1)) hx hb dX4_bracket_15 rfl ?_
      exact rd_ret X rfl (Option.some.inj h) dX4_bracket_16
def mX4_setWidth (wi : Int32) (x1 : Int32) : (Int32 × Int32) := (if x1 < (iI 4) then ((iI (-2)), wi) else (if x1 ≤ (iI 32) then ((mX0_changeWidth wi x1).1, (mX0_changeWidth wi x1).2) else ((iI (-2)), wi)))
theorem hdX4_setWidth : yX4_setWidth.cls = RX4 ∧ yX4_setWidth.cls ≠ "java/lang/invoke/MethodHandle" ∧ yX4_setWidth.cls ≠ "java/lang/invoke/VarHandle" ∧ (parseMethodDescriptor yX4_setWidth.desc).map (fun d => d.parameters.length) = some 1 := by decide +kernel
theorem flX4_setWidth_19 : Cond.fieldLink RX4 19 "BracketTree" "blocks" "LBracketTree$Blocks;" ∈ wsX4_setWidth := by decide +kernel
theorem iwX4_setWidth_4 : ∀ w ∈ wsX40, w ∈ wsX4_setWidth := by decide +kernel
abbrev rmX4_setWidth : Room := { frames := 1, cells := 0, slots := 0, locals := 22 }
set_option maxHeartbeats 4000000 in
set_option maxRecDepth 100000 in
theorem zX4_setWidth (l : Launch) (D : va_G) (cI cC : ClassId) (q : Nat → Nat) (sz : Nat) (n : Int32) (d : Nat → Int32) (lb : Nat → Int32) (xd : Nat → Int32) (xl : Nat → Int32) (wi : Int32) (sl : Int32) (kp : Int32) (ct : Nat → Int32) (gd : Nat → Int32) (gl : Nat → Int32) (ln : Int32) (ch : Nat → Int32) (x1 : Int32) (r : Int32 × Int32) (h : mX4_setWidth wi x1 = r) : Met l yX4_setWidth wsX4_setWidth rmX4_setWidth (va_Pc [.ref (q 0), .int x1] (MB D cI cC sz (wA cI q n d lb xd xl wi sl kp ct gd gl ln ch))) (muQ D (some (.int r.1)) (wA cI q n d lb xd xl r.2 sl kp ct gd gl ln ch) (va_A (wA cI q n d lb xd xl wi sl kp ct gd gl ln ch) sz)) 0 0 (va_A (wA cI q n d lb xd xl wi sl kp ct gd gl ln ch) sz) := by
  refine MetI RX4 (by decide +kernel) rfl rfl (Nat.le_of_ble_eq_true rfl) ?_
  intro p e s m below meth c ls X _ hB hl
  obtain ⟨hsz, ⟨hP, hKK⟩, hD0⟩ := hB
  subst hsz
  have hD := hD0.self (sz := s.heap.size)
  generalize hAe : va_A (wA cI q n d lb xd xl wi sl kp ct gd gl ln ch) s.heap.size = A at hD ⊢
  have hA : ∀ z : Nat, s.heap.size ≤ z → A z := fun z hz => by rw [← hAe]; exact Or.inr hz
  have hS : va_S A s.heap s.heap [] := va_S.rf
  have hx := X.1
  have hb := X.2.1
  replace hl : lv_has ls 2 [(0, .ref (q 0)), (1, .int x1)] := hl
  replace hP : va_P D vwCl (wA cI q n d lb xd xl wi sl kp ct gd gl ln ch) s.heap := hP
  unfold mX4_setWidth at h
  refine lv_iload_n hx hb dX4_setWidth_0 rfl (lv_at hl 1 rfl) ?_
  refine lv_iconst (v := iI 4) hx hb dX4_setWidth_1 rfl ?_
  refine lv_icmp_lt (tgt := 11) hx hb dX4_setWidth_2 (by decide) (fun c1 => ?_) (fun c1 => ?_)
  · replace h := ifp c1 h
    refine lv_bipush (v := iI (-2)) hx hb dX4_setWidth_11 (by decide) ?_
    subst h
    exact mu_ret X rfl rfl hP rfl hS dX4_setWidth_13
  · replace h := ifn c1 h
    refine lv_iload_n hx hb dX4_setWidth_5 rfl (lv_at hl 1 rfl) ?_
    refine lv_bipush (v := iI 32) hx hb dX4_setWidth_6 (by decide) ?_
    refine lv_icmp_le (tgt := 14) hx hb dX4_setWidth_8 (by decide) (fun c2 => ?_) (fun c2 => ?_)
    · replace h := ifp c2 h
      refine lv_aload_n hx hb dX4_setWidth_14 rfl (lv_at hl 0 rfl) ?_
      refine va_get (D := D) (ci := 4) (v := .ref (q 1)) (C := RX4) (T := TX4) (N := 4) hx hb X.2.2.2.2.1 iwX4_setWidth_4 X.2.2.2.1 hKK.1 hP 0 rfl rfl 1 (by decide) (X.2.2.2.2.1 _ flX4_setWidth_19) (fun _ h9 => h9) rfl dX4_setWidth_15 ?_
      refine lv_iload_n hx hb dX4_setWidth_18 rfl (lv_at hl 1 rfl) ?_
      refine mcV (rest := []) (wld2 := (wA cI q n d lb xd xl (mX0_changeWidth wi x1).2 sl kp ct gd gl ln ch)) (wr := pickAt [0, 2, 3, 4, 5, 6, 7] (wA cI q n d lb xd xl wi sl kp ct gd gl ln ch)) X hKK hP hD hS hA 1 (zX0_changeWidth l D cI cC q _ n d lb xd xl wi x1 _ rfl) gX4_setWidth_X0_changeWidth rfl rfl rfl hdX0_changeWidth ⟨Nat.le_of_ble_eq_true rfl, Nat.le_of_ble_eq_true rfl⟩ [1, 8, 9, 10, 11, 12] [0, 2, 3, 4, 5, 6, 7] rfl rfl rfl rfl rfl (by decide) rfl [0, 7, 1, 2, 3, 4, 5, 6, 8, 9, 10, 11, 12] rfl rfl rfl 0 rfl rfl rfl hl.1 rfl (Nat.le_of_ble_eq_true rfl) dX4_setWidth_19 ⟨Nat.zero_le _, Nat.zero_le _⟩ (fun H locs hP hD hS => ?_)
      subst h
      exact mu_ret X rfl rfl hP rfl hS dX4_setWidth_22
    · replace h := ifn c2 h
      refine lv_bipush (v := iI (-2)) hx hb dX4_setWidth_11 (by decide) ?_
      subst h
      exact mu_ret X rfl rfl hP rfl hS dX4_setWidth_13
def mX4_block (n : Int32) (d : Nat → Int32) (wi : Int32) (x1 : Int32) (x2 : Int32) : Option (Int32) := (if x1 < 0 then some (iI (-1)) else ((mX0_countFor n wi).bind fun r2 => (if x1 < r2 then (if x2 = iI 0 then ((mX3_excessBefore n d (mX0_startOf wi x1)).bind fun r5 => some r5) else (if x2 = iI 1 then ((mX0_leastExcess n d wi x1).bind fun r7 => some r7) else (if x2 = iI 2 then ((mX0_greatestExcess n d wi x1).bind fun r9 => some r9) else (if x2 = iI 3 then some (mX0_positionsOf n wi x1) else some (iI (-2)))))) else some (iI (-1)))))
theorem hdX4_block : yX4_block.cls = RX4 ∧ yX4_block.cls ≠ "java/lang/invoke/MethodHandle" ∧ yX4_block.cls ≠ "java/lang/invoke/VarHandle" ∧ (parseMethodDescriptor yX4_block.desc).map (fun d => d.parameters.length) = some 2 := by decide +kernel
theorem flX4_block_19 : Cond.fieldLink RX4 19 "BracketTree" "blocks" "LBracketTree$Blocks;" ∈ wsX4_block := by decide +kernel
theorem iwX4_block_4 : ∀ w ∈ wsX40, w ∈ wsX4_block := by decide +kernel
theorem flX4_block_10 : Cond.fieldLink RX4 10 "BracketTree" "tree" "LBracketTree$Tree;" ∈ wsX4_block := by decide +kernel
abbrev rmX4_block : Room := { frames := 5, cells := 0, slots := 0, locals := 111 }
set_option maxHeartbeats 4000000 in
set_option maxRecDepth 100000 in
theorem zX4_block (l : Launch) (D : va_G) (cI cC : ClassId) (q : Nat → Nat) (n : Int32) (d : Nat → Int32) (lb : Nat → Int32) (xd : Nat → Int32) (xl : Nat → Int32) (wi : Int32) (sl : Int32) (kp : Int32) (ct : Nat → Int32) (gd : Nat → Int32) (gl : Nat → Int32) (ln : Int32) (ch : Nat → Int32) (x1 : Int32) (x2 : Int32) (r : Int32) (h : mX4_block n d wi x1 x2 = some r) : Met l yX4_block wsX4_block rmX4_block (va_Pc [.ref (q 0), .int x1, .int x2] (BW D cI cC (wA cI q n d lb xd xl wi sl kp ct gd gl ln ch))) (rdQ r) 0 0 (fun _ => False) := by
  refine MetI RX4 (by decide +kernel) rfl rfl (Nat.le_of_ble_eq_true rfl) ?_
  intro p e s m below meth c ls X _ hB hl
  obtain ⟨hP, hKK⟩ := hB
  have hx := X.1
  have hb := X.2.1
  replace hl : lv_has ls 3 [(0, .ref (q 0)), (1, .int x1), (2, .int x2)] := hl
  unfold mX4_block at h
  refine lv_iload_n hx hb dX4_block_0 rfl (lv_at hl 1 rfl) ?_
  refine lv_if_lt (tgt := 19) hx hb dX4_block_1 (by decide) (fun c1 => ?_) (fun c1 => ?_)
  · replace h := ifp c1 h
    refine lv_iconst (v := iI (-1)) hx hb dX4_block_19 rfl ?_
    exact rd_ret X rfl (Option.some.inj h) dX4_block_20
  · replace h := ifn c1 h
    refine lv_iload_n hx hb dX4_block_4 rfl (lv_at hl 1 rfl) ?_
    refine lv_aload_n hx hb dX4_block_5 rfl (lv_at hl 0 rfl) ?_
    refine va_get (D := D) (ci := 4) (v := .ref (q 1)) (C := RX4) (T := TX4) (N := 4) hx hb X.2.2.2.2.1 iwX4_block_4 X.2.2.2.1 hKK.1 hP 0 rfl rfl 1 (by decide) (X.2.2.2.2.1 _ flX4_block_19) (fun _ h9 => h9) rfl dX4_block_6 ?_
    refine lv_aload_n hx hb dX4_block_9 rfl (lv_at hl 0 rfl) ?_
    refine va_get (D := D) (ci := 4) (v := .ref (q 8)) (C := RX4) (T := TX4) (N := 4) hx hb X.2.2.2.2.1 iwX4_block_4 X.2.2.2.1 hKK.1 hP 0 rfl rfl 0 (by decide) (X.2.2.2.2.1 _ flX4_block_10) (fun _ h9 => h9) rfl dX4_block_10 ?_
    obtain ⟨r2, h_r2, h⟩ := obd h
    refine rcV (rest := [.int x1]) X hKK hP 1 (zX0_countFor l D cI cC q n d lb xd xl wi r2 h_r2) gX4_block_X0_countFor rfl rfl rfl hdX0_countFor ⟨Nat.le_of_ble_eq_true rfl, Nat.le_of_ble_eq_true rfl⟩ [1, 8, 9, 10, 11, 12] rfl 0 rfl rfl rfl hl.1 rfl (Nat.le_of_ble_eq_true rfl) dX4_block_13 ⟨Nat.zero_le _, Nat.zero_le _⟩ ?_
    refine lv_icmp_lt (tgt := 21) hx hb dX4_block_16 (by decide) (fun c3 => ?_) (fun c3 => ?_)
    · replace h := ifp c3 h
      refine lv_iload_n hx hb dX4_block_21 rfl (lv_at hl 2 rfl) ?_
      by_cases c4 : x2 = iI 0
      · replace h := ifp c4 h
        refine lv_tableIn (tgt := 52) hx hb dX4_block_22 (by rw [c4]; decide) (by rw [c4]; decide) (by rw [c4]; rfl) (by decide) ?_
        refine lv_aload_n hx hb dX4_block_52 rfl (lv_at hl 0 rfl) ?_
        refine va_get (D := D) (ci := 4) (v := .ref (q 8)) (C := RX4) (T := TX4) (N := 4) hx hb X.2.2.2.2.1 iwX4_block_4 X.2.2.2.1 hKK.1 hP 0 rfl rfl 0 (by decide) (X.2.2.2.2.1 _ flX4_block_10) (fun _ h9 => h9) rfl dX4_block_53 ?_
        refine lv_aload_n hx hb dX4_block_56 rfl (lv_at hl 0 rfl) ?_
        refine va_get (D := D) (ci := 4) (v := .ref (q 1)) (C := RX4) (T := TX4) (N := 4) hx hb X.2.2.2.2.1 iwX4_block_4 X.2.2.2.1 hKK.1 hP 0 rfl rfl 1 (by decide) (X.2.2.2.2.1 _ flX4_block_19) (fun _ h9 => h9) rfl dX4_block_57 ?_
        refine lv_iload_n hx hb dX4_block_60 rfl (lv_at hl 1 rfl) ?_
        refine rcV (rest := [.ref (q 8)]) X hKK hP 1 (zX0_startOf l D cI cC q n d lb xd xl wi x1 _ rfl) gX4_block_X0_startOf rfl rfl rfl hdX0_startOf ⟨Nat.le_of_ble_eq_true rfl, Nat.le_of_ble_eq_true rfl⟩ [1, 8, 9, 10, 11, 12] rfl 0 rfl rfl rfl hl.1 rfl (Nat.le_of_ble_eq_true rfl) dX4_block_61 ⟨Nat.zero_le _, Nat.zero_le _⟩ ?_
        obtain ⟨r5, h_r5, h⟩ := obd h
        refine rcV (rest := []) X hKK hP 1 (zX3_excessBefore l D cI cC q n d lb xd xl (mX0_startOf wi x1) r5 h_r5) gX4_block_X3_excessBefore rfl rfl rfl hdX3_excessBefore ⟨Nat.le_of_ble_eq_true rfl, Nat.le_of_ble_eq_true rfl⟩ [8, 9, 10, 11, 12] rfl 0 rfl rfl rfl hl.1 rfl (Nat.le_of_ble_eq_true rfl) dX4_block_64 ⟨Nat.zero_le _, Nat.zero_le _⟩ ?_
        exact rd_ret X rfl (Option.some.inj h) dX4_block_67
      replace h := ifn c4 h
      by_cases c6 : x2 = iI 1
      · replace h := ifp c6 h
        refine lv_tableIn (tgt := 68) hx hb dX4_block_22 (by rw [c6]; decide) (by rw [c6]; decide) (by rw [c6]; rfl) (by decide) ?_
        refine lv_aload_n hx hb dX4_block_68 rfl (lv_at hl 0 rfl) ?_
        refine va_get (D := D) (ci := 4) (v := .ref (q 1)) (C := RX4) (T := TX4) (N := 4) hx hb X.2.2.2.2.1 iwX4_block_4 X.2.2.2.1 hKK.1 hP 0 rfl rfl 1 (by decide) (X.2.2.2.2.1 _ flX4_block_19) (fun _ h9 => h9) rfl dX4_block_69 ?_
        refine lv_aload_n hx hb dX4_block_72 rfl (lv_at hl 0 rfl) ?_
        refine va_get (D := D) (ci := 4) (v := .ref (q 8)) (C := RX4) (T := TX4) (N := 4) hx hb X.2.2.2.2.1 iwX4_block_4 X.2.2.2.1 hKK.1 hP 0 rfl rfl 0 (by decide) (X.2.2.2.2.1 _ flX4_block_10) (fun _ h9 => h9) rfl dX4_block_73 ?_
        refine lv_iload_n hx hb dX4_block_76 rfl (lv_at hl 1 rfl) ?_
        obtain ⟨r7, h_r7, h⟩ := obd h
        refine rcV (rest := []) X hKK hP 2 (zX0_leastExcess l D cI cC q n d lb xd xl wi x1 r7 h_r7) gX4_block_X0_leastExcess rfl rfl rfl hdX0_leastExcess ⟨Nat.le_of_ble_eq_true rfl, Nat.le_of_ble_eq_true rfl⟩ [1, 8, 9, 10, 11, 12] rfl 0 rfl rfl rfl hl.1 rfl (Nat.le_of_ble_eq_true rfl) dX4_block_77 ⟨Nat.zero_le _, Nat.zero_le _⟩ ?_
        exact rd_ret X rfl (Option.some.inj h) dX4_block_80
      replace h := ifn c6 h
      by_cases c8 : x2 = iI 2
      · replace h := ifp c8 h
        refine lv_tableIn (tgt := 81) hx hb dX4_block_22 (by rw [c8]; decide) (by rw [c8]; decide) (by rw [c8]; rfl) (by decide) ?_
        refine lv_aload_n hx hb dX4_block_81 rfl (lv_at hl 0 rfl) ?_
        refine va_get (D := D) (ci := 4) (v := .ref (q 1)) (C := RX4) (T := TX4) (N := 4) hx hb X.2.2.2.2.1 iwX4_block_4 X.2.2.2.1 hKK.1 hP 0 rfl rfl 1 (by decide) (X.2.2.2.2.1 _ flX4_block_19) (fun _ h9 => h9) rfl dX4_block_82 ?_
        refine lv_aload_n hx hb dX4_block_85 rfl (lv_at hl 0 rfl) ?_
        refine va_get (D := D) (ci := 4) (v := .ref (q 8)) (C := RX4) (T := TX4) (N := 4) hx hb X.2.2.2.2.1 iwX4_block_4 X.2.2.2.1 hKK.1 hP 0 rfl rfl 0 (by decide) (X.2.2.2.2.1 _ flX4_block_10) (fun _ h9 => h9) rfl dX4_block_86 ?_
        refine lv_iload_n hx hb dX4_block_89 rfl (lv_at hl 1 rfl) ?_
        obtain ⟨r9, h_r9, h⟩ := obd h
        refine rcV (rest := []) X hKK hP 2 (zX0_greatestExcess l D cI cC q n d lb xd xl wi x1 r9 h_r9) gX4_block_X0_greatestExcess rfl rfl rfl hdX0_greatestExcess ⟨Nat.le_of_ble_eq_true rfl, Nat.le_of_ble_eq_true rfl⟩ [1, 8, 9, 10, 11, 12] rfl 0 rfl rfl rfl hl.1 rfl (Nat.le_of_ble_eq_true rfl) dX4_block_90 ⟨Nat.zero_le _, Nat.zero_le _⟩ ?_
        exact rd_ret X rfl (Option.some.inj h) dX4_block_93
      replace h := ifn c8 h
      by_cases c10 : x2 = iI 3
      · replace h := ifp c10 h
        refine lv_tableIn (tgt := 94) hx hb dX4_block_22 (by rw [c10]; decide) (by rw [c10]; decide) (by rw [c10]; rfl) (by decide) ?_
        refine lv_aload_n hx hb dX4_block_94 rfl (lv_at hl 0 rfl) ?_
        refine va_get (D := D) (ci := 4) (v := .ref (q 1)) (C := RX4) (T := TX4) (N := 4) hx hb X.2.2.2.2.1 iwX4_block_4 X.2.2.2.1 hKK.1 hP 0 rfl rfl 1 (by decide) (X.2.2.2.2.1 _ flX4_block_19) (fun _ h9 => h9) rfl dX4_block_95 ?_
        refine lv_aload_n hx hb dX4_block_98 rfl (lv_at hl 0 rfl) ?_
        refine va_get (D := D) (ci := 4) (v := .ref (q 8)) (C := RX4) (T := TX4) (N := 4) hx hb X.2.2.2.2.1 iwX4_block_4 X.2.2.2.1 hKK.1 hP 0 rfl rfl 0 (by decide) (X.2.2.2.2.1 _ flX4_block_10) (fun _ h9 => h9) rfl dX4_block_99 ?_
        refine lv_iload_n hx hb dX4_block_102 rfl (lv_at hl 1 rfl) ?_
        refine rcV (rest := []) X hKK hP 2 (zX0_positionsOf l D cI cC q n d lb xd xl wi x1 _ rfl) gX4_block_X0_positionsOf rfl rfl rfl hdX0_positionsOf ⟨Nat.le_of_ble_eq_true rfl, Nat.le_of_ble_eq_true rfl⟩ [1, 8, 9, 10, 11, 12] rfl 0 rfl rfl rfl hl.1 rfl (Nat.le_of_ble_eq_true rfl) dX4_block_103 ⟨Nat.zero_le _, Nat.zero_le _⟩ ?_
        exact rd_ret X rfl (Option.some.inj h) dX4_block_106
      replace h := ifn c10 h
      refine lv_tableOut (tgt := 107) hx hb dX4_block_22 (sw3 c4 c6 c8 c10) (by decide) ?_
      refine lv_bipush (v := iI (-2)) hx hb dX4_block_107 (by decide) ?_
      exact rd_ret X rfl (Option.some.inj h) dX4_block_109
    · replace h := ifn c3 h
      refine lv_iconst (v := iI (-1)) hx hb dX4_block_19 rfl ?_
      exact rd_ret X rfl (Option.some.inj h) dX4_block_20
def mX4_binaryDigits_2 : Nat → Int32 → Int32 → Option (Int32)
  | 0, _, _ => none
  | f + 1, x0, x1 => (if (iI 31) ≤ x1 then some x1 else (if x0 < ((iI 1) <<< (x1 &&& 31)) then some x1 else mX4_binaryDigits_2 f x0 (x1 + iI 1)))
def mX4_binaryDigits  (x0 : Int32) : Option (Int32) := mX4_binaryDigits_2 FU x0 (iI 1)
theorem hdX4_binaryDigits : yX4_binaryDigits.cls = RX4 ∧ yX4_binaryDigits.cls ≠ "java/lang/invoke/MethodHandle" ∧ yX4_binaryDigits.cls ≠ "java/lang/invoke/VarHandle" ∧ (parseMethodDescriptor yX4_binaryDigits.desc).map (fun d => d.parameters.length) = some 1 := by decide +kernel
theorem hdX4_binaryDigitsN : yX4_binaryDigits.cls ≠ "java/lang/invoke/MethodHandle" ∧ yX4_binaryDigits.cls ≠ "java/lang/invoke/VarHandle" ∧ (parseMethodDescriptor yX4_binaryDigits.desc).map (fun d => d.parameters.length) = some 1 := hdX4_binaryDigits.2
abbrev rmX4_binaryDigits : Room := { frames := 0, cells := 0, slots := 0, locals := 0 }
set_option maxHeartbeats 4000000 in
set_option maxRecDepth 100000 in
theorem kX4_binaryDigits_2 {p : Program} {l : Launch} {e : Env} {s : State} {m : MethodId} {args : Array Value} {below : List Frame} {meth : Method} {c : Code} {D : va_G} {cI cC : ClassId}  {r : Int32} (X : CX p s m args meth c wsX4_binaryDigits cX4_binaryDigits 2 (some .int) RX4) (hKK : KK D cI cC s) (hP : va_P D vwCl [] s.heap) : ∀ (f : Nat), ∀ (x0 : Int32) (x1 : Int32) (ls : Array Slot), lv_has ls 2 [(0, .int x0), (1, .int x1)] → mX4_binaryDigits_2 f x0 x1 = some r → W p l e rmX4_binaryDigits s m args below meth c s.heap [] 0 0 (MQ below (rdQ r) args s 0 0 (fun _ => False)) (F0 m 2 ls []) := by
  have hx := X.1
  have hb := X.2.1
  intro f
  induction f with
  | zero =>
    intro x0 x1 ls hl h
    exact absurd h (by unfold mX4_binaryDigits_2; intro h; cases h)
  | succ f ih =>
    intro x0 x1 ls hl h
    rw [mX4_binaryDigits_2] at h
    refine lv_iload_n hx hb dX4_binaryDigits_2 rfl (lv_at hl 1 rfl) ?_
    refine lv_bipush (v := iI 31) hx hb dX4_binaryDigits_3 (by decide) ?_
    refine lv_icmp_ge (tgt := 21) hx hb dX4_binaryDigits_5 (by decide) (fun c1 => ?_) (fun c1 => ?_)
    · replace h := ifp c1 h
      refine lv_iload_n hx hb dX4_binaryDigits_21 rfl (lv_at hl 1 rfl) ?_
      exact rd_ret X rfl (Option.some.inj h) dX4_binaryDigits_22
    · replace h := ifn c1 h
      refine lv_iload_n hx hb dX4_binaryDigits_8 rfl (lv_at hl 0 rfl) ?_
      refine lv_iconst (v := iI 1) hx hb dX4_binaryDigits_9 rfl ?_
      refine lv_iload_n hx hb dX4_binaryDigits_10 rfl (lv_at hl 1 rfl) ?_
      refine lv_ishl hx hb dX4_binaryDigits_11 ?_
      refine lv_icmp_lt (tgt := 21) hx hb dX4_binaryDigits_12 (by decide) (fun c2 => ?_) (fun c2 => ?_)
      · replace h := ifp c2 h
        refine lv_iload_n hx hb dX4_binaryDigits_21 rfl (lv_at hl 1 rfl) ?_
        exact rd_ret X rfl (Option.some.inj h) dX4_binaryDigits_22
      · replace h := ifn c2 h
        refine lv_iinc (v := (x1 + iI 1)) (lv' := [(1, .int (x1 + iI 1)), (0, .int x0)]) hx hb dX4_binaryDigits_15 hl (k := 1) rfl rfl (by decide) rfl (fun ls hl => ?_)
        refine lv_goto (tgt := 2) hx hb dX4_binaryDigits_18 (by decide) ?_
        exact ih x0 (x1 + iI 1) ls (lv_sub hl [1, 0] rfl) h
set_option maxHeartbeats 4000000 in
set_option maxRecDepth 100000 in
theorem zX4_binaryDigits (l : Launch) (D : va_G) (cI cC : ClassId)  (x0 : Int32) (r : Int32) (h : mX4_binaryDigits x0 = some r) : Met l yX4_binaryDigits wsX4_binaryDigits rmX4_binaryDigits (va_Pc [.int x0] (BW D cI cC [])) (rdQ r) 0 0 (fun _ => False) := by
  refine MetI RX4 (by decide +kernel) rfl rfl (Nat.le_of_ble_eq_true rfl) ?_
  intro p e s m below meth c ls X _ hB hl
  obtain ⟨hP, hKK⟩ := hB
  have hx := X.1
  have hb := X.2.1
  replace hl : lv_has ls 2 [(0, .int x0)] := hl
  unfold mX4_binaryDigits at h
  refine lv_iconst (v := iI 1) hx hb dX4_binaryDigits_0 rfl ?_
  refine lv_istore_n (lv' := [(1, .int (iI 1)), (0, .int x0)]) hx hb dX4_binaryDigits_1 rfl hl (by decide) rfl (fun ls hl => ?_)
  exact kX4_binaryDigits_2 X hKK hP FU x0 (iI 1) ls (lv_sub hl [1, 0] rfl) h
def mX4_space (n : Int32) (wi : Int32) (x1 : Int32) : Option (Int32) := ((mX4_binaryDigits (mX3_count n)).bind fun r1 => ((mX0_countFor n wi).bind fun r2 => (if x1 = iI 0 then some ((iI 2) * (mX3_count n)) else (if x1 = iI 1 then some ((iI 5) * (mX3_count n)) else (if x1 = iI 2 then some (((iI 3) * r1) * r2) else (if x1 = iI 3 then some ((((iI 2) * (mX3_count n)) + ((iI 5) * (mX3_count n))) + (((iI 3) * r1) * r2)) else (if x1 = iI 4 then ((mX0_countFor n wi).bind fun r8 => some r8) else some (iI (-2)))))))))
theorem hdX4_space : yX4_space.cls = RX4 ∧ yX4_space.cls ≠ "java/lang/invoke/MethodHandle" ∧ yX4_space.cls ≠ "java/lang/invoke/VarHandle" ∧ (parseMethodDescriptor yX4_space.desc).map (fun d => d.parameters.length) = some 1 := by decide +kernel
theorem flX4_space_10 : Cond.fieldLink RX4 10 "BracketTree" "tree" "LBracketTree$Tree;" ∈ wsX4_space := by decide +kernel
theorem iwX4_space_4 : ∀ w ∈ wsX40, w ∈ wsX4_space := by decide +kernel
theorem flX4_space_19 : Cond.fieldLink RX4 19 "BracketTree" "blocks" "LBracketTree$Blocks;" ∈ wsX4_space := by decide +kernel
abbrev rmX4_space : Room := { frames := 2, cells := 0, slots := 0, locals := 43 }
set_option maxHeartbeats 4000000 in
set_option maxRecDepth 100000 in
theorem zX4_space (l : Launch) (D : va_G) (cI cC : ClassId) (q : Nat → Nat) (n : Int32) (d : Nat → Int32) (lb : Nat → Int32) (xd : Nat → Int32) (xl : Nat → Int32) (wi : Int32) (sl : Int32) (kp : Int32) (ct : Nat → Int32) (gd : Nat → Int32) (gl : Nat → Int32) (ln : Int32) (ch : Nat → Int32) (x1 : Int32) (r : Int32) (h : mX4_space n wi x1 = some r) : Met l yX4_space wsX4_space rmX4_space (va_Pc [.ref (q 0), .int x1] (BW D cI cC (wA cI q n d lb xd xl wi sl kp ct gd gl ln ch))) (rdQ r) 0 0 (fun _ => False) := by
  refine MetI RX4 (by decide +kernel) rfl rfl (Nat.le_of_ble_eq_true rfl) ?_
  intro p e s m below meth c ls X _ hB hl
  obtain ⟨hP, hKK⟩ := hB
  have hx := X.1
  have hb := X.2.1
  replace hl : lv_has ls 5 [(0, .ref (q 0)), (1, .int x1)] := hl
  unfold mX4_space at h
  refine lv_iconst (v := iI 2) hx hb dX4_space_0 rfl ?_
  refine lv_aload_n hx hb dX4_space_1 rfl (lv_at hl 0 rfl) ?_
  refine va_get (D := D) (ci := 4) (v := .ref (q 8)) (C := RX4) (T := TX4) (N := 4) hx hb X.2.2.2.2.1 iwX4_space_4 X.2.2.2.1 hKK.1 hP 0 rfl rfl 0 (by decide) (X.2.2.2.2.1 _ flX4_space_10) (fun _ h9 => h9) rfl dX4_space_2 ?_
  refine rcV (rest := [.int (iI 2)]) X hKK hP 0 (zX3_count l D cI cC q n d lb xd xl _ rfl) gX4_space_X3_count rfl rfl rfl hdX3_count ⟨Nat.le_of_ble_eq_true rfl, Nat.le_of_ble_eq_true rfl⟩ [8, 9, 10, 11, 12] rfl 0 rfl rfl rfl hl.1 rfl (Nat.le_of_ble_eq_true rfl) dX4_space_5 ⟨Nat.zero_le _, Nat.zero_le _⟩ ?_
  refine lv_imul hx hb dX4_space_8 ?_
  refine lv_istore_n (lv' := [(2, .int ((iI 2) * (mX3_count n))), (0, .ref (q 0)), (1, .int x1)]) hx hb dX4_space_9 rfl hl (by decide) rfl (fun ls hl => ?_)
  refine lv_iconst (v := iI 5) hx hb dX4_space_10 rfl ?_
  refine lv_aload_n hx hb dX4_space_11 rfl (lv_at hl 1 rfl) ?_
  refine va_get (D := D) (ci := 4) (v := .ref (q 8)) (C := RX4) (T := TX4) (N := 4) hx hb X.2.2.2.2.1 iwX4_space_4 X.2.2.2.1 hKK.1 hP 0 rfl rfl 0 (by decide) (X.2.2.2.2.1 _ flX4_space_10) (fun _ h9 => h9) rfl dX4_space_12 ?_
  refine rcV (rest := [.int (iI 5)]) X hKK hP 0 (zX3_count l D cI cC q n d lb xd xl _ rfl) gX4_space_X3_count rfl rfl rfl hdX3_count ⟨Nat.le_of_ble_eq_true rfl, Nat.le_of_ble_eq_true rfl⟩ [8, 9, 10, 11, 12] rfl 0 rfl rfl rfl hl.1 rfl (Nat.le_of_ble_eq_true rfl) dX4_space_15 ⟨Nat.zero_le _, Nat.zero_le _⟩ ?_
  refine lv_imul hx hb dX4_space_18 ?_
  refine lv_istore_n (lv' := [(3, .int ((iI 5) * (mX3_count n))), (2, .int ((iI 2) * (mX3_count n))), (0, .ref (q 0)), (1, .int x1)]) hx hb dX4_space_19 rfl hl (by decide) rfl (fun ls hl => ?_)
  refine lv_iconst (v := iI 3) hx hb dX4_space_20 rfl ?_
  refine lv_aload_n hx hb dX4_space_21 rfl (lv_at hl 2 rfl) ?_
  refine va_get (D := D) (ci := 4) (v := .ref (q 8)) (C := RX4) (T := TX4) (N := 4) hx hb X.2.2.2.2.1 iwX4_space_4 X.2.2.2.1 hKK.1 hP 0 rfl rfl 0 (by decide) (X.2.2.2.2.1 _ flX4_space_10) (fun _ h9 => h9) rfl dX4_space_22 ?_
  refine rcV (rest := [.int (iI 3)]) X hKK hP 0 (zX3_count l D cI cC q n d lb xd xl _ rfl) gX4_space_X3_count rfl rfl rfl hdX3_count ⟨Nat.le_of_ble_eq_true rfl, Nat.le_of_ble_eq_true rfl⟩ [8, 9, 10, 11, 12] rfl 0 rfl rfl rfl hl.1 rfl (Nat.le_of_ble_eq_true rfl) dX4_space_25 ⟨Nat.zero_le _, Nat.zero_le _⟩ ?_
  obtain ⟨r1, h_r1, h⟩ := obd h
  refine rcS2 (rest := [.int (iI 3)]) X hKK hP 1 (zX4_binaryDigits l D cI cC (mX3_count n) r1 h_r1) gX4_space_X4_binaryDigits rfl rfl rfl hdX4_binaryDigits.2 ⟨Nat.le_of_ble_eq_true rfl, Nat.le_of_ble_eq_true rfl⟩ [] rfl rfl hl.1 rfl (Nat.le_of_ble_eq_true rfl) dX4_space_28 ⟨Nat.zero_le _, Nat.zero_le _⟩ ?_
  refine lv_imul hx hb dX4_space_31 ?_
  refine lv_aload_n hx hb dX4_space_32 rfl (lv_at hl 2 rfl) ?_
  refine va_get (D := D) (ci := 4) (v := .ref (q 1)) (C := RX4) (T := TX4) (N := 4) hx hb X.2.2.2.2.1 iwX4_space_4 X.2.2.2.1 hKK.1 hP 0 rfl rfl 1 (by decide) (X.2.2.2.2.1 _ flX4_space_19) (fun _ h9 => h9) rfl dX4_space_33 ?_
  refine lv_aload_n hx hb dX4_space_36 rfl (lv_at hl 2 rfl) ?_
  refine va_get (D := D) (ci := 4) (v := .ref (q 8)) (C := RX4) (T := TX4) (N := 4) hx hb X.2.2.2.2.1 iwX4_space_4 X.2.2.2.1 hKK.1 hP 0 rfl rfl 0 (by decide) (X.2.2.2.2.1 _ flX4_space_10) (fun _ h9 => h9) rfl dX4_space_37 ?_
  obtain ⟨r2, h_r2, h⟩ := obd h
  refine rcV (rest := [.int ((iI 3) * r1)]) X hKK hP 1 (zX0_countFor l D cI cC q n d lb xd xl wi r2 h_r2) gX4_space_X0_countFor rfl rfl rfl hdX0_countFor ⟨Nat.le_of_ble_eq_true rfl, Nat.le_of_ble_eq_true rfl⟩ [1, 8, 9, 10, 11, 12] rfl 0 rfl rfl rfl hl.1 rfl (Nat.le_of_ble_eq_true rfl) dX4_space_40 ⟨Nat.zero_le _, Nat.zero_le _⟩ ?_
  refine lv_imul hx hb dX4_space_43 ?_
  refine lv_istore (lv' := [(4, .int (((iI 3) * r1) * r2)), (3, .int ((iI 5) * (mX3_count n))), (2, .int ((iI 2) * (mX3_count n))), (0, .ref (q 0)), (1, .int x1)]) hx hb dX4_space_44 hl (by decide) rfl (fun ls hl => ?_)
  refine lv_iload_n hx hb dX4_space_46 rfl (lv_at hl 4 rfl) ?_
  by_cases c3 : x1 = iI 0
  · replace h := ifp c3 h
    refine lv_tableIn (tgt := 80) hx hb dX4_space_47 (by rw [c3]; decide) (by rw [c3]; decide) (by rw [c3]; rfl) (by decide) ?_
    refine lv_iload_n hx hb dX4_space_80 rfl (lv_at hl 2 rfl) ?_
    exact rd_ret X rfl (Option.some.inj h) dX4_space_81
  replace h := ifn c3 h
  by_cases c4 : x1 = iI 1
  · replace h := ifp c4 h
    refine lv_tableIn (tgt := 82) hx hb dX4_space_47 (by rw [c4]; decide) (by rw [c4]; decide) (by rw [c4]; rfl) (by decide) ?_
    refine lv_iload_n hx hb dX4_space_82 rfl (lv_at hl 1 rfl) ?_
    exact rd_ret X rfl (Option.some.inj h) dX4_space_83
  replace h := ifn c4 h
  by_cases c5 : x1 = iI 2
  · replace h := ifp c5 h
    refine lv_tableIn (tgt := 84) hx hb dX4_space_47 (by rw [c5]; decide) (by rw [c5]; decide) (by rw [c5]; rfl) (by decide) ?_
    refine lv_iload hx hb dX4_space_84 (lv_at hl 0 rfl) ?_
    exact rd_ret X rfl (Option.some.inj h) dX4_space_86
  replace h := ifn c5 h
  by_cases c6 : x1 = iI 3
  · replace h := ifp c6 h
    refine lv_tableIn (tgt := 87) hx hb dX4_space_47 (by rw [c6]; decide) (by rw [c6]; decide) (by rw [c6]; rfl) (by decide) ?_
    refine lv_iload_n hx hb dX4_space_87 rfl (lv_at hl 2 rfl) ?_
    refine lv_iload_n hx hb dX4_space_88 rfl (lv_at hl 1 rfl) ?_
    refine lv_iadd hx hb dX4_space_89 ?_
    refine lv_iload hx hb dX4_space_90 (lv_at hl 0 rfl) ?_
    refine lv_iadd hx hb dX4_space_92 ?_
    exact rd_ret X rfl (Option.some.inj h) dX4_space_93
  replace h := ifn c6 h
  by_cases c7 : x1 = iI 4
  · replace h := ifp c7 h
    refine lv_tableIn (tgt := 94) hx hb dX4_space_47 (by rw [c7]; decide) (by rw [c7]; decide) (by rw [c7]; rfl) (by decide) ?_
    refine lv_aload_n hx hb dX4_space_94 rfl (lv_at hl 3 rfl) ?_
    refine va_get (D := D) (ci := 4) (v := .ref (q 1)) (C := RX4) (T := TX4) (N := 4) hx hb X.2.2.2.2.1 iwX4_space_4 X.2.2.2.1 hKK.1 hP 0 rfl rfl 1 (by decide) (X.2.2.2.2.1 _ flX4_space_19) (fun _ h9 => h9) rfl dX4_space_95 ?_
    refine lv_aload_n hx hb dX4_space_98 rfl (lv_at hl 3 rfl) ?_
    refine va_get (D := D) (ci := 4) (v := .ref (q 8)) (C := RX4) (T := TX4) (N := 4) hx hb X.2.2.2.2.1 iwX4_space_4 X.2.2.2.1 hKK.1 hP 0 rfl rfl 0 (by decide) (X.2.2.2.2.1 _ flX4_space_10) (fun _ h9 => h9) rfl dX4_space_99 ?_
    obtain ⟨r8, h_r8, h⟩ := obd h
    refine rcV (rest := []) X hKK hP 1 (zX0_countFor l D cI cC q n d lb xd xl wi r8 h_r8) gX4_space_X0_countFor rfl rfl rfl hdX0_countFor ⟨Nat.le_of_ble_eq_true rfl, Nat.le_of_ble_eq_true rfl⟩ [1, 8, 9, 10, 11, 12] rfl 0 rfl rfl rfl hl.1 rfl (Nat.le_of_ble_eq_true rfl) dX4_space_102 ⟨Nat.zero_le _, Nat.zero_le _⟩ ?_
    exact rd_ret X rfl (Option.some.inj h) dX4_space_105
  replace h := ifn c7 h
  refine lv_tableOut (tgt := 106) hx hb dX4_space_47 (sw4 c3 c4 c5 c6 c7) (by decide) ?_
  refine lv_bipush (v := iI (-2)) hx hb dX4_space_106 (by decide) ?_
  exact rd_ret X rfl (Option.some.inj h) dX4_space_108
def mX4_setLabel (n : Int32) (d : Nat → Int32) (lb : Nat → Int32) (sl : Int32) (kp : Int32) (ct : Nat → Int32) (gd : Nat → Int32) (gl : Nat → Int32) (x1 : Int32) (x2 : Int32) : Option (Int32 × (Nat → Int32) × (Nat → Int32) × Int32 × Int32 × (Nat → Int32) × (Nat → Int32) × (Nat → Int32)) := (if (mX3_has n x1) = 0 then some ((iI (-1)), d, lb, sl, kp, ct, gd, gl) else (if (mX4_isLetter x2) = 0 then some ((iI (-2)), d, lb, sl, kp, ct, gd, gl) else ((mX1_record n d lb sl kp ct gd gl).bind fun r3 => some ((mX3_labelOf lb x1), (mX3_putNode d lb x1 (mX3_depthOf n d x1) x2).1, (mX3_putNode d lb x1 (mX3_depthOf n d x1) x2).2, r3.1, r3.2.1, r3.2.2.1, r3.2.2.2.1, r3.2.2.2.2))))
theorem hdX4_setLabel : yX4_setLabel.cls = RX4 ∧ yX4_setLabel.cls ≠ "java/lang/invoke/MethodHandle" ∧ yX4_setLabel.cls ≠ "java/lang/invoke/VarHandle" ∧ (parseMethodDescriptor yX4_setLabel.desc).map (fun d => d.parameters.length) = some 2 := by decide +kernel
theorem flX4_setLabel_10 : Cond.fieldLink RX4 10 "BracketTree" "tree" "LBracketTree$Tree;" ∈ wsX4_setLabel := by decide +kernel
theorem iwX4_setLabel_4 : ∀ w ∈ wsX40, w ∈ wsX4_setLabel := by decide +kernel
theorem flX4_setLabel_26 : Cond.fieldLink RX4 26 "BracketTree" "history" "LBracketTree$History;" ∈ wsX4_setLabel := by decide +kernel
abbrev rmX4_setLabel : Room := { frames := 3, cells := 0, slots := 0, locals := 65 }
set_option maxHeartbeats 4000000 in
set_option maxRecDepth 100000 in
theorem zX4_setLabel (l : Launch) (D : va_G) (cI cC : ClassId) (q : Nat → Nat) (sz : Nat) (n : Int32) (d : Nat → Int32) (lb : Nat → Int32) (xd : Nat → Int32) (xl : Nat → Int32) (wi : Int32) (sl : Int32) (kp : Int32) (ct : Nat → Int32) (gd : Nat → Int32) (gl : Nat → Int32) (ln : Int32) (ch : Nat → Int32) (x1 : Int32) (x2 : Int32) (r : Int32 × (Nat → Int32) × (Nat → Int32) × Int32 × Int32 × (Nat → Int32) × (Nat → Int32) × (Nat → Int32)) (h : mX4_setLabel n d lb sl kp ct gd gl x1 x2 = some r) : Met l yX4_setLabel wsX4_setLabel rmX4_setLabel (va_Pc [.ref (q 0), .int x1, .int x2] (MB D cI cC sz (wA cI q n d lb xd xl wi sl kp ct gd gl ln ch))) (muQ D (some (.int r.1)) (wA cI q n r.2.1 r.2.2.1 xd xl wi r.2.2.2.1 r.2.2.2.2.1 r.2.2.2.2.2.1 r.2.2.2.2.2.2.1 r.2.2.2.2.2.2.2 ln ch) (va_A (wA cI q n d lb xd xl wi sl kp ct gd gl ln ch) sz)) 0 0 (va_A (wA cI q n d lb xd xl wi sl kp ct gd gl ln ch) sz) := by
  refine MetI RX4 (by decide +kernel) rfl rfl (Nat.le_of_ble_eq_true rfl) ?_
  intro p e s m below meth c ls X _ hB hl
  obtain ⟨hsz, ⟨hP, hKK⟩, hD0⟩ := hB
  subst hsz
  have hD := hD0.self (sz := s.heap.size)
  generalize hAe : va_A (wA cI q n d lb xd xl wi sl kp ct gd gl ln ch) s.heap.size = A at hD ⊢
  have hA : ∀ z : Nat, s.heap.size ≤ z → A z := fun z hz => by rw [← hAe]; exact Or.inr hz
  have hS : va_S A s.heap s.heap [] := va_S.rf
  have hx := X.1
  have hb := X.2.1
  replace hl : lv_has ls 4 [(0, .ref (q 0)), (1, .int x1), (2, .int x2)] := hl
  replace hP : va_P D vwCl (wA cI q n d lb xd xl wi sl kp ct gd gl ln ch) s.heap := hP
  unfold mX4_setLabel at h
  refine lv_aload_n hx hb dX4_setLabel_0 rfl (lv_at hl 0 rfl) ?_
  refine va_get (D := D) (ci := 4) (v := .ref (q 8)) (C := RX4) (T := TX4) (N := 4) hx hb X.2.2.2.2.1 iwX4_setLabel_4 X.2.2.2.1 hKK.1 hP 0 rfl rfl 0 (by decide) (X.2.2.2.2.1 _ flX4_setLabel_10) (fun _ h9 => h9) rfl dX4_setLabel_1 ?_
  refine lv_iload_n hx hb dX4_setLabel_4 rfl (lv_at hl 1 rfl) ?_
  refine rcV (rest := []) X hKK hP 1 (zX3_has l D cI cC q n d lb xd xl x1 _ rfl) gX4_setLabel_X3_has rfl rfl rfl hdX3_has ⟨Nat.le_of_ble_eq_true rfl, Nat.le_of_ble_eq_true rfl⟩ [8, 9, 10, 11, 12] rfl 0 rfl rfl rfl hl.1 rfl (Nat.le_of_ble_eq_true rfl) dX4_setLabel_5 ⟨Nat.zero_le _, Nat.zero_le _⟩ ?_
  refine lv_if_ne (tgt := 13) hx hb dX4_setLabel_8 (by decide) (fun c1 => ?_) (fun c1 => ?_)
  · replace h := ifn c1 h
    refine lv_iload_n hx hb dX4_setLabel_13 rfl (lv_at hl 2 rfl) ?_
    refine rcS2 (rest := []) X hKK hP 1 (zX4_isLetter l D cI cC x2 _ rfl) gX4_setLabel_X4_isLetter rfl rfl rfl hdX4_isLetter.2 ⟨Nat.le_of_ble_eq_true rfl, Nat.le_of_ble_eq_true rfl⟩ [] rfl rfl hl.1 rfl (Nat.le_of_ble_eq_true rfl) dX4_setLabel_14 ⟨Nat.zero_le _, Nat.zero_le _⟩ ?_
    refine lv_if_ne (tgt := 23) hx hb dX4_setLabel_17 (by decide) (fun c2 => ?_) (fun c2 => ?_)
    · replace h := ifn c2 h
      refine lv_aload_n hx hb dX4_setLabel_23 rfl (lv_at hl 0 rfl) ?_
      refine va_get (D := D) (ci := 4) (v := .ref (q 8)) (C := RX4) (T := TX4) (N := 4) hx hb X.2.2.2.2.1 iwX4_setLabel_4 X.2.2.2.1 hKK.1 hP 0 rfl rfl 0 (by decide) (X.2.2.2.2.1 _ flX4_setLabel_10) (fun _ h9 => h9) rfl dX4_setLabel_24 ?_
      refine lv_iload_n hx hb dX4_setLabel_27 rfl (lv_at hl 1 rfl) ?_
      refine rcV (rest := []) X hKK hP 1 (zX3_labelOf l D cI cC q n d lb xd xl x1 _ rfl) gX4_setLabel_X3_labelOf rfl rfl rfl hdX3_labelOf ⟨Nat.le_of_ble_eq_true rfl, Nat.le_of_ble_eq_true rfl⟩ [8, 9, 10, 11, 12] rfl 0 rfl rfl rfl hl.1 rfl (Nat.le_of_ble_eq_true rfl) dX4_setLabel_28 ⟨Nat.zero_le _, Nat.zero_le _⟩ ?_
      refine lv_istore_n (lv' := [(3, .int (mX3_labelOf lb x1)), (0, .ref (q 0)), (1, .int x1), (2, .int x2)]) hx hb dX4_setLabel_31 rfl hl (by decide) rfl (fun ls hl => ?_)
      refine lv_aload_n hx hb dX4_setLabel_32 rfl (lv_at hl 1 rfl) ?_
      refine va_get (D := D) (ci := 4) (v := .ref (q 2)) (C := RX4) (T := TX4) (N := 4) hx hb X.2.2.2.2.1 iwX4_setLabel_4 X.2.2.2.1 hKK.1 hP 0 rfl rfl 2 (by decide) (X.2.2.2.2.1 _ flX4_setLabel_26) (fun _ h9 => h9) rfl dX4_setLabel_33 ?_
      refine lv_aload_n hx hb dX4_setLabel_36 rfl (lv_at hl 1 rfl) ?_
      refine va_get (D := D) (ci := 4) (v := .ref (q 8)) (C := RX4) (T := TX4) (N := 4) hx hb X.2.2.2.2.1 iwX4_setLabel_4 X.2.2.2.1 hKK.1 hP 0 rfl rfl 0 (by decide) (X.2.2.2.2.1 _ flX4_setLabel_10) (fun _ h9 => h9) rfl dX4_setLabel_37 ?_
      obtain ⟨r3, h_r3, h⟩ := obd h
      refine mcV (rest := []) (wld2 := (wA cI q n d lb xd xl wi r3.1 r3.2.1 r3.2.2.1 r3.2.2.2.1 r3.2.2.2.2 ln ch)) (wr := pickAt [0, 1, 6, 7] (wA cI q n d lb xd xl wi sl kp ct gd gl ln ch)) X hKK hP hD hS hA 1 (zX1_record l D cI cC q _ n d lb xd xl sl kp ct gd gl r3 h_r3) gX4_setLabel_X1_record rfl rfl rfl hdX1_record ⟨Nat.le_of_ble_eq_true rfl, Nat.le_of_ble_eq_true rfl⟩ [2, 3, 4, 5, 8, 9, 10, 11, 12] [0, 1, 6, 7] rfl rfl rfl rfl rfl (by decide) rfl [0, 1, 4, 5, 6, 7, 2, 3, 8, 9, 10, 11, 12] rfl rfl rfl 0 rfl rfl rfl hl.1 rfl (Nat.le_of_ble_eq_true rfl) dX4_setLabel_40 ⟨Nat.zero_le _, Nat.zero_le _⟩ (fun H locs hP hD hS => ?_)
      refine lv_aload_n hx hb dX4_setLabel_43 rfl (lv_at hl 1 rfl) ?_
      refine va_get (D := D) (ci := 4) (v := .ref (q 8)) (C := RX4) (T := TX4) (N := 4) hx hb X.2.2.2.2.1 iwX4_setLabel_4 X.2.2.2.1 hKK.1 hP 0 rfl rfl 0 (by decide) (X.2.2.2.2.1 _ flX4_setLabel_10) (fun _ h9 => h9) rfl dX4_setLabel_44 ?_
      refine lv_iload_n hx hb dX4_setLabel_47 rfl (lv_at hl 2 rfl) ?_
      refine lv_aload_n hx hb dX4_setLabel_48 rfl (lv_at hl 1 rfl) ?_
      refine va_get (D := D) (ci := 4) (v := .ref (q 8)) (C := RX4) (T := TX4) (N := 4) hx hb X.2.2.2.2.1 iwX4_setLabel_4 X.2.2.2.1 hKK.1 hP 0 rfl rfl 0 (by decide) (X.2.2.2.2.1 _ flX4_setLabel_10) (fun _ h9 => h9) rfl dX4_setLabel_49 ?_
      refine lv_iload_n hx hb dX4_setLabel_52 rfl (lv_at hl 2 rfl) ?_
      refine rcV (rest := [.int x1, .ref (q 8)]) X hKK hP 1 (zX3_depthOf l D cI cC q n d lb xd xl x1 _ rfl) gX4_setLabel_X3_depthOf rfl rfl rfl hdX3_depthOf ⟨Nat.le_of_ble_eq_true rfl, Nat.le_of_ble_eq_true rfl⟩ [8, 9, 10, 11, 12] rfl 0 rfl rfl rfl hl.1 rfl (Nat.le_of_ble_eq_true rfl) dX4_setLabel_53 ⟨Nat.zero_le _, Nat.zero_le _⟩ ?_
      refine lv_iload_n hx hb dX4_setLabel_56 rfl (lv_at hl 3 rfl) ?_
      refine mcV (rest := []) (wld2 := (wA cI q n (mX3_putNode d lb x1 (mX3_depthOf n d x1) x2).1 (mX3_putNode d lb x1 (mX3_depthOf n d x1) x2).2 xd xl wi r3.1 r3.2.1 r3.2.2.1 r3.2.2.2.1 r3.2.2.2.2 ln ch)) (wr := pickAt [0, 1, 2, 3, 4, 5, 6, 7] (wA cI q n d lb xd xl wi r3.1 r3.2.1 r3.2.2.1 r3.2.2.2.1 r3.2.2.2.2 ln ch)) X hKK hP hD hS hA 3 (zX3_putNode l D cI cC q _ n d lb xd xl x1 (mX3_depthOf n d x1) x2 _ rfl) gX4_setLabel_X3_putNode rfl rfl rfl hdX3_putNode ⟨Nat.le_of_ble_eq_true rfl, Nat.le_of_ble_eq_true rfl⟩ [8, 9, 10, 11, 12] [0, 1, 2, 3, 4, 5, 6, 7] rfl rfl rfl rfl rfl (by decide) rfl [0, 1, 2, 3, 4, 5, 6, 7, 8, 9, 10, 11, 12] rfl rfl rfl 0 rfl rfl rfl hl.1 rfl (Nat.le_of_ble_eq_true rfl) dX4_setLabel_57 ⟨Nat.zero_le _, Nat.zero_le _⟩ (fun H locs hP hD hS => ?_)
      refine lv_iload_n hx hb dX4_setLabel_60 rfl (lv_at hl 0 rfl) ?_
      replace h := Option.some.inj h
      subst h
      exact mu_ret X rfl rfl hP rfl hS dX4_setLabel_61
    · replace h := ifp c2 h
      refine lv_bipush (v := iI (-2)) hx hb dX4_setLabel_20 (by decide) ?_
      replace h := Option.some.inj h
      subst h
      exact mu_ret X rfl rfl hP rfl hS dX4_setLabel_22
  · replace h := ifp c1 h
    refine lv_iconst (v := iI (-1)) hx hb dX4_setLabel_11 rfl ?_
    replace h := Option.some.inj h
    subst h
    exact mu_ret X rfl rfl hP rfl hS dX4_setLabel_12
def mX4_labelled (n : Int32) (d : Nat → Int32) (lb : Nat → Int32) (x1 : Int32) (x2 : Int32) : Option (Int32) := (if (mX3_has n x1) = 0 then some (iI (-1)) else (if (mX4_isLetter x2) = 0 then some (iI (-2)) else ((mX3_countLabel n d lb x1 x2).bind fun r3 => some r3)))
theorem hdX4_labelled : yX4_labelled.cls = RX4 ∧ yX4_labelled.cls ≠ "java/lang/invoke/MethodHandle" ∧ yX4_labelled.cls ≠ "java/lang/invoke/VarHandle" ∧ (parseMethodDescriptor yX4_labelled.desc).map (fun d => d.parameters.length) = some 2 := by decide +kernel
theorem flX4_labelled_10 : Cond.fieldLink RX4 10 "BracketTree" "tree" "LBracketTree$Tree;" ∈ wsX4_labelled := by decide +kernel
theorem iwX4_labelled_4 : ∀ w ∈ wsX40, w ∈ wsX4_labelled := by decide +kernel
abbrev rmX4_labelled : Room := { frames := 4, cells := 0, slots := 0, locals := 90 }
set_option maxHeartbeats 4000000 in
set_option maxRecDepth 100000 in
theorem zX4_labelled (l : Launch) (D : va_G) (cI cC : ClassId) (q : Nat → Nat) (n : Int32) (d : Nat → Int32) (lb : Nat → Int32) (xd : Nat → Int32) (xl : Nat → Int32) (wi : Int32) (sl : Int32) (kp : Int32) (ct : Nat → Int32) (gd : Nat → Int32) (gl : Nat → Int32) (ln : Int32) (ch : Nat → Int32) (x1 : Int32) (x2 : Int32) (r : Int32) (h : mX4_labelled n d lb x1 x2 = some r) : Met l yX4_labelled wsX4_labelled rmX4_labelled (va_Pc [.ref (q 0), .int x1, .int x2] (BW D cI cC (wA cI q n d lb xd xl wi sl kp ct gd gl ln ch))) (rdQ r) 0 0 (fun _ => False) := by
  refine MetI RX4 (by decide +kernel) rfl rfl (Nat.le_of_ble_eq_true rfl) ?_
  intro p e s m below meth c ls X _ hB hl
  obtain ⟨hP, hKK⟩ := hB
  have hx := X.1
  have hb := X.2.1
  replace hl : lv_has ls 3 [(0, .ref (q 0)), (1, .int x1), (2, .int x2)] := hl
  unfold mX4_labelled at h
  refine lv_aload_n hx hb dX4_labelled_0 rfl (lv_at hl 0 rfl) ?_
  refine va_get (D := D) (ci := 4) (v := .ref (q 8)) (C := RX4) (T := TX4) (N := 4) hx hb X.2.2.2.2.1 iwX4_labelled_4 X.2.2.2.1 hKK.1 hP 0 rfl rfl 0 (by decide) (X.2.2.2.2.1 _ flX4_labelled_10) (fun _ h9 => h9) rfl dX4_labelled_1 ?_
  refine lv_iload_n hx hb dX4_labelled_4 rfl (lv_at hl 1 rfl) ?_
  refine rcV (rest := []) X hKK hP 1 (zX3_has l D cI cC q n d lb xd xl x1 _ rfl) gX4_labelled_X3_has rfl rfl rfl hdX3_has ⟨Nat.le_of_ble_eq_true rfl, Nat.le_of_ble_eq_true rfl⟩ [8, 9, 10, 11, 12] rfl 0 rfl rfl rfl hl.1 rfl (Nat.le_of_ble_eq_true rfl) dX4_labelled_5 ⟨Nat.zero_le _, Nat.zero_le _⟩ ?_
  refine lv_if_ne (tgt := 13) hx hb dX4_labelled_8 (by decide) (fun c1 => ?_) (fun c1 => ?_)
  · replace h := ifn c1 h
    refine lv_iload_n hx hb dX4_labelled_13 rfl (lv_at hl 2 rfl) ?_
    refine rcS2 (rest := []) X hKK hP 1 (zX4_isLetter l D cI cC x2 _ rfl) gX4_labelled_X4_isLetter rfl rfl rfl hdX4_isLetter.2 ⟨Nat.le_of_ble_eq_true rfl, Nat.le_of_ble_eq_true rfl⟩ [] rfl rfl hl.1 rfl (Nat.le_of_ble_eq_true rfl) dX4_labelled_14 ⟨Nat.zero_le _, Nat.zero_le _⟩ ?_
    refine lv_if_eq (tgt := 32) hx hb dX4_labelled_17 (by decide) (fun c2 => ?_) (fun c2 => ?_)
    · replace h := ifp c2 h
      refine lv_bipush (v := iI (-2)) hx hb dX4_labelled_32 (by decide) ?_
      exact rd_ret X rfl (Option.some.inj h) dX4_labelled_34
    · replace h := ifn c2 h
      refine lv_aload_n hx hb dX4_labelled_20 rfl (lv_at hl 0 rfl) ?_
      refine va_get (D := D) (ci := 4) (v := .ref (q 8)) (C := RX4) (T := TX4) (N := 4) hx hb X.2.2.2.2.1 iwX4_labelled_4 X.2.2.2.1 hKK.1 hP 0 rfl rfl 0 (by decide) (X.2.2.2.2.1 _ flX4_labelled_10) (fun _ h9 => h9) rfl dX4_labelled_21 ?_
      refine lv_iload_n hx hb dX4_labelled_24 rfl (lv_at hl 1 rfl) ?_
      refine lv_iload_n hx hb dX4_labelled_25 rfl (lv_at hl 2 rfl) ?_
      obtain ⟨r3, h_r3, h⟩ := obd h
      refine rcV (rest := []) X hKK hP 2 (zX3_countLabel l D cI cC q n d lb xd xl x1 x2 r3 h_r3) gX4_labelled_X3_countLabel rfl rfl rfl hdX3_countLabel ⟨Nat.le_of_ble_eq_true rfl, Nat.le_of_ble_eq_true rfl⟩ [8, 9, 10, 11, 12] rfl 0 rfl rfl rfl hl.1 rfl (Nat.le_of_ble_eq_true rfl) dX4_labelled_26 ⟨Nat.zero_le _, Nat.zero_le _⟩ ?_
      refine lv_goto (tgt := 34) hx hb dX4_labelled_29 (by decide) ?_
      exact rd_ret X rfl (Option.some.inj h) dX4_labelled_34
  · replace h := ifp c1 h
    refine lv_iconst (v := iI (-1)) hx hb dX4_labelled_11 rfl ?_
    exact rd_ret X rfl (Option.some.inj h) dX4_labelled_12
def mX4_select (n : Int32) (d : Nat → Int32) (lb : Nat → Int32) (x1 : Int32) (x2 : Int32) (x3 : Int32) : Option (Int32) := (if (mX3_has n x1) = 0 then some (iI (-1)) else (if (mX4_isLetter x2) = 0 then some (iI (-2)) else (if 0 ≤ x3 then ((mX3_findLabel n d lb x1 x2 x3).bind fun r4 => some r4) else some (iI (-2)))))
theorem hdX4_select : yX4_select.cls = RX4 ∧ yX4_select.cls ≠ "java/lang/invoke/MethodHandle" ∧ yX4_select.cls ≠ "java/lang/invoke/VarHandle" ∧ (parseMethodDescriptor yX4_select.desc).map (fun d => d.parameters.length) = some 3 := by decide +kernel
theorem flX4_select_10 : Cond.fieldLink RX4 10 "BracketTree" "tree" "LBracketTree$Tree;" ∈ wsX4_select := by decide +kernel
theorem iwX4_select_4 : ∀ w ∈ wsX40, w ∈ wsX4_select := by decide +kernel
abbrev rmX4_select : Room := { frames := 4, cells := 0, slots := 0, locals := 91 }
set_option maxHeartbeats 4000000 in
set_option maxRecDepth 100000 in
theorem zX4_select (l : Launch) (D : va_G) (cI cC : ClassId) (q : Nat → Nat) (n : Int32) (d : Nat → Int32) (lb : Nat → Int32) (xd : Nat → Int32) (xl : Nat → Int32) (wi : Int32) (sl : Int32) (kp : Int32) (ct : Nat → Int32) (gd : Nat → Int32) (gl : Nat → Int32) (ln : Int32) (ch : Nat → Int32) (x1 : Int32) (x2 : Int32) (x3 : Int32) (r : Int32) (h : mX4_select n d lb x1 x2 x3 = some r) : Met l yX4_select wsX4_select rmX4_select (va_Pc [.ref (q 0), .int x1, .int x2, .int x3] (BW D cI cC (wA cI q n d lb xd xl wi sl kp ct gd gl ln ch))) (rdQ r) 0 0 (fun _ => False) := by
  refine MetI RX4 (by decide +kernel) rfl rfl (Nat.le_of_ble_eq_true rfl) ?_
  intro p e s m below meth c ls X _ hB hl
  obtain ⟨hP, hKK⟩ := hB
  have hx := X.1
  have hb := X.2.1
  replace hl : lv_has ls 4 [(0, .ref (q 0)), (1, .int x1), (2, .int x2), (3, .int x3)] := hl
  unfold mX4_select at h
  refine lv_aload_n hx hb dX4_select_0 rfl (lv_at hl 0 rfl) ?_
  refine va_get (D := D) (ci := 4) (v := .ref (q 8)) (C := RX4) (T := TX4) (N := 4) hx hb X.2.2.2.2.1 iwX4_select_4 X.2.2.2.1 hKK.1 hP 0 rfl rfl 0 (by decide) (X.2.2.2.2.1 _ flX4_select_10) (fun _ h9 => h9) rfl dX4_select_1 ?_
  refine lv_iload_n hx hb dX4_select_4 rfl (lv_at hl 1 rfl) ?_
  refine rcV (rest := []) X hKK hP 1 (zX3_has l D cI cC q n d lb xd xl x1 _ rfl) gX4_select_X3_has rfl rfl rfl hdX3_has ⟨Nat.le_of_ble_eq_true rfl, Nat.le_of_ble_eq_true rfl⟩ [8, 9, 10, 11, 12] rfl 0 rfl rfl rfl hl.1 rfl (Nat.le_of_ble_eq_true rfl) dX4_select_5 ⟨Nat.zero_le _, Nat.zero_le _⟩ ?_
  refine lv_if_ne (tgt := 13) hx hb dX4_select_8 (by decide) (fun c1 => ?_) (fun c1 => ?_)
  · replace h := ifn c1 h
    refine lv_iload_n hx hb dX4_select_13 rfl (lv_at hl 2 rfl) ?_
    refine rcS2 (rest := []) X hKK hP 1 (zX4_isLetter l D cI cC x2 _ rfl) gX4_select_X4_isLetter rfl rfl rfl hdX4_isLetter.2 ⟨Nat.le_of_ble_eq_true rfl, Nat.le_of_ble_eq_true rfl⟩ [] rfl rfl hl.1 rfl (Nat.le_of_ble_eq_true rfl) dX4_select_14 ⟨Nat.zero_le _, Nat.zero_le _⟩ ?_
    refine lv_if_eq (tgt := 24) hx hb dX4_select_17 (by decide) (fun c2 => ?_) (fun c2 => ?_)
    · replace h := ifp c2 h
      refine lv_bipush (v := iI (-2)) hx hb dX4_select_24 (by decide) ?_
      exact rd_ret X rfl (Option.some.inj h) dX4_select_26
    · replace h := ifn c2 h
      refine lv_iload_n hx hb dX4_select_20 rfl (lv_at hl 3 rfl) ?_
      refine lv_if_ge (tgt := 27) hx hb dX4_select_21 (by decide) (fun c3 => ?_) (fun c3 => ?_)
      · replace h := ifp c3 h
        refine lv_aload_n hx hb dX4_select_27 rfl (lv_at hl 0 rfl) ?_
        refine va_get (D := D) (ci := 4) (v := .ref (q 8)) (C := RX4) (T := TX4) (N := 4) hx hb X.2.2.2.2.1 iwX4_select_4 X.2.2.2.1 hKK.1 hP 0 rfl rfl 0 (by decide) (X.2.2.2.2.1 _ flX4_select_10) (fun _ h9 => h9) rfl dX4_select_28 ?_
        refine lv_iload_n hx hb dX4_select_31 rfl (lv_at hl 1 rfl) ?_
        refine lv_iload_n hx hb dX4_select_32 rfl (lv_at hl 2 rfl) ?_
        refine lv_iload_n hx hb dX4_select_33 rfl (lv_at hl 3 rfl) ?_
        obtain ⟨r4, h_r4, h⟩ := obd h
        refine rcV (rest := []) X hKK hP 3 (zX3_findLabel l D cI cC q n d lb xd xl x1 x2 x3 r4 h_r4) gX4_select_X3_findLabel rfl rfl rfl hdX3_findLabel ⟨Nat.le_of_ble_eq_true rfl, Nat.le_of_ble_eq_true rfl⟩ [8, 9, 10, 11, 12] rfl 0 rfl rfl rfl hl.1 rfl (Nat.le_of_ble_eq_true rfl) dX4_select_34 ⟨Nat.zero_le _, Nat.zero_le _⟩ ?_
        exact rd_ret X rfl (Option.some.inj h) dX4_select_37
      · replace h := ifn c3 h
        refine lv_bipush (v := iI (-2)) hx hb dX4_select_24 (by decide) ?_
        exact rd_ret X rfl (Option.some.inj h) dX4_select_26
  · replace h := ifp c1 h
    refine lv_iconst (v := iI (-1)) hx hb dX4_select_11 rfl ?_
    exact rd_ret X rfl (Option.some.inj h) dX4_select_12
def mX4_ancestorWith (n : Int32) (d : Nat → Int32) (lb : Nat → Int32) (x1 : Int32) (x2 : Int32) : Option (Int32) := (if (mX3_has n x1) = 0 then some (iI (-1)) else (if (mX4_isLetter x2) = 0 then some (iI (-2)) else ((mX3_findAncestor n d lb x1 x2).bind fun r3 => some r3)))
theorem hdX4_ancestorWith : yX4_ancestorWith.cls = RX4 ∧ yX4_ancestorWith.cls ≠ "java/lang/invoke/MethodHandle" ∧ yX4_ancestorWith.cls ≠ "java/lang/invoke/VarHandle" ∧ (parseMethodDescriptor yX4_ancestorWith.desc).map (fun d => d.parameters.length) = some 2 := by decide +kernel
theorem flX4_ancestorWith_10 : Cond.fieldLink RX4 10 "BracketTree" "tree" "LBracketTree$Tree;" ∈ wsX4_ancestorWith := by decide +kernel
theorem iwX4_ancestorWith_4 : ∀ w ∈ wsX40, w ∈ wsX4_ancestorWith := by decide +kernel
abbrev rmX4_ancestorWith : Room := { frames := 3, cells := 0, slots := 0, locals := 66 }
set_option maxHeartbeats 4000000 in
set_option maxRecDepth 100000 in
theorem zX4_ancestorWith (l : Launch) (D : va_G) (cI cC : ClassId) (q : Nat → Nat) (n : Int32) (d : Nat → Int32) (lb : Nat → Int32) (xd : Nat → Int32) (xl : Nat → Int32) (wi : Int32) (sl : Int32) (kp : Int32) (ct : Nat → Int32) (gd : Nat → Int32) (gl : Nat → Int32) (ln : Int32) (ch : Nat → Int32) (x1 : Int32) (x2 : Int32) (r : Int32) (h : mX4_ancestorWith n d lb x1 x2 = some r) : Met l yX4_ancestorWith wsX4_ancestorWith rmX4_ancestorWith (va_Pc [.ref (q 0), .int x1, .int x2] (BW D cI cC (wA cI q n d lb xd xl wi sl kp ct gd gl ln ch))) (rdQ r) 0 0 (fun _ => False) := by
  refine MetI RX4 (by decide +kernel) rfl rfl (Nat.le_of_ble_eq_true rfl) ?_
  intro p e s m below meth c ls X _ hB hl
  obtain ⟨hP, hKK⟩ := hB
  have hx := X.1
  have hb := X.2.1
  replace hl : lv_has ls 3 [(0, .ref (q 0)), (1, .int x1), (2, .int x2)] := hl
  unfold mX4_ancestorWith at h
  refine lv_aload_n hx hb dX4_ancestorWith_0 rfl (lv_at hl 0 rfl) ?_
  refine va_get (D := D) (ci := 4) (v := .ref (q 8)) (C := RX4) (T := TX4) (N := 4) hx hb X.2.2.2.2.1 iwX4_ancestorWith_4 X.2.2.2.1 hKK.1 hP 0 rfl rfl 0 (by decide) (X.2.2.2.2.1 _ flX4_ancestorWith_10) (fun _ h9 => h9) rfl dX4_ancestorWith_1 ?_
  refine lv_iload_n hx hb dX4_ancestorWith_4 rfl (lv_at hl 1 rfl) ?_
  refine rcV (rest := []) X hKK hP 1 (zX3_has l D cI cC q n d lb xd xl x1 _ rfl) gX4_ancestorWith_X3_has rfl rfl rfl hdX3_has ⟨Nat.le_of_ble_eq_true rfl, Nat.le_of_ble_eq_true rfl⟩ [8, 9, 10, 11, 12] rfl 0 rfl rfl rfl hl.1 rfl (Nat.le_of_ble_eq_true rfl) dX4_ancestorWith_5 ⟨Nat.zero_le _, Nat.zero_le _⟩ ?_
  refine lv_if_ne (tgt := 13) hx hb dX4_ancestorWith_8 (by decide) (fun c1 => ?_) (fun c1 => ?_)
  · replace h := ifn c1 h
    refine lv_iload_n hx hb dX4_ancestorWith_13 rfl (lv_at hl 2 rfl) ?_
    refine rcS2 (rest := []) X hKK hP 1 (zX4_isLetter l D cI cC x2 _ rfl) gX4_ancestorWith_X4_isLetter rfl rfl rfl hdX4_isLetter.2 ⟨Nat.le_of_ble_eq_true rfl, Nat.le_of_ble_eq_true rfl⟩ [] rfl rfl hl.1 rfl (Nat.le_of_ble_eq_true rfl) dX4_ancestorWith_14 ⟨Nat.zero_le _, Nat.zero_le _⟩ ?_
    refine lv_if_eq (tgt := 32) hx hb dX4_ancestorWith_17 (by decide) (fun c2 => ?_) (fun c2 => ?_)
    · replace h := ifp c2 h
      refine lv_bipush (v := iI (-2)) hx hb dX4_ancestorWith_32 (by decide) ?_
      exact rd_ret X rfl (Option.some.inj h) dX4_ancestorWith_34
    · replace h := ifn c2 h
      refine lv_aload_n hx hb dX4_ancestorWith_20 rfl (lv_at hl 0 rfl) ?_
      refine va_get (D := D) (ci := 4) (v := .ref (q 8)) (C := RX4) (T := TX4) (N := 4) hx hb X.2.2.2.2.1 iwX4_ancestorWith_4 X.2.2.2.1 hKK.1 hP 0 rfl rfl 0 (by decide) (X.2.2.2.2.1 _ flX4_ancestorWith_10) (fun _ h9 => h9) rfl dX4_ancestorWith_21 ?_
      refine lv_iload_n hx hb dX4_ancestorWith_24 rfl (lv_at hl 1 rfl) ?_
      refine lv_iload_n hx hb dX4_ancestorWith_25 rfl (lv_at hl 2 rfl) ?_
      obtain ⟨r3, h_r3, h⟩ := obd h
      refine rcV (rest := []) X hKK hP 2 (zX3_findAncestor l D cI cC q n d lb xd xl x1 x2 r3 h_r3) gX4_ancestorWith_X3_findAncestor rfl rfl rfl hdX3_findAncestor ⟨Nat.le_of_ble_eq_true rfl, Nat.le_of_ble_eq_true rfl⟩ [8, 9, 10, 11, 12] rfl 0 rfl rfl rfl hl.1 rfl (Nat.le_of_ble_eq_true rfl) dX4_ancestorWith_26 ⟨Nat.zero_le _, Nat.zero_le _⟩ ?_
      refine lv_goto (tgt := 34) hx hb dX4_ancestorWith_29 (by decide) ?_
      exact rd_ret X rfl (Option.some.inj h) dX4_ancestorWith_34
  · replace h := ifp c1 h
    refine lv_iconst (v := iI (-1)) hx hb dX4_ancestorWith_11 rfl ?_
    exact rd_ret X rfl (Option.some.inj h) dX4_ancestorWith_12
def mX4_areEqual (n : Int32) (d : Nat → Int32) (lb : Nat → Int32) (x1 : Int32) (x2 : Int32) : Option (Int32) := (if (mX3_has n x1) = 0 then some (iI (-1)) else (if (mX3_has n x2) = 0 then some (iI (-1)) else ((mX3_sameSubtrees n d lb x1 x2).bind fun r3 => (if r3 = 0 then some (iI 0) else some (iI 1)))))
theorem hdX4_areEqual : yX4_areEqual.cls = RX4 ∧ yX4_areEqual.cls ≠ "java/lang/invoke/MethodHandle" ∧ yX4_areEqual.cls ≠ "java/lang/invoke/VarHandle" ∧ (parseMethodDescriptor yX4_areEqual.desc).map (fun d => d.parameters.length) = some 2 := by decide +kernel
theorem flX4_areEqual_10 : Cond.fieldLink RX4 10 "BracketTree" "tree" "LBracketTree$Tree;" ∈ wsX4_areEqual := by decide +kernel
theorem iwX4_areEqual_4 : ∀ w ∈ wsX40, w ∈ wsX4_areEqual := by decide +kernel
abbrev rmX4_areEqual : Room := { frames := 5, cells := 0, slots := 0, locals := 111 }
set_option maxHeartbeats 4000000 in
set_option maxRecDepth 100000 in
theorem zX4_areEqual (l : Launch) (D : va_G) (cI cC : ClassId) (q : Nat → Nat) (n : Int32) (d : Nat → Int32) (lb : Nat → Int32) (xd : Nat → Int32) (xl : Nat → Int32) (wi : Int32) (sl : Int32) (kp : Int32) (ct : Nat → Int32) (gd : Nat → Int32) (gl : Nat → Int32) (ln : Int32) (ch : Nat → Int32) (x1 : Int32) (x2 : Int32) (r : Int32) (h : mX4_areEqual n d lb x1 x2 = some r) : Met l yX4_areEqual wsX4_areEqual rmX4_areEqual (va_Pc [.ref (q 0), .int x1, .int x2] (BW D cI cC (wA cI q n d lb xd xl wi sl kp ct gd gl ln ch))) (rdQ r) 0 0 (fun _ => False) := by
  refine MetI RX4 (by decide +kernel) rfl rfl (Nat.le_of_ble_eq_true rfl) ?_
  intro p e s m below meth c ls X _ hB hl
  obtain ⟨hP, hKK⟩ := hB
  have hx := X.1
  have hb := X.2.1
  replace hl : lv_has ls 3 [(0, .ref (q 0)), (1, .int x1), (2, .int x2)] := hl
  unfold mX4_areEqual at h
  refine lv_aload_n hx hb dX4_areEqual_0 rfl (lv_at hl 0 rfl) ?_
  refine va_get (D := D) (ci := 4) (v := .ref (q 8)) (C := RX4) (T := TX4) (N := 4) hx hb X.2.2.2.2.1 iwX4_areEqual_4 X.2.2.2.1 hKK.1 hP 0 rfl rfl 0 (by decide) (X.2.2.2.2.1 _ flX4_areEqual_10) (fun _ h9 => h9) rfl dX4_areEqual_1 ?_
  refine lv_iload_n hx hb dX4_areEqual_4 rfl (lv_at hl 1 rfl) ?_
  refine rcV (rest := []) X hKK hP 1 (zX3_has l D cI cC q n d lb xd xl x1 _ rfl) gX4_areEqual_X3_has rfl rfl rfl hdX3_has ⟨Nat.le_of_ble_eq_true rfl, Nat.le_of_ble_eq_true rfl⟩ [8, 9, 10, 11, 12] rfl 0 rfl rfl rfl hl.1 rfl (Nat.le_of_ble_eq_true rfl) dX4_areEqual_5 ⟨Nat.zero_le _, Nat.zero_le _⟩ ?_
  refine lv_if_eq (tgt := 22) hx hb dX4_areEqual_8 (by decide) (fun c1 => ?_) (fun c1 => ?_)
  · replace h := ifp c1 h
    refine lv_iconst (v := iI (-1)) hx hb dX4_areEqual_22 rfl ?_
    exact rd_ret X rfl (Option.some.inj h) dX4_areEqual_23
  · replace h := ifn c1 h
    refine lv_aload_n hx hb dX4_areEqual_11 rfl (lv_at hl 0 rfl) ?_
    refine va_get (D := D) (ci := 4) (v := .ref (q 8)) (C := RX4) (T := TX4) (N := 4) hx hb X.2.2.2.2.1 iwX4_areEqual_4 X.2.2.2.1 hKK.1 hP 0 rfl rfl 0 (by decide) (X.2.2.2.2.1 _ flX4_areEqual_10) (fun _ h9 => h9) rfl dX4_areEqual_12 ?_
    refine lv_iload_n hx hb dX4_areEqual_15 rfl (lv_at hl 2 rfl) ?_
    refine rcV (rest := []) X hKK hP 1 (zX3_has l D cI cC q n d lb xd xl x2 _ rfl) gX4_areEqual_X3_has rfl rfl rfl hdX3_has ⟨Nat.le_of_ble_eq_true rfl, Nat.le_of_ble_eq_true rfl⟩ [8, 9, 10, 11, 12] rfl 0 rfl rfl rfl hl.1 rfl (Nat.le_of_ble_eq_true rfl) dX4_areEqual_16 ⟨Nat.zero_le _, Nat.zero_le _⟩ ?_
    refine lv_if_ne (tgt := 24) hx hb dX4_areEqual_19 (by decide) (fun c2 => ?_) (fun c2 => ?_)
    · replace h := ifn c2 h
      refine lv_aload_n hx hb dX4_areEqual_24 rfl (lv_at hl 0 rfl) ?_
      refine va_get (D := D) (ci := 4) (v := .ref (q 8)) (C := RX4) (T := TX4) (N := 4) hx hb X.2.2.2.2.1 iwX4_areEqual_4 X.2.2.2.1 hKK.1 hP 0 rfl rfl 0 (by decide) (X.2.2.2.2.1 _ flX4_areEqual_10) (fun _ h9 => h9) rfl dX4_areEqual_25 ?_
      refine lv_iload_n hx hb dX4_areEqual_28 rfl (lv_at hl 1 rfl) ?_
      refine lv_iload_n hx hb dX4_areEqual_29 rfl (lv_at hl 2 rfl) ?_
      obtain ⟨r3, h_r3, h⟩ := obd h
      refine rcV (rest := []) X hKK hP 2 (zX3_sameSubtrees l D cI cC q n d lb xd xl x1 x2 r3 h_r3) gX4_areEqual_X3_sameSubtrees rfl rfl rfl hdX3_sameSubtrees ⟨Nat.le_of_ble_eq_true rfl, Nat.le_of_ble_eq_true rfl⟩ [8, 9, 10, 11, 12] rfl 0 rfl rfl rfl hl.1 rfl (Nat.le_of_ble_eq_true rfl) dX4_areEqual_30 ⟨Nat.zero_le _, Nat.zero_le _⟩ ?_
      refine lv_if_eq (tgt := 40) hx hb dX4_areEqual_33 (by decide) (fun c4 => ?_) (fun c4 => ?_)
      · replace h := ifp c4 h
        refine lv_iconst (v := iI 0) hx hb dX4_areEqual_40 rfl ?_
        exact rd_ret X rfl (Option.some.inj h) dX4_areEqual_41
      · replace h := ifn c4 h
        refine lv_iconst (v := iI 1) hx hb dX4_areEqual_36 rfl ?_
        refine lv_goto (tgt := 41) hx hb dX4_areEqual_37 (by decide) ?_
        exact rd_ret X rfl (Option.some.inj h) dX4_areEqual_41
    · replace h := ifp c2 h
      refine lv_iconst (v := iI (-1)) hx hb dX4_areEqual_22 rfl ?_
      exact rd_ret X rfl (Option.some.inj h) dX4_areEqual_23
def mX4_copies (n : Int32) (d : Nat → Int32) (lb : Nat → Int32) (x1 : Int32) : Option (Int32) := (if (mX3_has n x1) = 0 then some (iI (-1)) else ((mX3_countEqual n d lb x1).bind fun r2 => some r2))
theorem hdX4_copies : yX4_copies.cls = RX4 ∧ yX4_copies.cls ≠ "java/lang/invoke/MethodHandle" ∧ yX4_copies.cls ≠ "java/lang/invoke/VarHandle" ∧ (parseMethodDescriptor yX4_copies.desc).map (fun d => d.parameters.length) = some 1 := by decide +kernel
theorem flX4_copies_10 : Cond.fieldLink RX4 10 "BracketTree" "tree" "LBracketTree$Tree;" ∈ wsX4_copies := by decide +kernel
theorem iwX4_copies_4 : ∀ w ∈ wsX40, w ∈ wsX4_copies := by decide +kernel
abbrev rmX4_copies : Room := { frames := 6, cells := 0, slots := 0, locals := 134 }
set_option maxHeartbeats 4000000 in
set_option maxRecDepth 100000 in
theorem zX4_copies (l : Launch) (D : va_G) (cI cC : ClassId) (q : Nat → Nat) (n : Int32) (d : Nat → Int32) (lb : Nat → Int32) (xd : Nat → Int32) (xl : Nat → Int32) (wi : Int32) (sl : Int32) (kp : Int32) (ct : Nat → Int32) (gd : Nat → Int32) (gl : Nat → Int32) (ln : Int32) (ch : Nat → Int32) (x1 : Int32) (r : Int32) (h : mX4_copies n d lb x1 = some r) : Met l yX4_copies wsX4_copies rmX4_copies (va_Pc [.ref (q 0), .int x1] (BW D cI cC (wA cI q n d lb xd xl wi sl kp ct gd gl ln ch))) (rdQ r) 0 0 (fun _ => False) := by
  refine MetI RX4 (by decide +kernel) rfl rfl (Nat.le_of_ble_eq_true rfl) ?_
  intro p e s m below meth c ls X _ hB hl
  obtain ⟨hP, hKK⟩ := hB
  have hx := X.1
  have hb := X.2.1
  replace hl : lv_has ls 2 [(0, .ref (q 0)), (1, .int x1)] := hl
  unfold mX4_copies at h
  refine lv_aload_n hx hb dX4_copies_0 rfl (lv_at hl 0 rfl) ?_
  refine va_get (D := D) (ci := 4) (v := .ref (q 8)) (C := RX4) (T := TX4) (N := 4) hx hb X.2.2.2.2.1 iwX4_copies_4 X.2.2.2.1 hKK.1 hP 0 rfl rfl 0 (by decide) (X.2.2.2.2.1 _ flX4_copies_10) (fun _ h9 => h9) rfl dX4_copies_1 ?_
  refine lv_iload_n hx hb dX4_copies_4 rfl (lv_at hl 1 rfl) ?_
  refine rcV (rest := []) X hKK hP 1 (zX3_has l D cI cC q n d lb xd xl x1 _ rfl) gX4_copies_X3_has rfl rfl rfl hdX3_has ⟨Nat.le_of_ble_eq_true rfl, Nat.le_of_ble_eq_true rfl⟩ [8, 9, 10, 11, 12] rfl 0 rfl rfl rfl hl.1 rfl (Nat.le_of_ble_eq_true rfl) dX4_copies_5 ⟨Nat.zero_le _, Nat.zero_le _⟩ ?_
  refine lv_if_eq (tgt := 22) hx hb dX4_copies_8 (by decide) (fun c1 => ?_) (fun c1 => ?_)
  · replace h := ifp c1 h
    refine lv_iconst (v := iI (-1)) hx hb dX4_copies_22 rfl ?_
    exact rd_ret X rfl (Option.some.inj h) dX4_copies_23
  · replace h := ifn c1 h
    refine lv_aload_n hx hb dX4_copies_11 rfl (lv_at hl 0 rfl) ?_
    refine va_get (D := D) (ci := 4) (v := .ref (q 8)) (C := RX4) (T := TX4) (N := 4) hx hb X.2.2.2.2.1 iwX4_copies_4 X.2.2.2.1 hKK.1 hP 0 rfl rfl 0 (by decide) (X.2.2.2.2.1 _ flX4_copies_10) (fun _ h9 => h9) rfl dX4_copies_12 ?_
    refine lv_iload_n hx hb dX4_copies_15 rfl (lv_at hl 1 rfl) ?_
    obtain ⟨r2, h_r2, h⟩ := obd h
    refine rcV (rest := []) X hKK hP 1 (zX3_countEqual l D cI cC q n d lb xd xl x1 r2 h_r2) gX4_copies_X3_countEqual rfl rfl rfl hdX3_countEqual ⟨Nat.le_of_ble_eq_true rfl, Nat.le_of_ble_eq_true rfl⟩ [8, 9, 10, 11, 12] rfl 0 rfl rfl rfl hl.1 rfl (Nat.le_of_ble_eq_true rfl) dX4_copies_16 ⟨Nat.zero_le _, Nat.zero_le _⟩ ?_
    refine lv_goto (tgt := 23) hx hb dX4_copies_19 (by decide) ?_
    exact rd_ret X rfl (Option.some.inj h) dX4_copies_23
def mX4_wrap (n : Int32) (d : Nat → Int32) (lb : Nat → Int32) (sl : Int32) (kp : Int32) (ct : Nat → Int32) (gd : Nat → Int32) (gl : Nat → Int32) (x1 : Int32) (x2 : Int32) (x3 : Int32) (x4 : Int32) : Option (Int32 × Int32 × (Nat → Int32) × (Nat → Int32) × Int32 × Int32 × (Nat → Int32) × (Nat → Int32) × (Nat → Int32)) := (if (mX3_has n x1) = 0 then some ((iI (-1)), n, d, lb, sl, kp, ct, gd, gl) else ((mX3_childCount n d x1).bind fun r2 => (if x2 < 0 then some ((iI (-2)), n, d, lb, sl, kp, ct, gd, gl) else (if r2 < x2 then some ((iI (-2)), n, d, lb, sl, kp, ct, gd, gl) else (if x3 < 0 then some ((iI (-2)), n, d, lb, sl, kp, ct, gd, gl) else (if (r2 - x2) < x3 then some ((iI (-2)), n, d, lb, sl, kp, ct, gd, gl) else (if (mX4_isLetter x4) = 0 then some ((iI (-2)), n, d, lb, sl, kp, ct, gd, gl) else (if (mX3_count n) < (iI 100) then ((mX1_record n d lb sl kp ct gd gl).bind fun r9 => ((mX3_wrapChildren n d lb x1 x2 x3 x4).bind fun r10 => some (r10.1, r10.2.1, r10.2.2.1, r10.2.2.2, r9.1, r9.2.1, r9.2.2.1, r9.2.2.2.1, r9.2.2.2.2))) else some ((iI (-4)), n, d, lb, sl, kp, ct, gd, gl)))))))))
theorem hdX4_wrap : yX4_wrap.cls = RX4 ∧ yX4_wrap.cls ≠ "java/lang/invoke/MethodHandle" ∧ yX4_wrap.cls ≠ "java/lang/invoke/VarHandle" ∧ (parseMethodDescriptor yX4_wrap.desc).map (fun d => d.parameters.length) = some 4 := by decide +kernel
theorem flX4_wrap_10 : Cond.fieldLink RX4 10 "BracketTree" "tree" "LBracketTree$Tree;" ∈ wsX4_wrap := by decide +kernel
theorem iwX4_wrap_4 : ∀ w ∈ wsX40, w ∈ wsX4_wrap := by decide +kernel
theorem flX4_wrap_26 : Cond.fieldLink RX4 26 "BracketTree" "history" "LBracketTree$History;" ∈ wsX4_wrap := by decide +kernel
abbrev rmX4_wrap : Room := { frames := 5, cells := 0, slots := 0, locals := 116 }
set_option maxHeartbeats 4000000 in
set_option maxRecDepth 100000 in
theorem zX4_wrap (l : Launch) (D : va_G) (cI cC : ClassId) (q : Nat → Nat) (sz : Nat) (n : Int32) (d : Nat → Int32) (lb : Nat → Int32) (xd : Nat → Int32) (xl : Nat → Int32) (wi : Int32) (sl : Int32) (kp : Int32) (ct : Nat → Int32) (gd : Nat → Int32) (gl : Nat → Int32) (ln : Int32) (ch : Nat → Int32) (x1 : Int32) (x2 : Int32) (x3 : Int32) (x4 : Int32) (r : Int32 × Int32 × (Nat → Int32) × (Nat → Int32) × Int32 × Int32 × (Nat → Int32) × (Nat → Int32) × (Nat → Int32)) (h : mX4_wrap n d lb sl kp ct gd gl x1 x2 x3 x4 = some r) : Met l yX4_wrap wsX4_wrap rmX4_wrap (va_Pc [.ref (q 0), .int x1, .int x2, .int x3, .int x4] (MB D cI cC sz (wA cI q n d lb xd xl wi sl kp ct gd gl ln ch))) (muQ D (some (.int r.1)) (wA cI q r.2.1 r.2.2.1 r.2.2.2.1 xd xl wi r.2.2.2.2.1 r.2.2.2.2.2.1 r.2.2.2.2.2.2.1 r.2.2.2.2.2.2.2.1 r.2.2.2.2.2.2.2.2 ln ch) (va_A (wA cI q n d lb xd xl wi sl kp ct gd gl ln ch) sz)) 0 0 (va_A (wA cI q n d lb xd xl wi sl kp ct gd gl ln ch) sz) := by
  refine MetI RX4 (by decide +kernel) rfl rfl (Nat.le_of_ble_eq_true rfl) ?_
  intro p e s m below meth c ls X _ hB hl
  obtain ⟨hsz, ⟨hP, hKK⟩, hD0⟩ := hB
  subst hsz
  have hD := hD0.self (sz := s.heap.size)
  generalize hAe : va_A (wA cI q n d lb xd xl wi sl kp ct gd gl ln ch) s.heap.size = A at hD ⊢
  have hA : ∀ z : Nat, s.heap.size ≤ z → A z := fun z hz => by rw [← hAe]; exact Or.inr hz
  have hS : va_S A s.heap s.heap [] := va_S.rf
  have hx := X.1
  have hb := X.2.1
  replace hl : lv_has ls 6 [(0, .ref (q 0)), (1, .int x1), (2, .int x2), (3, .int x3), (4, .int x4)] := hl
  replace hP : va_P D vwCl (wA cI q n d lb xd xl wi sl kp ct gd gl ln ch) s.heap := hP
  unfold mX4_wrap at h
  refine lv_aload_n hx hb dX4_wrap_0 rfl (lv_at hl 0 rfl) ?_
  refine va_get (D := D) (ci := 4) (v := .ref (q 8)) (C := RX4) (T := TX4) (N := 4) hx hb X.2.2.2.2.1 iwX4_wrap_4 X.2.2.2.1 hKK.1 hP 0 rfl rfl 0 (by decide) (X.2.2.2.2.1 _ flX4_wrap_10) (fun _ h9 => h9) rfl dX4_wrap_1 ?_
  refine lv_iload_n hx hb dX4_wrap_4 rfl (lv_at hl 1 rfl) ?_
  refine rcV (rest := []) X hKK hP 1 (zX3_has l D cI cC q n d lb xd xl x1 _ rfl) gX4_wrap_X3_has rfl rfl rfl hdX3_has ⟨Nat.le_of_ble_eq_true rfl, Nat.le_of_ble_eq_true rfl⟩ [8, 9, 10, 11, 12] rfl 0 rfl rfl rfl hl.1 rfl (Nat.le_of_ble_eq_true rfl) dX4_wrap_5 ⟨Nat.zero_le _, Nat.zero_le _⟩ ?_
  refine lv_if_ne (tgt := 13) hx hb dX4_wrap_8 (by decide) (fun c1 => ?_) (fun c1 => ?_)
  · replace h := ifn c1 h
    refine lv_aload_n hx hb dX4_wrap_13 rfl (lv_at hl 0 rfl) ?_
    refine va_get (D := D) (ci := 4) (v := .ref (q 8)) (C := RX4) (T := TX4) (N := 4) hx hb X.2.2.2.2.1 iwX4_wrap_4 X.2.2.2.1 hKK.1 hP 0 rfl rfl 0 (by decide) (X.2.2.2.2.1 _ flX4_wrap_10) (fun _ h9 => h9) rfl dX4_wrap_14 ?_
    refine lv_iload_n hx hb dX4_wrap_17 rfl (lv_at hl 1 rfl) ?_
    obtain ⟨r2, h_r2, h⟩ := obd h
    refine rcV (rest := []) X hKK hP 1 (zX3_childCount l D cI cC q n d lb xd xl x1 r2 h_r2) gX4_wrap_X3_childCount rfl rfl rfl hdX3_childCount ⟨Nat.le_of_ble_eq_true rfl, Nat.le_of_ble_eq_true rfl⟩ [8, 9, 10, 11, 12] rfl 0 rfl rfl rfl hl.1 rfl (Nat.le_of_ble_eq_true rfl) dX4_wrap_18 ⟨Nat.zero_le _, Nat.zero_le _⟩ ?_
    refine lv_istore (lv' := [(5, .int r2), (0, .ref (q 0)), (1, .int x1), (2, .int x2), (3, .int x3), (4, .int x4)]) hx hb dX4_wrap_21 hl (by decide) rfl (fun ls hl => ?_)
    refine lv_iload_n hx hb dX4_wrap_23 rfl (lv_at hl 3 rfl) ?_
    refine lv_if_lt (tgt := 53) hx hb dX4_wrap_24 (by decide) (fun c3 => ?_) (fun c3 => ?_)
    · replace h := ifp c3 h
      refine lv_bipush (v := iI (-2)) hx hb dX4_wrap_53 (by decide) ?_
      replace h := Option.some.inj h
      subst h
      exact mu_ret X rfl rfl hP rfl hS dX4_wrap_55
    · replace h := ifn c3 h
      refine lv_iload_n hx hb dX4_wrap_27 rfl (lv_at hl 3 rfl) ?_
      refine lv_iload hx hb dX4_wrap_28 (lv_at hl 0 rfl) ?_
      refine lv_icmp_gt (tgt := 53) hx hb dX4_wrap_30 (by decide) (fun c4 => ?_) (fun c4 => ?_)
      · replace h := ifp c4 h
        refine lv_bipush (v := iI (-2)) hx hb dX4_wrap_53 (by decide) ?_
        replace h := Option.some.inj h
        subst h
        exact mu_ret X rfl rfl hP rfl hS dX4_wrap_55
      · replace h := ifn c4 h
        refine lv_iload_n hx hb dX4_wrap_33 rfl (lv_at hl 4 rfl) ?_
        refine lv_if_lt (tgt := 53) hx hb dX4_wrap_34 (by decide) (fun c5 => ?_) (fun c5 => ?_)
        · replace h := ifp c5 h
          refine lv_bipush (v := iI (-2)) hx hb dX4_wrap_53 (by decide) ?_
          replace h := Option.some.inj h
          subst h
          exact mu_ret X rfl rfl hP rfl hS dX4_wrap_55
        · replace h := ifn c5 h
          refine lv_iload_n hx hb dX4_wrap_37 rfl (lv_at hl 4 rfl) ?_
          refine lv_iload hx hb dX4_wrap_38 (lv_at hl 0 rfl) ?_
          refine lv_iload_n hx hb dX4_wrap_40 rfl (lv_at hl 3 rfl) ?_
          refine lv_isub hx hb dX4_wrap_41 ?_
          refine lv_icmp_gt (tgt := 53) hx hb dX4_wrap_42 (by decide) (fun c6 => ?_) (fun c6 => ?_)
          · replace h := ifp c6 h
            refine lv_bipush (v := iI (-2)) hx hb dX4_wrap_53 (by decide) ?_
            replace h := Option.some.inj h
            subst h
            exact mu_ret X rfl rfl hP rfl hS dX4_wrap_55
          · replace h := ifn c6 h
            refine lv_iload hx hb dX4_wrap_45 (lv_at hl 5 rfl) ?_
            refine rcS2 (rest := []) X hKK hP 1 (zX4_isLetter l D cI cC x4 _ rfl) gX4_wrap_X4_isLetter rfl rfl rfl hdX4_isLetter.2 ⟨Nat.le_of_ble_eq_true rfl, Nat.le_of_ble_eq_true rfl⟩ [] rfl rfl hl.1 rfl (Nat.le_of_ble_eq_true rfl) dX4_wrap_47 ⟨Nat.zero_le _, Nat.zero_le _⟩ ?_
            refine lv_if_ne (tgt := 56) hx hb dX4_wrap_50 (by decide) (fun c7 => ?_) (fun c7 => ?_)
            · replace h := ifn c7 h
              refine lv_aload_n hx hb dX4_wrap_56 rfl (lv_at hl 1 rfl) ?_
              refine va_get (D := D) (ci := 4) (v := .ref (q 8)) (C := RX4) (T := TX4) (N := 4) hx hb X.2.2.2.2.1 iwX4_wrap_4 X.2.2.2.1 hKK.1 hP 0 rfl rfl 0 (by decide) (X.2.2.2.2.1 _ flX4_wrap_10) (fun _ h9 => h9) rfl dX4_wrap_57 ?_
              refine rcV (rest := []) X hKK hP 0 (zX3_count l D cI cC q n d lb xd xl _ rfl) gX4_wrap_X3_count rfl rfl rfl hdX3_count ⟨Nat.le_of_ble_eq_true rfl, Nat.le_of_ble_eq_true rfl⟩ [8, 9, 10, 11, 12] rfl 0 rfl rfl rfl hl.1 rfl (Nat.le_of_ble_eq_true rfl) dX4_wrap_60 ⟨Nat.zero_le _, Nat.zero_le _⟩ ?_
              refine lv_bipush (v := iI 100) hx hb dX4_wrap_63 (by decide) ?_
              refine lv_icmp_lt (tgt := 71) hx hb dX4_wrap_65 (by decide) (fun c8 => ?_) (fun c8 => ?_)
              · replace h := ifp c8 h
                refine lv_aload_n hx hb dX4_wrap_71 rfl (lv_at hl 1 rfl) ?_
                refine va_get (D := D) (ci := 4) (v := .ref (q 2)) (C := RX4) (T := TX4) (N := 4) hx hb X.2.2.2.2.1 iwX4_wrap_4 X.2.2.2.1 hKK.1 hP 0 rfl rfl 2 (by decide) (X.2.2.2.2.1 _ flX4_wrap_26) (fun _ h9 => h9) rfl dX4_wrap_72 ?_
                refine lv_aload_n hx hb dX4_wrap_75 rfl (lv_at hl 1 rfl) ?_
                refine va_get (D := D) (ci := 4) (v := .ref (q 8)) (C := RX4) (T := TX4) (N := 4) hx hb X.2.2.2.2.1 iwX4_wrap_4 X.2.2.2.1 hKK.1 hP 0 rfl rfl 0 (by decide) (X.2.2.2.2.1 _ flX4_wrap_10) (fun _ h9 => h9) rfl dX4_wrap_76 ?_
                obtain ⟨r9, h_r9, h⟩ := obd h
                refine mcV (rest := []) (wld2 := (wA cI q n d lb xd xl wi r9.1 r9.2.1 r9.2.2.1 r9.2.2.2.1 r9.2.2.2.2 ln ch)) (wr := pickAt [0, 1, 6, 7] (wA cI q n d lb xd xl wi sl kp ct gd gl ln ch)) X hKK hP hD hS hA 1 (zX1_record l D cI cC q _ n d lb xd xl sl kp ct gd gl r9 h_r9) gX4_wrap_X1_record rfl rfl rfl hdX1_record ⟨Nat.le_of_ble_eq_true rfl, Nat.le_of_ble_eq_true rfl⟩ [2, 3, 4, 5, 8, 9, 10, 11, 12] [0, 1, 6, 7] rfl rfl rfl rfl rfl (by decide) rfl [0, 1, 4, 5, 6, 7, 2, 3, 8, 9, 10, 11, 12] rfl rfl rfl 0 rfl rfl rfl hl.1 rfl (Nat.le_of_ble_eq_true rfl) dX4_wrap_79 ⟨Nat.zero_le _, Nat.zero_le _⟩ (fun H locs hP hD hS => ?_)
                refine lv_aload_n hx hb dX4_wrap_82 rfl (lv_at hl 1 rfl) ?_
                refine va_get (D := D) (ci := 4) (v := .ref (q 8)) (C := RX4) (T := TX4) (N := 4) hx hb X.2.2.2.2.1 iwX4_wrap_4 X.2.2.2.1 hKK.1 hP 0 rfl rfl 0 (by decide) (X.2.2.2.2.1 _ flX4_wrap_10) (fun _ h9 => h9) rfl dX4_wrap_83 ?_
                refine lv_iload_n hx hb dX4_wrap_86 rfl (lv_at hl 2 rfl) ?_
                refine lv_iload_n hx hb dX4_wrap_87 rfl (lv_at hl 3 rfl) ?_
                refine lv_iload_n hx hb dX4_wrap_88 rfl (lv_at hl 4 rfl) ?_
                refine lv_iload hx hb dX4_wrap_89 (lv_at hl 5 rfl) ?_
                obtain ⟨r10, h_r10, h⟩ := obd h
                refine mcV (rest := []) (wld2 := (wA cI q r10.2.1 r10.2.2.1 r10.2.2.2 xd xl wi r9.1 r9.2.1 r9.2.2.1 r9.2.2.2.1 r9.2.2.2.2 ln ch)) (wr := pickAt [0, 1, 2, 3, 4, 5, 6, 7] (wA cI q n d lb xd xl wi r9.1 r9.2.1 r9.2.2.1 r9.2.2.2.1 r9.2.2.2.2 ln ch)) X hKK hP hD hS hA 4 (zX3_wrapChildren l D cI cC q _ n d lb xd xl x1 x2 x3 x4 r10 h_r10) gX4_wrap_X3_wrapChildren rfl rfl rfl hdX3_wrapChildren ⟨Nat.le_of_ble_eq_true rfl, Nat.le_of_ble_eq_true rfl⟩ [8, 9, 10, 11, 12] [0, 1, 2, 3, 4, 5, 6, 7] rfl rfl rfl rfl rfl (by decide) rfl [0, 1, 2, 3, 4, 5, 6, 7, 8, 9, 10, 11, 12] rfl rfl rfl 0 rfl rfl rfl hl.1 rfl (Nat.le_of_ble_eq_true rfl) dX4_wrap_91 ⟨Nat.zero_le _, Nat.zero_le _⟩ (fun H locs hP hD hS => ?_)
                replace h := Option.some.inj h
                subst h
                exact mu_ret X rfl rfl hP rfl hS dX4_wrap_94
              · replace h := ifn c8 h
                refine lv_bipush (v := iI (-4)) hx hb dX4_wrap_68 (by decide) ?_
                replace h := Option.some.inj h
                subst h
                exact mu_ret X rfl rfl hP rfl hS dX4_wrap_70
            · replace h := ifp c7 h
              refine lv_bipush (v := iI (-2)) hx hb dX4_wrap_53 (by decide) ?_
              replace h := Option.some.inj h
              subst h
              exact mu_ret X rfl rfl hP rfl hS dX4_wrap_55
  · replace h := ifp c1 h
    refine lv_iconst (v := iI (-1)) hx hb dX4_wrap_11 rfl ?_
    replace h := Option.some.inj h
    subst h
    exact mu_ret X rfl rfl hP rfl hS dX4_wrap_12
def mX4_insert (n : Int32) (d : Nat → Int32) (lb : Nat → Int32) (sl : Int32) (kp : Int32) (ct : Nat → Int32) (gd : Nat → Int32) (gl : Nat → Int32) (x1 : Int32) (x2 : Int32) (x3 : Int32) : Option (Int32 × Int32 × (Nat → Int32) × (Nat → Int32) × Int32 × Int32 × (Nat → Int32) × (Nat → Int32) × (Nat → Int32)) := ((mX4_wrap n d lb sl kp ct gd gl x1 x2 (iI 0) x3).bind fun r1 => some (r1.1, r1.2.1, r1.2.2.1, r1.2.2.2.1, r1.2.2.2.2.1, r1.2.2.2.2.2.1, r1.2.2.2.2.2.2.1, r1.2.2.2.2.2.2.2.1, r1.2.2.2.2.2.2.2.2))
theorem hdX4_insert : yX4_insert.cls = RX4 ∧ yX4_insert.cls ≠ "java/lang/invoke/MethodHandle" ∧ yX4_insert.cls ≠ "java/lang/invoke/VarHandle" ∧ (parseMethodDescriptor yX4_insert.desc).map (fun d => d.parameters.length) = some 3 := by decide +kernel
abbrev rmX4_insert : Room := { frames := 6, cells := 0, slots := 0, locals := 141 }
set_option maxHeartbeats 4000000 in
set_option maxRecDepth 100000 in
theorem zX4_insert (l : Launch) (D : va_G) (cI cC : ClassId) (q : Nat → Nat) (sz : Nat) (n : Int32) (d : Nat → Int32) (lb : Nat → Int32) (xd : Nat → Int32) (xl : Nat → Int32) (wi : Int32) (sl : Int32) (kp : Int32) (ct : Nat → Int32) (gd : Nat → Int32) (gl : Nat → Int32) (ln : Int32) (ch : Nat → Int32) (x1 : Int32) (x2 : Int32) (x3 : Int32) (r : Int32 × Int32 × (Nat → Int32) × (Nat → Int32) × Int32 × Int32 × (Nat → Int32) × (Nat → Int32) × (Nat → Int32)) (h : mX4_insert n d lb sl kp ct gd gl x1 x2 x3 = some r) : Met l yX4_insert wsX4_insert rmX4_insert (va_Pc [.ref (q 0), .int x1, .int x2, .int x3] (MB D cI cC sz (wA cI q n d lb xd xl wi sl kp ct gd gl ln ch))) (muQ D (some (.int r.1)) (wA cI q r.2.1 r.2.2.1 r.2.2.2.1 xd xl wi r.2.2.2.2.1 r.2.2.2.2.2.1 r.2.2.2.2.2.2.1 r.2.2.2.2.2.2.2.1 r.2.2.2.2.2.2.2.2 ln ch) (va_A (wA cI q n d lb xd xl wi sl kp ct gd gl ln ch) sz)) 0 0 (va_A (wA cI q n d lb xd xl wi sl kp ct gd gl ln ch) sz) := by
  refine MetI RX4 (by decide +kernel) rfl rfl (Nat.le_of_ble_eq_true rfl) ?_
  intro p e s m below meth c ls X _ hB hl
  obtain ⟨hsz, ⟨hP, hKK⟩, hD0⟩ := hB
  subst hsz
  have hD := hD0.self (sz := s.heap.size)
  generalize hAe : va_A (wA cI q n d lb xd xl wi sl kp ct gd gl ln ch) s.heap.size = A at hD ⊢
  have hA : ∀ z : Nat, s.heap.size ≤ z → A z := fun z hz => by rw [← hAe]; exact Or.inr hz
  have hS : va_S A s.heap s.heap [] := va_S.rf
  have hx := X.1
  have hb := X.2.1
  replace hl : lv_has ls 4 [(0, .ref (q 0)), (1, .int x1), (2, .int x2), (3, .int x3)] := hl
  replace hP : va_P D vwCl (wA cI q n d lb xd xl wi sl kp ct gd gl ln ch) s.heap := hP
  unfold mX4_insert at h
  refine lv_aload_n hx hb dX4_insert_0 rfl (lv_at hl 0 rfl) ?_
  refine lv_iload_n hx hb dX4_insert_1 rfl (lv_at hl 1 rfl) ?_
  refine lv_iload_n hx hb dX4_insert_2 rfl (lv_at hl 2 rfl) ?_
  refine lv_iconst (v := iI 0) hx hb dX4_insert_3 rfl ?_
  refine lv_iload_n hx hb dX4_insert_4 rfl (lv_at hl 3 rfl) ?_
  obtain ⟨r1, h_r1, h⟩ := obd h
  refine mcV (rest := []) (wld2 := (wA cI q r1.2.1 r1.2.2.1 r1.2.2.2.1 xd xl wi r1.2.2.2.2.1 r1.2.2.2.2.2.1 r1.2.2.2.2.2.2.1 r1.2.2.2.2.2.2.2.1 r1.2.2.2.2.2.2.2.2 ln ch)) (wr := pickAt [] (wA cI q n d lb xd xl wi sl kp ct gd gl ln ch)) X hKK hP hD hS hA 4 (zX4_wrap l D cI cC q _ n d lb xd xl wi sl kp ct gd gl ln ch x1 x2 (iI 0) x3 r1 h_r1) gX4_insert_X4_wrap rfl rfl rfl hdX4_wrap ⟨Nat.le_of_ble_eq_true rfl, Nat.le_of_ble_eq_true rfl⟩ [0, 1, 2, 3, 4, 5, 6, 7, 8, 9, 10, 11, 12] [] rfl rfl rfl rfl rfl (by decide) rfl [0, 1, 2, 3, 4, 5, 6, 7, 8, 9, 10, 11, 12] rfl rfl rfl 0 rfl rfl rfl hl.1 rfl (Nat.le_of_ble_eq_true rfl) dX4_insert_5 ⟨Nat.zero_le _, Nat.zero_le _⟩ (fun H locs hP hD hS => ?_)
  replace h := Option.some.inj h
  subst h
  exact mu_ret X rfl rfl hP rfl hS dX4_insert_8
def mX4_remove (n : Int32) (d : Nat → Int32) (lb : Nat → Int32) (sl : Int32) (kp : Int32) (ct : Nat → Int32) (gd : Nat → Int32) (gl : Nat → Int32) (x1 : Int32) : Option (Int32 × Int32 × (Nat → Int32) × (Nat → Int32) × Int32 × Int32 × (Nat → Int32) × (Nat → Int32) × (Nat → Int32)) := (if (mX3_has n x1) = 0 then some ((iI (-1)), n, d, lb, sl, kp, ct, gd, gl) else (if x1 = 0 then some ((iI (-3)), n, d, lb, sl, kp, ct, gd, gl) else ((mX1_record n d lb sl kp ct gd gl).bind fun r3 => ((mX3_dissolve n d lb x1).bind fun r4 => some ((mX3_count r4.1), r4.1, r4.2.1, r4.2.2, r3.1, r3.2.1, r3.2.2.1, r3.2.2.2.1, r3.2.2.2.2)))))
theorem hdX4_remove : yX4_remove.cls = RX4 ∧ yX4_remove.cls ≠ "java/lang/invoke/MethodHandle" ∧ yX4_remove.cls ≠ "java/lang/invoke/VarHandle" ∧ (parseMethodDescriptor yX4_remove.desc).map (fun d => d.parameters.length) = some 1 := by decide +kernel
theorem flX4_remove_10 : Cond.fieldLink RX4 10 "BracketTree" "tree" "LBracketTree$Tree;" ∈ wsX4_remove := by decide +kernel
theorem iwX4_remove_4 : ∀ w ∈ wsX40, w ∈ wsX4_remove := by decide +kernel
theorem flX4_remove_26 : Cond.fieldLink RX4 26 "BracketTree" "history" "LBracketTree$History;" ∈ wsX4_remove := by decide +kernel
abbrev rmX4_remove : Room := { frames := 4, cells := 0, slots := 0, locals := 90 }
set_option maxHeartbeats 4000000 in
set_option maxRecDepth 100000 in
theorem zX4_remove (l : Launch) (D : va_G) (cI cC : ClassId) (q : Nat → Nat) (sz : Nat) (n : Int32) (d : Nat → Int32) (lb : Nat → Int32) (xd : Nat → Int32) (xl : Nat → Int32) (wi : Int32) (sl : Int32) (kp : Int32) (ct : Nat → Int32) (gd : Nat → Int32) (gl : Nat → Int32) (ln : Int32) (ch : Nat → Int32) (x1 : Int32) (r : Int32 × Int32 × (Nat → Int32) × (Nat → Int32) × Int32 × Int32 × (Nat → Int32) × (Nat → Int32) × (Nat → Int32)) (h : mX4_remove n d lb sl kp ct gd gl x1 = some r) : Met l yX4_remove wsX4_remove rmX4_remove (va_Pc [.ref (q 0), .int x1] (MB D cI cC sz (wA cI q n d lb xd xl wi sl kp ct gd gl ln ch))) (muQ D (some (.int r.1)) (wA cI q r.2.1 r.2.2.1 r.2.2.2.1 xd xl wi r.2.2.2.2.1 r.2.2.2.2.2.1 r.2.2.2.2.2.2.1 r.2.2.2.2.2.2.2.1 r.2.2.2.2.2.2.2.2 ln ch) (va_A (wA cI q n d lb xd xl wi sl kp ct gd gl ln ch) sz)) 0 0 (va_A (wA cI q n d lb xd xl wi sl kp ct gd gl ln ch) sz) := by
  refine MetI RX4 (by decide +kernel) rfl rfl (Nat.le_of_ble_eq_true rfl) ?_
  intro p e s m below meth c ls X _ hB hl
  obtain ⟨hsz, ⟨hP, hKK⟩, hD0⟩ := hB
  subst hsz
  have hD := hD0.self (sz := s.heap.size)
  generalize hAe : va_A (wA cI q n d lb xd xl wi sl kp ct gd gl ln ch) s.heap.size = A at hD ⊢
  have hA : ∀ z : Nat, s.heap.size ≤ z → A z := fun z hz => by rw [← hAe]; exact Or.inr hz
  have hS : va_S A s.heap s.heap [] := va_S.rf
  have hx := X.1
  have hb := X.2.1
  replace hl : lv_has ls 2 [(0, .ref (q 0)), (1, .int x1)] := hl
  replace hP : va_P D vwCl (wA cI q n d lb xd xl wi sl kp ct gd gl ln ch) s.heap := hP
  unfold mX4_remove at h
  refine lv_aload_n hx hb dX4_remove_0 rfl (lv_at hl 0 rfl) ?_
  refine va_get (D := D) (ci := 4) (v := .ref (q 8)) (C := RX4) (T := TX4) (N := 4) hx hb X.2.2.2.2.1 iwX4_remove_4 X.2.2.2.1 hKK.1 hP 0 rfl rfl 0 (by decide) (X.2.2.2.2.1 _ flX4_remove_10) (fun _ h9 => h9) rfl dX4_remove_1 ?_
  refine lv_iload_n hx hb dX4_remove_4 rfl (lv_at hl 1 rfl) ?_
  refine rcV (rest := []) X hKK hP 1 (zX3_has l D cI cC q n d lb xd xl x1 _ rfl) gX4_remove_X3_has rfl rfl rfl hdX3_has ⟨Nat.le_of_ble_eq_true rfl, Nat.le_of_ble_eq_true rfl⟩ [8, 9, 10, 11, 12] rfl 0 rfl rfl rfl hl.1 rfl (Nat.le_of_ble_eq_true rfl) dX4_remove_5 ⟨Nat.zero_le _, Nat.zero_le _⟩ ?_
  refine lv_if_ne (tgt := 13) hx hb dX4_remove_8 (by decide) (fun c1 => ?_) (fun c1 => ?_)
  · replace h := ifn c1 h
    refine lv_iload_n hx hb dX4_remove_13 rfl (lv_at hl 1 rfl) ?_
    refine lv_if_ne (tgt := 20) hx hb dX4_remove_14 (by decide) (fun c2 => ?_) (fun c2 => ?_)
    · replace h := ifn c2 h
      refine lv_aload_n hx hb dX4_remove_20 rfl (lv_at hl 0 rfl) ?_
      refine va_get (D := D) (ci := 4) (v := .ref (q 2)) (C := RX4) (T := TX4) (N := 4) hx hb X.2.2.2.2.1 iwX4_remove_4 X.2.2.2.1 hKK.1 hP 0 rfl rfl 2 (by decide) (X.2.2.2.2.1 _ flX4_remove_26) (fun _ h9 => h9) rfl dX4_remove_21 ?_
      refine lv_aload_n hx hb dX4_remove_24 rfl (lv_at hl 0 rfl) ?_
      refine va_get (D := D) (ci := 4) (v := .ref (q 8)) (C := RX4) (T := TX4) (N := 4) hx hb X.2.2.2.2.1 iwX4_remove_4 X.2.2.2.1 hKK.1 hP 0 rfl rfl 0 (by decide) (X.2.2.2.2.1 _ flX4_remove_10) (fun _ h9 => h9) rfl dX4_remove_25 ?_
      obtain ⟨r3, h_r3, h⟩ := obd h
      refine mcV (rest := []) (wld2 := (wA cI q n d lb xd xl wi r3.1 r3.2.1 r3.2.2.1 r3.2.2.2.1 r3.2.2.2.2 ln ch)) (wr := pickAt [0, 1, 6, 7] (wA cI q n d lb xd xl wi sl kp ct gd gl ln ch)) X hKK hP hD hS hA 1 (zX1_record l D cI cC q _ n d lb xd xl sl kp ct gd gl r3 h_r3) gX4_remove_X1_record rfl rfl rfl hdX1_record ⟨Nat.le_of_ble_eq_true rfl, Nat.le_of_ble_eq_true rfl⟩ [2, 3, 4, 5, 8, 9, 10, 11, 12] [0, 1, 6, 7] rfl rfl rfl rfl rfl (by decide) rfl [0, 1, 4, 5, 6, 7, 2, 3, 8, 9, 10, 11, 12] rfl rfl rfl 0 rfl rfl rfl hl.1 rfl (Nat.le_of_ble_eq_true rfl) dX4_remove_28 ⟨Nat.zero_le _, Nat.zero_le _⟩ (fun H locs hP hD hS => ?_)
      refine lv_aload_n hx hb dX4_remove_31 rfl (lv_at hl 0 rfl) ?_
      refine va_get (D := D) (ci := 4) (v := .ref (q 8)) (C := RX4) (T := TX4) (N := 4) hx hb X.2.2.2.2.1 iwX4_remove_4 X.2.2.2.1 hKK.1 hP 0 rfl rfl 0 (by decide) (X.2.2.2.2.1 _ flX4_remove_10) (fun _ h9 => h9) rfl dX4_remove_32 ?_
      refine lv_iload_n hx hb dX4_remove_35 rfl (lv_at hl 1 rfl) ?_
      obtain ⟨r4, h_r4, h⟩ := obd h
      refine mcV (rest := []) (wld2 := (wA cI q r4.1 r4.2.1 r4.2.2 xd xl wi r3.1 r3.2.1 r3.2.2.1 r3.2.2.2.1 r3.2.2.2.2 ln ch)) (wr := pickAt [0, 1, 2, 3, 4, 5, 6, 7] (wA cI q n d lb xd xl wi r3.1 r3.2.1 r3.2.2.1 r3.2.2.2.1 r3.2.2.2.2 ln ch)) X hKK hP hD hS hA 1 (zX3_dissolve l D cI cC q _ n d lb xd xl x1 r4 h_r4) gX4_remove_X3_dissolve rfl rfl rfl hdX3_dissolve ⟨Nat.le_of_ble_eq_true rfl, Nat.le_of_ble_eq_true rfl⟩ [8, 9, 10, 11, 12] [0, 1, 2, 3, 4, 5, 6, 7] rfl rfl rfl rfl rfl (by decide) rfl [0, 1, 2, 3, 4, 5, 6, 7, 8, 9, 10, 11, 12] rfl rfl rfl 0 rfl rfl rfl hl.1 rfl (Nat.le_of_ble_eq_true rfl) dX4_remove_36 ⟨Nat.zero_le _, Nat.zero_le _⟩ (fun H locs hP hD hS => ?_)
      refine lv_aload_n hx hb dX4_remove_39 rfl (lv_at hl 0 rfl) ?_
      refine va_get (D := D) (ci := 4) (v := .ref (q 8)) (C := RX4) (T := TX4) (N := 4) hx hb X.2.2.2.2.1 iwX4_remove_4 X.2.2.2.1 hKK.1 hP 0 rfl rfl 0 (by decide) (X.2.2.2.2.1 _ flX4_remove_10) (fun _ h9 => h9) rfl dX4_remove_40 ?_
      refine rcV (rest := []) X hKK hP 0 (zX3_count l D cI cC q r4.1 r4.2.1 r4.2.2 xd xl _ rfl) gX4_remove_X3_count rfl rfl rfl hdX3_count ⟨Nat.le_of_ble_eq_true rfl, Nat.le_of_ble_eq_true rfl⟩ [8, 9, 10, 11, 12] rfl 0 rfl rfl rfl hl.1 rfl (Nat.le_of_ble_eq_true rfl) dX4_remove_43 ⟨Nat.zero_le _, Nat.zero_le _⟩ ?_
      replace h := Option.some.inj h
      subst h
      exact mu_ret X rfl rfl hP rfl hS dX4_remove_46
    · replace h := ifp c2 h
      refine lv_bipush (v := iI (-3)) hx hb dX4_remove_17 (by decide) ?_
      replace h := Option.some.inj h
      subst h
      exact mu_ret X rfl rfl hP rfl hS dX4_remove_19
  · replace h := ifp c1 h
    refine lv_iconst (v := iI (-1)) hx hb dX4_remove_11 rfl ?_
    replace h := Option.some.inj h
    subst h
    exact mu_ret X rfl rfl hP rfl hS dX4_remove_12
def mX4_cut (n : Int32) (d : Nat → Int32) (lb : Nat → Int32) (sl : Int32) (kp : Int32) (ct : Nat → Int32) (gd : Nat → Int32) (gl : Nat → Int32) (x1 : Int32) : Option (Int32 × Int32 × (Nat → Int32) × (Nat → Int32) × Int32 × Int32 × (Nat → Int32) × (Nat → Int32) × (Nat → Int32)) := (if (mX3_has n x1) = 0 then some ((iI (-1)), n, d, lb, sl, kp, ct, gd, gl) else (if x1 = 0 then some ((iI (-3)), n, d, lb, sl, kp, ct, gd, gl) else ((mX1_record n d lb sl kp ct gd gl).bind fun r3 => ((mX3_sizeOf n d x1).bind fun r4 => ((mX3_closeGap n d lb x1 r4).bind fun r5 => some ((mX3_count r5.1), r5.1, r5.2.1, r5.2.2, r3.1, r3.2.1, r3.2.2.1, r3.2.2.2.1, r3.2.2.2.2))))))
theorem hdX4_cut : yX4_cut.cls = RX4 ∧ yX4_cut.cls ≠ "java/lang/invoke/MethodHandle" ∧ yX4_cut.cls ≠ "java/lang/invoke/VarHandle" ∧ (parseMethodDescriptor yX4_cut.desc).map (fun d => d.parameters.length) = some 1 := by decide +kernel
theorem flX4_cut_10 : Cond.fieldLink RX4 10 "BracketTree" "tree" "LBracketTree$Tree;" ∈ wsX4_cut := by decide +kernel
theorem iwX4_cut_4 : ∀ w ∈ wsX40, w ∈ wsX4_cut := by decide +kernel
theorem flX4_cut_26 : Cond.fieldLink RX4 26 "BracketTree" "history" "LBracketTree$History;" ∈ wsX4_cut := by decide +kernel
abbrev rmX4_cut : Room := { frames := 4, cells := 0, slots := 0, locals := 86 }
set_option maxHeartbeats 4000000 in
set_option maxRecDepth 100000 in
theorem zX4_cut (l : Launch) (D : va_G) (cI cC : ClassId) (q : Nat → Nat) (sz : Nat) (n : Int32) (d : Nat → Int32) (lb : Nat → Int32) (xd : Nat → Int32) (xl : Nat → Int32) (wi : Int32) (sl : Int32) (kp : Int32) (ct : Nat → Int32) (gd : Nat → Int32) (gl : Nat → Int32) (ln : Int32) (ch : Nat → Int32) (x1 : Int32) (r : Int32 × Int32 × (Nat → Int32) × (Nat → Int32) × Int32 × Int32 × (Nat → Int32) × (Nat → Int32) × (Nat → Int32)) (h : mX4_cut n d lb sl kp ct gd gl x1 = some r) : Met l yX4_cut wsX4_cut rmX4_cut (va_Pc [.ref (q 0), .int x1] (MB D cI cC sz (wA cI q n d lb xd xl wi sl kp ct gd gl ln ch))) (muQ D (some (.int r.1)) (wA cI q r.2.1 r.2.2.1 r.2.2.2.1 xd xl wi r.2.2.2.2.1 r.2.2.2.2.2.1 r.2.2.2.2.2.2.1 r.2.2.2.2.2.2.2.1 r.2.2.2.2.2.2.2.2 ln ch) (va_A (wA cI q n d lb xd xl wi sl kp ct gd gl ln ch) sz)) 0 0 (va_A (wA cI q n d lb xd xl wi sl kp ct gd gl ln ch) sz) := by
  refine MetI RX4 (by decide +kernel) rfl rfl (Nat.le_of_ble_eq_true rfl) ?_
  intro p e s m below meth c ls X _ hB hl
  obtain ⟨hsz, ⟨hP, hKK⟩, hD0⟩ := hB
  subst hsz
  have hD := hD0.self (sz := s.heap.size)
  generalize hAe : va_A (wA cI q n d lb xd xl wi sl kp ct gd gl ln ch) s.heap.size = A at hD ⊢
  have hA : ∀ z : Nat, s.heap.size ≤ z → A z := fun z hz => by rw [← hAe]; exact Or.inr hz
  have hS : va_S A s.heap s.heap [] := va_S.rf
  have hx := X.1
  have hb := X.2.1
  replace hl : lv_has ls 2 [(0, .ref (q 0)), (1, .int x1)] := hl
  replace hP : va_P D vwCl (wA cI q n d lb xd xl wi sl kp ct gd gl ln ch) s.heap := hP
  unfold mX4_cut at h
  refine lv_aload_n hx hb dX4_cut_0 rfl (lv_at hl 0 rfl) ?_
  refine va_get (D := D) (ci := 4) (v := .ref (q 8)) (C := RX4) (T := TX4) (N := 4) hx hb X.2.2.2.2.1 iwX4_cut_4 X.2.2.2.1 hKK.1 hP 0 rfl rfl 0 (by decide) (X.2.2.2.2.1 _ flX4_cut_10) (fun _ h9 => h9) rfl dX4_cut_1 ?_
  refine lv_iload_n hx hb dX4_cut_4 rfl (lv_at hl 1 rfl) ?_
  refine rcV (rest := []) X hKK hP 1 (zX3_has l D cI cC q n d lb xd xl x1 _ rfl) gX4_cut_X3_has rfl rfl rfl hdX3_has ⟨Nat.le_of_ble_eq_true rfl, Nat.le_of_ble_eq_true rfl⟩ [8, 9, 10, 11, 12] rfl 0 rfl rfl rfl hl.1 rfl (Nat.le_of_ble_eq_true rfl) dX4_cut_5 ⟨Nat.zero_le _, Nat.zero_le _⟩ ?_
  refine lv_if_ne (tgt := 13) hx hb dX4_cut_8 (by decide) (fun c1 => ?_) (fun c1 => ?_)
  · replace h := ifn c1 h
    refine lv_iload_n hx hb dX4_cut_13 rfl (lv_at hl 1 rfl) ?_
    refine lv_if_ne (tgt := 20) hx hb dX4_cut_14 (by decide) (fun c2 => ?_) (fun c2 => ?_)
    · replace h := ifn c2 h
      refine lv_aload_n hx hb dX4_cut_20 rfl (lv_at hl 0 rfl) ?_
      refine va_get (D := D) (ci := 4) (v := .ref (q 2)) (C := RX4) (T := TX4) (N := 4) hx hb X.2.2.2.2.1 iwX4_cut_4 X.2.2.2.1 hKK.1 hP 0 rfl rfl 2 (by decide) (X.2.2.2.2.1 _ flX4_cut_26) (fun _ h9 => h9) rfl dX4_cut_21 ?_
      refine lv_aload_n hx hb dX4_cut_24 rfl (lv_at hl 0 rfl) ?_
      refine va_get (D := D) (ci := 4) (v := .ref (q 8)) (C := RX4) (T := TX4) (N := 4) hx hb X.2.2.2.2.1 iwX4_cut_4 X.2.2.2.1 hKK.1 hP 0 rfl rfl 0 (by decide) (X.2.2.2.2.1 _ flX4_cut_10) (fun _ h9 => h9) rfl dX4_cut_25 ?_
      obtain ⟨r3, h_r3, h⟩ := obd h
      refine mcV (rest := []) (wld2 := (wA cI q n d lb xd xl wi r3.1 r3.2.1 r3.2.2.1 r3.2.2.2.1 r3.2.2.2.2 ln ch)) (wr := pickAt [0, 1, 6, 7] (wA cI q n d lb xd xl wi sl kp ct gd gl ln ch)) X hKK hP hD hS hA 1 (zX1_record l D cI cC q _ n d lb xd xl sl kp ct gd gl r3 h_r3) gX4_cut_X1_record rfl rfl rfl hdX1_record ⟨Nat.le_of_ble_eq_true rfl, Nat.le_of_ble_eq_true rfl⟩ [2, 3, 4, 5, 8, 9, 10, 11, 12] [0, 1, 6, 7] rfl rfl rfl rfl rfl (by decide) rfl [0, 1, 4, 5, 6, 7, 2, 3, 8, 9, 10, 11, 12] rfl rfl rfl 0 rfl rfl rfl hl.1 rfl (Nat.le_of_ble_eq_true rfl) dX4_cut_28 ⟨Nat.zero_le _, Nat.zero_le _⟩ (fun H locs hP hD hS => ?_)
      refine lv_aload_n hx hb dX4_cut_31 rfl (lv_at hl 0 rfl) ?_
      refine va_get (D := D) (ci := 4) (v := .ref (q 8)) (C := RX4) (T := TX4) (N := 4) hx hb X.2.2.2.2.1 iwX4_cut_4 X.2.2.2.1 hKK.1 hP 0 rfl rfl 0 (by decide) (X.2.2.2.2.1 _ flX4_cut_10) (fun _ h9 => h9) rfl dX4_cut_32 ?_
      refine lv_iload_n hx hb dX4_cut_35 rfl (lv_at hl 1 rfl) ?_
      refine lv_aload_n hx hb dX4_cut_36 rfl (lv_at hl 0 rfl) ?_
      refine va_get (D := D) (ci := 4) (v := .ref (q 8)) (C := RX4) (T := TX4) (N := 4) hx hb X.2.2.2.2.1 iwX4_cut_4 X.2.2.2.1 hKK.1 hP 0 rfl rfl 0 (by decide) (X.2.2.2.2.1 _ flX4_cut_10) (fun _ h9 => h9) rfl dX4_cut_37 ?_
      refine lv_iload_n hx hb dX4_cut_40 rfl (lv_at hl 1 rfl) ?_
      obtain ⟨r4, h_r4, h⟩ := obd h
      refine rcV (rest := [.int x1, .ref (q 8)]) X hKK hP 1 (zX3_sizeOf l D cI cC q n d lb xd xl x1 r4 h_r4) gX4_cut_X3_sizeOf rfl rfl rfl hdX3_sizeOf ⟨Nat.le_of_ble_eq_true rfl, Nat.le_of_ble_eq_true rfl⟩ [8, 9, 10, 11, 12] rfl 0 rfl rfl rfl hl.1 rfl (Nat.le_of_ble_eq_true rfl) dX4_cut_41 ⟨Nat.zero_le _, Nat.zero_le _⟩ ?_
      obtain ⟨r5, h_r5, h⟩ := obd h
      refine mcV (rest := []) (wld2 := (wA cI q r5.1 r5.2.1 r5.2.2 xd xl wi r3.1 r3.2.1 r3.2.2.1 r3.2.2.2.1 r3.2.2.2.2 ln ch)) (wr := pickAt [0, 1, 2, 3, 4, 5, 6, 7] (wA cI q n d lb xd xl wi r3.1 r3.2.1 r3.2.2.1 r3.2.2.2.1 r3.2.2.2.2 ln ch)) X hKK hP hD hS hA 2 (zX3_closeGap l D cI cC q _ n d lb xd xl x1 r4 r5 h_r5) gX4_cut_X3_closeGap rfl rfl rfl hdX3_closeGap ⟨Nat.le_of_ble_eq_true rfl, Nat.le_of_ble_eq_true rfl⟩ [8, 9, 10, 11, 12] [0, 1, 2, 3, 4, 5, 6, 7] rfl rfl rfl rfl rfl (by decide) rfl [0, 1, 2, 3, 4, 5, 6, 7, 8, 9, 10, 11, 12] rfl rfl rfl 0 rfl rfl rfl hl.1 rfl (Nat.le_of_ble_eq_true rfl) dX4_cut_44 ⟨Nat.zero_le _, Nat.zero_le _⟩ (fun H locs hP hD hS => ?_)
      refine lv_aload_n hx hb dX4_cut_47 rfl (lv_at hl 0 rfl) ?_
      refine va_get (D := D) (ci := 4) (v := .ref (q 8)) (C := RX4) (T := TX4) (N := 4) hx hb X.2.2.2.2.1 iwX4_cut_4 X.2.2.2.1 hKK.1 hP 0 rfl rfl 0 (by decide) (X.2.2.2.2.1 _ flX4_cut_10) (fun _ h9 => h9) rfl dX4_cut_48 ?_
      refine rcV (rest := []) X hKK hP 0 (zX3_count l D cI cC q r5.1 r5.2.1 r5.2.2 xd xl _ rfl) gX4_cut_X3_count rfl rfl rfl hdX3_count ⟨Nat.le_of_ble_eq_true rfl, Nat.le_of_ble_eq_true rfl⟩ [8, 9, 10, 11, 12] rfl 0 rfl rfl rfl hl.1 rfl (Nat.le_of_ble_eq_true rfl) dX4_cut_51 ⟨Nat.zero_le _, Nat.zero_le _⟩ ?_
      replace h := Option.some.inj h
      subst h
      exact mu_ret X rfl rfl hP rfl hS dX4_cut_54
    · replace h := ifp c2 h
      refine lv_bipush (v := iI (-3)) hx hb dX4_cut_17 (by decide) ?_
      replace h := Option.some.inj h
      subst h
      exact mu_ret X rfl rfl hP rfl hS dX4_cut_19
  · replace h := ifp c1 h
    refine lv_iconst (v := iI (-1)) hx hb dX4_cut_11 rfl ?_
    replace h := Option.some.inj h
    subst h
    exact mu_ret X rfl rfl hP rfl hS dX4_cut_12
def mX4_move (n : Int32) (d : Nat → Int32) (lb : Nat → Int32) (xd : Nat → Int32) (xl : Nat → Int32) (sl : Int32) (kp : Int32) (ct : Nat → Int32) (gd : Nat → Int32) (gl : Nat → Int32) (x1 : Int32) (x2 : Int32) (x3 : Int32) : Option (Int32 × Int32 × (Nat → Int32) × (Nat → Int32) × (Nat → Int32) × (Nat → Int32) × Int32 × Int32 × (Nat → Int32) × (Nat → Int32) × (Nat → Int32)) := (if (mX3_has n x1) = 0 then some ((iI (-1)), n, d, lb, xd, xl, sl, kp, ct, gd, gl) else (if (mX3_has n x2) = 0 then some ((iI (-1)), n, d, lb, xd, xl, sl, kp, ct, gd, gl) else (if x2 < x1 then ((mX3_childCount n d x2).bind fun r4 => ((mX3_parentOf n d x1).bind fun r5 => (if r5 = x2 then (if x3 < 0 then some ((iI (-2)), n, d, lb, xd, xl, sl, kp, ct, gd, gl) else (if x3 ≤ (r4 - (iI 1)) then ((mX1_record n d lb sl kp ct gd gl).bind fun r13 => ((mX3_transplant n d lb xd xl x1 x2 x3).bind fun r14 => some (r14.1, r14.2.1, r14.2.2.1, r14.2.2.2.1, r14.2.2.2.2.1, r14.2.2.2.2.2, r13.1, r13.2.1, r13.2.2.1, r13.2.2.2.1, r13.2.2.2.2))) else some ((iI (-2)), n, d, lb, xd, xl, sl, kp, ct, gd, gl))) else (if x3 < 0 then some ((iI (-2)), n, d, lb, xd, xl, sl, kp, ct, gd, gl) else (if x3 ≤ (r4 - (iI 0)) then ((mX1_record n d lb sl kp ct gd gl).bind fun r9 => ((mX3_transplant n d lb xd xl x1 x2 x3).bind fun r10 => some (r10.1, r10.2.1, r10.2.2.1, r10.2.2.2.1, r10.2.2.2.2.1, r10.2.2.2.2.2, r9.1, r9.2.1, r9.2.2.1, r9.2.2.2.1, r9.2.2.2.2))) else some ((iI (-2)), n, d, lb, xd, xl, sl, kp, ct, gd, gl)))))) else ((mX3_endOf n d x1).bind fun r15 => (if r15 ≤ x2 then ((mX3_childCount n d x2).bind fun r17 => ((mX3_parentOf n d x1).bind fun r18 => (if r18 = x2 then (if x3 < 0 then some ((iI (-2)), n, d, lb, xd, xl, sl, kp, ct, gd, gl) else (if x3 ≤ (r17 - (iI 1)) then ((mX1_record n d lb sl kp ct gd gl).bind fun r26 => ((mX3_transplant n d lb xd xl x1 x2 x3).bind fun r27 => some (r27.1, r27.2.1, r27.2.2.1, r27.2.2.2.1, r27.2.2.2.2.1, r27.2.2.2.2.2, r26.1, r26.2.1, r26.2.2.1, r26.2.2.2.1, r26.2.2.2.2))) else some ((iI (-2)), n, d, lb, xd, xl, sl, kp, ct, gd, gl))) else (if x3 < 0 then some ((iI (-2)), n, d, lb, xd, xl, sl, kp, ct, gd, gl) else (if x3 ≤ (r17 - (iI 0)) then ((mX1_record n d lb sl kp ct gd gl).bind fun r22 => ((mX3_transplant n d lb xd xl x1 x2 x3).bind fun r23 => some (r23.1, r23.2.1, r23.2.2.1, r23.2.2.2.1, r23.2.2.2.2.1, r23.2.2.2.2.2, r22.1, r22.2.1, r22.2.2.1, r22.2.2.2.1, r22.2.2.2.2))) else some ((iI (-2)), n, d, lb, xd, xl, sl, kp, ct, gd, gl)))))) else some ((iI (-3)), n, d, lb, xd, xl, sl, kp, ct, gd, gl))))))
theorem hdX4_move : yX4_move.cls = RX4 ∧ yX4_move.cls ≠ "java/lang/invoke/MethodHandle" ∧ yX4_move.cls ≠ "java/lang/invoke/VarHandle" ∧ (parseMethodDescriptor yX4_move.desc).map (fun d => d.parameters.length) = some 3 := by decide +kernel
theorem flX4_move_10 : Cond.fieldLink RX4 10 "BracketTree" "tree" "LBracketTree$Tree;" ∈ wsX4_move := by decide +kernel
theorem iwX4_move_4 : ∀ w ∈ wsX40, w ∈ wsX4_move := by decide +kernel
theorem flX4_move_26 : Cond.fieldLink RX4 26 "BracketTree" "history" "LBracketTree$History;" ∈ wsX4_move := by decide +kernel
abbrev rmX4_move : Room := { frames := 5, cells := 0, slots := 0, locals := 116 }
set_option maxHeartbeats 4000000 in
set_option maxRecDepth 100000 in
theorem zX4_move (l : Launch) (D : va_G) (cI cC : ClassId) (q : Nat → Nat) (sz : Nat) (n : Int32) (d : Nat → Int32) (lb : Nat → Int32) (xd : Nat → Int32) (xl : Nat → Int32) (wi : Int32) (sl : Int32) (kp : Int32) (ct : Nat → Int32) (gd : Nat → Int32) (gl : Nat → Int32) (ln : Int32) (ch : Nat → Int32) (x1 : Int32) (x2 : Int32) (x3 : Int32) (r : Int32 × Int32 × (Nat → Int32) × (Nat → Int32) × (Nat → Int32) × (Nat → Int32) × Int32 × Int32 × (Nat → Int32) × (Nat → Int32) × (Nat → Int32)) (h : mX4_move n d lb xd xl sl kp ct gd gl x1 x2 x3 = some r) : Met l yX4_move wsX4_move rmX4_move (va_Pc [.ref (q 0), .int x1, .int x2, .int x3] (MB D cI cC sz (wA cI q n d lb xd xl wi sl kp ct gd gl ln ch))) (muQ D (some (.int r.1)) (wA cI q r.2.1 r.2.2.1 r.2.2.2.1 r.2.2.2.2.1 r.2.2.2.2.2.1 wi r.2.2.2.2.2.2.1 r.2.2.2.2.2.2.2.1 r.2.2.2.2.2.2.2.2.1 r.2.2.2.2.2.2.2.2.2.1 r.2.2.2.2.2.2.2.2.2.2 ln ch) (va_A (wA cI q n d lb xd xl wi sl kp ct gd gl ln ch) sz)) 0 0 (va_A (wA cI q n d lb xd xl wi sl kp ct gd gl ln ch) sz) := by
  refine MetI RX4 (by decide +kernel) rfl rfl (Nat.le_of_ble_eq_true rfl) ?_
  intro p e s m below meth c ls X _ hB hl
  obtain ⟨hsz, ⟨hP, hKK⟩, hD0⟩ := hB
  subst hsz
  have hD := hD0.self (sz := s.heap.size)
  generalize hAe : va_A (wA cI q n d lb xd xl wi sl kp ct gd gl ln ch) s.heap.size = A at hD ⊢
  have hA : ∀ z : Nat, s.heap.size ≤ z → A z := fun z hz => by rw [← hAe]; exact Or.inr hz
  have hS : va_S A s.heap s.heap [] := va_S.rf
  have hx := X.1
  have hb := X.2.1
  replace hl : lv_has ls 5 [(0, .ref (q 0)), (1, .int x1), (2, .int x2), (3, .int x3)] := hl
  replace hP : va_P D vwCl (wA cI q n d lb xd xl wi sl kp ct gd gl ln ch) s.heap := hP
  unfold mX4_move at h
  refine lv_aload_n hx hb dX4_move_0 rfl (lv_at hl 0 rfl) ?_
  refine va_get (D := D) (ci := 4) (v := .ref (q 8)) (C := RX4) (T := TX4) (N := 4) hx hb X.2.2.2.2.1 iwX4_move_4 X.2.2.2.1 hKK.1 hP 0 rfl rfl 0 (by decide) (X.2.2.2.2.1 _ flX4_move_10) (fun _ h9 => h9) rfl dX4_move_1 ?_
  refine lv_iload_n hx hb dX4_move_4 rfl (lv_at hl 1 rfl) ?_
  refine rcV (rest := []) X hKK hP 1 (zX3_has l D cI cC q n d lb xd xl x1 _ rfl) gX4_move_X3_has rfl rfl rfl hdX3_has ⟨Nat.le_of_ble_eq_true rfl, Nat.le_of_ble_eq_true rfl⟩ [8, 9, 10, 11, 12] rfl 0 rfl rfl rfl hl.1 rfl (Nat.le_of_ble_eq_true rfl) dX4_move_5 ⟨Nat.zero_le _, Nat.zero_le _⟩ ?_
  refine lv_if_eq (tgt := 22) hx hb dX4_move_8 (by decide) (fun c1 => ?_) (fun c1 => ?_)
  · replace h := ifp c1 h
    refine lv_iconst (v := iI (-1)) hx hb dX4_move_22 rfl ?_
    replace h := Option.some.inj h
    subst h
    exact mu_ret X rfl rfl hP rfl hS dX4_move_23
  · replace h := ifn c1 h
    refine lv_aload_n hx hb dX4_move_11 rfl (lv_at hl 0 rfl) ?_
    refine va_get (D := D) (ci := 4) (v := .ref (q 8)) (C := RX4) (T := TX4) (N := 4) hx hb X.2.2.2.2.1 iwX4_move_4 X.2.2.2.1 hKK.1 hP 0 rfl rfl 0 (by decide) (X.2.2.2.2.1 _ flX4_move_10) (fun _ h9 => h9) rfl dX4_move_12 ?_
    refine lv_iload_n hx hb dX4_move_15 rfl (lv_at hl 2 rfl) ?_
    refine rcV (rest := []) X hKK hP 1 (zX3_has l D cI cC q n d lb xd xl x2 _ rfl) gX4_move_X3_has rfl rfl rfl hdX3_has ⟨Nat.le_of_ble_eq_true rfl, Nat.le_of_ble_eq_true rfl⟩ [8, 9, 10, 11, 12] rfl 0 rfl rfl rfl hl.1 rfl (Nat.le_of_ble_eq_true rfl) dX4_move_16 ⟨Nat.zero_le _, Nat.zero_le _⟩ ?_
    refine lv_if_ne (tgt := 24) hx hb dX4_move_19 (by decide) (fun c2 => ?_) (fun c2 => ?_)
    · replace h := ifn c2 h
      refine lv_iload_n hx hb dX4_move_24 rfl (lv_at hl 2 rfl) ?_
      refine lv_iload_n hx hb dX4_move_25 rfl (lv_at hl 1 rfl) ?_
      refine lv_icmp_lt (tgt := 44) hx hb dX4_move_26 (by decide) (fun c3 => ?_) (fun c3 => ?_)
      · replace h := ifp c3 h
        refine lv_aload_n hx hb dX4_move_44 rfl (lv_at hl 0 rfl) ?_
        refine va_get (D := D) (ci := 4) (v := .ref (q 8)) (C := RX4) (T := TX4) (N := 4) hx hb X.2.2.2.2.1 iwX4_move_4 X.2.2.2.1 hKK.1 hP 0 rfl rfl 0 (by decide) (X.2.2.2.2.1 _ flX4_move_10) (fun _ h9 => h9) rfl dX4_move_45 ?_
        refine lv_iload_n hx hb dX4_move_48 rfl (lv_at hl 2 rfl) ?_
        obtain ⟨r4, h_r4, h⟩ := obd h
        refine rcV (rest := []) X hKK hP 1 (zX3_childCount l D cI cC q n d lb xd xl x2 r4 h_r4) gX4_move_X3_childCount rfl rfl rfl hdX3_childCount ⟨Nat.le_of_ble_eq_true rfl, Nat.le_of_ble_eq_true rfl⟩ [8, 9, 10, 11, 12] rfl 0 rfl rfl rfl hl.1 rfl (Nat.le_of_ble_eq_true rfl) dX4_move_49 ⟨Nat.zero_le _, Nat.zero_le _⟩ ?_
        refine lv_aload_n hx hb dX4_move_52 rfl (lv_at hl 0 rfl) ?_
        refine va_get (D := D) (ci := 4) (v := .ref (q 8)) (C := RX4) (T := TX4) (N := 4) hx hb X.2.2.2.2.1 iwX4_move_4 X.2.2.2.1 hKK.1 hP 0 rfl rfl 0 (by decide) (X.2.2.2.2.1 _ flX4_move_10) (fun _ h9 => h9) rfl dX4_move_53 ?_
        refine lv_iload_n hx hb dX4_move_56 rfl (lv_at hl 1 rfl) ?_
        obtain ⟨r5, h_r5, h⟩ := obd h
        refine rcV (rest := [.int r4]) X hKK hP 1 (zX3_parentOf l D cI cC q n d lb xd xl x1 r5 h_r5) gX4_move_X3_parentOf rfl rfl rfl hdX3_parentOf ⟨Nat.le_of_ble_eq_true rfl, Nat.le_of_ble_eq_true rfl⟩ [8, 9, 10, 11, 12] rfl 0 rfl rfl rfl hl.1 rfl (Nat.le_of_ble_eq_true rfl) dX4_move_57 ⟨Nat.zero_le _, Nat.zero_le _⟩ ?_
        refine lv_iload_n hx hb dX4_move_60 rfl (lv_at hl 2 rfl) ?_
        refine lv_icmp_ne (tgt := 68) hx hb dX4_move_61 (by decide) (fun c6 => ?_) (fun c6 => ?_)
        · replace h := ifn c6 h
          refine lv_iconst (v := iI 0) hx hb dX4_move_68 rfl ?_
          refine lv_isub hx hb dX4_move_69 ?_
          refine lv_istore (lv' := [(4, .int (r4 - (iI 0))), (0, .ref (q 0)), (1, .int x1), (2, .int x2), (3, .int x3)]) hx hb dX4_move_70 hl (by decide) rfl (fun ls hl => ?_)
          refine lv_iload_n hx hb dX4_move_72 rfl (lv_at hl 4 rfl) ?_
          refine lv_if_lt (tgt := 82) hx hb dX4_move_73 (by decide) (fun c7 => ?_) (fun c7 => ?_)
          · replace h := ifp c7 h
            refine lv_bipush (v := iI (-2)) hx hb dX4_move_82 (by decide) ?_
            replace h := Option.some.inj h
            subst h
            exact mu_ret X rfl rfl hP rfl hS dX4_move_84
          · replace h := ifn c7 h
            refine lv_iload_n hx hb dX4_move_76 rfl (lv_at hl 4 rfl) ?_
            refine lv_iload hx hb dX4_move_77 (lv_at hl 0 rfl) ?_
            refine lv_icmp_le (tgt := 85) hx hb dX4_move_79 (by decide) (fun c8 => ?_) (fun c8 => ?_)
            · replace h := ifp c8 h
              refine lv_aload_n hx hb dX4_move_85 rfl (lv_at hl 1 rfl) ?_
              refine va_get (D := D) (ci := 4) (v := .ref (q 2)) (C := RX4) (T := TX4) (N := 4) hx hb X.2.2.2.2.1 iwX4_move_4 X.2.2.2.1 hKK.1 hP 0 rfl rfl 2 (by decide) (X.2.2.2.2.1 _ flX4_move_26) (fun _ h9 => h9) rfl dX4_move_86 ?_
              refine lv_aload_n hx hb dX4_move_89 rfl (lv_at hl 1 rfl) ?_
              refine va_get (D := D) (ci := 4) (v := .ref (q 8)) (C := RX4) (T := TX4) (N := 4) hx hb X.2.2.2.2.1 iwX4_move_4 X.2.2.2.1 hKK.1 hP 0 rfl rfl 0 (by decide) (X.2.2.2.2.1 _ flX4_move_10) (fun _ h9 => h9) rfl dX4_move_90 ?_
              obtain ⟨r9, h_r9, h⟩ := obd h
              refine mcV (rest := []) (wld2 := (wA cI q n d lb xd xl wi r9.1 r9.2.1 r9.2.2.1 r9.2.2.2.1 r9.2.2.2.2 ln ch)) (wr := pickAt [0, 1, 6, 7] (wA cI q n d lb xd xl wi sl kp ct gd gl ln ch)) X hKK hP hD hS hA 1 (zX1_record l D cI cC q _ n d lb xd xl sl kp ct gd gl r9 h_r9) gX4_move_X1_record rfl rfl rfl hdX1_record ⟨Nat.le_of_ble_eq_true rfl, Nat.le_of_ble_eq_true rfl⟩ [2, 3, 4, 5, 8, 9, 10, 11, 12] [0, 1, 6, 7] rfl rfl rfl rfl rfl (by decide) rfl [0, 1, 4, 5, 6, 7, 2, 3, 8, 9, 10, 11, 12] rfl rfl rfl 0 rfl rfl rfl hl.1 rfl (Nat.le_of_ble_eq_true rfl) dX4_move_93 ⟨Nat.zero_le _, Nat.zero_le _⟩ (fun H locs hP hD hS => ?_)
              refine lv_aload_n hx hb dX4_move_96 rfl (lv_at hl 1 rfl) ?_
              refine va_get (D := D) (ci := 4) (v := .ref (q 8)) (C := RX4) (T := TX4) (N := 4) hx hb X.2.2.2.2.1 iwX4_move_4 X.2.2.2.1 hKK.1 hP 0 rfl rfl 0 (by decide) (X.2.2.2.2.1 _ flX4_move_10) (fun _ h9 => h9) rfl dX4_move_97 ?_
              refine lv_iload_n hx hb dX4_move_100 rfl (lv_at hl 2 rfl) ?_
              refine lv_iload_n hx hb dX4_move_101 rfl (lv_at hl 3 rfl) ?_
              refine lv_iload_n hx hb dX4_move_102 rfl (lv_at hl 4 rfl) ?_
              obtain ⟨r10, h_r10, h⟩ := obd h
              refine mcV (rest := []) (wld2 := (wA cI q r10.2.1 r10.2.2.1 r10.2.2.2.1 r10.2.2.2.2.1 r10.2.2.2.2.2 wi r9.1 r9.2.1 r9.2.2.1 r9.2.2.2.1 r9.2.2.2.2 ln ch)) (wr := pickAt [0, 1, 2, 3, 4, 5, 6, 7] (wA cI q n d lb xd xl wi r9.1 r9.2.1 r9.2.2.1 r9.2.2.2.1 r9.2.2.2.2 ln ch)) X hKK hP hD hS hA 3 (zX3_transplant l D cI cC q _ n d lb xd xl x1 x2 x3 r10 h_r10) gX4_move_X3_transplant rfl rfl rfl hdX3_transplant ⟨Nat.le_of_ble_eq_true rfl, Nat.le_of_ble_eq_true rfl⟩ [8, 9, 10, 11, 12] [0, 1, 2, 3, 4, 5, 6, 7] rfl rfl rfl rfl rfl (by decide) rfl [0, 1, 2, 3, 4, 5, 6, 7, 8, 9, 10, 11, 12] rfl rfl rfl 0 rfl rfl rfl hl.1 rfl (Nat.le_of_ble_eq_true rfl) dX4_move_103 ⟨Nat.zero_le _, Nat.zero_le _⟩ (fun H locs hP hD hS => ?_)
              replace h := Option.some.inj h
              subst h
              exact mu_ret X rfl rfl hP rfl hS dX4_move_106
            · replace h := ifn c8 h
              refine lv_bipush (v := iI (-2)) hx hb dX4_move_82 (by decide) ?_
              replace h := Option.some.inj h
              subst h
              exact mu_ret X rfl rfl hP rfl hS dX4_move_84
        · replace h := ifp c6 h
          refine lv_iconst (v := iI 1) hx hb dX4_move_64 rfl ?_
          refine lv_goto (tgt := 69) hx hb dX4_move_65 (by decide) ?_
          refine lv_isub hx hb dX4_move_69 ?_
          refine lv_istore (lv' := [(4, .int (r4 - (iI 1))), (0, .ref (q 0)), (1, .int x1), (2, .int x2), (3, .int x3)]) hx hb dX4_move_70 hl (by decide) rfl (fun ls hl => ?_)
          refine lv_iload_n hx hb dX4_move_72 rfl (lv_at hl 4 rfl) ?_
          refine lv_if_lt (tgt := 82) hx hb dX4_move_73 (by decide) (fun c11 => ?_) (fun c11 => ?_)
          · replace h := ifp c11 h
            refine lv_bipush (v := iI (-2)) hx hb dX4_move_82 (by decide) ?_
            replace h := Option.some.inj h
            subst h
            exact mu_ret X rfl rfl hP rfl hS dX4_move_84
          · replace h := ifn c11 h
            refine lv_iload_n hx hb dX4_move_76 rfl (lv_at hl 4 rfl) ?_
            refine lv_iload hx hb dX4_move_77 (lv_at hl 0 rfl) ?_
            refine lv_icmp_le (tgt := 85) hx hb dX4_move_79 (by decide) (fun c12 => ?_) (fun c12 => ?_)
            · replace h := ifp c12 h
              refine lv_aload_n hx hb dX4_move_85 rfl (lv_at hl 1 rfl) ?_
              refine va_get (D := D) (ci := 4) (v := .ref (q 2)) (C := RX4) (T := TX4) (N := 4) hx hb X.2.2.2.2.1 iwX4_move_4 X.2.2.2.1 hKK.1 hP 0 rfl rfl 2 (by decide) (X.2.2.2.2.1 _ flX4_move_26) (fun _ h9 => h9) rfl dX4_move_86 ?_
              refine lv_aload_n hx hb dX4_move_89 rfl (lv_at hl 1 rfl) ?_
              refine va_get (D := D) (ci := 4) (v := .ref (q 8)) (C := RX4) (T := TX4) (N := 4) hx hb X.2.2.2.2.1 iwX4_move_4 X.2.2.2.1 hKK.1 hP 0 rfl rfl 0 (by decide) (X.2.2.2.2.1 _ flX4_move_10) (fun _ h9 => h9) rfl dX4_move_90 ?_
              obtain ⟨r13, h_r13, h⟩ := obd h
              refine mcV (rest := []) (wld2 := (wA cI q n d lb xd xl wi r13.1 r13.2.1 r13.2.2.1 r13.2.2.2.1 r13.2.2.2.2 ln ch)) (wr := pickAt [0, 1, 6, 7] (wA cI q n d lb xd xl wi sl kp ct gd gl ln ch)) X hKK hP hD hS hA 1 (zX1_record l D cI cC q _ n d lb xd xl sl kp ct gd gl r13 h_r13) gX4_move_X1_record rfl rfl rfl hdX1_record ⟨Nat.le_of_ble_eq_true rfl, Nat.le_of_ble_eq_true rfl⟩ [2, 3, 4, 5, 8, 9, 10, 11, 12] [0, 1, 6, 7] rfl rfl rfl rfl rfl (by decide) rfl [0, 1, 4, 5, 6, 7, 2, 3, 8, 9, 10, 11, 12] rfl rfl rfl 0 rfl rfl rfl hl.1 rfl (Nat.le_of_ble_eq_true rfl) dX4_move_93 ⟨Nat.zero_le _, Nat.zero_le _⟩ (fun H locs hP hD hS => ?_)
              refine lv_aload_n hx hb dX4_move_96 rfl (lv_at hl 1 rfl) ?_
              refine va_get (D := D) (ci := 4) (v := .ref (q 8)) (C := RX4) (T := TX4) (N := 4) hx hb X.2.2.2.2.1 iwX4_move_4 X.2.2.2.1 hKK.1 hP 0 rfl rfl 0 (by decide) (X.2.2.2.2.1 _ flX4_move_10) (fun _ h9 => h9) rfl dX4_move_97 ?_
              refine lv_iload_n hx hb dX4_move_100 rfl (lv_at hl 2 rfl) ?_
              refine lv_iload_n hx hb dX4_move_101 rfl (lv_at hl 3 rfl) ?_
              refine lv_iload_n hx hb dX4_move_102 rfl (lv_at hl 4 rfl) ?_
              obtain ⟨r14, h_r14, h⟩ := obd h
              refine mcV (rest := []) (wld2 := (wA cI q r14.2.1 r14.2.2.1 r14.2.2.2.1 r14.2.2.2.2.1 r14.2.2.2.2.2 wi r13.1 r13.2.1 r13.2.2.1 r13.2.2.2.1 r13.2.2.2.2 ln ch)) (wr := pickAt [0, 1, 2, 3, 4, 5, 6, 7] (wA cI q n d lb xd xl wi r13.1 r13.2.1 r13.2.2.1 r13.2.2.2.1 r13.2.2.2.2 ln ch)) X hKK hP hD hS hA 3 (zX3_transplant l D cI cC q _ n d lb xd xl x1 x2 x3 r14 h_r14) gX4_move_X3_transplant rfl rfl rfl hdX3_transplant ⟨Nat.le_of_ble_eq_true rfl, Nat.le_of_ble_eq_true rfl⟩ [8, 9, 10, 11, 12] [0, 1, 2, 3, 4, 5, 6, 7] rfl rfl rfl rfl rfl (by decide) rfl [0, 1, 2, 3, 4, 5, 6, 7, 8, 9, 10, 11, 12] rfl rfl rfl 0 rfl rfl rfl hl.1 rfl (Nat.le_of_ble_eq_true rfl) dX4_move_103 ⟨Nat.zero_le _, Nat.zero_le _⟩ (fun H locs hP hD hS => ?_)
              replace h := Option.some.inj h
              subst h
              exact mu_ret X rfl rfl hP rfl hS dX4_move_106
            · replace h := ifn c12 h
              refine lv_bipush (v := iI (-2)) hx hb dX4_move_82 (by decide) ?_
              replace h := Option.some.inj h
              subst h
              exact mu_ret X rfl rfl hP rfl hS dX4_move_84
      · replace h := ifn c3 h
        refine lv_iload_n hx hb dX4_move_29 rfl (lv_at hl 2 rfl) ?_
        refine lv_aload_n hx hb dX4_move_30 rfl (lv_at hl 0 rfl) ?_
        refine va_get (D := D) (ci := 4) (v := .ref (q 8)) (C := RX4) (T := TX4) (N := 4) hx hb X.2.2.2.2.1 iwX4_move_4 X.2.2.2.1 hKK.1 hP 0 rfl rfl 0 (by decide) (X.2.2.2.2.1 _ flX4_move_10) (fun _ h9 => h9) rfl dX4_move_31 ?_
        refine lv_iload_n hx hb dX4_move_34 rfl (lv_at hl 1 rfl) ?_
        obtain ⟨r15, h_r15, h⟩ := obd h
        refine rcV (rest := [.int x2]) X hKK hP 1 (zX3_endOf l D cI cC q n d lb xd xl x1 r15 h_r15) gX4_move_X3_endOf rfl rfl rfl hdX3_endOf ⟨Nat.le_of_ble_eq_true rfl, Nat.le_of_ble_eq_true rfl⟩ [8, 9, 10, 11, 12] rfl 0 rfl rfl rfl hl.1 rfl (Nat.le_of_ble_eq_true rfl) dX4_move_35 ⟨Nat.zero_le _, Nat.zero_le _⟩ ?_
        refine lv_icmp_ge (tgt := 44) hx hb dX4_move_38 (by decide) (fun c16 => ?_) (fun c16 => ?_)
        · replace h := ifp c16 h
          refine lv_aload_n hx hb dX4_move_44 rfl (lv_at hl 0 rfl) ?_
          refine va_get (D := D) (ci := 4) (v := .ref (q 8)) (C := RX4) (T := TX4) (N := 4) hx hb X.2.2.2.2.1 iwX4_move_4 X.2.2.2.1 hKK.1 hP 0 rfl rfl 0 (by decide) (X.2.2.2.2.1 _ flX4_move_10) (fun _ h9 => h9) rfl dX4_move_45 ?_
          refine lv_iload_n hx hb dX4_move_48 rfl (lv_at hl 2 rfl) ?_
          obtain ⟨r17, h_r17, h⟩ := obd h
          refine rcV (rest := []) X hKK hP 1 (zX3_childCount l D cI cC q n d lb xd xl x2 r17 h_r17) gX4_move_X3_childCount rfl rfl rfl hdX3_childCount ⟨Nat.le_of_ble_eq_true rfl, Nat.le_of_ble_eq_true rfl⟩ [8, 9, 10, 11, 12] rfl 0 rfl rfl rfl hl.1 rfl (Nat.le_of_ble_eq_true rfl) dX4_move_49 ⟨Nat.zero_le _, Nat.zero_le _⟩ ?_
          refine lv_aload_n hx hb dX4_move_52 rfl (lv_at hl 0 rfl) ?_
          refine va_get (D := D) (ci := 4) (v := .ref (q 8)) (C := RX4) (T := TX4) (N := 4) hx hb X.2.2.2.2.1 iwX4_move_4 X.2.2.2.1 hKK.1 hP 0 rfl rfl 0 (by decide) (X.2.2.2.2.1 _ flX4_move_10) (fun _ h9 => h9) rfl dX4_move_53 ?_
          refine lv_iload_n hx hb dX4_move_56 rfl (lv_at hl 1 rfl) ?_
          obtain ⟨r18, h_r18, h⟩ := obd h
          refine rcV (rest := [.int r17]) X hKK hP 1 (zX3_parentOf l D cI cC q n d lb xd xl x1 r18 h_r18) gX4_move_X3_parentOf rfl rfl rfl hdX3_parentOf ⟨Nat.le_of_ble_eq_true rfl, Nat.le_of_ble_eq_true rfl⟩ [8, 9, 10, 11, 12] rfl 0 rfl rfl rfl hl.1 rfl (Nat.le_of_ble_eq_true rfl) dX4_move_57 ⟨Nat.zero_le _, Nat.zero_le _⟩ ?_
          refine lv_iload_n hx hb dX4_move_60 rfl (lv_at hl 2 rfl) ?_
          refine lv_icmp_ne (tgt := 68) hx hb dX4_move_61 (by decide) (fun c19 => ?_) (fun c19 => ?_)
          · replace h := ifn c19 h
            refine lv_iconst (v := iI 0) hx hb dX4_move_68 rfl ?_
            refine lv_isub hx hb dX4_move_69 ?_
            refine lv_istore (lv' := [(4, .int (r17 - (iI 0))), (0, .ref (q 0)), (1, .int x1), (2, .int x2), (3, .int x3)]) hx hb dX4_move_70 hl (by decide) rfl (fun ls hl => ?_)
            refine lv_iload_n hx hb dX4_move_72 rfl (lv_at hl 4 rfl) ?_
            refine lv_if_lt (tgt := 82) hx hb dX4_move_73 (by decide) (fun c20 => ?_) (fun c20 => ?_)
            · replace h := ifp c20 h
              refine lv_bipush (v := iI (-2)) hx hb dX4_move_82 (by decide) ?_
              replace h := Option.some.inj h
              subst h
              exact mu_ret X rfl rfl hP rfl hS dX4_move_84
            · replace h := ifn c20 h
              refine lv_iload_n hx hb dX4_move_76 rfl (lv_at hl 4 rfl) ?_
              refine lv_iload hx hb dX4_move_77 (lv_at hl 0 rfl) ?_
              refine lv_icmp_le (tgt := 85) hx hb dX4_move_79 (by decide) (fun c21 => ?_) (fun c21 => ?_)
              · replace h := ifp c21 h
                refine lv_aload_n hx hb dX4_move_85 rfl (lv_at hl 1 rfl) ?_
                refine va_get (D := D) (ci := 4) (v := .ref (q 2)) (C := RX4) (T := TX4) (N := 4) hx hb X.2.2.2.2.1 iwX4_move_4 X.2.2.2.1 hKK.1 hP 0 rfl rfl 2 (by decide) (X.2.2.2.2.1 _ flX4_move_26) (fun _ h9 => h9) rfl dX4_move_86 ?_
                refine lv_aload_n hx hb dX4_move_89 rfl (lv_at hl 1 rfl) ?_
                refine va_get (D := D) (ci := 4) (v := .ref (q 8)) (C := RX4) (T := TX4) (N := 4) hx hb X.2.2.2.2.1 iwX4_move_4 X.2.2.2.1 hKK.1 hP 0 rfl rfl 0 (by decide) (X.2.2.2.2.1 _ flX4_move_10) (fun _ h9 => h9) rfl dX4_move_90 ?_
                obtain ⟨r22, h_r22, h⟩ := obd h
                refine mcV (rest := []) (wld2 := (wA cI q n d lb xd xl wi r22.1 r22.2.1 r22.2.2.1 r22.2.2.2.1 r22.2.2.2.2 ln ch)) (wr := pickAt [0, 1, 6, 7] (wA cI q n d lb xd xl wi sl kp ct gd gl ln ch)) X hKK hP hD hS hA 1 (zX1_record l D cI cC q _ n d lb xd xl sl kp ct gd gl r22 h_r22) gX4_move_X1_record rfl rfl rfl hdX1_record ⟨Nat.le_of_ble_eq_true rfl, Nat.le_of_ble_eq_true rfl⟩ [2, 3, 4, 5, 8, 9, 10, 11, 12] [0, 1, 6, 7] rfl rfl rfl rfl rfl (by decide) rfl [0, 1, 4, 5, 6, 7, 2, 3, 8, 9, 10, 11, 12] rfl rfl rfl 0 rfl rfl rfl hl.1 rfl (Nat.le_of_ble_eq_true rfl) dX4_move_93 ⟨Nat.zero_le _, Nat.zero_le _⟩ (fun H locs hP hD hS => ?_)
                refine lv_aload_n hx hb dX4_move_96 rfl (lv_at hl 1 rfl) ?_
                refine va_get (D := D) (ci := 4) (v := .ref (q 8)) (C := RX4) (T := TX4) (N := 4) hx hb X.2.2.2.2.1 iwX4_move_4 X.2.2.2.1 hKK.1 hP 0 rfl rfl 0 (by decide) (X.2.2.2.2.1 _ flX4_move_10) (fun _ h9 => h9) rfl dX4_move_97 ?_
                refine lv_iload_n hx hb dX4_move_100 rfl (lv_at hl 2 rfl) ?_
                refine lv_iload_n hx hb dX4_move_101 rfl (lv_at hl 3 rfl) ?_
                refine lv_iload_n hx hb dX4_move_102 rfl (lv_at hl 4 rfl) ?_
                obtain ⟨r23, h_r23, h⟩ := obd h
                refine mcV (rest := []) (wld2 := (wA cI q r23.2.1 r23.2.2.1 r23.2.2.2.1 r23.2.2.2.2.1 r23.2.2.2.2.2 wi r22.1 r22.2.1 r22.2.2.1 r22.2.2.2.1 r22.2.2.2.2 ln ch)) (wr := pickAt [0, 1, 2, 3, 4, 5, 6, 7] (wA cI q n d lb xd xl wi r22.1 r22.2.1 r22.2.2.1 r22.2.2.2.1 r22.2.2.2.2 ln ch)) X hKK hP hD hS hA 3 (zX3_transplant l D cI cC q _ n d lb xd xl x1 x2 x3 r23 h_r23) gX4_move_X3_transplant rfl rfl rfl hdX3_transplant ⟨Nat.le_of_ble_eq_true rfl, Nat.le_of_ble_eq_true rfl⟩ [8, 9, 10, 11, 12] [0, 1, 2, 3, 4, 5, 6, 7] rfl rfl rfl rfl rfl (by decide) rfl [0, 1, 2, 3, 4, 5, 6, 7, 8, 9, 10, 11, 12] rfl rfl rfl 0 rfl rfl rfl hl.1 rfl (Nat.le_of_ble_eq_true rfl) dX4_move_103 ⟨Nat.zero_le _, Nat.zero_le _⟩ (fun H locs hP hD hS => ?_)
                replace h := Option.some.inj h
                subst h
                exact mu_ret X rfl rfl hP rfl hS dX4_move_106
              · replace h := ifn c21 h
                refine lv_bipush (v := iI (-2)) hx hb dX4_move_82 (by decide) ?_
                replace h := Option.some.inj h
                subst h
                exact mu_ret X rfl rfl hP rfl hS dX4_move_84
          · replace h := ifp c19 h
            refine lv_iconst (v := iI 1) hx hb dX4_move_64 rfl ?_
            refine lv_goto (tgt := 69) hx hb dX4_move_65 (by decide) ?_
            refine lv_isub hx hb dX4_move_69 ?_
            refine lv_istore (lv' := [(4, .int (r17 - (iI 1))), (0, .ref (q 0)), (1, .int x1), (2, .int x2), (3, .int x3)]) hx hb dX4_move_70 hl (by decide) rfl (fun ls hl => ?_)
            refine lv_iload_n hx hb dX4_move_72 rfl (lv_at hl 4 rfl) ?_
            refine lv_if_lt (tgt := 82) hx hb dX4_move_73 (by decide) (fun c24 => ?_) (fun c24 => ?_)
            · replace h := ifp c24 h
              refine lv_bipush (v := iI (-2)) hx hb dX4_move_82 (by decide) ?_
              replace h := Option.some.inj h
              subst h
              exact mu_ret X rfl rfl hP rfl hS dX4_move_84
            · replace h := ifn c24 h
              refine lv_iload_n hx hb dX4_move_76 rfl (lv_at hl 4 rfl) ?_
              refine lv_iload hx hb dX4_move_77 (lv_at hl 0 rfl) ?_
              refine lv_icmp_le (tgt := 85) hx hb dX4_move_79 (by decide) (fun c25 => ?_) (fun c25 => ?_)
              · replace h := ifp c25 h
                refine lv_aload_n hx hb dX4_move_85 rfl (lv_at hl 1 rfl) ?_
                refine va_get (D := D) (ci := 4) (v := .ref (q 2)) (C := RX4) (T := TX4) (N := 4) hx hb X.2.2.2.2.1 iwX4_move_4 X.2.2.2.1 hKK.1 hP 0 rfl rfl 2 (by decide) (X.2.2.2.2.1 _ flX4_move_26) (fun _ h9 => h9) rfl dX4_move_86 ?_
                refine lv_aload_n hx hb dX4_move_89 rfl (lv_at hl 1 rfl) ?_
                refine va_get (D := D) (ci := 4) (v := .ref (q 8)) (C := RX4) (T := TX4) (N := 4) hx hb X.2.2.2.2.1 iwX4_move_4 X.2.2.2.1 hKK.1 hP 0 rfl rfl 0 (by decide) (X.2.2.2.2.1 _ flX4_move_10) (fun _ h9 => h9) rfl dX4_move_90 ?_
                obtain ⟨r26, h_r26, h⟩ := obd h
                refine mcV (rest := []) (wld2 := (wA cI q n d lb xd xl wi r26.1 r26.2.1 r26.2.2.1 r26.2.2.2.1 r26.2.2.2.2 ln ch)) (wr := pickAt [0, 1, 6, 7] (wA cI q n d lb xd xl wi sl kp ct gd gl ln ch)) X hKK hP hD hS hA 1 (zX1_record l D cI cC q _ n d lb xd xl sl kp ct gd gl r26 h_r26) gX4_move_X1_record rfl rfl rfl hdX1_record ⟨Nat.le_of_ble_eq_true rfl, Nat.le_of_ble_eq_true rfl⟩ [2, 3, 4, 5, 8, 9, 10, 11, 12] [0, 1, 6, 7] rfl rfl rfl rfl rfl (by decide) rfl [0, 1, 4, 5, 6, 7, 2, 3, 8, 9, 10, 11, 12] rfl rfl rfl 0 rfl rfl rfl hl.1 rfl (Nat.le_of_ble_eq_true rfl) dX4_move_93 ⟨Nat.zero_le _, Nat.zero_le _⟩ (fun H locs hP hD hS => ?_)
                refine lv_aload_n hx hb dX4_move_96 rfl (lv_at hl 1 rfl) ?_
                refine va_get (D := D) (ci := 4) (v := .ref (q 8)) (C := RX4) (T := TX4) (N := 4) hx hb X.2.2.2.2.1 iwX4_move_4 X.2.2.2.1 hKK.1 hP 0 rfl rfl 0 (by decide) (X.2.2.2.2.1 _ flX4_move_10) (fun _ h9 => h9) rfl dX4_move_97 ?_
                refine lv_iload_n hx hb dX4_move_100 rfl (lv_at hl 2 rfl) ?_
                refine lv_iload_n hx hb dX4_move_101 rfl (lv_at hl 3 rfl) ?_
                refine lv_iload_n hx hb dX4_move_102 rfl (lv_at hl 4 rfl) ?_
                obtain ⟨r27, h_r27, h⟩ := obd h
                refine mcV (rest := []) (wld2 := (wA cI q r27.2.1 r27.2.2.1 r27.2.2.2.1 r27.2.2.2.2.1 r27.2.2.2.2.2 wi r26.1 r26.2.1 r26.2.2.1 r26.2.2.2.1 r26.2.2.2.2 ln ch)) (wr := pickAt [0, 1, 2, 3, 4, 5, 6, 7] (wA cI q n d lb xd xl wi r26.1 r26.2.1 r26.2.2.1 r26.2.2.2.1 r26.2.2.2.2 ln ch)) X hKK hP hD hS hA 3 (zX3_transplant l D cI cC q _ n d lb xd xl x1 x2 x3 r27 h_r27) gX4_move_X3_transplant rfl rfl rfl hdX3_transplant ⟨Nat.le_of_ble_eq_true rfl, Nat.le_of_ble_eq_true rfl⟩ [8, 9, 10, 11, 12] [0, 1, 2, 3, 4, 5, 6, 7] rfl rfl rfl rfl rfl (by decide) rfl [0, 1, 2, 3, 4, 5, 6, 7, 8, 9, 10, 11, 12] rfl rfl rfl 0 rfl rfl rfl hl.1 rfl (Nat.le_of_ble_eq_true rfl) dX4_move_103 ⟨Nat.zero_le _, Nat.zero_le _⟩ (fun H locs hP hD hS => ?_)
                replace h := Option.some.inj h
                subst h
                exact mu_ret X rfl rfl hP rfl hS dX4_move_106
              · replace h := ifn c25 h
                refine lv_bipush (v := iI (-2)) hx hb dX4_move_82 (by decide) ?_
                replace h := Option.some.inj h
                subst h
                exact mu_ret X rfl rfl hP rfl hS dX4_move_84
        · replace h := ifn c16 h
          refine lv_bipush (v := iI (-3)) hx hb dX4_move_41 (by decide) ?_
          replace h := Option.some.inj h
          subst h
          exact mu_ret X rfl rfl hP rfl hS dX4_move_43
    · replace h := ifp c2 h
      refine lv_iconst (v := iI (-1)) hx hb dX4_move_22 rfl ?_
      replace h := Option.some.inj h
      subst h
      exact mu_ret X rfl rfl hP rfl hS dX4_move_23
def mX4_undo (n : Int32) (d : Nat → Int32) (lb : Nat → Int32) (sl : Int32) (kp : Int32) (ct : Nat → Int32) (gd : Nat → Int32) (gl : Nat → Int32)  : Option (Int32 × Int32 × (Nat → Int32) × (Nat → Int32) × Int32 × Int32) := (if (mX1_isBlank kp) = 0 then ((mX1_recall n d lb sl kp ct gd gl).bind fun r2 => some (r2.1, r2.2.1, r2.2.2.1, r2.2.2.2.1, r2.2.2.2.2.1, r2.2.2.2.2.2)) else some ((iI (-5)), n, d, lb, sl, kp))
theorem hdX4_undo : yX4_undo.cls = RX4 ∧ yX4_undo.cls ≠ "java/lang/invoke/MethodHandle" ∧ yX4_undo.cls ≠ "java/lang/invoke/VarHandle" ∧ (parseMethodDescriptor yX4_undo.desc).map (fun d => d.parameters.length) = some 0 := by decide +kernel
theorem flX4_undo_26 : Cond.fieldLink RX4 26 "BracketTree" "history" "LBracketTree$History;" ∈ wsX4_undo := by decide +kernel
theorem iwX4_undo_4 : ∀ w ∈ wsX40, w ∈ wsX4_undo := by decide +kernel
theorem flX4_undo_10 : Cond.fieldLink RX4 10 "BracketTree" "tree" "LBracketTree$Tree;" ∈ wsX4_undo := by decide +kernel
abbrev rmX4_undo : Room := { frames := 4, cells := 0, slots := 0, locals := 91 }
set_option maxHeartbeats 4000000 in
set_option maxRecDepth 100000 in
theorem zX4_undo (l : Launch) (D : va_G) (cI cC : ClassId) (q : Nat → Nat) (sz : Nat) (n : Int32) (d : Nat → Int32) (lb : Nat → Int32) (xd : Nat → Int32) (xl : Nat → Int32) (wi : Int32) (sl : Int32) (kp : Int32) (ct : Nat → Int32) (gd : Nat → Int32) (gl : Nat → Int32) (ln : Int32) (ch : Nat → Int32)  (r : Int32 × Int32 × (Nat → Int32) × (Nat → Int32) × Int32 × Int32) (h : mX4_undo n d lb sl kp ct gd gl = some r) : Met l yX4_undo wsX4_undo rmX4_undo (va_Pc [.ref (q 0)] (MB D cI cC sz (wA cI q n d lb xd xl wi sl kp ct gd gl ln ch))) (muQ D (some (.int r.1)) (wA cI q r.2.1 r.2.2.1 r.2.2.2.1 xd xl wi r.2.2.2.2.1 r.2.2.2.2.2 ct gd gl ln ch) (va_A (wA cI q n d lb xd xl wi sl kp ct gd gl ln ch) sz)) 0 0 (va_A (wA cI q n d lb xd xl wi sl kp ct gd gl ln ch) sz) := by
  refine MetI RX4 (by decide +kernel) rfl rfl (Nat.le_of_ble_eq_true rfl) ?_
  intro p e s m below meth c ls X _ hB hl
  obtain ⟨hsz, ⟨hP, hKK⟩, hD0⟩ := hB
  subst hsz
  have hD := hD0.self (sz := s.heap.size)
  generalize hAe : va_A (wA cI q n d lb xd xl wi sl kp ct gd gl ln ch) s.heap.size = A at hD ⊢
  have hA : ∀ z : Nat, s.heap.size ≤ z → A z := fun z hz => by rw [← hAe]; exact Or.inr hz
  have hS : va_S A s.heap s.heap [] := va_S.rf
  have hx := X.1
  have hb := X.2.1
  replace hl : lv_has ls 1 [(0, .ref (q 0))] := hl
  replace hP : va_P D vwCl (wA cI q n d lb xd xl wi sl kp ct gd gl ln ch) s.heap := hP
  unfold mX4_undo at h
  refine lv_aload_n hx hb dX4_undo_0 rfl (lv_at hl 0 rfl) ?_
  refine va_get (D := D) (ci := 4) (v := .ref (q 2)) (C := RX4) (T := TX4) (N := 4) hx hb X.2.2.2.2.1 iwX4_undo_4 X.2.2.2.1 hKK.1 hP 0 rfl rfl 2 (by decide) (X.2.2.2.2.1 _ flX4_undo_26) (fun _ h9 => h9) rfl dX4_undo_1 ?_
  refine rcV (rest := []) X hKK hP 0 (zX1_isBlank l D cI cC q n d lb xd xl sl kp ct gd gl _ rfl) gX4_undo_X1_isBlank rfl rfl rfl hdX1_isBlank ⟨Nat.le_of_ble_eq_true rfl, Nat.le_of_ble_eq_true rfl⟩ [2, 3, 4, 5, 8, 9, 10, 11, 12] rfl 0 rfl rfl rfl hl.1 rfl (Nat.le_of_ble_eq_true rfl) dX4_undo_4 ⟨Nat.zero_le _, Nat.zero_le _⟩ ?_
  refine lv_if_eq (tgt := 15) hx hb dX4_undo_7 (by decide) (fun c1 => ?_) (fun c1 => ?_)
  · replace h := ifp c1 h
    refine lv_aload_n hx hb dX4_undo_15 rfl (lv_at hl 0 rfl) ?_
    refine va_get (D := D) (ci := 4) (v := .ref (q 2)) (C := RX4) (T := TX4) (N := 4) hx hb X.2.2.2.2.1 iwX4_undo_4 X.2.2.2.1 hKK.1 hP 0 rfl rfl 2 (by decide) (X.2.2.2.2.1 _ flX4_undo_26) (fun _ h9 => h9) rfl dX4_undo_16 ?_
    refine lv_aload_n hx hb dX4_undo_19 rfl (lv_at hl 0 rfl) ?_
    refine va_get (D := D) (ci := 4) (v := .ref (q 8)) (C := RX4) (T := TX4) (N := 4) hx hb X.2.2.2.2.1 iwX4_undo_4 X.2.2.2.1 hKK.1 hP 0 rfl rfl 0 (by decide) (X.2.2.2.2.1 _ flX4_undo_10) (fun _ h9 => h9) rfl dX4_undo_20 ?_
    obtain ⟨r2, h_r2, h⟩ := obd h
    refine mcV (rest := []) (wld2 := (wA cI q r2.2.1 r2.2.2.1 r2.2.2.2.1 xd xl wi r2.2.2.2.2.1 r2.2.2.2.2.2 ct gd gl ln ch)) (wr := pickAt [0, 1, 6, 7] (wA cI q n d lb xd xl wi sl kp ct gd gl ln ch)) X hKK hP hD hS hA 1 (zX1_recall l D cI cC q _ n d lb xd xl sl kp ct gd gl r2 h_r2) gX4_undo_X1_recall rfl rfl rfl hdX1_recall ⟨Nat.le_of_ble_eq_true rfl, Nat.le_of_ble_eq_true rfl⟩ [2, 3, 4, 5, 8, 9, 10, 11, 12] [0, 1, 6, 7] rfl rfl rfl rfl rfl (by decide) rfl [0, 1, 4, 5, 6, 7, 2, 3, 8, 9, 10, 11, 12] rfl rfl rfl 0 rfl rfl rfl hl.1 rfl (Nat.le_of_ble_eq_true rfl) dX4_undo_23 ⟨Nat.zero_le _, Nat.zero_le _⟩ (fun H locs hP hD hS => ?_)
    replace h := Option.some.inj h
    subst h
    exact mu_ret X rfl rfl hP rfl hS dX4_undo_26
  · replace h := ifn c1 h
    refine lv_bipush (v := iI (-5)) hx hb dX4_undo_10 (by decide) ?_
    refine lv_goto (tgt := 26) hx hb dX4_undo_12 (by decide) ?_
    replace h := Option.some.inj h
    subst h
    exact mu_ret X rfl rfl hP rfl hS dX4_undo_26
