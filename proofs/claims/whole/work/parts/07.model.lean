def mX5_in  (x0 : Int32) (x1 : Int32) (x2 : Int32) : (Int32) := (if x0 < x1 then (iI 0) else (if x2 < x0 then (iI 0) else (iI 1)))
theorem hdX5_in : yX5_in.cls = RX5 ∧ yX5_in.cls ≠ "java/lang/invoke/MethodHandle" ∧ yX5_in.cls ≠ "java/lang/invoke/VarHandle" ∧ (parseMethodDescriptor yX5_in.desc).map (fun d => d.parameters.length) = some 3 := by decide +kernel
theorem hdX5_inN : yX5_in.cls ≠ "java/lang/invoke/MethodHandle" ∧ yX5_in.cls ≠ "java/lang/invoke/VarHandle" ∧ (parseMethodDescriptor yX5_in.desc).map (fun d => d.parameters.length) = some 3 := hdX5_in.2
abbrev rmX5_in : Room := { frames := 0, cells := 0, slots := 0, locals := 0 }
set_option maxHeartbeats 4000000 in
set_option maxRecDepth 100000 in
theorem zX5_in (l : Launch) (D : va_G) (cI cC : ClassId)  (x0 : Int32) (x1 : Int32) (x2 : Int32) (r : Int32) (h : mX5_in x0 x1 x2 = r) : Met l yX5_in wsX5_in rmX5_in (va_Pc [.int x0, .int x1, .int x2] (BW D cI cC [])) (rdQ r) 0 0 (fun _ => False) := by
  refine MetI RX5 (by decide +kernel) rfl rfl (Nat.le_of_ble_eq_true rfl) ?_
  intro p e s m below meth c ls X _ hB hl
  obtain ⟨hP, hKK⟩ := hB
  have hx := X.1
  have hb := X.2.1
  replace hl : lv_has ls 3 [(0, .int x0), (1, .int x1), (2, .int x2)] := hl
  unfold mX5_in at h
  refine lv_iload_n hx hb dX5_in_0 rfl (lv_at hl 0 rfl) ?_
  refine lv_iload_n hx hb dX5_in_1 rfl (lv_at hl 1 rfl) ?_
  refine lv_icmp_lt (tgt := 14) hx hb dX5_in_2 (by decide) (fun c1 => ?_) (fun c1 => ?_)
  · replace h := ifp c1 h
    refine lv_iconst (v := iI 0) hx hb dX5_in_14 rfl ?_
    exact rd_ret X rfl h dX5_in_15
  · replace h := ifn c1 h
    refine lv_iload_n hx hb dX5_in_5 rfl (lv_at hl 0 rfl) ?_
    refine lv_iload_n hx hb dX5_in_6 rfl (lv_at hl 2 rfl) ?_
    refine lv_icmp_gt (tgt := 14) hx hb dX5_in_7 (by decide) (fun c2 => ?_) (fun c2 => ?_)
    · replace h := ifp c2 h
      refine lv_iconst (v := iI 0) hx hb dX5_in_14 rfl ?_
      exact rd_ret X rfl h dX5_in_15
    · replace h := ifn c2 h
      refine lv_iconst (v := iI 1) hx hb dX5_in_10 rfl ?_
      refine lv_goto (tgt := 15) hx hb dX5_in_11 (by decide) ?_
      exact rd_ret X rfl h dX5_in_15
def mX5_isLetter  (x0 : Int32) : (Int32) := (if x0 < (iI 97) then (iI 0) else (if (iI 122) < x0 then (iI 0) else (iI 1)))
theorem hdX5_isLetter : yX5_isLetter.cls = RX5 ∧ yX5_isLetter.cls ≠ "java/lang/invoke/MethodHandle" ∧ yX5_isLetter.cls ≠ "java/lang/invoke/VarHandle" ∧ (parseMethodDescriptor yX5_isLetter.desc).map (fun d => d.parameters.length) = some 1 := by decide +kernel
theorem hdX5_isLetterN : yX5_isLetter.cls ≠ "java/lang/invoke/MethodHandle" ∧ yX5_isLetter.cls ≠ "java/lang/invoke/VarHandle" ∧ (parseMethodDescriptor yX5_isLetter.desc).map (fun d => d.parameters.length) = some 1 := hdX5_isLetter.2
abbrev rmX5_isLetter : Room := { frames := 0, cells := 0, slots := 0, locals := 0 }
set_option maxHeartbeats 4000000 in
set_option maxRecDepth 100000 in
theorem zX5_isLetter (l : Launch) (D : va_G) (cI cC : ClassId)  (x0 : Int32) (r : Int32) (h : mX5_isLetter x0 = r) : Met l yX5_isLetter wsX5_isLetter rmX5_isLetter (va_Pc [.int x0] (BW D cI cC [])) (rdQ r) 0 0 (fun _ => False) := by
  refine MetI RX5 (by decide +kernel) rfl rfl (Nat.le_of_ble_eq_true rfl) ?_
  intro p e s m below meth c ls X _ hB hl
  obtain ⟨hP, hKK⟩ := hB
  have hx := X.1
  have hb := X.2.1
  replace hl : lv_has ls 1 [(0, .int x0)] := hl
  unfold mX5_isLetter at h
  refine lv_iload_n hx hb dX5_isLetter_0 rfl (lv_at hl 0 rfl) ?_
  refine lv_bipush (v := iI 97) hx hb dX5_isLetter_1 (by decide) ?_
  refine lv_icmp_lt (tgt := 16) hx hb dX5_isLetter_3 (by decide) (fun c1 => ?_) (fun c1 => ?_)
  · replace h := ifp c1 h
    refine lv_iconst (v := iI 0) hx hb dX5_isLetter_16 rfl ?_
    exact rd_ret X rfl h dX5_isLetter_17
  · replace h := ifn c1 h
    refine lv_iload_n hx hb dX5_isLetter_6 rfl (lv_at hl 0 rfl) ?_
    refine lv_bipush (v := iI 122) hx hb dX5_isLetter_7 (by decide) ?_
    refine lv_icmp_gt (tgt := 16) hx hb dX5_isLetter_9 (by decide) (fun c2 => ?_) (fun c2 => ?_)
    · replace h := ifp c2 h
      refine lv_iconst (v := iI 0) hx hb dX5_isLetter_16 rfl ?_
      exact rd_ret X rfl h dX5_isLetter_17
    · replace h := ifn c2 h
      refine lv_iconst (v := iI 1) hx hb dX5_isLetter_12 rfl ?_
      refine lv_goto (tgt := 17) hx hb dX5_isLetter_13 (by decide) ?_
      exact rd_ret X rfl h dX5_isLetter_17
def mX5_noNode (n : Int32) (x1 : Int32) : (Int32) := (if (mX5_in x1 (iI 0) (n - (iI 1))) = 0 then (iI 1) else (iI 0))
theorem hdX5_noNode : yX5_noNode.cls = RX5 ∧ yX5_noNode.cls ≠ "java/lang/invoke/MethodHandle" ∧ yX5_noNode.cls ≠ "java/lang/invoke/VarHandle" ∧ (parseMethodDescriptor yX5_noNode.desc).map (fun d => d.parameters.length) = some 1 := by decide +kernel
theorem flX5_noNode_29 : Cond.fieldLink RX5 29 "BracketTreeModel" "n" "I" ∈ wsX5_noNode := by decide +kernel
theorem iwX5_noNode_5 : ∀ w ∈ wsX50, w ∈ wsX5_noNode := by decide +kernel
abbrev rmX5_noNode : Room := { frames := 1, cells := 0, slots := 0, locals := 22 }
set_option maxHeartbeats 4000000 in
set_option maxRecDepth 100000 in
theorem zX5_noNode (l : Launch) (D : va_G) (cI cC : ClassId) (q : Nat → Nat) (n : Int32) (d : Nat → Int32) (lb : Nat → Int32) (kp : Int32) (kr : Nat → Int32) (ty : Int32) (tx : Nat → Int32) (rd : Nat → Int32) (rl : Nat → Int32) (wi : Int32) (x1 : Int32) (r : Int32) (h : mX5_noNode n x1 = r) : Met l yX5_noNode wsX5_noNode rmX5_noNode (va_Pc [.ref (q 0), .int x1] (BW D cI cC (wM cI cC q n d lb kp kr ty tx rd rl wi))) (rdQ r) 0 0 (fun _ => False) := by
  refine MetI RX5 (by decide +kernel) rfl rfl (Nat.le_of_ble_eq_true rfl) ?_
  intro p e s m below meth c ls X _ hB hl
  obtain ⟨hP, hKK⟩ := hB
  have hx := X.1
  have hb := X.2.1
  replace hl : lv_has ls 2 [(0, .ref (q 0)), (1, .int x1)] := hl
  unfold mX5_noNode at h
  refine lv_iload_n hx hb dX5_noNode_0 rfl (lv_at hl 1 rfl) ?_
  refine lv_iconst (v := iI 0) hx hb dX5_noNode_1 rfl ?_
  refine lv_aload_n hx hb dX5_noNode_2 rfl (lv_at hl 0 rfl) ?_
  refine va_get (D := D) (ci := 5) (v := .int n) (C := RX5) (T := TX5) (N := 10) hx hb X.2.2.2.2.1 iwX5_noNode_5 X.2.2.2.1 hKK.1 hP 0 rfl rfl 0 (by decide) (X.2.2.2.2.1 _ flX5_noNode_29) (fun _ h9 => h9) rfl dX5_noNode_3 ?_
  refine lv_iconst (v := iI 1) hx hb dX5_noNode_6 rfl ?_
  refine lv_isub hx hb dX5_noNode_7 ?_
  refine rcS (rest := []) X hKK hP 3 (zX5_in l D cI cC x1 (iI 0) (n - (iI 1)) _ rfl) gX5_noNode_X5_in rfl rfl rfl hdX5_in ⟨Nat.le_of_ble_eq_true rfl, Nat.le_of_ble_eq_true rfl⟩ [] rfl rfl hl.1 rfl (Nat.le_of_ble_eq_true rfl) dX5_noNode_8 ⟨Nat.zero_le _, Nat.zero_le _⟩ ?_
  refine lv_if_ne (tgt := 18) hx hb dX5_noNode_11 (by decide) (fun c1 => ?_) (fun c1 => ?_)
  · replace h := ifn c1 h
    refine lv_iconst (v := iI 0) hx hb dX5_noNode_18 rfl ?_
    exact rd_ret X rfl h dX5_noNode_19
  · replace h := ifp c1 h
    refine lv_iconst (v := iI 1) hx hb dX5_noNode_14 rfl ?_
    refine lv_goto (tgt := 19) hx hb dX5_noNode_15 (by decide) ?_
    exact rd_ret X rfl h dX5_noNode_19
def mX5_nextDepth (n : Int32) (d : Nat → Int32) (x1 : Int32) : Option (Int32) := (if n ≤ (x1 + (iI 1)) then some (iI 0) else (if inb (x1 + (iI 1)) 100 then some (d (x1 + (iI 1)).toNatClampNeg) else none))
theorem hdX5_nextDepth : yX5_nextDepth.cls = RX5 ∧ yX5_nextDepth.cls ≠ "java/lang/invoke/MethodHandle" ∧ yX5_nextDepth.cls ≠ "java/lang/invoke/VarHandle" ∧ (parseMethodDescriptor yX5_nextDepth.desc).map (fun d => d.parameters.length) = some 1 := by decide +kernel
theorem flX5_nextDepth_29 : Cond.fieldLink RX5 29 "BracketTreeModel" "n" "I" ∈ wsX5_nextDepth := by decide +kernel
theorem iwX5_nextDepth_5 : ∀ w ∈ wsX50, w ∈ wsX5_nextDepth := by decide +kernel
theorem flX5_nextDepth_7 : Cond.fieldLink RX5 7 "BracketTreeModel" "depthOf" "[I" ∈ wsX5_nextDepth := by decide +kernel
abbrev rmX5_nextDepth : Room := { frames := 0, cells := 0, slots := 0, locals := 0 }
set_option maxHeartbeats 4000000 in
set_option maxRecDepth 100000 in
theorem zX5_nextDepth (l : Launch) (D : va_G) (cI cC : ClassId) (q : Nat → Nat) (n : Int32) (d : Nat → Int32) (lb : Nat → Int32) (kp : Int32) (kr : Nat → Int32) (ty : Int32) (tx : Nat → Int32) (rd : Nat → Int32) (rl : Nat → Int32) (wi : Int32) (x1 : Int32) (r : Int32) (h : mX5_nextDepth n d x1 = some r) : Met l yX5_nextDepth wsX5_nextDepth rmX5_nextDepth (va_Pc [.ref (q 0), .int x1] (BW D cI cC (wM cI cC q n d lb kp kr ty tx rd rl wi))) (rdQ r) 0 0 (fun _ => False) := by
  refine MetI RX5 (by decide +kernel) rfl rfl (Nat.le_of_ble_eq_true rfl) ?_
  intro p e s m below meth c ls X _ hB hl
  obtain ⟨hP, hKK⟩ := hB
  have hx := X.1
  have hb := X.2.1
  replace hl : lv_has ls 2 [(0, .ref (q 0)), (1, .int x1)] := hl
  unfold mX5_nextDepth at h
  refine lv_iload_n hx hb dX5_nextDepth_0 rfl (lv_at hl 1 rfl) ?_
  refine lv_iconst (v := iI 1) hx hb dX5_nextDepth_1 rfl ?_
  refine lv_iadd hx hb dX5_nextDepth_2 ?_
  refine lv_aload_n hx hb dX5_nextDepth_3 rfl (lv_at hl 0 rfl) ?_
  refine va_get (D := D) (ci := 5) (v := .int n) (C := RX5) (T := TX5) (N := 10) hx hb X.2.2.2.2.1 iwX5_nextDepth_5 X.2.2.2.1 hKK.1 hP 0 rfl rfl 0 (by decide) (X.2.2.2.2.1 _ flX5_nextDepth_29) (fun _ h9 => h9) rfl dX5_nextDepth_4 ?_
  refine lv_icmp_ge (tgt := 21) hx hb dX5_nextDepth_7 (by decide) (fun c1 => ?_) (fun c1 => ?_)
  · replace h := ifp c1 h
    refine lv_iconst (v := iI 0) hx hb dX5_nextDepth_21 rfl ?_
    exact rd_ret X rfl (Option.some.inj h) dX5_nextDepth_22
  · replace h := ifn c1 h
    refine lv_aload_n hx hb dX5_nextDepth_10 rfl (lv_at hl 0 rfl) ?_
    refine va_get (D := D) (ci := 5) (v := .ref (q 1)) (C := RX5) (T := TX5) (N := 10) hx hb X.2.2.2.2.1 iwX5_nextDepth_5 X.2.2.2.1 hKK.1 hP 0 rfl rfl 1 (by decide) (X.2.2.2.2.1 _ flX5_nextDepth_7) (fun _ h9 => h9) rfl dX5_nextDepth_11 ?_
    refine lv_iload_n hx hb dX5_nextDepth_14 rfl (lv_at hl 1 rfl) ?_
    refine lv_iconst (v := iI 1) hx hb dX5_nextDepth_15 rfl ?_
    refine lv_iadd hx hb dX5_nextDepth_16 ?_
    obtain ⟨g2, h⟩ := asr h
    refine va_iald hx hb hKK.1 hP 1 0 rfl rfl g2 dX5_nextDepth_17 ?_
    refine lv_goto (tgt := 22) hx hb dX5_nextDepth_18 (by decide) ?_
    exact rd_ret X rfl (Option.some.inj h) dX5_nextDepth_22
def mX5_isLeaf (n : Int32) (d : Nat → Int32) (x1 : Int32) : Option (Int32) := (if (x1 + (iI 1)) = n then some (iI 1) else (if inb (x1 + (iI 1)) 100 then (if inb x1 100 then (if (d x1.toNatClampNeg) < (d (x1 + (iI 1)).toNatClampNeg) then some (iI 0) else some (iI 1)) else none) else none))
theorem hdX5_isLeaf : yX5_isLeaf.cls = RX5 ∧ yX5_isLeaf.cls ≠ "java/lang/invoke/MethodHandle" ∧ yX5_isLeaf.cls ≠ "java/lang/invoke/VarHandle" ∧ (parseMethodDescriptor yX5_isLeaf.desc).map (fun d => d.parameters.length) = some 1 := by decide +kernel
theorem flX5_isLeaf_29 : Cond.fieldLink RX5 29 "BracketTreeModel" "n" "I" ∈ wsX5_isLeaf := by decide +kernel
theorem iwX5_isLeaf_5 : ∀ w ∈ wsX50, w ∈ wsX5_isLeaf := by decide +kernel
theorem flX5_isLeaf_7 : Cond.fieldLink RX5 7 "BracketTreeModel" "depthOf" "[I" ∈ wsX5_isLeaf := by decide +kernel
abbrev rmX5_isLeaf : Room := { frames := 0, cells := 0, slots := 0, locals := 0 }
set_option maxHeartbeats 4000000 in
set_option maxRecDepth 100000 in
theorem zX5_isLeaf (l : Launch) (D : va_G) (cI cC : ClassId) (q : Nat → Nat) (n : Int32) (d : Nat → Int32) (lb : Nat → Int32) (kp : Int32) (kr : Nat → Int32) (ty : Int32) (tx : Nat → Int32) (rd : Nat → Int32) (rl : Nat → Int32) (wi : Int32) (x1 : Int32) (r : Int32) (h : mX5_isLeaf n d x1 = some r) : Met l yX5_isLeaf wsX5_isLeaf rmX5_isLeaf (va_Pc [.ref (q 0), .int x1] (BW D cI cC (wM cI cC q n d lb kp kr ty tx rd rl wi))) (rdQ r) 0 0 (fun _ => False) := by
  refine MetI RX5 (by decide +kernel) rfl rfl (Nat.le_of_ble_eq_true rfl) ?_
  intro p e s m below meth c ls X _ hB hl
  obtain ⟨hP, hKK⟩ := hB
  have hx := X.1
  have hb := X.2.1
  replace hl : lv_has ls 2 [(0, .ref (q 0)), (1, .int x1)] := hl
  unfold mX5_isLeaf at h
  refine lv_iload_n hx hb dX5_isLeaf_0 rfl (lv_at hl 1 rfl) ?_
  refine lv_iconst (v := iI 1) hx hb dX5_isLeaf_1 rfl ?_
  refine lv_iadd hx hb dX5_isLeaf_2 ?_
  refine lv_aload_n hx hb dX5_isLeaf_3 rfl (lv_at hl 0 rfl) ?_
  refine va_get (D := D) (ci := 5) (v := .int n) (C := RX5) (T := TX5) (N := 10) hx hb X.2.2.2.2.1 iwX5_isLeaf_5 X.2.2.2.1 hKK.1 hP 0 rfl rfl 0 (by decide) (X.2.2.2.2.1 _ flX5_isLeaf_29) (fun _ h9 => h9) rfl dX5_isLeaf_4 ?_
  refine lv_icmp_eq (tgt := 27) hx hb dX5_isLeaf_7 (by decide) (fun c1 => ?_) (fun c1 => ?_)
  · replace h := ifp c1 h
    refine lv_iconst (v := iI 1) hx hb dX5_isLeaf_27 rfl ?_
    refine lv_goto (tgt := 32) hx hb dX5_isLeaf_28 (by decide) ?_
    exact rd_ret X rfl (Option.some.inj h) dX5_isLeaf_32
  · replace h := ifn c1 h
    refine lv_aload_n hx hb dX5_isLeaf_10 rfl (lv_at hl 0 rfl) ?_
    refine va_get (D := D) (ci := 5) (v := .ref (q 1)) (C := RX5) (T := TX5) (N := 10) hx hb X.2.2.2.2.1 iwX5_isLeaf_5 X.2.2.2.1 hKK.1 hP 0 rfl rfl 1 (by decide) (X.2.2.2.2.1 _ flX5_isLeaf_7) (fun _ h9 => h9) rfl dX5_isLeaf_11 ?_
    refine lv_iload_n hx hb dX5_isLeaf_14 rfl (lv_at hl 1 rfl) ?_
    refine lv_iconst (v := iI 1) hx hb dX5_isLeaf_15 rfl ?_
    refine lv_iadd hx hb dX5_isLeaf_16 ?_
    obtain ⟨g2, h⟩ := asr h
    refine va_iald hx hb hKK.1 hP 1 0 rfl rfl g2 dX5_isLeaf_17 ?_
    refine lv_aload_n hx hb dX5_isLeaf_18 rfl (lv_at hl 0 rfl) ?_
    refine va_get (D := D) (ci := 5) (v := .ref (q 1)) (C := RX5) (T := TX5) (N := 10) hx hb X.2.2.2.2.1 iwX5_isLeaf_5 X.2.2.2.1 hKK.1 hP 0 rfl rfl 1 (by decide) (X.2.2.2.2.1 _ flX5_isLeaf_7) (fun _ h9 => h9) rfl dX5_isLeaf_19 ?_
    refine lv_iload_n hx hb dX5_isLeaf_22 rfl (lv_at hl 1 rfl) ?_
    obtain ⟨g3, h⟩ := asr h
    refine va_iald hx hb hKK.1 hP 1 0 rfl rfl g3 dX5_isLeaf_23 ?_
    refine lv_icmp_gt (tgt := 31) hx hb dX5_isLeaf_24 (by decide) (fun c4 => ?_) (fun c4 => ?_)
    · replace h := ifp c4 h
      refine lv_iconst (v := iI 0) hx hb dX5_isLeaf_31 rfl ?_
      exact rd_ret X rfl (Option.some.inj h) dX5_isLeaf_32
    · replace h := ifn c4 h
      refine lv_iconst (v := iI 1) hx hb dX5_isLeaf_27 rfl ?_
      refine lv_goto (tgt := 32) hx hb dX5_isLeaf_28 (by decide) ?_
      exact rd_ret X rfl (Option.some.inj h) dX5_isLeaf_32
def mX5_written_12 : Nat → Int32 → (Nat → Int32) → (Nat → Int32) → Int32 → Int32 → Int32 → Option (Int32)
  | 0, _, _, _, _, _, _ => none
  | f + 1, n, d, lb, x1, x2, x3 => (if n ≤ x3 then (if 0 ≤ x1 then some (iI (-5)) else some x2) else (if x2 = x1 then (if inb x3 100 then some (lb x3.toNatClampNeg) else none) else ((mX5_isLeaf n d x3).bind fun r5 => (if r5 = 0 then (if (x2 + iI 1) = x1 then some (iI 40) else mX5_written_12 f n d lb x1 ((x2 + iI 1) + iI 1) (x3 + iI 1)) else (if inb x3 100 then ((mX5_nextDepth n d x3).bind fun r8 => (if x1 < (x2 + iI 1) then mX5_written_12 f n d lb x1 ((x2 + iI 1) + ((d x3.toNatClampNeg) - r8)) (x3 + iI 1) else (if ((x2 + iI 1) + ((d x3.toNatClampNeg) - r8)) ≤ x1 then mX5_written_12 f n d lb x1 ((x2 + iI 1) + ((d x3.toNatClampNeg) - r8)) (x3 + iI 1) else some (iI 41)))) else none)))))
def mX5_written (n : Int32) (d : Nat → Int32) (lb : Nat → Int32) (x1 : Int32) : Option (Int32) := (if (iI (-1)) ≤ x1 then mX5_written_12 FU n d lb x1 (iI 0) (iI 0) else some (iI (-2)))
theorem hdX5_written : yX5_written.cls = RX5 ∧ yX5_written.cls ≠ "java/lang/invoke/MethodHandle" ∧ yX5_written.cls ≠ "java/lang/invoke/VarHandle" ∧ (parseMethodDescriptor yX5_written.desc).map (fun d => d.parameters.length) = some 1 := by decide +kernel
theorem flX5_written_29 : Cond.fieldLink RX5 29 "BracketTreeModel" "n" "I" ∈ wsX5_written := by decide +kernel
theorem iwX5_written_5 : ∀ w ∈ wsX50, w ∈ wsX5_written := by decide +kernel
theorem flX5_written_7 : Cond.fieldLink RX5 7 "BracketTreeModel" "depthOf" "[I" ∈ wsX5_written := by decide +kernel
theorem flX5_written_13 : Cond.fieldLink RX5 13 "BracketTreeModel" "labelOf" "[C" ∈ wsX5_written := by decide +kernel
abbrev rmX5_written : Room := { frames := 1, cells := 0, slots := 0, locals := 21 }
set_option maxHeartbeats 4000000 in
set_option maxRecDepth 100000 in
theorem kX5_written_12 {p : Program} {l : Launch} {e : Env} {s : State} {m : MethodId} {args : Array Value} {below : List Frame} {meth : Method} {c : Code} {D : va_G} {cI cC : ClassId} {q : Nat → Nat} {n : Int32} {d : Nat → Int32} {lb : Nat → Int32} {kp : Int32} {kr : Nat → Int32} {ty : Int32} {tx : Nat → Int32} {rd : Nat → Int32} {rl : Nat → Int32} {wi : Int32} {r : Int32} (X : CX p s m args meth c wsX5_written cX5_written 5 (some .int) RX5) (hKK : KK D cI cC s) (hP : va_P D vwCl (wM cI cC q n d lb kp kr ty tx rd rl wi) s.heap) : ∀ (f : Nat), ∀ (x1 : Int32) (x2 : Int32) (x3 : Int32) (ls : Array Slot), lv_has ls 5 [(0, .ref (q 0)), (1, .int x1), (2, .int x2), (3, .int x3)] → mX5_written_12 f n d lb x1 x2 x3 = some r → W p l e rmX5_written s m args below meth c s.heap [] 0 0 (MQ below (rdQ r) args s 0 0 (fun _ => False)) (F0 m 12 ls []) := by
  have hx := X.1
  have hb := X.2.1
  intro f
  induction f with
  | zero =>
    intro x1 x2 x3 ls hl h
    exact absurd h (by unfold mX5_written_12; intro h; cases h)
  | succ f ih =>
    intro x1 x2 x3 ls hl h
    rw [mX5_written_12] at h
    refine lv_iload_n hx hb dX5_written_12 rfl (lv_at hl 3 rfl) ?_
    refine lv_aload_n hx hb dX5_written_13 rfl (lv_at hl 0 rfl) ?_
    refine va_get (D := D) (ci := 5) (v := .int n) (C := RX5) (T := TX5) (N := 10) hx hb X.2.2.2.2.1 iwX5_written_5 X.2.2.2.1 hKK.1 hP 0 rfl rfl 0 (by decide) (X.2.2.2.2.1 _ flX5_written_29) (fun _ h9 => h9) rfl dX5_written_14 ?_
    refine lv_icmp_ge (tgt := 98) hx hb dX5_written_17 (by decide) (fun c2 => ?_) (fun c2 => ?_)
    · replace h := ifp c2 h
      refine lv_iload_n hx hb dX5_written_98 rfl (lv_at hl 1 rfl) ?_
      refine lv_if_ge (tgt := 106) hx hb dX5_written_99 (by decide) (fun c3 => ?_) (fun c3 => ?_)
      · replace h := ifp c3 h
        refine lv_bipush (v := iI (-5)) hx hb dX5_written_106 (by decide) ?_
        exact rd_ret X rfl (Option.some.inj h) dX5_written_108
      · replace h := ifn c3 h
        refine lv_iload_n hx hb dX5_written_102 rfl (lv_at hl 2 rfl) ?_
        refine lv_goto (tgt := 108) hx hb dX5_written_103 (by decide) ?_
        exact rd_ret X rfl (Option.some.inj h) dX5_written_108
    · replace h := ifn c2 h
      refine lv_iload_n hx hb dX5_written_20 rfl (lv_at hl 2 rfl) ?_
      refine lv_iload_n hx hb dX5_written_21 rfl (lv_at hl 1 rfl) ?_
      refine lv_icmp_ne (tgt := 32) hx hb dX5_written_22 (by decide) (fun c4 => ?_) (fun c4 => ?_)
      · replace h := ifn c4 h
        refine lv_iinc (v := (x2 + iI 1)) (lv' := [(2, .int (x2 + iI 1)), (0, .ref (q 0)), (1, .int x1), (3, .int x3)]) hx hb dX5_written_32 hl (k := 2) rfl rfl (by decide) rfl (fun ls hl => ?_)
        refine lv_aload_n hx hb dX5_written_35 rfl (lv_at hl 1 rfl) ?_
        refine lv_iload_n hx hb dX5_written_36 rfl (lv_at hl 3 rfl) ?_
        obtain ⟨r5, h_r5, h⟩ := obd h
        refine rcV (rest := []) X hKK hP 1 (zX5_isLeaf l D cI cC q n d lb kp kr ty tx rd rl wi x3 r5 h_r5) gX5_written_X5_isLeaf rfl rfl rfl hdX5_isLeaf ⟨Nat.le_of_ble_eq_true rfl, Nat.le_of_ble_eq_true rfl⟩ [0, 1, 2, 3, 4, 5, 6] rfl 0 rfl rfl rfl hl.1 rfl (Nat.le_of_ble_eq_true rfl) dX5_written_37 ⟨Nat.zero_le _, Nat.zero_le _⟩ ?_
        refine lv_if_ne (tgt := 57) hx hb dX5_written_40 (by decide) (fun c6 => ?_) (fun c6 => ?_)
        · replace h := ifn c6 h
          refine lv_aload_n hx hb dX5_written_57 rfl (lv_at hl 1 rfl) ?_
          refine va_get (D := D) (ci := 5) (v := .ref (q 1)) (C := RX5) (T := TX5) (N := 10) hx hb X.2.2.2.2.1 iwX5_written_5 X.2.2.2.1 hKK.1 hP 0 rfl rfl 1 (by decide) (X.2.2.2.2.1 _ flX5_written_7) (fun _ h9 => h9) rfl dX5_written_58 ?_
          refine lv_iload_n hx hb dX5_written_61 rfl (lv_at hl 3 rfl) ?_
          obtain ⟨g7, h⟩ := asr h
          refine va_iald hx hb hKK.1 hP 1 0 rfl rfl g7 dX5_written_62 ?_
          refine lv_aload_n hx hb dX5_written_63 rfl (lv_at hl 1 rfl) ?_
          refine lv_iload_n hx hb dX5_written_64 rfl (lv_at hl 3 rfl) ?_
          obtain ⟨r8, h_r8, h⟩ := obd h
          refine rcV (rest := [.int (d x3.toNatClampNeg)]) X hKK hP 1 (zX5_nextDepth l D cI cC q n d lb kp kr ty tx rd rl wi x3 r8 h_r8) gX5_written_X5_nextDepth rfl rfl rfl hdX5_nextDepth ⟨Nat.le_of_ble_eq_true rfl, Nat.le_of_ble_eq_true rfl⟩ [0, 1, 2, 3, 4, 5, 6] rfl 0 rfl rfl rfl hl.1 rfl (Nat.le_of_ble_eq_true rfl) dX5_written_65 ⟨Nat.zero_le _, Nat.zero_le _⟩ ?_
          refine lv_isub hx hb dX5_written_68 ?_
          refine lv_istore (lv' := [(4, .int ((d x3.toNatClampNeg) - r8)), (2, .int (x2 + iI 1)), (0, .ref (q 0)), (1, .int x1), (3, .int x3)]) hx hb dX5_written_69 hl (by decide) rfl (fun ls hl => ?_)
          refine lv_iload_n hx hb dX5_written_71 rfl (lv_at hl 3 rfl) ?_
          refine lv_iload_n hx hb dX5_written_72 rfl (lv_at hl 1 rfl) ?_
          refine lv_icmp_lt (tgt := 87) hx hb dX5_written_73 (by decide) (fun c9 => ?_) (fun c9 => ?_)
          · replace h := ifp c9 h
            refine lv_iload_n hx hb dX5_written_87 rfl (lv_at hl 1 rfl) ?_
            refine lv_iload hx hb dX5_written_88 (lv_at hl 0 rfl) ?_
            refine lv_iadd hx hb dX5_written_90 ?_
            refine lv_istore_n (lv' := [(2, .int ((x2 + iI 1) + ((d x3.toNatClampNeg) - r8))), (4, .int ((d x3.toNatClampNeg) - r8)), (0, .ref (q 0)), (1, .int x1), (3, .int x3)]) hx hb dX5_written_91 rfl hl (by decide) rfl (fun ls hl => ?_)
            refine lv_iinc (v := (x3 + iI 1)) (lv' := [(3, .int (x3 + iI 1)), (2, .int ((x2 + iI 1) + ((d x3.toNatClampNeg) - r8))), (4, .int ((d x3.toNatClampNeg) - r8)), (0, .ref (q 0)), (1, .int x1)]) hx hb dX5_written_92 hl (k := 4) rfl rfl (by decide) rfl (fun ls hl => ?_)
            refine lv_goto (tgt := 12) hx hb dX5_written_95 (by decide) ?_
            exact ih x1 ((x2 + iI 1) + ((d x3.toNatClampNeg) - r8)) (x3 + iI 1) ls (lv_sub hl [3, 4, 1, 0] rfl) h
          · replace h := ifn c9 h
            refine lv_iload_n hx hb dX5_written_76 rfl (lv_at hl 3 rfl) ?_
            refine lv_iload_n hx hb dX5_written_77 rfl (lv_at hl 1 rfl) ?_
            refine lv_iload hx hb dX5_written_78 (lv_at hl 0 rfl) ?_
            refine lv_iadd hx hb dX5_written_80 ?_
            refine lv_icmp_ge (tgt := 87) hx hb dX5_written_81 (by decide) (fun c10 => ?_) (fun c10 => ?_)
            · replace h := ifp c10 h
              refine lv_iload_n hx hb dX5_written_87 rfl (lv_at hl 1 rfl) ?_
              refine lv_iload hx hb dX5_written_88 (lv_at hl 0 rfl) ?_
              refine lv_iadd hx hb dX5_written_90 ?_
              refine lv_istore_n (lv' := [(2, .int ((x2 + iI 1) + ((d x3.toNatClampNeg) - r8))), (4, .int ((d x3.toNatClampNeg) - r8)), (0, .ref (q 0)), (1, .int x1), (3, .int x3)]) hx hb dX5_written_91 rfl hl (by decide) rfl (fun ls hl => ?_)
              refine lv_iinc (v := (x3 + iI 1)) (lv' := [(3, .int (x3 + iI 1)), (2, .int ((x2 + iI 1) + ((d x3.toNatClampNeg) - r8))), (4, .int ((d x3.toNatClampNeg) - r8)), (0, .ref (q 0)), (1, .int x1)]) hx hb dX5_written_92 hl (k := 4) rfl rfl (by decide) rfl (fun ls hl => ?_)
              refine lv_goto (tgt := 12) hx hb dX5_written_95 (by decide) ?_
              exact ih x1 ((x2 + iI 1) + ((d x3.toNatClampNeg) - r8)) (x3 + iI 1) ls (lv_sub hl [3, 4, 1, 0] rfl) h
            · replace h := ifn c10 h
              refine lv_bipush (v := iI 41) hx hb dX5_written_84 (by decide) ?_
              exact rd_ret X rfl (Option.some.inj h) dX5_written_86
        · replace h := ifp c6 h
          refine lv_iload_n hx hb dX5_written_43 rfl (lv_at hl 0 rfl) ?_
          refine lv_iload_n hx hb dX5_written_44 rfl (lv_at hl 2 rfl) ?_
          refine lv_icmp_ne (tgt := 51) hx hb dX5_written_45 (by decide) (fun c11 => ?_) (fun c11 => ?_)
          · replace h := ifn c11 h
            refine lv_iinc (v := ((x2 + iI 1) + iI 1)) (lv' := [(2, .int ((x2 + iI 1) + iI 1)), (0, .ref (q 0)), (1, .int x1), (3, .int x3)]) hx hb dX5_written_51 hl (k := 0) rfl rfl (by decide) rfl (fun ls hl => ?_)
            refine lv_goto (tgt := 92) hx hb dX5_written_54 (by decide) ?_
            refine lv_iinc (v := (x3 + iI 1)) (lv' := [(3, .int (x3 + iI 1)), (2, .int ((x2 + iI 1) + iI 1)), (0, .ref (q 0)), (1, .int x1)]) hx hb dX5_written_92 hl (k := 3) rfl rfl (by decide) rfl (fun ls hl => ?_)
            refine lv_goto (tgt := 12) hx hb dX5_written_95 (by decide) ?_
            exact ih x1 ((x2 + iI 1) + iI 1) (x3 + iI 1) ls (lv_sub hl [2, 3, 1, 0] rfl) h
          · replace h := ifp c11 h
            refine lv_bipush (v := iI 40) hx hb dX5_written_48 (by decide) ?_
            exact rd_ret X rfl (Option.some.inj h) dX5_written_50
      · replace h := ifp c4 h
        refine lv_aload_n hx hb dX5_written_25 rfl (lv_at hl 0 rfl) ?_
        refine va_get (D := D) (ci := 5) (v := .ref (q 2)) (C := RX5) (T := TX5) (N := 10) hx hb X.2.2.2.2.1 iwX5_written_5 X.2.2.2.1 hKK.1 hP 0 rfl rfl 2 (by decide) (X.2.2.2.2.1 _ flX5_written_13) (fun _ h9 => h9) rfl dX5_written_26 ?_
        refine lv_iload_n hx hb dX5_written_29 rfl (lv_at hl 3 rfl) ?_
        obtain ⟨g12, h⟩ := asr h
        refine va_cald hx hb hKK.1 hP 2 1 rfl rfl g12 dX5_written_30 ?_
        exact rd_ret X rfl (Option.some.inj h) dX5_written_31
set_option maxHeartbeats 4000000 in
set_option maxRecDepth 100000 in
theorem zX5_written (l : Launch) (D : va_G) (cI cC : ClassId) (q : Nat → Nat) (n : Int32) (d : Nat → Int32) (lb : Nat → Int32) (kp : Int32) (kr : Nat → Int32) (ty : Int32) (tx : Nat → Int32) (rd : Nat → Int32) (rl : Nat → Int32) (wi : Int32) (x1 : Int32) (r : Int32) (h : mX5_written n d lb x1 = some r) : Met l yX5_written wsX5_written rmX5_written (va_Pc [.ref (q 0), .int x1] (BW D cI cC (wM cI cC q n d lb kp kr ty tx rd rl wi))) (rdQ r) 0 0 (fun _ => False) := by
  refine MetI RX5 (by decide +kernel) rfl rfl (Nat.le_of_ble_eq_true rfl) ?_
  intro p e s m below meth c ls X _ hB hl
  obtain ⟨hP, hKK⟩ := hB
  have hx := X.1
  have hb := X.2.1
  replace hl : lv_has ls 5 [(0, .ref (q 0)), (1, .int x1)] := hl
  unfold mX5_written at h
  refine lv_iload_n hx hb dX5_written_0 rfl (lv_at hl 1 rfl) ?_
  refine lv_iconst (v := iI (-1)) hx hb dX5_written_1 rfl ?_
  refine lv_icmp_ge (tgt := 8) hx hb dX5_written_2 (by decide) (fun c1 => ?_) (fun c1 => ?_)
  · replace h := ifp c1 h
    refine lv_iconst (v := iI 0) hx hb dX5_written_8 rfl ?_
    refine lv_istore_n (lv' := [(2, .int (iI 0)), (0, .ref (q 0)), (1, .int x1)]) hx hb dX5_written_9 rfl hl (by decide) rfl (fun ls hl => ?_)
    refine lv_iconst (v := iI 0) hx hb dX5_written_10 rfl ?_
    refine lv_istore_n (lv' := [(3, .int (iI 0)), (2, .int (iI 0)), (0, .ref (q 0)), (1, .int x1)]) hx hb dX5_written_11 rfl hl (by decide) rfl (fun ls hl => ?_)
    exact kX5_written_12 X hKK hP FU x1 (iI 0) (iI 0) ls (lv_sub hl [2, 3, 1, 0] rfl) h
  · replace h := ifn c1 h
    refine lv_bipush (v := iI (-2)) hx hb dX5_written_5 (by decide) ?_
    exact rd_ret X rfl (Option.some.inj h) dX5_written_7
def mX5_size (n : Int32)  : (Int32) := n
theorem hdX5_size : yX5_size.cls = RX5 ∧ yX5_size.cls ≠ "java/lang/invoke/MethodHandle" ∧ yX5_size.cls ≠ "java/lang/invoke/VarHandle" ∧ (parseMethodDescriptor yX5_size.desc).map (fun d => d.parameters.length) = some 0 := by decide +kernel
theorem flX5_size_29 : Cond.fieldLink RX5 29 "BracketTreeModel" "n" "I" ∈ wsX5_size := by decide +kernel
theorem iwX5_size_5 : ∀ w ∈ wsX50, w ∈ wsX5_size := by decide +kernel
abbrev rmX5_size : Room := { frames := 0, cells := 0, slots := 0, locals := 0 }
set_option maxHeartbeats 4000000 in
set_option maxRecDepth 100000 in
theorem zX5_size (l : Launch) (D : va_G) (cI cC : ClassId) (q : Nat → Nat) (n : Int32) (d : Nat → Int32) (lb : Nat → Int32) (kp : Int32) (kr : Nat → Int32) (ty : Int32) (tx : Nat → Int32) (rd : Nat → Int32) (rl : Nat → Int32) (wi : Int32)  (r : Int32) (h : mX5_size n = r) : Met l yX5_size wsX5_size rmX5_size (va_Pc [.ref (q 0)] (BW D cI cC (wM cI cC q n d lb kp kr ty tx rd rl wi))) (rdQ r) 0 0 (fun _ => False) := by
  refine MetI RX5 (by decide +kernel) rfl rfl (Nat.le_of_ble_eq_true rfl) ?_
  intro p e s m below meth c ls X _ hB hl
  obtain ⟨hP, hKK⟩ := hB
  have hx := X.1
  have hb := X.2.1
  replace hl : lv_has ls 1 [(0, .ref (q 0))] := hl
  unfold mX5_size at h
  refine lv_aload_n hx hb dX5_size_0 rfl (lv_at hl 0 rfl) ?_
  refine va_get (D := D) (ci := 5) (v := .int n) (C := RX5) (T := TX5) (N := 10) hx hb X.2.2.2.2.1 iwX5_size_5 X.2.2.2.1 hKK.1 hP 0 rfl rfl 0 (by decide) (X.2.2.2.2.1 _ flX5_size_29) (fun _ h9 => h9) rfl dX5_size_1 ?_
  exact rd_ret X rfl h dX5_size_4
def mX5_behind_4 : Nat → Int32 → (Nat → Int32) → Int32 → Int32 → Option (Int32)
  | 0, _, _, _, _ => none
  | f + 1, n, d, x1, x2 => (if n ≤ x2 then some x2 else (if inb x2 100 then (if inb x1 100 then (if (d x2.toNatClampNeg) ≤ (d x1.toNatClampNeg) then some x2 else mX5_behind_4 f n d x1 (x2 + iI 1)) else none) else none))
def mX5_behind (n : Int32) (d : Nat → Int32) (x1 : Int32) : Option (Int32) := mX5_behind_4 FU n d x1 (x1 + (iI 1))
theorem hdX5_behind : yX5_behind.cls = RX5 ∧ yX5_behind.cls ≠ "java/lang/invoke/MethodHandle" ∧ yX5_behind.cls ≠ "java/lang/invoke/VarHandle" ∧ (parseMethodDescriptor yX5_behind.desc).map (fun d => d.parameters.length) = some 1 := by decide +kernel
theorem flX5_behind_29 : Cond.fieldLink RX5 29 "BracketTreeModel" "n" "I" ∈ wsX5_behind := by decide +kernel
theorem iwX5_behind_5 : ∀ w ∈ wsX50, w ∈ wsX5_behind := by decide +kernel
theorem flX5_behind_7 : Cond.fieldLink RX5 7 "BracketTreeModel" "depthOf" "[I" ∈ wsX5_behind := by decide +kernel
abbrev rmX5_behind : Room := { frames := 0, cells := 0, slots := 0, locals := 0 }
set_option maxHeartbeats 4000000 in
set_option maxRecDepth 100000 in
theorem kX5_behind_4 {p : Program} {l : Launch} {e : Env} {s : State} {m : MethodId} {args : Array Value} {below : List Frame} {meth : Method} {c : Code} {D : va_G} {cI cC : ClassId} {q : Nat → Nat} {n : Int32} {d : Nat → Int32} {lb : Nat → Int32} {kp : Int32} {kr : Nat → Int32} {ty : Int32} {tx : Nat → Int32} {rd : Nat → Int32} {rl : Nat → Int32} {wi : Int32} {r : Int32} (X : CX p s m args meth c wsX5_behind cX5_behind 3 (some .int) RX5) (hKK : KK D cI cC s) (hP : va_P D vwCl (wM cI cC q n d lb kp kr ty tx rd rl wi) s.heap) : ∀ (f : Nat), ∀ (x1 : Int32) (x2 : Int32) (ls : Array Slot), lv_has ls 3 [(0, .ref (q 0)), (1, .int x1), (2, .int x2)] → mX5_behind_4 f n d x1 x2 = some r → W p l e rmX5_behind s m args below meth c s.heap [] 0 0 (MQ below (rdQ r) args s 0 0 (fun _ => False)) (F0 m 4 ls []) := by
  have hx := X.1
  have hb := X.2.1
  intro f
  induction f with
  | zero =>
    intro x1 x2 ls hl h
    exact absurd h (by unfold mX5_behind_4; intro h; cases h)
  | succ f ih =>
    intro x1 x2 ls hl h
    rw [mX5_behind_4] at h
    refine lv_iload_n hx hb dX5_behind_4 rfl (lv_at hl 2 rfl) ?_
    refine lv_aload_n hx hb dX5_behind_5 rfl (lv_at hl 0 rfl) ?_
    refine va_get (D := D) (ci := 5) (v := .int n) (C := RX5) (T := TX5) (N := 10) hx hb X.2.2.2.2.1 iwX5_behind_5 X.2.2.2.1 hKK.1 hP 0 rfl rfl 0 (by decide) (X.2.2.2.2.1 _ flX5_behind_29) (fun _ h9 => h9) rfl dX5_behind_6 ?_
    refine lv_icmp_ge (tgt := 33) hx hb dX5_behind_9 (by decide) (fun c1 => ?_) (fun c1 => ?_)
    · replace h := ifp c1 h
      refine lv_iload_n hx hb dX5_behind_33 rfl (lv_at hl 2 rfl) ?_
      exact rd_ret X rfl (Option.some.inj h) dX5_behind_34
    · replace h := ifn c1 h
      refine lv_aload_n hx hb dX5_behind_12 rfl (lv_at hl 0 rfl) ?_
      refine va_get (D := D) (ci := 5) (v := .ref (q 1)) (C := RX5) (T := TX5) (N := 10) hx hb X.2.2.2.2.1 iwX5_behind_5 X.2.2.2.1 hKK.1 hP 0 rfl rfl 1 (by decide) (X.2.2.2.2.1 _ flX5_behind_7) (fun _ h9 => h9) rfl dX5_behind_13 ?_
      refine lv_iload_n hx hb dX5_behind_16 rfl (lv_at hl 2 rfl) ?_
      obtain ⟨g2, h⟩ := asr h
      refine va_iald hx hb hKK.1 hP 1 0 rfl rfl g2 dX5_behind_17 ?_
      refine lv_aload_n hx hb dX5_behind_18 rfl (lv_at hl 0 rfl) ?_
      refine va_get (D := D) (ci := 5) (v := .ref (q 1)) (C := RX5) (T := TX5) (N := 10) hx hb X.2.2.2.2.1 iwX5_behind_5 X.2.2.2.1 hKK.1 hP 0 rfl rfl 1 (by decide) (X.2.2.2.2.1 _ flX5_behind_7) (fun _ h9 => h9) rfl dX5_behind_19 ?_
      refine lv_iload_n hx hb dX5_behind_22 rfl (lv_at hl 1 rfl) ?_
      obtain ⟨g3, h⟩ := asr h
      refine va_iald hx hb hKK.1 hP 1 0 rfl rfl g3 dX5_behind_23 ?_
      refine lv_icmp_le (tgt := 33) hx hb dX5_behind_24 (by decide) (fun c4 => ?_) (fun c4 => ?_)
      · replace h := ifp c4 h
        refine lv_iload_n hx hb dX5_behind_33 rfl (lv_at hl 2 rfl) ?_
        exact rd_ret X rfl (Option.some.inj h) dX5_behind_34
      · replace h := ifn c4 h
        refine lv_iinc (v := (x2 + iI 1)) (lv' := [(2, .int (x2 + iI 1)), (0, .ref (q 0)), (1, .int x1)]) hx hb dX5_behind_27 hl (k := 2) rfl rfl (by decide) rfl (fun ls hl => ?_)
        refine lv_goto (tgt := 4) hx hb dX5_behind_30 (by decide) ?_
        exact ih x1 (x2 + iI 1) ls (lv_sub hl [1, 2, 0] rfl) h
set_option maxHeartbeats 4000000 in
set_option maxRecDepth 100000 in
theorem zX5_behind (l : Launch) (D : va_G) (cI cC : ClassId) (q : Nat → Nat) (n : Int32) (d : Nat → Int32) (lb : Nat → Int32) (kp : Int32) (kr : Nat → Int32) (ty : Int32) (tx : Nat → Int32) (rd : Nat → Int32) (rl : Nat → Int32) (wi : Int32) (x1 : Int32) (r : Int32) (h : mX5_behind n d x1 = some r) : Met l yX5_behind wsX5_behind rmX5_behind (va_Pc [.ref (q 0), .int x1] (BW D cI cC (wM cI cC q n d lb kp kr ty tx rd rl wi))) (rdQ r) 0 0 (fun _ => False) := by
  refine MetI RX5 (by decide +kernel) rfl rfl (Nat.le_of_ble_eq_true rfl) ?_
  intro p e s m below meth c ls X _ hB hl
  obtain ⟨hP, hKK⟩ := hB
  have hx := X.1
  have hb := X.2.1
  replace hl : lv_has ls 3 [(0, .ref (q 0)), (1, .int x1)] := hl
  unfold mX5_behind at h
  refine lv_iload_n hx hb dX5_behind_0 rfl (lv_at hl 1 rfl) ?_
  refine lv_iconst (v := iI 1) hx hb dX5_behind_1 rfl ?_
  refine lv_iadd hx hb dX5_behind_2 ?_
  refine lv_istore_n (lv' := [(2, .int (x1 + (iI 1))), (0, .ref (q 0)), (1, .int x1)]) hx hb dX5_behind_3 rfl hl (by decide) rfl (fun ls hl => ?_)
  exact kX5_behind_4 X hKK hP FU x1 (x1 + (iI 1)) ls (lv_sub hl [1, 2, 0] rfl) h
def mX5_parentOf_2 : Nat → (Nat → Int32) → Int32 → Int32 → Option (Int32)
  | 0, _, _, _ => none
  | f + 1, d, x1, x2 => (if x2 < 0 then (if 0 ≤ x2 then some x2 else some (iI (-5))) else (if inb x2 100 then (if inb x1 100 then (if (d x2.toNatClampNeg) < (d x1.toNatClampNeg) then (if 0 ≤ x2 then some x2 else some (iI (-5))) else mX5_parentOf_2 f d x1 (x2 + iI (-1))) else none) else none))
def mX5_parentOf (d : Nat → Int32) (x1 : Int32) : Option (Int32) := mX5_parentOf_2 FU d x1 x1
theorem hdX5_parentOf : yX5_parentOf.cls = RX5 ∧ yX5_parentOf.cls ≠ "java/lang/invoke/MethodHandle" ∧ yX5_parentOf.cls ≠ "java/lang/invoke/VarHandle" ∧ (parseMethodDescriptor yX5_parentOf.desc).map (fun d => d.parameters.length) = some 1 := by decide +kernel
theorem flX5_parentOf_7 : Cond.fieldLink RX5 7 "BracketTreeModel" "depthOf" "[I" ∈ wsX5_parentOf := by decide +kernel
theorem iwX5_parentOf_5 : ∀ w ∈ wsX50, w ∈ wsX5_parentOf := by decide +kernel
abbrev rmX5_parentOf : Room := { frames := 0, cells := 0, slots := 0, locals := 0 }
set_option maxHeartbeats 4000000 in
set_option maxRecDepth 100000 in
theorem kX5_parentOf_2 {p : Program} {l : Launch} {e : Env} {s : State} {m : MethodId} {args : Array Value} {below : List Frame} {meth : Method} {c : Code} {D : va_G} {cI cC : ClassId} {q : Nat → Nat} {n : Int32} {d : Nat → Int32} {lb : Nat → Int32} {kp : Int32} {kr : Nat → Int32} {ty : Int32} {tx : Nat → Int32} {rd : Nat → Int32} {rl : Nat → Int32} {wi : Int32} {r : Int32} (X : CX p s m args meth c wsX5_parentOf cX5_parentOf 3 (some .int) RX5) (hKK : KK D cI cC s) (hP : va_P D vwCl (wM cI cC q n d lb kp kr ty tx rd rl wi) s.heap) : ∀ (f : Nat), ∀ (x1 : Int32) (x2 : Int32) (ls : Array Slot), lv_has ls 3 [(0, .ref (q 0)), (1, .int x1), (2, .int x2)] → mX5_parentOf_2 f d x1 x2 = some r → W p l e rmX5_parentOf s m args below meth c s.heap [] 0 0 (MQ below (rdQ r) args s 0 0 (fun _ => False)) (F0 m 2 ls []) := by
  have hx := X.1
  have hb := X.2.1
  intro f
  induction f with
  | zero =>
    intro x1 x2 ls hl h
    exact absurd h (by unfold mX5_parentOf_2; intro h; cases h)
  | succ f ih =>
    intro x1 x2 ls hl h
    rw [mX5_parentOf_2] at h
    refine lv_iload_n hx hb dX5_parentOf_2 rfl (lv_at hl 2 rfl) ?_
    refine lv_if_lt (tgt := 27) hx hb dX5_parentOf_3 (by decide) (fun c1 => ?_) (fun c1 => ?_)
    · replace h := ifp c1 h
      refine lv_iload_n hx hb dX5_parentOf_27 rfl (lv_at hl 2 rfl) ?_
      refine lv_if_ge (tgt := 36) hx hb dX5_parentOf_28 (by decide) (fun c2 => ?_) (fun c2 => ?_)
      · replace h := ifp c2 h
        refine lv_iload_n hx hb dX5_parentOf_36 rfl (lv_at hl 2 rfl) ?_
        exact rd_ret X rfl (Option.some.inj h) dX5_parentOf_37
      · replace h := ifn c2 h
        refine lv_bipush (v := iI (-5)) hx hb dX5_parentOf_31 (by decide) ?_
        refine lv_goto (tgt := 37) hx hb dX5_parentOf_33 (by decide) ?_
        exact rd_ret X rfl (Option.some.inj h) dX5_parentOf_37
    · replace h := ifn c1 h
      refine lv_aload_n hx hb dX5_parentOf_6 rfl (lv_at hl 0 rfl) ?_
      refine va_get (D := D) (ci := 5) (v := .ref (q 1)) (C := RX5) (T := TX5) (N := 10) hx hb X.2.2.2.2.1 iwX5_parentOf_5 X.2.2.2.1 hKK.1 hP 0 rfl rfl 1 (by decide) (X.2.2.2.2.1 _ flX5_parentOf_7) (fun _ h9 => h9) rfl dX5_parentOf_7 ?_
      refine lv_iload_n hx hb dX5_parentOf_10 rfl (lv_at hl 2 rfl) ?_
      obtain ⟨g3, h⟩ := asr h
      refine va_iald hx hb hKK.1 hP 1 0 rfl rfl g3 dX5_parentOf_11 ?_
      refine lv_aload_n hx hb dX5_parentOf_12 rfl (lv_at hl 0 rfl) ?_
      refine va_get (D := D) (ci := 5) (v := .ref (q 1)) (C := RX5) (T := TX5) (N := 10) hx hb X.2.2.2.2.1 iwX5_parentOf_5 X.2.2.2.1 hKK.1 hP 0 rfl rfl 1 (by decide) (X.2.2.2.2.1 _ flX5_parentOf_7) (fun _ h9 => h9) rfl dX5_parentOf_13 ?_
      refine lv_iload_n hx hb dX5_parentOf_16 rfl (lv_at hl 1 rfl) ?_
      obtain ⟨g4, h⟩ := asr h
      refine va_iald hx hb hKK.1 hP 1 0 rfl rfl g4 dX5_parentOf_17 ?_
      refine lv_icmp_lt (tgt := 27) hx hb dX5_parentOf_18 (by decide) (fun c5 => ?_) (fun c5 => ?_)
      · replace h := ifp c5 h
        refine lv_iload_n hx hb dX5_parentOf_27 rfl (lv_at hl 2 rfl) ?_
        refine lv_if_ge (tgt := 36) hx hb dX5_parentOf_28 (by decide) (fun c6 => ?_) (fun c6 => ?_)
        · replace h := ifp c6 h
          refine lv_iload_n hx hb dX5_parentOf_36 rfl (lv_at hl 2 rfl) ?_
          exact rd_ret X rfl (Option.some.inj h) dX5_parentOf_37
        · replace h := ifn c6 h
          refine lv_bipush (v := iI (-5)) hx hb dX5_parentOf_31 (by decide) ?_
          refine lv_goto (tgt := 37) hx hb dX5_parentOf_33 (by decide) ?_
          exact rd_ret X rfl (Option.some.inj h) dX5_parentOf_37
      · replace h := ifn c5 h
        refine lv_iinc (v := (x2 + iI (-1))) (lv' := [(2, .int (x2 + iI (-1))), (0, .ref (q 0)), (1, .int x1)]) hx hb dX5_parentOf_21 hl (k := 2) rfl rfl (by decide) rfl (fun ls hl => ?_)
        refine lv_goto (tgt := 2) hx hb dX5_parentOf_24 (by decide) ?_
        exact ih x1 (x2 + iI (-1)) ls (lv_sub hl [1, 2, 0] rfl) h
set_option maxHeartbeats 4000000 in
set_option maxRecDepth 100000 in
theorem zX5_parentOf (l : Launch) (D : va_G) (cI cC : ClassId) (q : Nat → Nat) (n : Int32) (d : Nat → Int32) (lb : Nat → Int32) (kp : Int32) (kr : Nat → Int32) (ty : Int32) (tx : Nat → Int32) (rd : Nat → Int32) (rl : Nat → Int32) (wi : Int32) (x1 : Int32) (r : Int32) (h : mX5_parentOf d x1 = some r) : Met l yX5_parentOf wsX5_parentOf rmX5_parentOf (va_Pc [.ref (q 0), .int x1] (BW D cI cC (wM cI cC q n d lb kp kr ty tx rd rl wi))) (rdQ r) 0 0 (fun _ => False) := by
  refine MetI RX5 (by decide +kernel) rfl rfl (Nat.le_of_ble_eq_true rfl) ?_
  intro p e s m below meth c ls X _ hB hl
  obtain ⟨hP, hKK⟩ := hB
  have hx := X.1
  have hb := X.2.1
  replace hl : lv_has ls 3 [(0, .ref (q 0)), (1, .int x1)] := hl
  unfold mX5_parentOf at h
  refine lv_iload_n hx hb dX5_parentOf_0 rfl (lv_at hl 1 rfl) ?_
  refine lv_istore_n (lv' := [(2, .int x1), (0, .ref (q 0)), (1, .int x1)]) hx hb dX5_parentOf_1 rfl hl (by decide) rfl (fun ls hl => ?_)
  exact kX5_parentOf_2 X hKK hP FU x1 x1 ls (lv_sub hl [1, 2, 0] rfl) h
def mX5_childCount_6 : Nat → Int32 → (Nat → Int32) → Int32 → Int32 → Int32 → Option (Int32)
  | 0, _, _, _, _, _ => none
  | f + 1, n, d, x1, x2, x3 => ((mX5_behind n d x1).bind fun r1 => (if r1 ≤ x3 then some x2 else (if inb x3 100 then (if inb x1 100 then (if (d x3.toNatClampNeg) = ((d x1.toNatClampNeg) + (iI 1)) then mX5_childCount_6 f n d x1 (x2 + (iI 1)) (x3 + iI 1) else mX5_childCount_6 f n d x1 (x2 + (iI 0)) (x3 + iI 1)) else none) else none)))
def mX5_childCount (n : Int32) (d : Nat → Int32) (x1 : Int32) : Option (Int32) := mX5_childCount_6 FU n d x1 (iI 0) (x1 + (iI 1))
theorem hdX5_childCount : yX5_childCount.cls = RX5 ∧ yX5_childCount.cls ≠ "java/lang/invoke/MethodHandle" ∧ yX5_childCount.cls ≠ "java/lang/invoke/VarHandle" ∧ (parseMethodDescriptor yX5_childCount.desc).map (fun d => d.parameters.length) = some 1 := by decide +kernel
theorem flX5_childCount_7 : Cond.fieldLink RX5 7 "BracketTreeModel" "depthOf" "[I" ∈ wsX5_childCount := by decide +kernel
theorem iwX5_childCount_5 : ∀ w ∈ wsX50, w ∈ wsX5_childCount := by decide +kernel
abbrev rmX5_childCount : Room := { frames := 1, cells := 0, slots := 0, locals := 22 }
set_option maxHeartbeats 4000000 in
set_option maxRecDepth 100000 in
theorem kX5_childCount_6 {p : Program} {l : Launch} {e : Env} {s : State} {m : MethodId} {args : Array Value} {below : List Frame} {meth : Method} {c : Code} {D : va_G} {cI cC : ClassId} {q : Nat → Nat} {n : Int32} {d : Nat → Int32} {lb : Nat → Int32} {kp : Int32} {kr : Nat → Int32} {ty : Int32} {tx : Nat → Int32} {rd : Nat → Int32} {rl : Nat → Int32} {wi : Int32} {r : Int32} (X : CX p s m args meth c wsX5_childCount cX5_childCount 4 (some .int) RX5) (hKK : KK D cI cC s) (hP : va_P D vwCl (wM cI cC q n d lb kp kr ty tx rd rl wi) s.heap) : ∀ (f : Nat), ∀ (x1 : Int32) (x2 : Int32) (x3 : Int32) (ls : Array Slot), lv_has ls 4 [(0, .ref (q 0)), (1, .int x1), (2, .int x2), (3, .int x3)] → mX5_childCount_6 f n d x1 x2 x3 = some r → W p l e rmX5_childCount s m args below meth c s.heap [] 0 0 (MQ below (rdQ r) args s 0 0 (fun _ => False)) (F0 m 6 ls []) := by
  have hx := X.1
  have hb := X.2.1
  intro f
  induction f with
  | zero =>
    intro x1 x2 x3 ls hl h
    exact absurd h (by unfold mX5_childCount_6; intro h; cases h)
  | succ f ih =>
    intro x1 x2 x3 ls hl h
    rw [mX5_childCount_6] at h
    refine lv_iload_n hx hb dX5_childCount_6 rfl (lv_at hl 3 rfl) ?_
    refine lv_aload_n hx hb dX5_childCount_7 rfl (lv_at hl 0 rfl) ?_
    refine lv_iload_n hx hb dX5_childCount_8 rfl (lv_at hl 1 rfl) ?_
    obtain ⟨r1, h_r1, h⟩ := obd h
    refine rcV (rest := [.int x3]) X hKK hP 1 (zX5_behind l D cI cC q n d lb kp kr ty tx rd rl wi x1 r1 h_r1) gX5_childCount_X5_behind rfl rfl rfl hdX5_behind ⟨Nat.le_of_ble_eq_true rfl, Nat.le_of_ble_eq_true rfl⟩ [0, 1, 2, 3, 4, 5, 6] rfl 0 rfl rfl rfl hl.1 rfl (Nat.le_of_ble_eq_true rfl) dX5_childCount_9 ⟨Nat.zero_le _, Nat.zero_le _⟩ ?_
    refine lv_icmp_ge (tgt := 46) hx hb dX5_childCount_12 (by decide) (fun c2 => ?_) (fun c2 => ?_)
    · replace h := ifp c2 h
      refine lv_iload_n hx hb dX5_childCount_46 rfl (lv_at hl 2 rfl) ?_
      exact rd_ret X rfl (Option.some.inj h) dX5_childCount_47
    · replace h := ifn c2 h
      refine lv_iload_n hx hb dX5_childCount_15 rfl (lv_at hl 2 rfl) ?_
      refine lv_aload_n hx hb dX5_childCount_16 rfl (lv_at hl 0 rfl) ?_
      refine va_get (D := D) (ci := 5) (v := .ref (q 1)) (C := RX5) (T := TX5) (N := 10) hx hb X.2.2.2.2.1 iwX5_childCount_5 X.2.2.2.1 hKK.1 hP 0 rfl rfl 1 (by decide) (X.2.2.2.2.1 _ flX5_childCount_7) (fun _ h9 => h9) rfl dX5_childCount_17 ?_
      refine lv_iload_n hx hb dX5_childCount_20 rfl (lv_at hl 3 rfl) ?_
      obtain ⟨g3, h⟩ := asr h
      refine va_iald hx hb hKK.1 hP 1 0 rfl rfl g3 dX5_childCount_21 ?_
      refine lv_aload_n hx hb dX5_childCount_22 rfl (lv_at hl 0 rfl) ?_
      refine va_get (D := D) (ci := 5) (v := .ref (q 1)) (C := RX5) (T := TX5) (N := 10) hx hb X.2.2.2.2.1 iwX5_childCount_5 X.2.2.2.1 hKK.1 hP 0 rfl rfl 1 (by decide) (X.2.2.2.2.1 _ flX5_childCount_7) (fun _ h9 => h9) rfl dX5_childCount_23 ?_
      refine lv_iload_n hx hb dX5_childCount_26 rfl (lv_at hl 1 rfl) ?_
      obtain ⟨g4, h⟩ := asr h
      refine va_iald hx hb hKK.1 hP 1 0 rfl rfl g4 dX5_childCount_27 ?_
      refine lv_iconst (v := iI 1) hx hb dX5_childCount_28 rfl ?_
      refine lv_iadd hx hb dX5_childCount_29 ?_
      refine lv_icmp_ne (tgt := 37) hx hb dX5_childCount_30 (by decide) (fun c5 => ?_) (fun c5 => ?_)
      · replace h := ifn c5 h
        refine lv_iconst (v := iI 0) hx hb dX5_childCount_37 rfl ?_
        refine lv_iadd hx hb dX5_childCount_38 ?_
        refine lv_istore_n (lv' := [(2, .int (x2 + (iI 0))), (0, .ref (q 0)), (1, .int x1), (3, .int x3)]) hx hb dX5_childCount_39 rfl hl (by decide) rfl (fun ls hl => ?_)
        refine lv_iinc (v := (x3 + iI 1)) (lv' := [(3, .int (x3 + iI 1)), (2, .int (x2 + (iI 0))), (0, .ref (q 0)), (1, .int x1)]) hx hb dX5_childCount_40 hl (k := 3) rfl rfl (by decide) rfl (fun ls hl => ?_)
        refine lv_goto (tgt := 6) hx hb dX5_childCount_43 (by decide) ?_
        exact ih x1 (x2 + (iI 0)) (x3 + iI 1) ls (lv_sub hl [2, 3, 1, 0] rfl) h
      · replace h := ifp c5 h
        refine lv_iconst (v := iI 1) hx hb dX5_childCount_33 rfl ?_
        refine lv_goto (tgt := 38) hx hb dX5_childCount_34 (by decide) ?_
        refine lv_iadd hx hb dX5_childCount_38 ?_
        refine lv_istore_n (lv' := [(2, .int (x2 + (iI 1))), (0, .ref (q 0)), (1, .int x1), (3, .int x3)]) hx hb dX5_childCount_39 rfl hl (by decide) rfl (fun ls hl => ?_)
        refine lv_iinc (v := (x3 + iI 1)) (lv' := [(3, .int (x3 + iI 1)), (2, .int (x2 + (iI 1))), (0, .ref (q 0)), (1, .int x1)]) hx hb dX5_childCount_40 hl (k := 3) rfl rfl (by decide) rfl (fun ls hl => ?_)
        refine lv_goto (tgt := 6) hx hb dX5_childCount_43 (by decide) ?_
        exact ih x1 (x2 + (iI 1)) (x3 + iI 1) ls (lv_sub hl [2, 3, 1, 0] rfl) h
set_option maxHeartbeats 4000000 in
set_option maxRecDepth 100000 in
theorem zX5_childCount (l : Launch) (D : va_G) (cI cC : ClassId) (q : Nat → Nat) (n : Int32) (d : Nat → Int32) (lb : Nat → Int32) (kp : Int32) (kr : Nat → Int32) (ty : Int32) (tx : Nat → Int32) (rd : Nat → Int32) (rl : Nat → Int32) (wi : Int32) (x1 : Int32) (r : Int32) (h : mX5_childCount n d x1 = some r) : Met l yX5_childCount wsX5_childCount rmX5_childCount (va_Pc [.ref (q 0), .int x1] (BW D cI cC (wM cI cC q n d lb kp kr ty tx rd rl wi))) (rdQ r) 0 0 (fun _ => False) := by
  refine MetI RX5 (by decide +kernel) rfl rfl (Nat.le_of_ble_eq_true rfl) ?_
  intro p e s m below meth c ls X _ hB hl
  obtain ⟨hP, hKK⟩ := hB
  have hx := X.1
  have hb := X.2.1
  replace hl : lv_has ls 4 [(0, .ref (q 0)), (1, .int x1)] := hl
  unfold mX5_childCount at h
  refine lv_iconst (v := iI 0) hx hb dX5_childCount_0 rfl ?_
  refine lv_istore_n (lv' := [(2, .int (iI 0)), (0, .ref (q 0)), (1, .int x1)]) hx hb dX5_childCount_1 rfl hl (by decide) rfl (fun ls hl => ?_)
  refine lv_iload_n hx hb dX5_childCount_2 rfl (lv_at hl 2 rfl) ?_
  refine lv_iconst (v := iI 1) hx hb dX5_childCount_3 rfl ?_
  refine lv_iadd hx hb dX5_childCount_4 ?_
  refine lv_istore_n (lv' := [(3, .int (x1 + (iI 1))), (2, .int (iI 0)), (0, .ref (q 0)), (1, .int x1)]) hx hb dX5_childCount_5 rfl hl (by decide) rfl (fun ls hl => ?_)
  exact kX5_childCount_6 X hKK hP FU x1 (iI 0) (x1 + (iI 1)) ls (lv_sub hl [2, 3, 1, 0] rfl) h
def mX5_childOrEnd_14 : Nat → Int32 → (Nat → Int32) → Int32 → Int32 → Int32 → Int32 → Int32 → Option (Int32)
  | 0, _, _, _, _, _, _, _ => none
  | f + 1, n, d, x1, x2, x3, x4, x5 => (if x4 ≤ x5 then some x4 else (if inb x5 100 then (if inb x1 100 then (if (d x5.toNatClampNeg) = ((d x1.toNatClampNeg) + (iI 1)) then (if x3 = x2 then some x5 else mX5_childOrEnd_14 f n d x1 x2 (x3 + iI 1) x4 (x5 + iI 1)) else mX5_childOrEnd_14 f n d x1 x2 x3 x4 (x5 + iI 1)) else none) else none))
def mX5_childOrEnd (n : Int32) (d : Nat → Int32) (x1 : Int32) (x2 : Int32) : Option (Int32) := ((mX5_behind n d x1).bind fun r1 => mX5_childOrEnd_14 FU n d x1 x2 (iI 0) r1 (x1 + (iI 1)))
theorem hdX5_childOrEnd : yX5_childOrEnd.cls = RX5 ∧ yX5_childOrEnd.cls ≠ "java/lang/invoke/MethodHandle" ∧ yX5_childOrEnd.cls ≠ "java/lang/invoke/VarHandle" ∧ (parseMethodDescriptor yX5_childOrEnd.desc).map (fun d => d.parameters.length) = some 2 := by decide +kernel
theorem flX5_childOrEnd_7 : Cond.fieldLink RX5 7 "BracketTreeModel" "depthOf" "[I" ∈ wsX5_childOrEnd := by decide +kernel
theorem iwX5_childOrEnd_5 : ∀ w ∈ wsX50, w ∈ wsX5_childOrEnd := by decide +kernel
abbrev rmX5_childOrEnd : Room := { frames := 1, cells := 0, slots := 0, locals := 22 }
set_option maxHeartbeats 4000000 in
set_option maxRecDepth 100000 in
theorem kX5_childOrEnd_14 {p : Program} {l : Launch} {e : Env} {s : State} {m : MethodId} {args : Array Value} {below : List Frame} {meth : Method} {c : Code} {D : va_G} {cI cC : ClassId} {q : Nat → Nat} {n : Int32} {d : Nat → Int32} {lb : Nat → Int32} {kp : Int32} {kr : Nat → Int32} {ty : Int32} {tx : Nat → Int32} {rd : Nat → Int32} {rl : Nat → Int32} {wi : Int32} {r : Int32} (X : CX p s m args meth c wsX5_childOrEnd cX5_childOrEnd 6 (some .int) RX5) (hKK : KK D cI cC s) (hP : va_P D vwCl (wM cI cC q n d lb kp kr ty tx rd rl wi) s.heap) : ∀ (f : Nat), ∀ (x1 : Int32) (x2 : Int32) (x3 : Int32) (x4 : Int32) (x5 : Int32) (ls : Array Slot), lv_has ls 6 [(0, .ref (q 0)), (1, .int x1), (2, .int x2), (3, .int x3), (4, .int x4), (5, .int x5)] → mX5_childOrEnd_14 f n d x1 x2 x3 x4 x5 = some r → W p l e rmX5_childOrEnd s m args below meth c s.heap [] 0 0 (MQ below (rdQ r) args s 0 0 (fun _ => False)) (F0 m 14 ls []) := by
  have hx := X.1
  have hb := X.2.1
  intro f
  induction f with
  | zero =>
    intro x1 x2 x3 x4 x5 ls hl h
    exact absurd h (by unfold mX5_childOrEnd_14; intro h; cases h)
  | succ f ih =>
    intro x1 x2 x3 x4 x5 ls hl h
    rw [mX5_childOrEnd_14] at h
    refine lv_iload hx hb dX5_childOrEnd_14 (lv_at hl 5 rfl) ?_
    refine lv_iload hx hb dX5_childOrEnd_16 (lv_at hl 4 rfl) ?_
    refine lv_icmp_ge (tgt := 56) hx hb dX5_childOrEnd_18 (by decide) (fun c2 => ?_) (fun c2 => ?_)
    · replace h := ifp c2 h
      refine lv_iload hx hb dX5_childOrEnd_56 (lv_at hl 4 rfl) ?_
      exact rd_ret X rfl (Option.some.inj h) dX5_childOrEnd_58
    · replace h := ifn c2 h
      refine lv_aload_n hx hb dX5_childOrEnd_21 rfl (lv_at hl 0 rfl) ?_
      refine va_get (D := D) (ci := 5) (v := .ref (q 1)) (C := RX5) (T := TX5) (N := 10) hx hb X.2.2.2.2.1 iwX5_childOrEnd_5 X.2.2.2.1 hKK.1 hP 0 rfl rfl 1 (by decide) (X.2.2.2.2.1 _ flX5_childOrEnd_7) (fun _ h9 => h9) rfl dX5_childOrEnd_22 ?_
      refine lv_iload hx hb dX5_childOrEnd_25 (lv_at hl 5 rfl) ?_
      obtain ⟨g3, h⟩ := asr h
      refine va_iald hx hb hKK.1 hP 1 0 rfl rfl g3 dX5_childOrEnd_27 ?_
      refine lv_aload_n hx hb dX5_childOrEnd_28 rfl (lv_at hl 0 rfl) ?_
      refine va_get (D := D) (ci := 5) (v := .ref (q 1)) (C := RX5) (T := TX5) (N := 10) hx hb X.2.2.2.2.1 iwX5_childOrEnd_5 X.2.2.2.1 hKK.1 hP 0 rfl rfl 1 (by decide) (X.2.2.2.2.1 _ flX5_childOrEnd_7) (fun _ h9 => h9) rfl dX5_childOrEnd_29 ?_
      refine lv_iload_n hx hb dX5_childOrEnd_32 rfl (lv_at hl 1 rfl) ?_
      obtain ⟨g4, h⟩ := asr h
      refine va_iald hx hb hKK.1 hP 1 0 rfl rfl g4 dX5_childOrEnd_33 ?_
      refine lv_iconst (v := iI 1) hx hb dX5_childOrEnd_34 rfl ?_
      refine lv_iadd hx hb dX5_childOrEnd_35 ?_
      refine lv_icmp_ne (tgt := 50) hx hb dX5_childOrEnd_36 (by decide) (fun c5 => ?_) (fun c5 => ?_)
      · replace h := ifn c5 h
        refine lv_iinc (v := (x5 + iI 1)) (lv' := [(5, .int (x5 + iI 1)), (0, .ref (q 0)), (1, .int x1), (2, .int x2), (3, .int x3), (4, .int x4)]) hx hb dX5_childOrEnd_50 hl (k := 5) rfl rfl (by decide) rfl (fun ls hl => ?_)
        refine lv_goto (tgt := 14) hx hb dX5_childOrEnd_53 (by decide) ?_
        exact ih x1 x2 x3 x4 (x5 + iI 1) ls (lv_sub hl [1, 2, 3, 4, 5, 0] rfl) h
      · replace h := ifp c5 h
        refine lv_iload_n hx hb dX5_childOrEnd_39 rfl (lv_at hl 3 rfl) ?_
        refine lv_iload_n hx hb dX5_childOrEnd_40 rfl (lv_at hl 2 rfl) ?_
        refine lv_icmp_ne (tgt := 47) hx hb dX5_childOrEnd_41 (by decide) (fun c6 => ?_) (fun c6 => ?_)
        · replace h := ifn c6 h
          refine lv_iinc (v := (x3 + iI 1)) (lv' := [(3, .int (x3 + iI 1)), (0, .ref (q 0)), (1, .int x1), (2, .int x2), (4, .int x4), (5, .int x5)]) hx hb dX5_childOrEnd_47 hl (k := 3) rfl rfl (by decide) rfl (fun ls hl => ?_)
          refine lv_iinc (v := (x5 + iI 1)) (lv' := [(5, .int (x5 + iI 1)), (3, .int (x3 + iI 1)), (0, .ref (q 0)), (1, .int x1), (2, .int x2), (4, .int x4)]) hx hb dX5_childOrEnd_50 hl (k := 5) rfl rfl (by decide) rfl (fun ls hl => ?_)
          refine lv_goto (tgt := 14) hx hb dX5_childOrEnd_53 (by decide) ?_
          exact ih x1 x2 (x3 + iI 1) x4 (x5 + iI 1) ls (lv_sub hl [2, 3, 4, 1, 5, 0] rfl) h
        · replace h := ifp c6 h
          refine lv_iload hx hb dX5_childOrEnd_44 (lv_at hl 5 rfl) ?_
          exact rd_ret X rfl (Option.some.inj h) dX5_childOrEnd_46
set_option maxHeartbeats 4000000 in
set_option maxRecDepth 100000 in
theorem zX5_childOrEnd (l : Launch) (D : va_G) (cI cC : ClassId) (q : Nat → Nat) (n : Int32) (d : Nat → Int32) (lb : Nat → Int32) (kp : Int32) (kr : Nat → Int32) (ty : Int32) (tx : Nat → Int32) (rd : Nat → Int32) (rl : Nat → Int32) (wi : Int32) (x1 : Int32) (x2 : Int32) (r : Int32) (h : mX5_childOrEnd n d x1 x2 = some r) : Met l yX5_childOrEnd wsX5_childOrEnd rmX5_childOrEnd (va_Pc [.ref (q 0), .int x1, .int x2] (BW D cI cC (wM cI cC q n d lb kp kr ty tx rd rl wi))) (rdQ r) 0 0 (fun _ => False) := by
  refine MetI RX5 (by decide +kernel) rfl rfl (Nat.le_of_ble_eq_true rfl) ?_
  intro p e s m below meth c ls X _ hB hl
  obtain ⟨hP, hKK⟩ := hB
  have hx := X.1
  have hb := X.2.1
  replace hl : lv_has ls 6 [(0, .ref (q 0)), (1, .int x1), (2, .int x2)] := hl
  unfold mX5_childOrEnd at h
  refine lv_iconst (v := iI 0) hx hb dX5_childOrEnd_0 rfl ?_
  refine lv_istore_n (lv' := [(3, .int (iI 0)), (0, .ref (q 0)), (1, .int x1), (2, .int x2)]) hx hb dX5_childOrEnd_1 rfl hl (by decide) rfl (fun ls hl => ?_)
  refine lv_aload_n hx hb dX5_childOrEnd_2 rfl (lv_at hl 1 rfl) ?_
  refine lv_iload_n hx hb dX5_childOrEnd_3 rfl (lv_at hl 2 rfl) ?_
  obtain ⟨r1, h_r1, h⟩ := obd h
  refine rcV (rest := []) X hKK hP 1 (zX5_behind l D cI cC q n d lb kp kr ty tx rd rl wi x1 r1 h_r1) gX5_childOrEnd_X5_behind rfl rfl rfl hdX5_behind ⟨Nat.le_of_ble_eq_true rfl, Nat.le_of_ble_eq_true rfl⟩ [0, 1, 2, 3, 4, 5, 6] rfl 0 rfl rfl rfl hl.1 rfl (Nat.le_of_ble_eq_true rfl) dX5_childOrEnd_4 ⟨Nat.zero_le _, Nat.zero_le _⟩ ?_
  refine lv_istore (lv' := [(4, .int r1), (3, .int (iI 0)), (0, .ref (q 0)), (1, .int x1), (2, .int x2)]) hx hb dX5_childOrEnd_7 hl (by decide) rfl (fun ls hl => ?_)
  refine lv_iload_n hx hb dX5_childOrEnd_9 rfl (lv_at hl 3 rfl) ?_
  refine lv_iconst (v := iI 1) hx hb dX5_childOrEnd_10 rfl ?_
  refine lv_iadd hx hb dX5_childOrEnd_11 ?_
  refine lv_istore (lv' := [(5, .int (x1 + (iI 1))), (4, .int r1), (3, .int (iI 0)), (0, .ref (q 0)), (1, .int x1), (2, .int x2)]) hx hb dX5_childOrEnd_12 hl (by decide) rfl (fun ls hl => ?_)
  exact kX5_childOrEnd_14 X hKK hP FU x1 x2 (iI 0) r1 (x1 + (iI 1)) ls (lv_sub hl [3, 4, 5, 2, 1, 0] rfl) h
def mX5_heightOf_9 : Nat → Int32 → (Nat → Int32) → Int32 → Int32 → Int32 → Option (Int32)
  | 0, _, _, _, _, _ => none
  | f + 1, n, d, x1, x2, x3 => ((mX5_behind n d x1).bind fun r2 => (if r2 ≤ x3 then (if inb x1 100 then some (x2 - (d x1.toNatClampNeg)) else none) else (if inb x3 100 then (if (d x3.toNatClampNeg) ≤ x2 then mX5_heightOf_9 f n d x1 x2 (x3 + iI 1) else (if inb x3 100 then mX5_heightOf_9 f n d x1 (d x3.toNatClampNeg) (x3 + iI 1) else none)) else none)))
def mX5_heightOf (n : Int32) (d : Nat → Int32) (x1 : Int32) : Option (Int32) := (if inb x1 100 then mX5_heightOf_9 FU n d x1 (d x1.toNatClampNeg) x1 else none)
theorem hdX5_heightOf : yX5_heightOf.cls = RX5 ∧ yX5_heightOf.cls ≠ "java/lang/invoke/MethodHandle" ∧ yX5_heightOf.cls ≠ "java/lang/invoke/VarHandle" ∧ (parseMethodDescriptor yX5_heightOf.desc).map (fun d => d.parameters.length) = some 1 := by decide +kernel
theorem flX5_heightOf_7 : Cond.fieldLink RX5 7 "BracketTreeModel" "depthOf" "[I" ∈ wsX5_heightOf := by decide +kernel
theorem iwX5_heightOf_5 : ∀ w ∈ wsX50, w ∈ wsX5_heightOf := by decide +kernel
abbrev rmX5_heightOf : Room := { frames := 1, cells := 0, slots := 0, locals := 22 }
set_option maxHeartbeats 4000000 in
set_option maxRecDepth 100000 in
theorem kX5_heightOf_9 {p : Program} {l : Launch} {e : Env} {s : State} {m : MethodId} {args : Array Value} {below : List Frame} {meth : Method} {c : Code} {D : va_G} {cI cC : ClassId} {q : Nat → Nat} {n : Int32} {d : Nat → Int32} {lb : Nat → Int32} {kp : Int32} {kr : Nat → Int32} {ty : Int32} {tx : Nat → Int32} {rd : Nat → Int32} {rl : Nat → Int32} {wi : Int32} {r : Int32} (X : CX p s m args meth c wsX5_heightOf cX5_heightOf 4 (some .int) RX5) (hKK : KK D cI cC s) (hP : va_P D vwCl (wM cI cC q n d lb kp kr ty tx rd rl wi) s.heap) : ∀ (f : Nat), ∀ (x1 : Int32) (x2 : Int32) (x3 : Int32) (ls : Array Slot), lv_has ls 4 [(0, .ref (q 0)), (1, .int x1), (2, .int x2), (3, .int x3)] → mX5_heightOf_9 f n d x1 x2 x3 = some r → W p l e rmX5_heightOf s m args below meth c s.heap [] 0 0 (MQ below (rdQ r) args s 0 0 (fun _ => False)) (F0 m 9 ls []) := by
  have hx := X.1
  have hb := X.2.1
  intro f
  induction f with
  | zero =>
    intro x1 x2 x3 ls hl h
    exact absurd h (by unfold mX5_heightOf_9; intro h; cases h)
  | succ f ih =>
    intro x1 x2 x3 ls hl h
    rw [mX5_heightOf_9] at h
    refine lv_iload_n hx hb dX5_heightOf_9 rfl (lv_at hl 3 rfl) ?_
    refine lv_aload_n hx hb dX5_heightOf_10 rfl (lv_at hl 0 rfl) ?_
    refine lv_iload_n hx hb dX5_heightOf_11 rfl (lv_at hl 1 rfl) ?_
    obtain ⟨r2, h_r2, h⟩ := obd h
    refine rcV (rest := [.int x3]) X hKK hP 1 (zX5_behind l D cI cC q n d lb kp kr ty tx rd rl wi x1 r2 h_r2) gX5_heightOf_X5_behind rfl rfl rfl hdX5_behind ⟨Nat.le_of_ble_eq_true rfl, Nat.le_of_ble_eq_true rfl⟩ [0, 1, 2, 3, 4, 5, 6] rfl 0 rfl rfl rfl hl.1 rfl (Nat.le_of_ble_eq_true rfl) dX5_heightOf_12 ⟨Nat.zero_le _, Nat.zero_le _⟩ ?_
    refine lv_icmp_ge (tgt := 45) hx hb dX5_heightOf_15 (by decide) (fun c3 => ?_) (fun c3 => ?_)
    · replace h := ifp c3 h
      refine lv_iload_n hx hb dX5_heightOf_45 rfl (lv_at hl 2 rfl) ?_
      refine lv_aload_n hx hb dX5_heightOf_46 rfl (lv_at hl 0 rfl) ?_
      refine va_get (D := D) (ci := 5) (v := .ref (q 1)) (C := RX5) (T := TX5) (N := 10) hx hb X.2.2.2.2.1 iwX5_heightOf_5 X.2.2.2.1 hKK.1 hP 0 rfl rfl 1 (by decide) (X.2.2.2.2.1 _ flX5_heightOf_7) (fun _ h9 => h9) rfl dX5_heightOf_47 ?_
      refine lv_iload_n hx hb dX5_heightOf_50 rfl (lv_at hl 1 rfl) ?_
      obtain ⟨g4, h⟩ := asr h
      refine va_iald hx hb hKK.1 hP 1 0 rfl rfl g4 dX5_heightOf_51 ?_
      refine lv_isub hx hb dX5_heightOf_52 ?_
      exact rd_ret X rfl (Option.some.inj h) dX5_heightOf_53
    · replace h := ifn c3 h
      refine lv_aload_n hx hb dX5_heightOf_18 rfl (lv_at hl 0 rfl) ?_
      refine va_get (D := D) (ci := 5) (v := .ref (q 1)) (C := RX5) (T := TX5) (N := 10) hx hb X.2.2.2.2.1 iwX5_heightOf_5 X.2.2.2.1 hKK.1 hP 0 rfl rfl 1 (by decide) (X.2.2.2.2.1 _ flX5_heightOf_7) (fun _ h9 => h9) rfl dX5_heightOf_19 ?_
      refine lv_iload_n hx hb dX5_heightOf_22 rfl (lv_at hl 3 rfl) ?_
      obtain ⟨g5, h⟩ := asr h
      refine va_iald hx hb hKK.1 hP 1 0 rfl rfl g5 dX5_heightOf_23 ?_
      refine lv_iload_n hx hb dX5_heightOf_24 rfl (lv_at hl 2 rfl) ?_
      refine lv_icmp_le (tgt := 37) hx hb dX5_heightOf_25 (by decide) (fun c6 => ?_) (fun c6 => ?_)
      · replace h := ifp c6 h
        refine lv_iload_n hx hb dX5_heightOf_37 rfl (lv_at hl 2 rfl) ?_
        refine lv_istore_n (lv' := [(2, .int x2), (0, .ref (q 0)), (1, .int x1), (3, .int x3)]) hx hb dX5_heightOf_38 rfl hl (by decide) rfl (fun ls hl => ?_)
        refine lv_iinc (v := (x3 + iI 1)) (lv' := [(3, .int (x3 + iI 1)), (2, .int x2), (0, .ref (q 0)), (1, .int x1)]) hx hb dX5_heightOf_39 hl (k := 3) rfl rfl (by decide) rfl (fun ls hl => ?_)
        refine lv_goto (tgt := 9) hx hb dX5_heightOf_42 (by decide) ?_
        exact ih x1 x2 (x3 + iI 1) ls (lv_sub hl [2, 3, 1, 0] rfl) h
      · replace h := ifn c6 h
        refine lv_aload_n hx hb dX5_heightOf_28 rfl (lv_at hl 0 rfl) ?_
        refine va_get (D := D) (ci := 5) (v := .ref (q 1)) (C := RX5) (T := TX5) (N := 10) hx hb X.2.2.2.2.1 iwX5_heightOf_5 X.2.2.2.1 hKK.1 hP 0 rfl rfl 1 (by decide) (X.2.2.2.2.1 _ flX5_heightOf_7) (fun _ h9 => h9) rfl dX5_heightOf_29 ?_
        refine lv_iload_n hx hb dX5_heightOf_32 rfl (lv_at hl 3 rfl) ?_
        obtain ⟨g7, h⟩ := asr h
        refine va_iald hx hb hKK.1 hP 1 0 rfl rfl g7 dX5_heightOf_33 ?_
        refine lv_goto (tgt := 38) hx hb dX5_heightOf_34 (by decide) ?_
        refine lv_istore_n (lv' := [(2, .int (d x3.toNatClampNeg)), (0, .ref (q 0)), (1, .int x1), (3, .int x3)]) hx hb dX5_heightOf_38 rfl hl (by decide) rfl (fun ls hl => ?_)
        refine lv_iinc (v := (x3 + iI 1)) (lv' := [(3, .int (x3 + iI 1)), (2, .int (d x3.toNatClampNeg)), (0, .ref (q 0)), (1, .int x1)]) hx hb dX5_heightOf_39 hl (k := 3) rfl rfl (by decide) rfl (fun ls hl => ?_)
        refine lv_goto (tgt := 9) hx hb dX5_heightOf_42 (by decide) ?_
        exact ih x1 (d x3.toNatClampNeg) (x3 + iI 1) ls (lv_sub hl [2, 3, 1, 0] rfl) h
set_option maxHeartbeats 4000000 in
set_option maxRecDepth 100000 in
theorem zX5_heightOf (l : Launch) (D : va_G) (cI cC : ClassId) (q : Nat → Nat) (n : Int32) (d : Nat → Int32) (lb : Nat → Int32) (kp : Int32) (kr : Nat → Int32) (ty : Int32) (tx : Nat → Int32) (rd : Nat → Int32) (rl : Nat → Int32) (wi : Int32) (x1 : Int32) (r : Int32) (h : mX5_heightOf n d x1 = some r) : Met l yX5_heightOf wsX5_heightOf rmX5_heightOf (va_Pc [.ref (q 0), .int x1] (BW D cI cC (wM cI cC q n d lb kp kr ty tx rd rl wi))) (rdQ r) 0 0 (fun _ => False) := by
  refine MetI RX5 (by decide +kernel) rfl rfl (Nat.le_of_ble_eq_true rfl) ?_
  intro p e s m below meth c ls X _ hB hl
  obtain ⟨hP, hKK⟩ := hB
  have hx := X.1
  have hb := X.2.1
  replace hl : lv_has ls 4 [(0, .ref (q 0)), (1, .int x1)] := hl
  unfold mX5_heightOf at h
  refine lv_aload_n hx hb dX5_heightOf_0 rfl (lv_at hl 0 rfl) ?_
  refine va_get (D := D) (ci := 5) (v := .ref (q 1)) (C := RX5) (T := TX5) (N := 10) hx hb X.2.2.2.2.1 iwX5_heightOf_5 X.2.2.2.1 hKK.1 hP 0 rfl rfl 1 (by decide) (X.2.2.2.2.1 _ flX5_heightOf_7) (fun _ h9 => h9) rfl dX5_heightOf_1 ?_
  refine lv_iload_n hx hb dX5_heightOf_4 rfl (lv_at hl 1 rfl) ?_
  obtain ⟨g1, h⟩ := asr h
  refine va_iald hx hb hKK.1 hP 1 0 rfl rfl g1 dX5_heightOf_5 ?_
  refine lv_istore_n (lv' := [(2, .int (d x1.toNatClampNeg)), (0, .ref (q 0)), (1, .int x1)]) hx hb dX5_heightOf_6 rfl hl (by decide) rfl (fun ls hl => ?_)
  refine lv_iload_n hx hb dX5_heightOf_7 rfl (lv_at hl 2 rfl) ?_
  refine lv_istore_n (lv' := [(3, .int x1), (2, .int (d x1.toNatClampNeg)), (0, .ref (q 0)), (1, .int x1)]) hx hb dX5_heightOf_8 rfl hl (by decide) rfl (fun ls hl => ?_)
  exact kX5_heightOf_9 X hKK hP FU x1 (d x1.toNatClampNeg) x1 ls (lv_sub hl [2, 3, 1, 0] rfl) h
def mX5_sibling_4 : Nat → (Nat → Int32) → Int32 → Int32 → Option (Int32)
  | 0, _, _, _ => none
  | f + 1, d, x1, x2 => (if x2 < 0 then (if x2 < 0 then some (iI (-5)) else (if inb x2 100 then (if inb x1 100 then (if (d x2.toNatClampNeg) = (d x1.toNatClampNeg) then some x2 else some (iI (-5))) else none) else none)) else (if inb x2 100 then (if inb x1 100 then (if (d x2.toNatClampNeg) ≤ (d x1.toNatClampNeg) then (if x2 < 0 then some (iI (-5)) else (if inb x2 100 then (if inb x1 100 then (if (d x2.toNatClampNeg) = (d x1.toNatClampNeg) then some x2 else some (iI (-5))) else none) else none)) else mX5_sibling_4 f d x1 (x2 + iI (-1))) else none) else none))
def mX5_sibling (d : Nat → Int32) (x1 : Int32) : Option (Int32) := mX5_sibling_4 FU d x1 (x1 - (iI 1))
theorem hdX5_sibling : yX5_sibling.cls = RX5 ∧ yX5_sibling.cls ≠ "java/lang/invoke/MethodHandle" ∧ yX5_sibling.cls ≠ "java/lang/invoke/VarHandle" ∧ (parseMethodDescriptor yX5_sibling.desc).map (fun d => d.parameters.length) = some 1 := by decide +kernel
theorem flX5_sibling_7 : Cond.fieldLink RX5 7 "BracketTreeModel" "depthOf" "[I" ∈ wsX5_sibling := by decide +kernel
theorem iwX5_sibling_5 : ∀ w ∈ wsX50, w ∈ wsX5_sibling := by decide +kernel
abbrev rmX5_sibling : Room := { frames := 0, cells := 0, slots := 0, locals := 0 }
set_option maxHeartbeats 4000000 in
set_option maxRecDepth 100000 in
theorem kX5_sibling_4 {p : Program} {l : Launch} {e : Env} {s : State} {m : MethodId} {args : Array Value} {below : List Frame} {meth : Method} {c : Code} {D : va_G} {cI cC : ClassId} {q : Nat → Nat} {n : Int32} {d : Nat → Int32} {lb : Nat → Int32} {kp : Int32} {kr : Nat → Int32} {ty : Int32} {tx : Nat → Int32} {rd : Nat → Int32} {rl : Nat → Int32} {wi : Int32} {r : Int32} (X : CX p s m args meth c wsX5_sibling cX5_sibling 3 (some .int) RX5) (hKK : KK D cI cC s) (hP : va_P D vwCl (wM cI cC q n d lb kp kr ty tx rd rl wi) s.heap) : ∀ (f : Nat), ∀ (x1 : Int32) (x2 : Int32) (ls : Array Slot), lv_has ls 3 [(0, .ref (q 0)), (1, .int x1), (2, .int x2)] → mX5_sibling_4 f d x1 x2 = some r → W p l e rmX5_sibling s m args below meth c s.heap [] 0 0 (MQ below (rdQ r) args s 0 0 (fun _ => False)) (F0 m 4 ls []) := by
  have hx := X.1
  have hb := X.2.1
  intro f
  induction f with
  | zero =>
    intro x1 x2 ls hl h
    exact absurd h (by unfold mX5_sibling_4; intro h; cases h)
  | succ f ih =>
    intro x1 x2 ls hl h
    rw [mX5_sibling_4] at h
    refine lv_iload_n hx hb dX5_sibling_4 rfl (lv_at hl 2 rfl) ?_
    refine lv_if_lt (tgt := 29) hx hb dX5_sibling_5 (by decide) (fun c1 => ?_) (fun c1 => ?_)
    · replace h := ifp c1 h
      refine lv_iload_n hx hb dX5_sibling_29 rfl (lv_at hl 2 rfl) ?_
      refine lv_if_lt (tgt := 52) hx hb dX5_sibling_30 (by decide) (fun c2 => ?_) (fun c2 => ?_)
      · replace h := ifp c2 h
        refine lv_bipush (v := iI (-5)) hx hb dX5_sibling_52 (by decide) ?_
        exact rd_ret X rfl (Option.some.inj h) dX5_sibling_54
      · replace h := ifn c2 h
        refine lv_aload_n hx hb dX5_sibling_33 rfl (lv_at hl 0 rfl) ?_
        refine va_get (D := D) (ci := 5) (v := .ref (q 1)) (C := RX5) (T := TX5) (N := 10) hx hb X.2.2.2.2.1 iwX5_sibling_5 X.2.2.2.1 hKK.1 hP 0 rfl rfl 1 (by decide) (X.2.2.2.2.1 _ flX5_sibling_7) (fun _ h9 => h9) rfl dX5_sibling_34 ?_
        refine lv_iload_n hx hb dX5_sibling_37 rfl (lv_at hl 2 rfl) ?_
        obtain ⟨g3, h⟩ := asr h
        refine va_iald hx hb hKK.1 hP 1 0 rfl rfl g3 dX5_sibling_38 ?_
        refine lv_aload_n hx hb dX5_sibling_39 rfl (lv_at hl 0 rfl) ?_
        refine va_get (D := D) (ci := 5) (v := .ref (q 1)) (C := RX5) (T := TX5) (N := 10) hx hb X.2.2.2.2.1 iwX5_sibling_5 X.2.2.2.1 hKK.1 hP 0 rfl rfl 1 (by decide) (X.2.2.2.2.1 _ flX5_sibling_7) (fun _ h9 => h9) rfl dX5_sibling_40 ?_
        refine lv_iload_n hx hb dX5_sibling_43 rfl (lv_at hl 1 rfl) ?_
        obtain ⟨g4, h⟩ := asr h
        refine va_iald hx hb hKK.1 hP 1 0 rfl rfl g4 dX5_sibling_44 ?_
        refine lv_icmp_ne (tgt := 52) hx hb dX5_sibling_45 (by decide) (fun c5 => ?_) (fun c5 => ?_)
        · replace h := ifn c5 h
          refine lv_bipush (v := iI (-5)) hx hb dX5_sibling_52 (by decide) ?_
          exact rd_ret X rfl (Option.some.inj h) dX5_sibling_54
        · replace h := ifp c5 h
          refine lv_iload_n hx hb dX5_sibling_48 rfl (lv_at hl 2 rfl) ?_
          refine lv_goto (tgt := 54) hx hb dX5_sibling_49 (by decide) ?_
          exact rd_ret X rfl (Option.some.inj h) dX5_sibling_54
    · replace h := ifn c1 h
      refine lv_aload_n hx hb dX5_sibling_8 rfl (lv_at hl 0 rfl) ?_
      refine va_get (D := D) (ci := 5) (v := .ref (q 1)) (C := RX5) (T := TX5) (N := 10) hx hb X.2.2.2.2.1 iwX5_sibling_5 X.2.2.2.1 hKK.1 hP 0 rfl rfl 1 (by decide) (X.2.2.2.2.1 _ flX5_sibling_7) (fun _ h9 => h9) rfl dX5_sibling_9 ?_
      refine lv_iload_n hx hb dX5_sibling_12 rfl (lv_at hl 2 rfl) ?_
      obtain ⟨g6, h⟩ := asr h
      refine va_iald hx hb hKK.1 hP 1 0 rfl rfl g6 dX5_sibling_13 ?_
      refine lv_aload_n hx hb dX5_sibling_14 rfl (lv_at hl 0 rfl) ?_
      refine va_get (D := D) (ci := 5) (v := .ref (q 1)) (C := RX5) (T := TX5) (N := 10) hx hb X.2.2.2.2.1 iwX5_sibling_5 X.2.2.2.1 hKK.1 hP 0 rfl rfl 1 (by decide) (X.2.2.2.2.1 _ flX5_sibling_7) (fun _ h9 => h9) rfl dX5_sibling_15 ?_
      refine lv_iload_n hx hb dX5_sibling_18 rfl (lv_at hl 1 rfl) ?_
      obtain ⟨g7, h⟩ := asr h
      refine va_iald hx hb hKK.1 hP 1 0 rfl rfl g7 dX5_sibling_19 ?_
      refine lv_icmp_le (tgt := 29) hx hb dX5_sibling_20 (by decide) (fun c8 => ?_) (fun c8 => ?_)
      · replace h := ifp c8 h
        refine lv_iload_n hx hb dX5_sibling_29 rfl (lv_at hl 2 rfl) ?_
        refine lv_if_lt (tgt := 52) hx hb dX5_sibling_30 (by decide) (fun c9 => ?_) (fun c9 => ?_)
        · replace h := ifp c9 h
          refine lv_bipush (v := iI (-5)) hx hb dX5_sibling_52 (by decide) ?_
          exact rd_ret X rfl (Option.some.inj h) dX5_sibling_54
        · replace h := ifn c9 h
          refine lv_aload_n hx hb dX5_sibling_33 rfl (lv_at hl 0 rfl) ?_
          refine va_get (D := D) (ci := 5) (v := .ref (q 1)) (C := RX5) (T := TX5) (N := 10) hx hb X.2.2.2.2.1 iwX5_sibling_5 X.2.2.2.1 hKK.1 hP 0 rfl rfl 1 (by decide) (X.2.2.2.2.1 _ flX5_sibling_7) (fun _ h9 => h9) rfl dX5_sibling_34 ?_
          refine lv_iload_n hx hb dX5_sibling_37 rfl (lv_at hl 2 rfl) ?_
          obtain ⟨g10, h⟩ := asr h
          refine va_iald hx hb hKK.1 hP 1 0 rfl rfl g10 dX5_sibling_38 ?_
          refine lv_aload_n hx hb dX5_sibling_39 rfl (lv_at hl 0 rfl) ?_
          refine va_get (D := D) (ci := 5) (v := .ref (q 1)) (C := RX5) (T := TX5) (N := 10) hx hb X.2.2.2.2.1 iwX5_sibling_5 X.2.2.2.1 hKK.1 hP 0 rfl rfl 1 (by decide) (X.2.2.2.2.1 _ flX5_sibling_7) (fun _ h9 => h9) rfl dX5_sibling_40 ?_
          refine lv_iload_n hx hb dX5_sibling_43 rfl (lv_at hl 1 rfl) ?_
          obtain ⟨g11, h⟩ := asr h
          refine va_iald hx hb hKK.1 hP 1 0 rfl rfl g11 dX5_sibling_44 ?_
          refine lv_icmp_ne (tgt := 52) hx hb dX5_sibling_45 (by decide) (fun c12 => ?_) (fun c12 => ?_)
          · replace h := ifn c12 h
            refine lv_bipush (v := iI (-5)) hx hb dX5_sibling_52 (by decide) ?_
            exact rd_ret X rfl (Option.some.inj h) dX5_sibling_54
          · replace h := ifp c12 h
            refine lv_iload_n hx hb dX5_sibling_48 rfl (lv_at hl 2 rfl) ?_
            refine lv_goto (tgt := 54) hx hb dX5_sibling_49 (by decide) ?_
            exact rd_ret X rfl (Option.some.inj h) dX5_sibling_54
      · replace h := ifn c8 h
        refine lv_iinc (v := (x2 + iI (-1))) (lv' := [(2, .int (x2 + iI (-1))), (0, .ref (q 0)), (1, .int x1)]) hx hb dX5_sibling_23 hl (k := 2) rfl rfl (by decide) rfl (fun ls hl => ?_)
        refine lv_goto (tgt := 4) hx hb dX5_sibling_26 (by decide) ?_
        exact ih x1 (x2 + iI (-1)) ls (lv_sub hl [1, 2, 0] rfl) h
set_option maxHeartbeats 4000000 in
set_option maxRecDepth 100000 in
theorem zX5_sibling (l : Launch) (D : va_G) (cI cC : ClassId) (q : Nat → Nat) (n : Int32) (d : Nat → Int32) (lb : Nat → Int32) (kp : Int32) (kr : Nat → Int32) (ty : Int32) (tx : Nat → Int32) (rd : Nat → Int32) (rl : Nat → Int32) (wi : Int32) (x1 : Int32) (r : Int32) (h : mX5_sibling d x1 = some r) : Met l yX5_sibling wsX5_sibling rmX5_sibling (va_Pc [.ref (q 0), .int x1] (BW D cI cC (wM cI cC q n d lb kp kr ty tx rd rl wi))) (rdQ r) 0 0 (fun _ => False) := by
  refine MetI RX5 (by decide +kernel) rfl rfl (Nat.le_of_ble_eq_true rfl) ?_
  intro p e s m below meth c ls X _ hB hl
  obtain ⟨hP, hKK⟩ := hB
  have hx := X.1
  have hb := X.2.1
  replace hl : lv_has ls 3 [(0, .ref (q 0)), (1, .int x1)] := hl
  unfold mX5_sibling at h
  refine lv_iload_n hx hb dX5_sibling_0 rfl (lv_at hl 1 rfl) ?_
  refine lv_iconst (v := iI 1) hx hb dX5_sibling_1 rfl ?_
  refine lv_isub hx hb dX5_sibling_2 ?_
  refine lv_istore_n (lv' := [(2, .int (x1 - (iI 1))), (0, .ref (q 0)), (1, .int x1)]) hx hb dX5_sibling_3 rfl hl (by decide) rfl (fun ls hl => ?_)
  exact kX5_sibling_4 X hKK hP FU x1 (x1 - (iI 1)) ls (lv_sub hl [1, 2, 0] rfl) h
def mX5_placeOf_8 : Nat → (Nat → Int32) → Int32 → Int32 → Int32 → Option (Int32)
  | 0, _, _, _, _ => none
  | f + 1, d, x1, x2, x3 => (if x3 < 0 then some x2 else ((mX5_sibling d x3).bind fun r3 => mX5_placeOf_8 f d x1 (x2 + iI 1) r3))
def mX5_placeOf (d : Nat → Int32) (x1 : Int32) : Option (Int32) := ((mX5_sibling d x1).bind fun r1 => mX5_placeOf_8 FU d x1 (iI 0) r1)
theorem hdX5_placeOf : yX5_placeOf.cls = RX5 ∧ yX5_placeOf.cls ≠ "java/lang/invoke/MethodHandle" ∧ yX5_placeOf.cls ≠ "java/lang/invoke/VarHandle" ∧ (parseMethodDescriptor yX5_placeOf.desc).map (fun d => d.parameters.length) = some 1 := by decide +kernel
abbrev rmX5_placeOf : Room := { frames := 1, cells := 0, slots := 0, locals := 22 }
set_option maxHeartbeats 4000000 in
set_option maxRecDepth 100000 in
theorem kX5_placeOf_8 {p : Program} {l : Launch} {e : Env} {s : State} {m : MethodId} {args : Array Value} {below : List Frame} {meth : Method} {c : Code} {D : va_G} {cI cC : ClassId} {q : Nat → Nat} {n : Int32} {d : Nat → Int32} {lb : Nat → Int32} {kp : Int32} {kr : Nat → Int32} {ty : Int32} {tx : Nat → Int32} {rd : Nat → Int32} {rl : Nat → Int32} {wi : Int32} {r : Int32} (X : CX p s m args meth c wsX5_placeOf cX5_placeOf 4 (some .int) RX5) (hKK : KK D cI cC s) (hP : va_P D vwCl (wM cI cC q n d lb kp kr ty tx rd rl wi) s.heap) : ∀ (f : Nat), ∀ (x1 : Int32) (x2 : Int32) (x3 : Int32) (ls : Array Slot), lv_has ls 4 [(0, .ref (q 0)), (1, .int x1), (2, .int x2), (3, .int x3)] → mX5_placeOf_8 f d x1 x2 x3 = some r → W p l e rmX5_placeOf s m args below meth c s.heap [] 0 0 (MQ below (rdQ r) args s 0 0 (fun _ => False)) (F0 m 8 ls []) := by
  have hx := X.1
  have hb := X.2.1
  intro f
  induction f with
  | zero =>
    intro x1 x2 x3 ls hl h
    exact absurd h (by unfold mX5_placeOf_8; intro h; cases h)
  | succ f ih =>
    intro x1 x2 x3 ls hl h
    rw [mX5_placeOf_8] at h
    refine lv_iload_n hx hb dX5_placeOf_8 rfl (lv_at hl 3 rfl) ?_
    refine lv_if_lt (tgt := 24) hx hb dX5_placeOf_9 (by decide) (fun c2 => ?_) (fun c2 => ?_)
    · replace h := ifp c2 h
      refine lv_iload_n hx hb dX5_placeOf_24 rfl (lv_at hl 2 rfl) ?_
      exact rd_ret X rfl (Option.some.inj h) dX5_placeOf_25
    · replace h := ifn c2 h
      refine lv_iinc (v := (x2 + iI 1)) (lv' := [(2, .int (x2 + iI 1)), (0, .ref (q 0)), (1, .int x1), (3, .int x3)]) hx hb dX5_placeOf_12 hl (k := 2) rfl rfl (by decide) rfl (fun ls hl => ?_)
      refine lv_aload_n hx hb dX5_placeOf_15 rfl (lv_at hl 1 rfl) ?_
      refine lv_iload_n hx hb dX5_placeOf_16 rfl (lv_at hl 3 rfl) ?_
      obtain ⟨r3, h_r3, h⟩ := obd h
      refine rcV (rest := []) X hKK hP 1 (zX5_sibling l D cI cC q n d lb kp kr ty tx rd rl wi x3 r3 h_r3) gX5_placeOf_X5_sibling rfl rfl rfl hdX5_sibling ⟨Nat.le_of_ble_eq_true rfl, Nat.le_of_ble_eq_true rfl⟩ [0, 1, 2, 3, 4, 5, 6] rfl 0 rfl rfl rfl hl.1 rfl (Nat.le_of_ble_eq_true rfl) dX5_placeOf_17 ⟨Nat.zero_le _, Nat.zero_le _⟩ ?_
      refine lv_istore_n (lv' := [(3, .int r3), (2, .int (x2 + iI 1)), (0, .ref (q 0)), (1, .int x1)]) hx hb dX5_placeOf_20 rfl hl (by decide) rfl (fun ls hl => ?_)
      refine lv_goto (tgt := 8) hx hb dX5_placeOf_21 (by decide) ?_
      exact ih x1 (x2 + iI 1) r3 ls (lv_sub hl [2, 3, 1, 0] rfl) h
set_option maxHeartbeats 4000000 in
set_option maxRecDepth 100000 in
theorem zX5_placeOf (l : Launch) (D : va_G) (cI cC : ClassId) (q : Nat → Nat) (n : Int32) (d : Nat → Int32) (lb : Nat → Int32) (kp : Int32) (kr : Nat → Int32) (ty : Int32) (tx : Nat → Int32) (rd : Nat → Int32) (rl : Nat → Int32) (wi : Int32) (x1 : Int32) (r : Int32) (h : mX5_placeOf d x1 = some r) : Met l yX5_placeOf wsX5_placeOf rmX5_placeOf (va_Pc [.ref (q 0), .int x1] (BW D cI cC (wM cI cC q n d lb kp kr ty tx rd rl wi))) (rdQ r) 0 0 (fun _ => False) := by
  refine MetI RX5 (by decide +kernel) rfl rfl (Nat.le_of_ble_eq_true rfl) ?_
  intro p e s m below meth c ls X _ hB hl
  obtain ⟨hP, hKK⟩ := hB
  have hx := X.1
  have hb := X.2.1
  replace hl : lv_has ls 4 [(0, .ref (q 0)), (1, .int x1)] := hl
  unfold mX5_placeOf at h
  refine lv_iconst (v := iI 0) hx hb dX5_placeOf_0 rfl ?_
  refine lv_istore_n (lv' := [(2, .int (iI 0)), (0, .ref (q 0)), (1, .int x1)]) hx hb dX5_placeOf_1 rfl hl (by decide) rfl (fun ls hl => ?_)
  refine lv_aload_n hx hb dX5_placeOf_2 rfl (lv_at hl 1 rfl) ?_
  refine lv_iload_n hx hb dX5_placeOf_3 rfl (lv_at hl 2 rfl) ?_
  obtain ⟨r1, h_r1, h⟩ := obd h
  refine rcV (rest := []) X hKK hP 1 (zX5_sibling l D cI cC q n d lb kp kr ty tx rd rl wi x1 r1 h_r1) gX5_placeOf_X5_sibling rfl rfl rfl hdX5_sibling ⟨Nat.le_of_ble_eq_true rfl, Nat.le_of_ble_eq_true rfl⟩ [0, 1, 2, 3, 4, 5, 6] rfl 0 rfl rfl rfl hl.1 rfl (Nat.le_of_ble_eq_true rfl) dX5_placeOf_4 ⟨Nat.zero_le _, Nat.zero_le _⟩ ?_
  refine lv_istore_n (lv' := [(3, .int r1), (2, .int (iI 0)), (0, .ref (q 0)), (1, .int x1)]) hx hb dX5_placeOf_7 rfl hl (by decide) rfl (fun ls hl => ?_)
  exact kX5_placeOf_8 X hKK hP FU x1 (iI 0) r1 ls (lv_sub hl [2, 3, 1, 0] rfl) h
def mX5_leaves_4 : Nat → Int32 → (Nat → Int32) → Int32 → Int32 → Int32 → Option (Int32)
  | 0, _, _, _, _, _ => none
  | f + 1, n, d, x1, x2, x3 => ((mX5_behind n d x1).bind fun r1 => (if r1 ≤ x3 then some x2 else ((mX5_isLeaf n d x3).bind fun r3 => (if r3 = 0 then mX5_leaves_4 f n d x1 (x2 + (iI 0)) (x3 + iI 1) else mX5_leaves_4 f n d x1 (x2 + (iI 1)) (x3 + iI 1)))))
def mX5_leaves (n : Int32) (d : Nat → Int32) (x1 : Int32) : Option (Int32) := mX5_leaves_4 FU n d x1 (iI 0) x1
theorem hdX5_leaves : yX5_leaves.cls = RX5 ∧ yX5_leaves.cls ≠ "java/lang/invoke/MethodHandle" ∧ yX5_leaves.cls ≠ "java/lang/invoke/VarHandle" ∧ (parseMethodDescriptor yX5_leaves.desc).map (fun d => d.parameters.length) = some 1 := by decide +kernel
abbrev rmX5_leaves : Room := { frames := 1, cells := 0, slots := 0, locals := 22 }
set_option maxHeartbeats 4000000 in
set_option maxRecDepth 100000 in
theorem kX5_leaves_4 {p : Program} {l : Launch} {e : Env} {s : State} {m : MethodId} {args : Array Value} {below : List Frame} {meth : Method} {c : Code} {D : va_G} {cI cC : ClassId} {q : Nat → Nat} {n : Int32} {d : Nat → Int32} {lb : Nat → Int32} {kp : Int32} {kr : Nat → Int32} {ty : Int32} {tx : Nat → Int32} {rd : Nat → Int32} {rl : Nat → Int32} {wi : Int32} {r : Int32} (X : CX p s m args meth c wsX5_leaves cX5_leaves 4 (some .int) RX5) (hKK : KK D cI cC s) (hP : va_P D vwCl (wM cI cC q n d lb kp kr ty tx rd rl wi) s.heap) : ∀ (f : Nat), ∀ (x1 : Int32) (x2 : Int32) (x3 : Int32) (ls : Array Slot), lv_has ls 4 [(0, .ref (q 0)), (1, .int x1), (2, .int x2), (3, .int x3)] → mX5_leaves_4 f n d x1 x2 x3 = some r → W p l e rmX5_leaves s m args below meth c s.heap [] 0 0 (MQ below (rdQ r) args s 0 0 (fun _ => False)) (F0 m 4 ls []) := by
  have hx := X.1
  have hb := X.2.1
  intro f
  induction f with
  | zero =>
    intro x1 x2 x3 ls hl h
    exact absurd h (by unfold mX5_leaves_4; intro h; cases h)
  | succ f ih =>
    intro x1 x2 x3 ls hl h
    rw [mX5_leaves_4] at h
    refine lv_iload_n hx hb dX5_leaves_4 rfl (lv_at hl 3 rfl) ?_
    refine lv_aload_n hx hb dX5_leaves_5 rfl (lv_at hl 0 rfl) ?_
    refine lv_iload_n hx hb dX5_leaves_6 rfl (lv_at hl 1 rfl) ?_
    obtain ⟨r1, h_r1, h⟩ := obd h
    refine rcV (rest := [.int x3]) X hKK hP 1 (zX5_behind l D cI cC q n d lb kp kr ty tx rd rl wi x1 r1 h_r1) gX5_leaves_X5_behind rfl rfl rfl hdX5_behind ⟨Nat.le_of_ble_eq_true rfl, Nat.le_of_ble_eq_true rfl⟩ [0, 1, 2, 3, 4, 5, 6] rfl 0 rfl rfl rfl hl.1 rfl (Nat.le_of_ble_eq_true rfl) dX5_leaves_7 ⟨Nat.zero_le _, Nat.zero_le _⟩ ?_
    refine lv_icmp_ge (tgt := 35) hx hb dX5_leaves_10 (by decide) (fun c2 => ?_) (fun c2 => ?_)
    · replace h := ifp c2 h
      refine lv_iload_n hx hb dX5_leaves_35 rfl (lv_at hl 2 rfl) ?_
      exact rd_ret X rfl (Option.some.inj h) dX5_leaves_36
    · replace h := ifn c2 h
      refine lv_iload_n hx hb dX5_leaves_13 rfl (lv_at hl 2 rfl) ?_
      refine lv_aload_n hx hb dX5_leaves_14 rfl (lv_at hl 0 rfl) ?_
      refine lv_iload_n hx hb dX5_leaves_15 rfl (lv_at hl 3 rfl) ?_
      obtain ⟨r3, h_r3, h⟩ := obd h
      refine rcV (rest := [.int x2]) X hKK hP 1 (zX5_isLeaf l D cI cC q n d lb kp kr ty tx rd rl wi x3 r3 h_r3) gX5_leaves_X5_isLeaf rfl rfl rfl hdX5_isLeaf ⟨Nat.le_of_ble_eq_true rfl, Nat.le_of_ble_eq_true rfl⟩ [0, 1, 2, 3, 4, 5, 6] rfl 0 rfl rfl rfl hl.1 rfl (Nat.le_of_ble_eq_true rfl) dX5_leaves_16 ⟨Nat.zero_le _, Nat.zero_le _⟩ ?_
      refine lv_if_eq (tgt := 26) hx hb dX5_leaves_19 (by decide) (fun c4 => ?_) (fun c4 => ?_)
      · replace h := ifp c4 h
        refine lv_iconst (v := iI 0) hx hb dX5_leaves_26 rfl ?_
        refine lv_iadd hx hb dX5_leaves_27 ?_
        refine lv_istore_n (lv' := [(2, .int (x2 + (iI 0))), (0, .ref (q 0)), (1, .int x1), (3, .int x3)]) hx hb dX5_leaves_28 rfl hl (by decide) rfl (fun ls hl => ?_)
        refine lv_iinc (v := (x3 + iI 1)) (lv' := [(3, .int (x3 + iI 1)), (2, .int (x2 + (iI 0))), (0, .ref (q 0)), (1, .int x1)]) hx hb dX5_leaves_29 hl (k := 3) rfl rfl (by decide) rfl (fun ls hl => ?_)
        refine lv_goto (tgt := 4) hx hb dX5_leaves_32 (by decide) ?_
        exact ih x1 (x2 + (iI 0)) (x3 + iI 1) ls (lv_sub hl [2, 3, 1, 0] rfl) h
      · replace h := ifn c4 h
        refine lv_iconst (v := iI 1) hx hb dX5_leaves_22 rfl ?_
        refine lv_goto (tgt := 27) hx hb dX5_leaves_23 (by decide) ?_
        refine lv_iadd hx hb dX5_leaves_27 ?_
        refine lv_istore_n (lv' := [(2, .int (x2 + (iI 1))), (0, .ref (q 0)), (1, .int x1), (3, .int x3)]) hx hb dX5_leaves_28 rfl hl (by decide) rfl (fun ls hl => ?_)
        refine lv_iinc (v := (x3 + iI 1)) (lv' := [(3, .int (x3 + iI 1)), (2, .int (x2 + (iI 1))), (0, .ref (q 0)), (1, .int x1)]) hx hb dX5_leaves_29 hl (k := 3) rfl rfl (by decide) rfl (fun ls hl => ?_)
        refine lv_goto (tgt := 4) hx hb dX5_leaves_32 (by decide) ?_
        exact ih x1 (x2 + (iI 1)) (x3 + iI 1) ls (lv_sub hl [2, 3, 1, 0] rfl) h
set_option maxHeartbeats 4000000 in
set_option maxRecDepth 100000 in
theorem zX5_leaves (l : Launch) (D : va_G) (cI cC : ClassId) (q : Nat → Nat) (n : Int32) (d : Nat → Int32) (lb : Nat → Int32) (kp : Int32) (kr : Nat → Int32) (ty : Int32) (tx : Nat → Int32) (rd : Nat → Int32) (rl : Nat → Int32) (wi : Int32) (x1 : Int32) (r : Int32) (h : mX5_leaves n d x1 = some r) : Met l yX5_leaves wsX5_leaves rmX5_leaves (va_Pc [.ref (q 0), .int x1] (BW D cI cC (wM cI cC q n d lb kp kr ty tx rd rl wi))) (rdQ r) 0 0 (fun _ => False) := by
  refine MetI RX5 (by decide +kernel) rfl rfl (Nat.le_of_ble_eq_true rfl) ?_
  intro p e s m below meth c ls X _ hB hl
  obtain ⟨hP, hKK⟩ := hB
  have hx := X.1
  have hb := X.2.1
  replace hl : lv_has ls 4 [(0, .ref (q 0)), (1, .int x1)] := hl
  unfold mX5_leaves at h
  refine lv_iconst (v := iI 0) hx hb dX5_leaves_0 rfl ?_
  refine lv_istore_n (lv' := [(2, .int (iI 0)), (0, .ref (q 0)), (1, .int x1)]) hx hb dX5_leaves_1 rfl hl (by decide) rfl (fun ls hl => ?_)
  refine lv_iload_n hx hb dX5_leaves_2 rfl (lv_at hl 2 rfl) ?_
  refine lv_istore_n (lv' := [(3, .int x1), (2, .int (iI 0)), (0, .ref (q 0)), (1, .int x1)]) hx hb dX5_leaves_3 rfl hl (by decide) rfl (fun ls hl => ?_)
  exact kX5_leaves_4 X hKK hP FU x1 (iI 0) x1 ls (lv_sub hl [2, 3, 1, 0] rfl) h
def mX5_opening (d : Nat → Int32) (x1 : Int32) : Option (Int32) := (if inb x1 100 then some (((iI 2) * x1) - (d x1.toNatClampNeg)) else none)
theorem hdX5_opening : yX5_opening.cls = RX5 ∧ yX5_opening.cls ≠ "java/lang/invoke/MethodHandle" ∧ yX5_opening.cls ≠ "java/lang/invoke/VarHandle" ∧ (parseMethodDescriptor yX5_opening.desc).map (fun d => d.parameters.length) = some 1 := by decide +kernel
theorem flX5_opening_7 : Cond.fieldLink RX5 7 "BracketTreeModel" "depthOf" "[I" ∈ wsX5_opening := by decide +kernel
theorem iwX5_opening_5 : ∀ w ∈ wsX50, w ∈ wsX5_opening := by decide +kernel
abbrev rmX5_opening : Room := { frames := 0, cells := 0, slots := 0, locals := 0 }
set_option maxHeartbeats 4000000 in
set_option maxRecDepth 100000 in
theorem zX5_opening (l : Launch) (D : va_G) (cI cC : ClassId) (q : Nat → Nat) (n : Int32) (d : Nat → Int32) (lb : Nat → Int32) (kp : Int32) (kr : Nat → Int32) (ty : Int32) (tx : Nat → Int32) (rd : Nat → Int32) (rl : Nat → Int32) (wi : Int32) (x1 : Int32) (r : Int32) (h : mX5_opening d x1 = some r) : Met l yX5_opening wsX5_opening rmX5_opening (va_Pc [.ref (q 0), .int x1] (BW D cI cC (wM cI cC q n d lb kp kr ty tx rd rl wi))) (rdQ r) 0 0 (fun _ => False) := by
  refine MetI RX5 (by decide +kernel) rfl rfl (Nat.le_of_ble_eq_true rfl) ?_
  intro p e s m below meth c ls X _ hB hl
  obtain ⟨hP, hKK⟩ := hB
  have hx := X.1
  have hb := X.2.1
  replace hl : lv_has ls 2 [(0, .ref (q 0)), (1, .int x1)] := hl
  unfold mX5_opening at h
  refine lv_iconst (v := iI 2) hx hb dX5_opening_0 rfl ?_
  refine lv_iload_n hx hb dX5_opening_1 rfl (lv_at hl 1 rfl) ?_
  refine lv_imul hx hb dX5_opening_2 ?_
  refine lv_aload_n hx hb dX5_opening_3 rfl (lv_at hl 0 rfl) ?_
  refine va_get (D := D) (ci := 5) (v := .ref (q 1)) (C := RX5) (T := TX5) (N := 10) hx hb X.2.2.2.2.1 iwX5_opening_5 X.2.2.2.1 hKK.1 hP 0 rfl rfl 1 (by decide) (X.2.2.2.2.1 _ flX5_opening_7) (fun _ h9 => h9) rfl dX5_opening_4 ?_
  refine lv_iload_n hx hb dX5_opening_7 rfl (lv_at hl 1 rfl) ?_
  obtain ⟨g1, h⟩ := asr h
  refine va_iald hx hb hKK.1 hP 1 0 rfl rfl g1 dX5_opening_8 ?_
  refine lv_isub hx hb dX5_opening_9 ?_
  exact rd_ret X rfl (Option.some.inj h) dX5_opening_10
def mX5_closing (n : Int32) (d : Nat → Int32) (x1 : Int32) : Option (Int32) := ((mX5_opening d x1).bind fun r1 => ((mX5_behind n d x1).bind fun r2 => some ((r1 + ((iI 2) * (r2 - x1))) - (iI 1))))
theorem hdX5_closing : yX5_closing.cls = RX5 ∧ yX5_closing.cls ≠ "java/lang/invoke/MethodHandle" ∧ yX5_closing.cls ≠ "java/lang/invoke/VarHandle" ∧ (parseMethodDescriptor yX5_closing.desc).map (fun d => d.parameters.length) = some 1 := by decide +kernel
abbrev rmX5_closing : Room := { frames := 1, cells := 0, slots := 0, locals := 22 }
set_option maxHeartbeats 4000000 in
set_option maxRecDepth 100000 in
theorem zX5_closing (l : Launch) (D : va_G) (cI cC : ClassId) (q : Nat → Nat) (n : Int32) (d : Nat → Int32) (lb : Nat → Int32) (kp : Int32) (kr : Nat → Int32) (ty : Int32) (tx : Nat → Int32) (rd : Nat → Int32) (rl : Nat → Int32) (wi : Int32) (x1 : Int32) (r : Int32) (h : mX5_closing n d x1 = some r) : Met l yX5_closing wsX5_closing rmX5_closing (va_Pc [.ref (q 0), .int x1] (BW D cI cC (wM cI cC q n d lb kp kr ty tx rd rl wi))) (rdQ r) 0 0 (fun _ => False) := by
  refine MetI RX5 (by decide +kernel) rfl rfl (Nat.le_of_ble_eq_true rfl) ?_
  intro p e s m below meth c ls X _ hB hl
  obtain ⟨hP, hKK⟩ := hB
  have hx := X.1
  have hb := X.2.1
  replace hl : lv_has ls 2 [(0, .ref (q 0)), (1, .int x1)] := hl
  unfold mX5_closing at h
  refine lv_aload_n hx hb dX5_closing_0 rfl (lv_at hl 0 rfl) ?_
  refine lv_iload_n hx hb dX5_closing_1 rfl (lv_at hl 1 rfl) ?_
  obtain ⟨r1, h_r1, h⟩ := obd h
  refine rcV (rest := []) X hKK hP 1 (zX5_opening l D cI cC q n d lb kp kr ty tx rd rl wi x1 r1 h_r1) gX5_closing_X5_opening rfl rfl rfl hdX5_opening ⟨Nat.le_of_ble_eq_true rfl, Nat.le_of_ble_eq_true rfl⟩ [0, 1, 2, 3, 4, 5, 6] rfl 0 rfl rfl rfl hl.1 rfl (Nat.le_of_ble_eq_true rfl) dX5_closing_2 ⟨Nat.zero_le _, Nat.zero_le _⟩ ?_
  refine lv_iconst (v := iI 2) hx hb dX5_closing_5 rfl ?_
  refine lv_aload_n hx hb dX5_closing_6 rfl (lv_at hl 0 rfl) ?_
  refine lv_iload_n hx hb dX5_closing_7 rfl (lv_at hl 1 rfl) ?_
  obtain ⟨r2, h_r2, h⟩ := obd h
  refine rcV (rest := [.int (iI 2), .int r1]) X hKK hP 1 (zX5_behind l D cI cC q n d lb kp kr ty tx rd rl wi x1 r2 h_r2) gX5_closing_X5_behind rfl rfl rfl hdX5_behind ⟨Nat.le_of_ble_eq_true rfl, Nat.le_of_ble_eq_true rfl⟩ [0, 1, 2, 3, 4, 5, 6] rfl 0 rfl rfl rfl hl.1 rfl (Nat.le_of_ble_eq_true rfl) dX5_closing_8 ⟨Nat.zero_le _, Nat.zero_le _⟩ ?_
  refine lv_iload_n hx hb dX5_closing_11 rfl (lv_at hl 1 rfl) ?_
  refine lv_isub hx hb dX5_closing_12 ?_
  refine lv_imul hx hb dX5_closing_13 ?_
  refine lv_iadd hx hb dX5_closing_14 ?_
  refine lv_iconst (v := iI 1) hx hb dX5_closing_15 rfl ?_
  refine lv_isub hx hb dX5_closing_16 ?_
  exact rd_ret X rfl (Option.some.inj h) dX5_closing_17
def mX5_rankOf (n : Int32) (d : Nat → Int32) (x1 : Int32) : Option (Int32) := ((mX5_behind n d x1).bind fun r1 => (if inb x1 100 then some ((r1 - (iI 1)) - (d x1.toNatClampNeg)) else none))
theorem hdX5_rankOf : yX5_rankOf.cls = RX5 ∧ yX5_rankOf.cls ≠ "java/lang/invoke/MethodHandle" ∧ yX5_rankOf.cls ≠ "java/lang/invoke/VarHandle" ∧ (parseMethodDescriptor yX5_rankOf.desc).map (fun d => d.parameters.length) = some 1 := by decide +kernel
theorem flX5_rankOf_7 : Cond.fieldLink RX5 7 "BracketTreeModel" "depthOf" "[I" ∈ wsX5_rankOf := by decide +kernel
theorem iwX5_rankOf_5 : ∀ w ∈ wsX50, w ∈ wsX5_rankOf := by decide +kernel
abbrev rmX5_rankOf : Room := { frames := 1, cells := 0, slots := 0, locals := 22 }
set_option maxHeartbeats 4000000 in
set_option maxRecDepth 100000 in
theorem zX5_rankOf (l : Launch) (D : va_G) (cI cC : ClassId) (q : Nat → Nat) (n : Int32) (d : Nat → Int32) (lb : Nat → Int32) (kp : Int32) (kr : Nat → Int32) (ty : Int32) (tx : Nat → Int32) (rd : Nat → Int32) (rl : Nat → Int32) (wi : Int32) (x1 : Int32) (r : Int32) (h : mX5_rankOf n d x1 = some r) : Met l yX5_rankOf wsX5_rankOf rmX5_rankOf (va_Pc [.ref (q 0), .int x1] (BW D cI cC (wM cI cC q n d lb kp kr ty tx rd rl wi))) (rdQ r) 0 0 (fun _ => False) := by
  refine MetI RX5 (by decide +kernel) rfl rfl (Nat.le_of_ble_eq_true rfl) ?_
  intro p e s m below meth c ls X _ hB hl
  obtain ⟨hP, hKK⟩ := hB
  have hx := X.1
  have hb := X.2.1
  replace hl : lv_has ls 2 [(0, .ref (q 0)), (1, .int x1)] := hl
  unfold mX5_rankOf at h
  refine lv_aload_n hx hb dX5_rankOf_0 rfl (lv_at hl 0 rfl) ?_
  refine lv_iload_n hx hb dX5_rankOf_1 rfl (lv_at hl 1 rfl) ?_
  obtain ⟨r1, h_r1, h⟩ := obd h
  refine rcV (rest := []) X hKK hP 1 (zX5_behind l D cI cC q n d lb kp kr ty tx rd rl wi x1 r1 h_r1) gX5_rankOf_X5_behind rfl rfl rfl hdX5_behind ⟨Nat.le_of_ble_eq_true rfl, Nat.le_of_ble_eq_true rfl⟩ [0, 1, 2, 3, 4, 5, 6] rfl 0 rfl rfl rfl hl.1 rfl (Nat.le_of_ble_eq_true rfl) dX5_rankOf_2 ⟨Nat.zero_le _, Nat.zero_le _⟩ ?_
  refine lv_iconst (v := iI 1) hx hb dX5_rankOf_5 rfl ?_
  refine lv_isub hx hb dX5_rankOf_6 ?_
  refine lv_aload_n hx hb dX5_rankOf_7 rfl (lv_at hl 0 rfl) ?_
  refine va_get (D := D) (ci := 5) (v := .ref (q 1)) (C := RX5) (T := TX5) (N := 10) hx hb X.2.2.2.2.1 iwX5_rankOf_5 X.2.2.2.1 hKK.1 hP 0 rfl rfl 1 (by decide) (X.2.2.2.2.1 _ flX5_rankOf_7) (fun _ h9 => h9) rfl dX5_rankOf_8 ?_
  refine lv_iload_n hx hb dX5_rankOf_11 rfl (lv_at hl 1 rfl) ?_
  obtain ⟨g2, h⟩ := asr h
  refine va_iald hx hb hKK.1 hP 1 0 rfl rfl g2 dX5_rankOf_12 ?_
  refine lv_isub hx hb dX5_rankOf_13 ?_
  exact rd_ret X rfl (Option.some.inj h) dX5_rankOf_14
def mX5_node (n : Int32) (d : Nat → Int32) (lb : Nat → Int32) (x1 : Int32) (x2 : Int32) : Option (Int32) := (if (mX5_noNode n x1) = 0 then (if x2 = iI 0 then (if inb x1 100 then some (d x1.toNatClampNeg) else none) else (if x2 = iI 1 then ((mX5_parentOf d x1).bind fun r5 => some r5) else (if x2 = iI 2 then ((mX5_childCount n d x1).bind fun r7 => some r7) else (if x2 = iI 3 then ((mX5_behind n d x1).bind fun r9 => some (r9 - x1)) else (if x2 = iI 4 then ((mX5_heightOf n d x1).bind fun r11 => some r11) else (if x2 = iI 5 then ((mX5_placeOf d x1).bind fun r13 => some r13) else (if x2 = iI 6 then ((mX5_leaves n d x1).bind fun r15 => some r15) else (if x2 = iI 7 then ((mX5_opening d x1).bind fun r17 => some r17) else (if x2 = iI 8 then ((mX5_closing n d x1).bind fun r19 => some r19) else (if x2 = iI 9 then ((mX5_rankOf n d x1).bind fun r21 => some r21) else (if x2 = iI 10 then (if inb x1 100 then some (lb x1.toNatClampNeg) else none) else some (iI (-2))))))))))))) else some (iI (-1)))
theorem hdX5_node : yX5_node.cls = RX5 ∧ yX5_node.cls ≠ "java/lang/invoke/MethodHandle" ∧ yX5_node.cls ≠ "java/lang/invoke/VarHandle" ∧ (parseMethodDescriptor yX5_node.desc).map (fun d => d.parameters.length) = some 2 := by decide +kernel
theorem flX5_node_7 : Cond.fieldLink RX5 7 "BracketTreeModel" "depthOf" "[I" ∈ wsX5_node := by decide +kernel
theorem iwX5_node_5 : ∀ w ∈ wsX50, w ∈ wsX5_node := by decide +kernel
theorem flX5_node_13 : Cond.fieldLink RX5 13 "BracketTreeModel" "labelOf" "[C" ∈ wsX5_node := by decide +kernel
abbrev rmX5_node : Room := { frames := 2, cells := 0, slots := 0, locals := 45 }
set_option maxHeartbeats 4000000 in
set_option maxRecDepth 100000 in
theorem zX5_node (l : Launch) (D : va_G) (cI cC : ClassId) (q : Nat → Nat) (n : Int32) (d : Nat → Int32) (lb : Nat → Int32) (kp : Int32) (kr : Nat → Int32) (ty : Int32) (tx : Nat → Int32) (rd : Nat → Int32) (rl : Nat → Int32) (wi : Int32) (x1 : Int32) (x2 : Int32) (r : Int32) (h : mX5_node n d lb x1 x2 = some r) : Met l yX5_node wsX5_node rmX5_node (va_Pc [.ref (q 0), .int x1, .int x2] (BW D cI cC (wM cI cC q n d lb kp kr ty tx rd rl wi))) (rdQ r) 0 0 (fun _ => False) := by
  refine MetI RX5 (by decide +kernel) rfl rfl (Nat.le_of_ble_eq_true rfl) ?_
  intro p e s m below meth c ls X _ hB hl
  obtain ⟨hP, hKK⟩ := hB
  have hx := X.1
  have hb := X.2.1
  replace hl : lv_has ls 3 [(0, .ref (q 0)), (1, .int x1), (2, .int x2)] := hl
  unfold mX5_node at h
  refine lv_aload_n hx hb dX5_node_0 rfl (lv_at hl 0 rfl) ?_
  refine lv_iload_n hx hb dX5_node_1 rfl (lv_at hl 1 rfl) ?_
  refine rcV (rest := []) X hKK hP 1 (zX5_noNode l D cI cC q n d lb kp kr ty tx rd rl wi x1 _ rfl) gX5_node_X5_noNode rfl rfl rfl hdX5_noNode ⟨Nat.le_of_ble_eq_true rfl, Nat.le_of_ble_eq_true rfl⟩ [0, 1, 2, 3, 4, 5, 6] rfl 0 rfl rfl rfl hl.1 rfl (Nat.le_of_ble_eq_true rfl) dX5_node_2 ⟨Nat.zero_le _, Nat.zero_le _⟩ ?_
  refine lv_if_eq (tgt := 10) hx hb dX5_node_5 (by decide) (fun c1 => ?_) (fun c1 => ?_)
  · replace h := ifp c1 h
    refine lv_iload_n hx hb dX5_node_10 rfl (lv_at hl 2 rfl) ?_
    by_cases c2 : x2 = iI 0
    · replace h := ifp c2 h
      refine lv_tableIn (tgt := 68) hx hb dX5_node_11 (by rw [c2]; decide) (by rw [c2]; decide) (by rw [c2]; rfl) (by decide) ?_
      refine lv_aload_n hx hb dX5_node_68 rfl (lv_at hl 0 rfl) ?_
      refine va_get (D := D) (ci := 5) (v := .ref (q 1)) (C := RX5) (T := TX5) (N := 10) hx hb X.2.2.2.2.1 iwX5_node_5 X.2.2.2.1 hKK.1 hP 0 rfl rfl 1 (by decide) (X.2.2.2.2.1 _ flX5_node_7) (fun _ h9 => h9) rfl dX5_node_69 ?_
      refine lv_iload_n hx hb dX5_node_72 rfl (lv_at hl 1 rfl) ?_
      obtain ⟨g3, h⟩ := asr h
      refine va_iald hx hb hKK.1 hP 1 0 rfl rfl g3 dX5_node_73 ?_
      exact rd_ret X rfl (Option.some.inj h) dX5_node_74
    replace h := ifn c2 h
    by_cases c4 : x2 = iI 1
    · replace h := ifp c4 h
      refine lv_tableIn (tgt := 75) hx hb dX5_node_11 (by rw [c4]; decide) (by rw [c4]; decide) (by rw [c4]; rfl) (by decide) ?_
      refine lv_aload_n hx hb dX5_node_75 rfl (lv_at hl 0 rfl) ?_
      refine lv_iload_n hx hb dX5_node_76 rfl (lv_at hl 1 rfl) ?_
      obtain ⟨r5, h_r5, h⟩ := obd h
      refine rcV (rest := []) X hKK hP 1 (zX5_parentOf l D cI cC q n d lb kp kr ty tx rd rl wi x1 r5 h_r5) gX5_node_X5_parentOf rfl rfl rfl hdX5_parentOf ⟨Nat.le_of_ble_eq_true rfl, Nat.le_of_ble_eq_true rfl⟩ [0, 1, 2, 3, 4, 5, 6] rfl 0 rfl rfl rfl hl.1 rfl (Nat.le_of_ble_eq_true rfl) dX5_node_77 ⟨Nat.zero_le _, Nat.zero_le _⟩ ?_
      exact rd_ret X rfl (Option.some.inj h) dX5_node_80
    replace h := ifn c4 h
    by_cases c6 : x2 = iI 2
    · replace h := ifp c6 h
      refine lv_tableIn (tgt := 81) hx hb dX5_node_11 (by rw [c6]; decide) (by rw [c6]; decide) (by rw [c6]; rfl) (by decide) ?_
      refine lv_aload_n hx hb dX5_node_81 rfl (lv_at hl 0 rfl) ?_
      refine lv_iload_n hx hb dX5_node_82 rfl (lv_at hl 1 rfl) ?_
      obtain ⟨r7, h_r7, h⟩ := obd h
      refine rcV (rest := []) X hKK hP 1 (zX5_childCount l D cI cC q n d lb kp kr ty tx rd rl wi x1 r7 h_r7) gX5_node_X5_childCount rfl rfl rfl hdX5_childCount ⟨Nat.le_of_ble_eq_true rfl, Nat.le_of_ble_eq_true rfl⟩ [0, 1, 2, 3, 4, 5, 6] rfl 0 rfl rfl rfl hl.1 rfl (Nat.le_of_ble_eq_true rfl) dX5_node_83 ⟨Nat.zero_le _, Nat.zero_le _⟩ ?_
      exact rd_ret X rfl (Option.some.inj h) dX5_node_86
    replace h := ifn c6 h
    by_cases c8 : x2 = iI 3
    · replace h := ifp c8 h
      refine lv_tableIn (tgt := 87) hx hb dX5_node_11 (by rw [c8]; decide) (by rw [c8]; decide) (by rw [c8]; rfl) (by decide) ?_
      refine lv_aload_n hx hb dX5_node_87 rfl (lv_at hl 0 rfl) ?_
      refine lv_iload_n hx hb dX5_node_88 rfl (lv_at hl 1 rfl) ?_
      obtain ⟨r9, h_r9, h⟩ := obd h
      refine rcV (rest := []) X hKK hP 1 (zX5_behind l D cI cC q n d lb kp kr ty tx rd rl wi x1 r9 h_r9) gX5_node_X5_behind rfl rfl rfl hdX5_behind ⟨Nat.le_of_ble_eq_true rfl, Nat.le_of_ble_eq_true rfl⟩ [0, 1, 2, 3, 4, 5, 6] rfl 0 rfl rfl rfl hl.1 rfl (Nat.le_of_ble_eq_true rfl) dX5_node_89 ⟨Nat.zero_le _, Nat.zero_le _⟩ ?_
      refine lv_iload_n hx hb dX5_node_92 rfl (lv_at hl 1 rfl) ?_
      refine lv_isub hx hb dX5_node_93 ?_
      exact rd_ret X rfl (Option.some.inj h) dX5_node_94
    replace h := ifn c8 h
    by_cases c10 : x2 = iI 4
    · replace h := ifp c10 h
      refine lv_tableIn (tgt := 95) hx hb dX5_node_11 (by rw [c10]; decide) (by rw [c10]; decide) (by rw [c10]; rfl) (by decide) ?_
      refine lv_aload_n hx hb dX5_node_95 rfl (lv_at hl 0 rfl) ?_
      refine lv_iload_n hx hb dX5_node_96 rfl (lv_at hl 1 rfl) ?_
      obtain ⟨r11, h_r11, h⟩ := obd h
      refine rcV (rest := []) X hKK hP 1 (zX5_heightOf l D cI cC q n d lb kp kr ty tx rd rl wi x1 r11 h_r11) gX5_node_X5_heightOf rfl rfl rfl hdX5_heightOf ⟨Nat.le_of_ble_eq_true rfl, Nat.le_of_ble_eq_true rfl⟩ [0, 1, 2, 3, 4, 5, 6] rfl 0 rfl rfl rfl hl.1 rfl (Nat.le_of_ble_eq_true rfl) dX5_node_97 ⟨Nat.zero_le _, Nat.zero_le _⟩ ?_
      exact rd_ret X rfl (Option.some.inj h) dX5_node_100
    replace h := ifn c10 h
    by_cases c12 : x2 = iI 5
    · replace h := ifp c12 h
      refine lv_tableIn (tgt := 101) hx hb dX5_node_11 (by rw [c12]; decide) (by rw [c12]; decide) (by rw [c12]; rfl) (by decide) ?_
      refine lv_aload_n hx hb dX5_node_101 rfl (lv_at hl 0 rfl) ?_
      refine lv_iload_n hx hb dX5_node_102 rfl (lv_at hl 1 rfl) ?_
      obtain ⟨r13, h_r13, h⟩ := obd h
      refine rcV (rest := []) X hKK hP 1 (zX5_placeOf l D cI cC q n d lb kp kr ty tx rd rl wi x1 r13 h_r13) gX5_node_X5_placeOf rfl rfl rfl hdX5_placeOf ⟨Nat.le_of_ble_eq_true rfl, Nat.le_of_ble_eq_true rfl⟩ [0, 1, 2, 3, 4, 5, 6] rfl 0 rfl rfl rfl hl.1 rfl (Nat.le_of_ble_eq_true rfl) dX5_node_103 ⟨Nat.zero_le _, Nat.zero_le _⟩ ?_
      exact rd_ret X rfl (Option.some.inj h) dX5_node_106
    replace h := ifn c12 h
    by_cases c14 : x2 = iI 6
    · replace h := ifp c14 h
      refine lv_tableIn (tgt := 107) hx hb dX5_node_11 (by rw [c14]; decide) (by rw [c14]; decide) (by rw [c14]; rfl) (by decide) ?_
      refine lv_aload_n hx hb dX5_node_107 rfl (lv_at hl 0 rfl) ?_
      refine lv_iload_n hx hb dX5_node_108 rfl (lv_at hl 1 rfl) ?_
      obtain ⟨r15, h_r15, h⟩ := obd h
      refine rcV (rest := []) X hKK hP 1 (zX5_leaves l D cI cC q n d lb kp kr ty tx rd rl wi x1 r15 h_r15) gX5_node_X5_leaves rfl rfl rfl hdX5_leaves ⟨Nat.le_of_ble_eq_true rfl, Nat.le_of_ble_eq_true rfl⟩ [0, 1, 2, 3, 4, 5, 6] rfl 0 rfl rfl rfl hl.1 rfl (Nat.le_of_ble_eq_true rfl) dX5_node_109 ⟨Nat.zero_le _, Nat.zero_le _⟩ ?_
      exact rd_ret X rfl (Option.some.inj h) dX5_node_112
    replace h := ifn c14 h
    by_cases c16 : x2 = iI 7
    · replace h := ifp c16 h
      refine lv_tableIn (tgt := 113) hx hb dX5_node_11 (by rw [c16]; decide) (by rw [c16]; decide) (by rw [c16]; rfl) (by decide) ?_
      refine lv_aload_n hx hb dX5_node_113 rfl (lv_at hl 0 rfl) ?_
      refine lv_iload_n hx hb dX5_node_114 rfl (lv_at hl 1 rfl) ?_
      obtain ⟨r17, h_r17, h⟩ := obd h
      refine rcV (rest := []) X hKK hP 1 (zX5_opening l D cI cC q n d lb kp kr ty tx rd rl wi x1 r17 h_r17) gX5_node_X5_opening rfl rfl rfl hdX5_opening ⟨Nat.le_of_ble_eq_true rfl, Nat.le_of_ble_eq_true rfl⟩ [0, 1, 2, 3, 4, 5, 6] rfl 0 rfl rfl rfl hl.1 rfl (Nat.le_of_ble_eq_true rfl) dX5_node_115 ⟨Nat.zero_le _, Nat.zero_le _⟩ ?_
      exact rd_ret X rfl (Option.some.inj h) dX5_node_118
    replace h := ifn c16 h
    by_cases c18 : x2 = iI 8
    · replace h := ifp c18 h
      refine lv_tableIn (tgt := 119) hx hb dX5_node_11 (by rw [c18]; decide) (by rw [c18]; decide) (by rw [c18]; rfl) (by decide) ?_
      refine lv_aload_n hx hb dX5_node_119 rfl (lv_at hl 0 rfl) ?_
      refine lv_iload_n hx hb dX5_node_120 rfl (lv_at hl 1 rfl) ?_
      obtain ⟨r19, h_r19, h⟩ := obd h
      refine rcV (rest := []) X hKK hP 1 (zX5_closing l D cI cC q n d lb kp kr ty tx rd rl wi x1 r19 h_r19) gX5_node_X5_closing rfl rfl rfl hdX5_closing ⟨Nat.le_of_ble_eq_true rfl, Nat.le_of_ble_eq_true rfl⟩ [0, 1, 2, 3, 4, 5, 6] rfl 0 rfl rfl rfl hl.1 rfl (Nat.le_of_ble_eq_true rfl) dX5_node_121 ⟨Nat.zero_le _, Nat.zero_le _⟩ ?_
      exact rd_ret X rfl (Option.some.inj h) dX5_node_124
    replace h := ifn c18 h
    by_cases c20 : x2 = iI 9
    · replace h := ifp c20 h
      refine lv_tableIn (tgt := 125) hx hb dX5_node_11 (by rw [c20]; decide) (by rw [c20]; decide) (by rw [c20]; rfl) (by decide) ?_
      refine lv_aload_n hx hb dX5_node_125 rfl (lv_at hl 0 rfl) ?_
      refine lv_iload_n hx hb dX5_node_126 rfl (lv_at hl 1 rfl) ?_
      obtain ⟨r21, h_r21, h⟩ := obd h
      refine rcV (rest := []) X hKK hP 1 (zX5_rankOf l D cI cC q n d lb kp kr ty tx rd rl wi x1 r21 h_r21) gX5_node_X5_rankOf rfl rfl rfl hdX5_rankOf ⟨Nat.le_of_ble_eq_true rfl, Nat.le_of_ble_eq_true rfl⟩ [0, 1, 2, 3, 4, 5, 6] rfl 0 rfl rfl rfl hl.1 rfl (Nat.le_of_ble_eq_true rfl) dX5_node_127 ⟨Nat.zero_le _, Nat.zero_le _⟩ ?_
      exact rd_ret X rfl (Option.some.inj h) dX5_node_130
    replace h := ifn c20 h
    by_cases c22 : x2 = iI 10
    · replace h := ifp c22 h
      refine lv_tableIn (tgt := 131) hx hb dX5_node_11 (by rw [c22]; decide) (by rw [c22]; decide) (by rw [c22]; rfl) (by decide) ?_
      refine lv_aload_n hx hb dX5_node_131 rfl (lv_at hl 0 rfl) ?_
      refine va_get (D := D) (ci := 5) (v := .ref (q 2)) (C := RX5) (T := TX5) (N := 10) hx hb X.2.2.2.2.1 iwX5_node_5 X.2.2.2.1 hKK.1 hP 0 rfl rfl 2 (by decide) (X.2.2.2.2.1 _ flX5_node_13) (fun _ h9 => h9) rfl dX5_node_132 ?_
      refine lv_iload_n hx hb dX5_node_135 rfl (lv_at hl 1 rfl) ?_
      obtain ⟨g23, h⟩ := asr h
      refine va_cald hx hb hKK.1 hP 2 1 rfl rfl g23 dX5_node_136 ?_
      exact rd_ret X rfl (Option.some.inj h) dX5_node_137
    replace h := ifn c22 h
    refine lv_tableOut (tgt := 138) hx hb dX5_node_11 (sw10 c2 c4 c6 c8 c10 c12 c14 c16 c18 c20 c22) (by decide) ?_
    refine lv_bipush (v := iI (-2)) hx hb dX5_node_138 (by decide) ?_
    exact rd_ret X rfl (Option.some.inj h) dX5_node_140
  · replace h := ifn c1 h
    refine lv_iconst (v := iI (-1)) hx hb dX5_node_8 rfl ?_
    exact rd_ret X rfl (Option.some.inj h) dX5_node_9
def mX5_child (n : Int32) (d : Nat → Int32) (x1 : Int32) (x2 : Int32) : Option (Int32) := (if (mX5_noNode n x1) = 0 then (if 0 ≤ x2 then ((mX5_childCount n d x1).bind fun r3 => (if r3 ≤ x2 then some (iI (-5)) else ((mX5_childOrEnd n d x1 x2).bind fun r5 => some r5))) else some (iI (-2))) else some (iI (-1)))
theorem hdX5_child : yX5_child.cls = RX5 ∧ yX5_child.cls ≠ "java/lang/invoke/MethodHandle" ∧ yX5_child.cls ≠ "java/lang/invoke/VarHandle" ∧ (parseMethodDescriptor yX5_child.desc).map (fun d => d.parameters.length) = some 2 := by decide +kernel
abbrev rmX5_child : Room := { frames := 2, cells := 0, slots := 0, locals := 47 }
set_option maxHeartbeats 4000000 in
set_option maxRecDepth 100000 in
theorem zX5_child (l : Launch) (D : va_G) (cI cC : ClassId) (q : Nat → Nat) (n : Int32) (d : Nat → Int32) (lb : Nat → Int32) (kp : Int32) (kr : Nat → Int32) (ty : Int32) (tx : Nat → Int32) (rd : Nat → Int32) (rl : Nat → Int32) (wi : Int32) (x1 : Int32) (x2 : Int32) (r : Int32) (h : mX5_child n d x1 x2 = some r) : Met l yX5_child wsX5_child rmX5_child (va_Pc [.ref (q 0), .int x1, .int x2] (BW D cI cC (wM cI cC q n d lb kp kr ty tx rd rl wi))) (rdQ r) 0 0 (fun _ => False) := by
  refine MetI RX5 (by decide +kernel) rfl rfl (Nat.le_of_ble_eq_true rfl) ?_
  intro p e s m below meth c ls X _ hB hl
  obtain ⟨hP, hKK⟩ := hB
  have hx := X.1
  have hb := X.2.1
  replace hl : lv_has ls 3 [(0, .ref (q 0)), (1, .int x1), (2, .int x2)] := hl
  unfold mX5_child at h
  refine lv_aload_n hx hb dX5_child_0 rfl (lv_at hl 0 rfl) ?_
  refine lv_iload_n hx hb dX5_child_1 rfl (lv_at hl 1 rfl) ?_
  refine rcV (rest := []) X hKK hP 1 (zX5_noNode l D cI cC q n d lb kp kr ty tx rd rl wi x1 _ rfl) gX5_child_X5_noNode rfl rfl rfl hdX5_noNode ⟨Nat.le_of_ble_eq_true rfl, Nat.le_of_ble_eq_true rfl⟩ [0, 1, 2, 3, 4, 5, 6] rfl 0 rfl rfl rfl hl.1 rfl (Nat.le_of_ble_eq_true rfl) dX5_child_2 ⟨Nat.zero_le _, Nat.zero_le _⟩ ?_
  refine lv_if_eq (tgt := 10) hx hb dX5_child_5 (by decide) (fun c1 => ?_) (fun c1 => ?_)
  · replace h := ifp c1 h
    refine lv_iload_n hx hb dX5_child_10 rfl (lv_at hl 2 rfl) ?_
    refine lv_if_ge (tgt := 17) hx hb dX5_child_11 (by decide) (fun c2 => ?_) (fun c2 => ?_)
    · replace h := ifp c2 h
      refine lv_iload_n hx hb dX5_child_17 rfl (lv_at hl 2 rfl) ?_
      refine lv_aload_n hx hb dX5_child_18 rfl (lv_at hl 0 rfl) ?_
      refine lv_iload_n hx hb dX5_child_19 rfl (lv_at hl 1 rfl) ?_
      obtain ⟨r3, h_r3, h⟩ := obd h
      refine rcV (rest := [.int x2]) X hKK hP 1 (zX5_childCount l D cI cC q n d lb kp kr ty tx rd rl wi x1 r3 h_r3) gX5_child_X5_childCount rfl rfl rfl hdX5_childCount ⟨Nat.le_of_ble_eq_true rfl, Nat.le_of_ble_eq_true rfl⟩ [0, 1, 2, 3, 4, 5, 6] rfl 0 rfl rfl rfl hl.1 rfl (Nat.le_of_ble_eq_true rfl) dX5_child_20 ⟨Nat.zero_le _, Nat.zero_le _⟩ ?_
      refine lv_icmp_ge (tgt := 35) hx hb dX5_child_23 (by decide) (fun c4 => ?_) (fun c4 => ?_)
      · replace h := ifp c4 h
        refine lv_bipush (v := iI (-5)) hx hb dX5_child_35 (by decide) ?_
        exact rd_ret X rfl (Option.some.inj h) dX5_child_37
      · replace h := ifn c4 h
        refine lv_aload_n hx hb dX5_child_26 rfl (lv_at hl 0 rfl) ?_
        refine lv_iload_n hx hb dX5_child_27 rfl (lv_at hl 1 rfl) ?_
        refine lv_iload_n hx hb dX5_child_28 rfl (lv_at hl 2 rfl) ?_
        obtain ⟨r5, h_r5, h⟩ := obd h
        refine rcV (rest := []) X hKK hP 2 (zX5_childOrEnd l D cI cC q n d lb kp kr ty tx rd rl wi x1 x2 r5 h_r5) gX5_child_X5_childOrEnd rfl rfl rfl hdX5_childOrEnd ⟨Nat.le_of_ble_eq_true rfl, Nat.le_of_ble_eq_true rfl⟩ [0, 1, 2, 3, 4, 5, 6] rfl 0 rfl rfl rfl hl.1 rfl (Nat.le_of_ble_eq_true rfl) dX5_child_29 ⟨Nat.zero_le _, Nat.zero_le _⟩ ?_
        refine lv_goto (tgt := 37) hx hb dX5_child_32 (by decide) ?_
        exact rd_ret X rfl (Option.some.inj h) dX5_child_37
    · replace h := ifn c2 h
      refine lv_bipush (v := iI (-2)) hx hb dX5_child_14 (by decide) ?_
      exact rd_ret X rfl (Option.some.inj h) dX5_child_16
  · replace h := ifn c1 h
    refine lv_iconst (v := iI (-1)) hx hb dX5_child_8 rfl ?_
    exact rd_ret X rfl (Option.some.inj h) dX5_child_9
def mX5_heaviest_10 : Nat → Int32 → (Nat → Int32) → Int32 → Int32 → Int32 → Int32 → Option (Int32)
  | 0, _, _, _, _, _, _ => none
  | f + 1, n, d, x1, x2, x3, x4 => ((mX5_behind n d x1).bind fun r1 => (if r1 ≤ x4 then some x2 else ((mX5_behind n d x4).bind fun r3 => (if (r3 - x4) ≤ x3 then (if (r3 - x4) ≤ x3 then ((mX5_behind n d x4).bind fun r6 => mX5_heaviest_10 f n d x1 x2 x3 r6) else ((mX5_behind n d x4).bind fun r7 => mX5_heaviest_10 f n d x1 x2 (r3 - x4) r7)) else (if (r3 - x4) ≤ x3 then ((mX5_behind n d x4).bind fun r9 => mX5_heaviest_10 f n d x1 x4 x3 r9) else ((mX5_behind n d x4).bind fun r10 => mX5_heaviest_10 f n d x1 x4 (r3 - x4) r10))))))
def mX5_heaviest (n : Int32) (d : Nat → Int32) (x1 : Int32) : Option (Int32) := mX5_heaviest_10 FU n d x1 (iI (-5)) (iI 0) (x1 + (iI 1))
theorem hdX5_heaviest : yX5_heaviest.cls = RX5 ∧ yX5_heaviest.cls ≠ "java/lang/invoke/MethodHandle" ∧ yX5_heaviest.cls ≠ "java/lang/invoke/VarHandle" ∧ (parseMethodDescriptor yX5_heaviest.desc).map (fun d => d.parameters.length) = some 1 := by decide +kernel
abbrev rmX5_heaviest : Room := { frames := 1, cells := 0, slots := 0, locals := 22 }
set_option maxHeartbeats 4000000 in
set_option maxRecDepth 100000 in
theorem kX5_heaviest_10 {p : Program} {l : Launch} {e : Env} {s : State} {m : MethodId} {args : Array Value} {below : List Frame} {meth : Method} {c : Code} {D : va_G} {cI cC : ClassId} {q : Nat → Nat} {n : Int32} {d : Nat → Int32} {lb : Nat → Int32} {kp : Int32} {kr : Nat → Int32} {ty : Int32} {tx : Nat → Int32} {rd : Nat → Int32} {rl : Nat → Int32} {wi : Int32} {r : Int32} (X : CX p s m args meth c wsX5_heaviest cX5_heaviest 6 (some .int) RX5) (hKK : KK D cI cC s) (hP : va_P D vwCl (wM cI cC q n d lb kp kr ty tx rd rl wi) s.heap) : ∀ (f : Nat), ∀ (x1 : Int32) (x2 : Int32) (x3 : Int32) (x4 : Int32) (ls : Array Slot), lv_has ls 6 [(0, .ref (q 0)), (1, .int x1), (2, .int x2), (3, .int x3), (4, .int x4)] → mX5_heaviest_10 f n d x1 x2 x3 x4 = some r → W p l e rmX5_heaviest s m args below meth c s.heap [] 0 0 (MQ below (rdQ r) args s 0 0 (fun _ => False)) (F0 m 10 ls []) := by
  have hx := X.1
  have hb := X.2.1
  intro f
  induction f with
  | zero =>
    intro x1 x2 x3 x4 ls hl h
    exact absurd h (by unfold mX5_heaviest_10; intro h; cases h)
  | succ f ih =>
    intro x1 x2 x3 x4 ls hl h
    rw [mX5_heaviest_10] at h
    refine lv_iload hx hb dX5_heaviest_10 (lv_at hl 4 rfl) ?_
    refine lv_aload_n hx hb dX5_heaviest_12 rfl (lv_at hl 0 rfl) ?_
    refine lv_iload_n hx hb dX5_heaviest_13 rfl (lv_at hl 1 rfl) ?_
    obtain ⟨r1, h_r1, h⟩ := obd h
    refine rcV (rest := [.int x4]) X hKK hP 1 (zX5_behind l D cI cC q n d lb kp kr ty tx rd rl wi x1 r1 h_r1) gX5_heaviest_X5_behind rfl rfl rfl hdX5_behind ⟨Nat.le_of_ble_eq_true rfl, Nat.le_of_ble_eq_true rfl⟩ [0, 1, 2, 3, 4, 5, 6] rfl 0 rfl rfl rfl hl.1 rfl (Nat.le_of_ble_eq_true rfl) dX5_heaviest_14 ⟨Nat.zero_le _, Nat.zero_le _⟩ ?_
    refine lv_icmp_ge (tgt := 68) hx hb dX5_heaviest_17 (by decide) (fun c2 => ?_) (fun c2 => ?_)
    · replace h := ifp c2 h
      refine lv_iload_n hx hb dX5_heaviest_68 rfl (lv_at hl 2 rfl) ?_
      exact rd_ret X rfl (Option.some.inj h) dX5_heaviest_69
    · replace h := ifn c2 h
      refine lv_aload_n hx hb dX5_heaviest_20 rfl (lv_at hl 0 rfl) ?_
      refine lv_iload hx hb dX5_heaviest_21 (lv_at hl 4 rfl) ?_
      obtain ⟨r3, h_r3, h⟩ := obd h
      refine rcV (rest := []) X hKK hP 1 (zX5_behind l D cI cC q n d lb kp kr ty tx rd rl wi x4 r3 h_r3) gX5_heaviest_X5_behind rfl rfl rfl hdX5_behind ⟨Nat.le_of_ble_eq_true rfl, Nat.le_of_ble_eq_true rfl⟩ [0, 1, 2, 3, 4, 5, 6] rfl 0 rfl rfl rfl hl.1 rfl (Nat.le_of_ble_eq_true rfl) dX5_heaviest_23 ⟨Nat.zero_le _, Nat.zero_le _⟩ ?_
      refine lv_iload hx hb dX5_heaviest_26 (lv_at hl 4 rfl) ?_
      refine lv_isub hx hb dX5_heaviest_28 ?_
      refine lv_istore (lv' := [(5, .int (r3 - x4)), (0, .ref (q 0)), (1, .int x1), (2, .int x2), (3, .int x3), (4, .int x4)]) hx hb dX5_heaviest_29 hl (by decide) rfl (fun ls hl => ?_)
      refine lv_iload hx hb dX5_heaviest_31 (lv_at hl 0 rfl) ?_
      refine lv_iload_n hx hb dX5_heaviest_33 rfl (lv_at hl 4 rfl) ?_
      refine lv_icmp_le (tgt := 42) hx hb dX5_heaviest_34 (by decide) (fun c4 => ?_) (fun c4 => ?_)
      · replace h := ifp c4 h
        refine lv_iload_n hx hb dX5_heaviest_42 rfl (lv_at hl 3 rfl) ?_
        refine lv_istore_n (lv' := [(2, .int x2), (5, .int (r3 - x4)), (0, .ref (q 0)), (1, .int x1), (3, .int x3), (4, .int x4)]) hx hb dX5_heaviest_43 rfl hl (by decide) rfl (fun ls hl => ?_)
        refine lv_iload hx hb dX5_heaviest_44 (lv_at hl 1 rfl) ?_
        refine lv_iload_n hx hb dX5_heaviest_46 rfl (lv_at hl 4 rfl) ?_
        refine lv_icmp_le (tgt := 55) hx hb dX5_heaviest_47 (by decide) (fun c5 => ?_) (fun c5 => ?_)
        · replace h := ifp c5 h
          refine lv_iload_n hx hb dX5_heaviest_55 rfl (lv_at hl 4 rfl) ?_
          refine lv_istore_n (lv' := [(3, .int x3), (2, .int x2), (5, .int (r3 - x4)), (0, .ref (q 0)), (1, .int x1), (4, .int x4)]) hx hb dX5_heaviest_56 rfl hl (by decide) rfl (fun ls hl => ?_)
          refine lv_aload_n hx hb dX5_heaviest_57 rfl (lv_at hl 3 rfl) ?_
          refine lv_iload hx hb dX5_heaviest_58 (lv_at hl 5 rfl) ?_
          obtain ⟨r6, h_r6, h⟩ := obd h
          refine rcV (rest := []) X hKK hP 1 (zX5_behind l D cI cC q n d lb kp kr ty tx rd rl wi x4 r6 h_r6) gX5_heaviest_X5_behind rfl rfl rfl hdX5_behind ⟨Nat.le_of_ble_eq_true rfl, Nat.le_of_ble_eq_true rfl⟩ [0, 1, 2, 3, 4, 5, 6] rfl 0 rfl rfl rfl hl.1 rfl (Nat.le_of_ble_eq_true rfl) dX5_heaviest_60 ⟨Nat.zero_le _, Nat.zero_le _⟩ ?_
          refine lv_istore (lv' := [(4, .int r6), (3, .int x3), (2, .int x2), (5, .int (r3 - x4)), (0, .ref (q 0)), (1, .int x1)]) hx hb dX5_heaviest_63 hl (by decide) rfl (fun ls hl => ?_)
          refine lv_goto (tgt := 10) hx hb dX5_heaviest_65 (by decide) ?_
          exact ih x1 x2 x3 r6 ls (lv_sub hl [4, 5, 2, 1, 0] rfl) h
        · replace h := ifn c5 h
          refine lv_iload hx hb dX5_heaviest_50 (lv_at hl 1 rfl) ?_
          refine lv_goto (tgt := 56) hx hb dX5_heaviest_52 (by decide) ?_
          refine lv_istore_n (lv' := [(3, .int (r3 - x4)), (2, .int x2), (5, .int (r3 - x4)), (0, .ref (q 0)), (1, .int x1), (4, .int x4)]) hx hb dX5_heaviest_56 rfl hl (by decide) rfl (fun ls hl => ?_)
          refine lv_aload_n hx hb dX5_heaviest_57 rfl (lv_at hl 3 rfl) ?_
          refine lv_iload hx hb dX5_heaviest_58 (lv_at hl 5 rfl) ?_
          obtain ⟨r7, h_r7, h⟩ := obd h
          refine rcV (rest := []) X hKK hP 1 (zX5_behind l D cI cC q n d lb kp kr ty tx rd rl wi x4 r7 h_r7) gX5_heaviest_X5_behind rfl rfl rfl hdX5_behind ⟨Nat.le_of_ble_eq_true rfl, Nat.le_of_ble_eq_true rfl⟩ [0, 1, 2, 3, 4, 5, 6] rfl 0 rfl rfl rfl hl.1 rfl (Nat.le_of_ble_eq_true rfl) dX5_heaviest_60 ⟨Nat.zero_le _, Nat.zero_le _⟩ ?_
          refine lv_istore (lv' := [(4, .int r7), (3, .int (r3 - x4)), (2, .int x2), (5, .int (r3 - x4)), (0, .ref (q 0)), (1, .int x1)]) hx hb dX5_heaviest_63 hl (by decide) rfl (fun ls hl => ?_)
          refine lv_goto (tgt := 10) hx hb dX5_heaviest_65 (by decide) ?_
          exact ih x1 x2 (r3 - x4) r7 ls (lv_sub hl [4, 5, 2, 1, 0] rfl) h
      · replace h := ifn c4 h
        refine lv_iload hx hb dX5_heaviest_37 (lv_at hl 5 rfl) ?_
        refine lv_goto (tgt := 43) hx hb dX5_heaviest_39 (by decide) ?_
        refine lv_istore_n (lv' := [(2, .int x4), (5, .int (r3 - x4)), (0, .ref (q 0)), (1, .int x1), (3, .int x3), (4, .int x4)]) hx hb dX5_heaviest_43 rfl hl (by decide) rfl (fun ls hl => ?_)
        refine lv_iload hx hb dX5_heaviest_44 (lv_at hl 1 rfl) ?_
        refine lv_iload_n hx hb dX5_heaviest_46 rfl (lv_at hl 4 rfl) ?_
        refine lv_icmp_le (tgt := 55) hx hb dX5_heaviest_47 (by decide) (fun c8 => ?_) (fun c8 => ?_)
        · replace h := ifp c8 h
          refine lv_iload_n hx hb dX5_heaviest_55 rfl (lv_at hl 4 rfl) ?_
          refine lv_istore_n (lv' := [(3, .int x3), (2, .int x4), (5, .int (r3 - x4)), (0, .ref (q 0)), (1, .int x1), (4, .int x4)]) hx hb dX5_heaviest_56 rfl hl (by decide) rfl (fun ls hl => ?_)
          refine lv_aload_n hx hb dX5_heaviest_57 rfl (lv_at hl 3 rfl) ?_
          refine lv_iload hx hb dX5_heaviest_58 (lv_at hl 5 rfl) ?_
          obtain ⟨r9, h_r9, h⟩ := obd h
          refine rcV (rest := []) X hKK hP 1 (zX5_behind l D cI cC q n d lb kp kr ty tx rd rl wi x4 r9 h_r9) gX5_heaviest_X5_behind rfl rfl rfl hdX5_behind ⟨Nat.le_of_ble_eq_true rfl, Nat.le_of_ble_eq_true rfl⟩ [0, 1, 2, 3, 4, 5, 6] rfl 0 rfl rfl rfl hl.1 rfl (Nat.le_of_ble_eq_true rfl) dX5_heaviest_60 ⟨Nat.zero_le _, Nat.zero_le _⟩ ?_
          refine lv_istore (lv' := [(4, .int r9), (3, .int x3), (2, .int x4), (5, .int (r3 - x4)), (0, .ref (q 0)), (1, .int x1)]) hx hb dX5_heaviest_63 hl (by decide) rfl (fun ls hl => ?_)
          refine lv_goto (tgt := 10) hx hb dX5_heaviest_65 (by decide) ?_
          exact ih x1 x4 x3 r9 ls (lv_sub hl [4, 5, 2, 1, 0] rfl) h
        · replace h := ifn c8 h
          refine lv_iload hx hb dX5_heaviest_50 (lv_at hl 1 rfl) ?_
          refine lv_goto (tgt := 56) hx hb dX5_heaviest_52 (by decide) ?_
          refine lv_istore_n (lv' := [(3, .int (r3 - x4)), (2, .int x4), (5, .int (r3 - x4)), (0, .ref (q 0)), (1, .int x1), (4, .int x4)]) hx hb dX5_heaviest_56 rfl hl (by decide) rfl (fun ls hl => ?_)
          refine lv_aload_n hx hb dX5_heaviest_57 rfl (lv_at hl 3 rfl) ?_
          refine lv_iload hx hb dX5_heaviest_58 (lv_at hl 5 rfl) ?_
          obtain ⟨r10, h_r10, h⟩ := obd h
          refine rcV (rest := []) X hKK hP 1 (zX5_behind l D cI cC q n d lb kp kr ty tx rd rl wi x4 r10 h_r10) gX5_heaviest_X5_behind rfl rfl rfl hdX5_behind ⟨Nat.le_of_ble_eq_true rfl, Nat.le_of_ble_eq_true rfl⟩ [0, 1, 2, 3, 4, 5, 6] rfl 0 rfl rfl rfl hl.1 rfl (Nat.le_of_ble_eq_true rfl) dX5_heaviest_60 ⟨Nat.zero_le _, Nat.zero_le _⟩ ?_
          refine lv_istore (lv' := [(4, .int r10), (3, .int (r3 - x4)), (2, .int x4), (5, .int (r3 - x4)), (0, .ref (q 0)), (1, .int x1)]) hx hb dX5_heaviest_63 hl (by decide) rfl (fun ls hl => ?_)
          refine lv_goto (tgt := 10) hx hb dX5_heaviest_65 (by decide) ?_
          exact ih x1 x4 (r3 - x4) r10 ls (lv_sub hl [4, 5, 2, 1, 0] rfl) h
set_option maxHeartbeats 4000000 in
set_option maxRecDepth 100000 in
theorem zX5_heaviest (l : Launch) (D : va_G) (cI cC : ClassId) (q : Nat → Nat) (n : Int32) (d : Nat → Int32) (lb : Nat → Int32) (kp : Int32) (kr : Nat → Int32) (ty : Int32) (tx : Nat → Int32) (rd : Nat → Int32) (rl : Nat → Int32) (wi : Int32) (x1 : Int32) (r : Int32) (h : mX5_heaviest n d x1 = some r) : Met l yX5_heaviest wsX5_heaviest rmX5_heaviest (va_Pc [.ref (q 0), .int x1] (BW D cI cC (wM cI cC q n d lb kp kr ty tx rd rl wi))) (rdQ r) 0 0 (fun _ => False) := by
  refine MetI RX5 (by decide +kernel) rfl rfl (Nat.le_of_ble_eq_true rfl) ?_
  intro p e s m below meth c ls X _ hB hl
  obtain ⟨hP, hKK⟩ := hB
  have hx := X.1
  have hb := X.2.1
  replace hl : lv_has ls 6 [(0, .ref (q 0)), (1, .int x1)] := hl
  unfold mX5_heaviest at h
  refine lv_bipush (v := iI (-5)) hx hb dX5_heaviest_0 (by decide) ?_
  refine lv_istore_n (lv' := [(2, .int (iI (-5))), (0, .ref (q 0)), (1, .int x1)]) hx hb dX5_heaviest_2 rfl hl (by decide) rfl (fun ls hl => ?_)
  refine lv_iconst (v := iI 0) hx hb dX5_heaviest_3 rfl ?_
  refine lv_istore_n (lv' := [(3, .int (iI 0)), (2, .int (iI (-5))), (0, .ref (q 0)), (1, .int x1)]) hx hb dX5_heaviest_4 rfl hl (by decide) rfl (fun ls hl => ?_)
  refine lv_iload_n hx hb dX5_heaviest_5 rfl (lv_at hl 3 rfl) ?_
  refine lv_iconst (v := iI 1) hx hb dX5_heaviest_6 rfl ?_
  refine lv_iadd hx hb dX5_heaviest_7 ?_
  refine lv_istore (lv' := [(4, .int (x1 + (iI 1))), (3, .int (iI 0)), (2, .int (iI (-5))), (0, .ref (q 0)), (1, .int x1)]) hx hb dX5_heaviest_8 hl (by decide) rfl (fun ls hl => ?_)
  exact kX5_heaviest_10 X hKK hP FU x1 (iI (-5)) (iI 0) (x1 + (iI 1)) ls (lv_sub hl [3, 4, 2, 1, 0] rfl) h
def mX5_levelMate_4 : Nat → Int32 → (Nat → Int32) → Int32 → Int32 → Int32 → Option (Int32)
  | 0, _, _, _, _, _ => none
  | f + 1, n, d, x1, x2, x3 => (if (mX5_in x3 (iI 0) (n - (iI 1))) = 0 then (if (mX5_in x3 (iI 0) (n - (iI 1))) = 0 then some (iI (-5)) else some x3) else (if inb x3 100 then (if inb x1 100 then (if (d x3.toNatClampNeg) = (d x1.toNatClampNeg) then (if (mX5_in x3 (iI 0) (n - (iI 1))) = 0 then some (iI (-5)) else some x3) else mX5_levelMate_4 f n d x1 x2 (x3 + x2)) else none) else none))
def mX5_levelMate (n : Int32) (d : Nat → Int32) (x1 : Int32) (x2 : Int32) : Option (Int32) := mX5_levelMate_4 FU n d x1 x2 (x1 + x2)
theorem hdX5_levelMate : yX5_levelMate.cls = RX5 ∧ yX5_levelMate.cls ≠ "java/lang/invoke/MethodHandle" ∧ yX5_levelMate.cls ≠ "java/lang/invoke/VarHandle" ∧ (parseMethodDescriptor yX5_levelMate.desc).map (fun d => d.parameters.length) = some 2 := by decide +kernel
theorem flX5_levelMate_29 : Cond.fieldLink RX5 29 "BracketTreeModel" "n" "I" ∈ wsX5_levelMate := by decide +kernel
theorem iwX5_levelMate_5 : ∀ w ∈ wsX50, w ∈ wsX5_levelMate := by decide +kernel
theorem flX5_levelMate_7 : Cond.fieldLink RX5 7 "BracketTreeModel" "depthOf" "[I" ∈ wsX5_levelMate := by decide +kernel
abbrev rmX5_levelMate : Room := { frames := 1, cells := 0, slots := 0, locals := 22 }
set_option maxHeartbeats 4000000 in
set_option maxRecDepth 100000 in
theorem kX5_levelMate_4 {p : Program} {l : Launch} {e : Env} {s : State} {m : MethodId} {args : Array Value} {below : List Frame} {meth : Method} {c : Code} {D : va_G} {cI cC : ClassId} {q : Nat → Nat} {n : Int32} {d : Nat → Int32} {lb : Nat → Int32} {kp : Int32} {kr : Nat → Int32} {ty : Int32} {tx : Nat → Int32} {rd : Nat → Int32} {rl : Nat → Int32} {wi : Int32} {r : Int32} (X : CX p s m args meth c wsX5_levelMate cX5_levelMate 4 (some .int) RX5) (hKK : KK D cI cC s) (hP : va_P D vwCl (wM cI cC q n d lb kp kr ty tx rd rl wi) s.heap) : ∀ (f : Nat), ∀ (x1 : Int32) (x2 : Int32) (x3 : Int32) (ls : Array Slot), lv_has ls 4 [(0, .ref (q 0)), (1, .int x1), (2, .int x2), (3, .int x3)] → mX5_levelMate_4 f n d x1 x2 x3 = some r → W p l e rmX5_levelMate s m args below meth c s.heap [] 0 0 (MQ below (rdQ r) args s 0 0 (fun _ => False)) (F0 m 4 ls []) := by
  have hx := X.1
  have hb := X.2.1
  intro f
  induction f with
  | zero =>
    intro x1 x2 x3 ls hl h
    exact absurd h (by unfold mX5_levelMate_4; intro h; cases h)
  | succ f ih =>
    intro x1 x2 x3 ls hl h
    rw [mX5_levelMate_4] at h
    refine lv_iload_n hx hb dX5_levelMate_4 rfl (lv_at hl 3 rfl) ?_
    refine lv_iconst (v := iI 0) hx hb dX5_levelMate_5 rfl ?_
    refine lv_aload_n hx hb dX5_levelMate_6 rfl (lv_at hl 0 rfl) ?_
    refine va_get (D := D) (ci := 5) (v := .int n) (C := RX5) (T := TX5) (N := 10) hx hb X.2.2.2.2.1 iwX5_levelMate_5 X.2.2.2.1 hKK.1 hP 0 rfl rfl 0 (by decide) (X.2.2.2.2.1 _ flX5_levelMate_29) (fun _ h9 => h9) rfl dX5_levelMate_7 ?_
    refine lv_iconst (v := iI 1) hx hb dX5_levelMate_10 rfl ?_
    refine lv_isub hx hb dX5_levelMate_11 ?_
    refine rcS (rest := []) X hKK hP 3 (zX5_in l D cI cC x3 (iI 0) (n - (iI 1)) _ rfl) gX5_levelMate_X5_in rfl rfl rfl hdX5_in ⟨Nat.le_of_ble_eq_true rfl, Nat.le_of_ble_eq_true rfl⟩ [] rfl rfl hl.1 rfl (Nat.le_of_ble_eq_true rfl) dX5_levelMate_12 ⟨Nat.zero_le _, Nat.zero_le _⟩ ?_
    refine lv_if_eq (tgt := 40) hx hb dX5_levelMate_15 (by decide) (fun c1 => ?_) (fun c1 => ?_)
    · replace h := ifp c1 h
      refine lv_iload_n hx hb dX5_levelMate_40 rfl (lv_at hl 3 rfl) ?_
      refine lv_iconst (v := iI 0) hx hb dX5_levelMate_41 rfl ?_
      refine lv_aload_n hx hb dX5_levelMate_42 rfl (lv_at hl 0 rfl) ?_
      refine va_get (D := D) (ci := 5) (v := .int n) (C := RX5) (T := TX5) (N := 10) hx hb X.2.2.2.2.1 iwX5_levelMate_5 X.2.2.2.1 hKK.1 hP 0 rfl rfl 0 (by decide) (X.2.2.2.2.1 _ flX5_levelMate_29) (fun _ h9 => h9) rfl dX5_levelMate_43 ?_
      refine lv_iconst (v := iI 1) hx hb dX5_levelMate_46 rfl ?_
      refine lv_isub hx hb dX5_levelMate_47 ?_
      refine rcS (rest := []) X hKK hP 3 (zX5_in l D cI cC x3 (iI 0) (n - (iI 1)) _ rfl) gX5_levelMate_X5_in rfl rfl rfl hdX5_in ⟨Nat.le_of_ble_eq_true rfl, Nat.le_of_ble_eq_true rfl⟩ [] rfl rfl hl.1 rfl (Nat.le_of_ble_eq_true rfl) dX5_levelMate_48 ⟨Nat.zero_le _, Nat.zero_le _⟩ ?_
      refine lv_if_eq (tgt := 58) hx hb dX5_levelMate_51 (by decide) (fun c2 => ?_) (fun c2 => ?_)
      · replace h := ifp c2 h
        refine lv_bipush (v := iI (-5)) hx hb dX5_levelMate_58 (by decide) ?_
        exact rd_ret X rfl (Option.some.inj h) dX5_levelMate_60
      · replace h := ifn c2 h
        refine lv_iload_n hx hb dX5_levelMate_54 rfl (lv_at hl 3 rfl) ?_
        refine lv_goto (tgt := 60) hx hb dX5_levelMate_55 (by decide) ?_
        exact rd_ret X rfl (Option.some.inj h) dX5_levelMate_60
    · replace h := ifn c1 h
      refine lv_aload_n hx hb dX5_levelMate_18 rfl (lv_at hl 0 rfl) ?_
      refine va_get (D := D) (ci := 5) (v := .ref (q 1)) (C := RX5) (T := TX5) (N := 10) hx hb X.2.2.2.2.1 iwX5_levelMate_5 X.2.2.2.1 hKK.1 hP 0 rfl rfl 1 (by decide) (X.2.2.2.2.1 _ flX5_levelMate_7) (fun _ h9 => h9) rfl dX5_levelMate_19 ?_
      refine lv_iload_n hx hb dX5_levelMate_22 rfl (lv_at hl 3 rfl) ?_
      obtain ⟨g3, h⟩ := asr h
      refine va_iald hx hb hKK.1 hP 1 0 rfl rfl g3 dX5_levelMate_23 ?_
      refine lv_aload_n hx hb dX5_levelMate_24 rfl (lv_at hl 0 rfl) ?_
      refine va_get (D := D) (ci := 5) (v := .ref (q 1)) (C := RX5) (T := TX5) (N := 10) hx hb X.2.2.2.2.1 iwX5_levelMate_5 X.2.2.2.1 hKK.1 hP 0 rfl rfl 1 (by decide) (X.2.2.2.2.1 _ flX5_levelMate_7) (fun _ h9 => h9) rfl dX5_levelMate_25 ?_
      refine lv_iload_n hx hb dX5_levelMate_28 rfl (lv_at hl 1 rfl) ?_
      obtain ⟨g4, h⟩ := asr h
      refine va_iald hx hb hKK.1 hP 1 0 rfl rfl g4 dX5_levelMate_29 ?_
      refine lv_icmp_eq (tgt := 40) hx hb dX5_levelMate_30 (by decide) (fun c5 => ?_) (fun c5 => ?_)
      · replace h := ifp c5 h
        refine lv_iload_n hx hb dX5_levelMate_40 rfl (lv_at hl 3 rfl) ?_
        refine lv_iconst (v := iI 0) hx hb dX5_levelMate_41 rfl ?_
        refine lv_aload_n hx hb dX5_levelMate_42 rfl (lv_at hl 0 rfl) ?_
        refine va_get (D := D) (ci := 5) (v := .int n) (C := RX5) (T := TX5) (N := 10) hx hb X.2.2.2.2.1 iwX5_levelMate_5 X.2.2.2.1 hKK.1 hP 0 rfl rfl 0 (by decide) (X.2.2.2.2.1 _ flX5_levelMate_29) (fun _ h9 => h9) rfl dX5_levelMate_43 ?_
        refine lv_iconst (v := iI 1) hx hb dX5_levelMate_46 rfl ?_
        refine lv_isub hx hb dX5_levelMate_47 ?_
        refine rcS (rest := []) X hKK hP 3 (zX5_in l D cI cC x3 (iI 0) (n - (iI 1)) _ rfl) gX5_levelMate_X5_in rfl rfl rfl hdX5_in ⟨Nat.le_of_ble_eq_true rfl, Nat.le_of_ble_eq_true rfl⟩ [] rfl rfl hl.1 rfl (Nat.le_of_ble_eq_true rfl) dX5_levelMate_48 ⟨Nat.zero_le _, Nat.zero_le _⟩ ?_
        refine lv_if_eq (tgt := 58) hx hb dX5_levelMate_51 (by decide) (fun c6 => ?_) (fun c6 => ?_)
        · replace h := ifp c6 h
          refine lv_bipush (v := iI (-5)) hx hb dX5_levelMate_58 (by decide) ?_
          exact rd_ret X rfl (Option.some.inj h) dX5_levelMate_60
        · replace h := ifn c6 h
          refine lv_iload_n hx hb dX5_levelMate_54 rfl (lv_at hl 3 rfl) ?_
          refine lv_goto (tgt := 60) hx hb dX5_levelMate_55 (by decide) ?_
          exact rd_ret X rfl (Option.some.inj h) dX5_levelMate_60
      · replace h := ifn c5 h
        refine lv_iload_n hx hb dX5_levelMate_33 rfl (lv_at hl 3 rfl) ?_
        refine lv_iload_n hx hb dX5_levelMate_34 rfl (lv_at hl 2 rfl) ?_
        refine lv_iadd hx hb dX5_levelMate_35 ?_
        refine lv_istore_n (lv' := [(3, .int (x3 + x2)), (0, .ref (q 0)), (1, .int x1), (2, .int x2)]) hx hb dX5_levelMate_36 rfl hl (by decide) rfl (fun ls hl => ?_)
        refine lv_goto (tgt := 4) hx hb dX5_levelMate_37 (by decide) ?_
        exact ih x1 x2 (x3 + x2) ls (lv_sub hl [1, 2, 3, 0] rfl) h
set_option maxHeartbeats 4000000 in
set_option maxRecDepth 100000 in
theorem zX5_levelMate (l : Launch) (D : va_G) (cI cC : ClassId) (q : Nat → Nat) (n : Int32) (d : Nat → Int32) (lb : Nat → Int32) (kp : Int32) (kr : Nat → Int32) (ty : Int32) (tx : Nat → Int32) (rd : Nat → Int32) (rl : Nat → Int32) (wi : Int32) (x1 : Int32) (x2 : Int32) (r : Int32) (h : mX5_levelMate n d x1 x2 = some r) : Met l yX5_levelMate wsX5_levelMate rmX5_levelMate (va_Pc [.ref (q 0), .int x1, .int x2] (BW D cI cC (wM cI cC q n d lb kp kr ty tx rd rl wi))) (rdQ r) 0 0 (fun _ => False) := by
  refine MetI RX5 (by decide +kernel) rfl rfl (Nat.le_of_ble_eq_true rfl) ?_
  intro p e s m below meth c ls X _ hB hl
  obtain ⟨hP, hKK⟩ := hB
  have hx := X.1
  have hb := X.2.1
  replace hl : lv_has ls 4 [(0, .ref (q 0)), (1, .int x1), (2, .int x2)] := hl
  unfold mX5_levelMate at h
  refine lv_iload_n hx hb dX5_levelMate_0 rfl (lv_at hl 1 rfl) ?_
  refine lv_iload_n hx hb dX5_levelMate_1 rfl (lv_at hl 2 rfl) ?_
  refine lv_iadd hx hb dX5_levelMate_2 ?_
  refine lv_istore_n (lv' := [(3, .int (x1 + x2)), (0, .ref (q 0)), (1, .int x1), (2, .int x2)]) hx hb dX5_levelMate_3 rfl hl (by decide) rfl (fun ls hl => ?_)
  exact kX5_levelMate_4 X hKK hP FU x1 x2 (x1 + x2) ls (lv_sub hl [1, 2, 3, 0] rfl) h
def mX5_leafBehind_4 : Nat → Int32 → (Nat → Int32) → Int32 → Int32 → Option (Int32)
  | 0, _, _, _, _ => none
  | f + 1, n, d, x1, x2 => (if n ≤ x2 then (if n ≤ x2 then some (iI (-5)) else some x2) else ((mX5_isLeaf n d x2).bind fun r3 => (if r3 = 0 then mX5_leafBehind_4 f n d x1 (x2 + iI 1) else (if n ≤ x2 then some (iI (-5)) else some x2))))
def mX5_leafBehind (n : Int32) (d : Nat → Int32) (x1 : Int32) : Option (Int32) := mX5_leafBehind_4 FU n d x1 (x1 + (iI 1))
theorem hdX5_leafBehind : yX5_leafBehind.cls = RX5 ∧ yX5_leafBehind.cls ≠ "java/lang/invoke/MethodHandle" ∧ yX5_leafBehind.cls ≠ "java/lang/invoke/VarHandle" ∧ (parseMethodDescriptor yX5_leafBehind.desc).map (fun d => d.parameters.length) = some 1 := by decide +kernel
theorem flX5_leafBehind_29 : Cond.fieldLink RX5 29 "BracketTreeModel" "n" "I" ∈ wsX5_leafBehind := by decide +kernel
theorem iwX5_leafBehind_5 : ∀ w ∈ wsX50, w ∈ wsX5_leafBehind := by decide +kernel
abbrev rmX5_leafBehind : Room := { frames := 1, cells := 0, slots := 0, locals := 21 }
set_option maxHeartbeats 4000000 in
set_option maxRecDepth 100000 in
theorem kX5_leafBehind_4 {p : Program} {l : Launch} {e : Env} {s : State} {m : MethodId} {args : Array Value} {below : List Frame} {meth : Method} {c : Code} {D : va_G} {cI cC : ClassId} {q : Nat → Nat} {n : Int32} {d : Nat → Int32} {lb : Nat → Int32} {kp : Int32} {kr : Nat → Int32} {ty : Int32} {tx : Nat → Int32} {rd : Nat → Int32} {rl : Nat → Int32} {wi : Int32} {r : Int32} (X : CX p s m args meth c wsX5_leafBehind cX5_leafBehind 3 (some .int) RX5) (hKK : KK D cI cC s) (hP : va_P D vwCl (wM cI cC q n d lb kp kr ty tx rd rl wi) s.heap) : ∀ (f : Nat), ∀ (x1 : Int32) (x2 : Int32) (ls : Array Slot), lv_has ls 3 [(0, .ref (q 0)), (1, .int x1), (2, .int x2)] → mX5_leafBehind_4 f n d x1 x2 = some r → W p l e rmX5_leafBehind s m args below meth c s.heap [] 0 0 (MQ below (rdQ r) args s 0 0 (fun _ => False)) (F0 m 4 ls []) := by
  have hx := X.1
  have hb := X.2.1
  intro f
  induction f with
  | zero =>
    intro x1 x2 ls hl h
    exact absurd h (by unfold mX5_leafBehind_4; intro h; cases h)
  | succ f ih =>
    intro x1 x2 ls hl h
    rw [mX5_leafBehind_4] at h
    refine lv_iload_n hx hb dX5_leafBehind_4 rfl (lv_at hl 2 rfl) ?_
    refine lv_aload_n hx hb dX5_leafBehind_5 rfl (lv_at hl 0 rfl) ?_
    refine va_get (D := D) (ci := 5) (v := .int n) (C := RX5) (T := TX5) (N := 10) hx hb X.2.2.2.2.1 iwX5_leafBehind_5 X.2.2.2.1 hKK.1 hP 0 rfl rfl 0 (by decide) (X.2.2.2.2.1 _ flX5_leafBehind_29) (fun _ h9 => h9) rfl dX5_leafBehind_6 ?_
    refine lv_icmp_ge (tgt := 26) hx hb dX5_leafBehind_9 (by decide) (fun c1 => ?_) (fun c1 => ?_)
    · replace h := ifp c1 h
      refine lv_iload_n hx hb dX5_leafBehind_26 rfl (lv_at hl 2 rfl) ?_
      refine lv_aload_n hx hb dX5_leafBehind_27 rfl (lv_at hl 0 rfl) ?_
      refine va_get (D := D) (ci := 5) (v := .int n) (C := RX5) (T := TX5) (N := 10) hx hb X.2.2.2.2.1 iwX5_leafBehind_5 X.2.2.2.1 hKK.1 hP 0 rfl rfl 0 (by decide) (X.2.2.2.2.1 _ flX5_leafBehind_29) (fun _ h9 => h9) rfl dX5_leafBehind_28 ?_
      refine lv_icmp_ge (tgt := 38) hx hb dX5_leafBehind_31 (by decide) (fun c2 => ?_) (fun c2 => ?_)
      · replace h := ifp c2 h
        refine lv_bipush (v := iI (-5)) hx hb dX5_leafBehind_38 (by decide) ?_
        exact rd_ret X rfl (Option.some.inj h) dX5_leafBehind_40
      · replace h := ifn c2 h
        refine lv_iload_n hx hb dX5_leafBehind_34 rfl (lv_at hl 2 rfl) ?_
        refine lv_goto (tgt := 40) hx hb dX5_leafBehind_35 (by decide) ?_
        exact rd_ret X rfl (Option.some.inj h) dX5_leafBehind_40
    · replace h := ifn c1 h
      refine lv_aload_n hx hb dX5_leafBehind_12 rfl (lv_at hl 0 rfl) ?_
      refine lv_iload_n hx hb dX5_leafBehind_13 rfl (lv_at hl 2 rfl) ?_
      obtain ⟨r3, h_r3, h⟩ := obd h
      refine rcV (rest := []) X hKK hP 1 (zX5_isLeaf l D cI cC q n d lb kp kr ty tx rd rl wi x2 r3 h_r3) gX5_leafBehind_X5_isLeaf rfl rfl rfl hdX5_isLeaf ⟨Nat.le_of_ble_eq_true rfl, Nat.le_of_ble_eq_true rfl⟩ [0, 1, 2, 3, 4, 5, 6] rfl 0 rfl rfl rfl hl.1 rfl (Nat.le_of_ble_eq_true rfl) dX5_leafBehind_14 ⟨Nat.zero_le _, Nat.zero_le _⟩ ?_
      refine lv_if_ne (tgt := 26) hx hb dX5_leafBehind_17 (by decide) (fun c4 => ?_) (fun c4 => ?_)
      · replace h := ifn c4 h
        refine lv_iload_n hx hb dX5_leafBehind_26 rfl (lv_at hl 2 rfl) ?_
        refine lv_aload_n hx hb dX5_leafBehind_27 rfl (lv_at hl 0 rfl) ?_
        refine va_get (D := D) (ci := 5) (v := .int n) (C := RX5) (T := TX5) (N := 10) hx hb X.2.2.2.2.1 iwX5_leafBehind_5 X.2.2.2.1 hKK.1 hP 0 rfl rfl 0 (by decide) (X.2.2.2.2.1 _ flX5_leafBehind_29) (fun _ h9 => h9) rfl dX5_leafBehind_28 ?_
        refine lv_icmp_ge (tgt := 38) hx hb dX5_leafBehind_31 (by decide) (fun c5 => ?_) (fun c5 => ?_)
        · replace h := ifp c5 h
          refine lv_bipush (v := iI (-5)) hx hb dX5_leafBehind_38 (by decide) ?_
          exact rd_ret X rfl (Option.some.inj h) dX5_leafBehind_40
        · replace h := ifn c5 h
          refine lv_iload_n hx hb dX5_leafBehind_34 rfl (lv_at hl 2 rfl) ?_
          refine lv_goto (tgt := 40) hx hb dX5_leafBehind_35 (by decide) ?_
          exact rd_ret X rfl (Option.some.inj h) dX5_leafBehind_40
      · replace h := ifp c4 h
        refine lv_iinc (v := (x2 + iI 1)) (lv' := [(2, .int (x2 + iI 1)), (0, .ref (q 0)), (1, .int x1)]) hx hb dX5_leafBehind_20 hl (k := 2) rfl rfl (by decide) rfl (fun ls hl => ?_)
        refine lv_goto (tgt := 4) hx hb dX5_leafBehind_23 (by decide) ?_
        exact ih x1 (x2 + iI 1) ls (lv_sub hl [1, 2, 0] rfl) h
set_option maxHeartbeats 4000000 in
set_option maxRecDepth 100000 in
theorem zX5_leafBehind (l : Launch) (D : va_G) (cI cC : ClassId) (q : Nat → Nat) (n : Int32) (d : Nat → Int32) (lb : Nat → Int32) (kp : Int32) (kr : Nat → Int32) (ty : Int32) (tx : Nat → Int32) (rd : Nat → Int32) (rl : Nat → Int32) (wi : Int32) (x1 : Int32) (r : Int32) (h : mX5_leafBehind n d x1 = some r) : Met l yX5_leafBehind wsX5_leafBehind rmX5_leafBehind (va_Pc [.ref (q 0), .int x1] (BW D cI cC (wM cI cC q n d lb kp kr ty tx rd rl wi))) (rdQ r) 0 0 (fun _ => False) := by
  refine MetI RX5 (by decide +kernel) rfl rfl (Nat.le_of_ble_eq_true rfl) ?_
  intro p e s m below meth c ls X _ hB hl
  obtain ⟨hP, hKK⟩ := hB
  have hx := X.1
  have hb := X.2.1
  replace hl : lv_has ls 3 [(0, .ref (q 0)), (1, .int x1)] := hl
  unfold mX5_leafBehind at h
  refine lv_iload_n hx hb dX5_leafBehind_0 rfl (lv_at hl 1 rfl) ?_
  refine lv_iconst (v := iI 1) hx hb dX5_leafBehind_1 rfl ?_
  refine lv_iadd hx hb dX5_leafBehind_2 ?_
  refine lv_istore_n (lv' := [(2, .int (x1 + (iI 1))), (0, .ref (q 0)), (1, .int x1)]) hx hb dX5_leafBehind_3 rfl hl (by decide) rfl (fun ls hl => ?_)
  exact kX5_leafBehind_4 X hKK hP FU x1 (x1 + (iI 1)) ls (lv_sub hl [1, 2, 0] rfl) h
def mX5_neighbour (n : Int32) (d : Nat → Int32) (x1 : Int32) (x2 : Int32) : Option (Int32) := (if (mX5_noNode n x1) = 0 then ((mX5_behind n d x1).bind fun r2 => (if x2 = iI 0 then (if n ≤ r2 then some (iI (-5)) else (if inb r2 100 then (if inb x1 100 then (if (d r2.toNatClampNeg) = (d x1.toNatClampNeg) then some r2 else some (iI (-5))) else none) else none)) else (if x2 = iI 1 then ((mX5_sibling d x1).bind fun r9 => some r9) else (if x2 = iI 2 then ((mX5_levelMate n d x1 (iI 1)).bind fun r11 => some r11) else (if x2 = iI 3 then ((mX5_levelMate n d x1 (iI (-1))).bind fun r13 => some r13) else (if x2 = iI 4 then ((mX5_leafBehind n d x1).bind fun r15 => some r15) else (if x2 = iI 5 then ((mX5_heaviest n d x1).bind fun r17 => some r17) else some (iI (-2))))))))) else some (iI (-1)))
theorem hdX5_neighbour : yX5_neighbour.cls = RX5 ∧ yX5_neighbour.cls ≠ "java/lang/invoke/MethodHandle" ∧ yX5_neighbour.cls ≠ "java/lang/invoke/VarHandle" ∧ (parseMethodDescriptor yX5_neighbour.desc).map (fun d => d.parameters.length) = some 2 := by decide +kernel
theorem flX5_neighbour_29 : Cond.fieldLink RX5 29 "BracketTreeModel" "n" "I" ∈ wsX5_neighbour := by decide +kernel
theorem iwX5_neighbour_5 : ∀ w ∈ wsX50, w ∈ wsX5_neighbour := by decide +kernel
theorem flX5_neighbour_7 : Cond.fieldLink RX5 7 "BracketTreeModel" "depthOf" "[I" ∈ wsX5_neighbour := by decide +kernel
abbrev rmX5_neighbour : Room := { frames := 2, cells := 0, slots := 0, locals := 47 }
set_option maxHeartbeats 4000000 in
set_option maxRecDepth 100000 in
theorem zX5_neighbour (l : Launch) (D : va_G) (cI cC : ClassId) (q : Nat → Nat) (n : Int32) (d : Nat → Int32) (lb : Nat → Int32) (kp : Int32) (kr : Nat → Int32) (ty : Int32) (tx : Nat → Int32) (rd : Nat → Int32) (rl : Nat → Int32) (wi : Int32) (x1 : Int32) (x2 : Int32) (r : Int32) (h : mX5_neighbour n d x1 x2 = some r) : Met l yX5_neighbour wsX5_neighbour rmX5_neighbour (va_Pc [.ref (q 0), .int x1, .int x2] (BW D cI cC (wM cI cC q n d lb kp kr ty tx rd rl wi))) (rdQ r) 0 0 (fun _ => False) := by
  refine MetI RX5 (by decide +kernel) rfl rfl (Nat.le_of_ble_eq_true rfl) ?_
  intro p e s m below meth c ls X _ hB hl
  obtain ⟨hP, hKK⟩ := hB
  have hx := X.1
  have hb := X.2.1
  replace hl : lv_has ls 4 [(0, .ref (q 0)), (1, .int x1), (2, .int x2)] := hl
  unfold mX5_neighbour at h
  refine lv_aload_n hx hb dX5_neighbour_0 rfl (lv_at hl 0 rfl) ?_
  refine lv_iload_n hx hb dX5_neighbour_1 rfl (lv_at hl 1 rfl) ?_
  refine rcV (rest := []) X hKK hP 1 (zX5_noNode l D cI cC q n d lb kp kr ty tx rd rl wi x1 _ rfl) gX5_neighbour_X5_noNode rfl rfl rfl hdX5_noNode ⟨Nat.le_of_ble_eq_true rfl, Nat.le_of_ble_eq_true rfl⟩ [0, 1, 2, 3, 4, 5, 6] rfl 0 rfl rfl rfl hl.1 rfl (Nat.le_of_ble_eq_true rfl) dX5_neighbour_2 ⟨Nat.zero_le _, Nat.zero_le _⟩ ?_
  refine lv_if_eq (tgt := 10) hx hb dX5_neighbour_5 (by decide) (fun c1 => ?_) (fun c1 => ?_)
  · replace h := ifp c1 h
    refine lv_aload_n hx hb dX5_neighbour_10 rfl (lv_at hl 0 rfl) ?_
    refine lv_iload_n hx hb dX5_neighbour_11 rfl (lv_at hl 1 rfl) ?_
    obtain ⟨r2, h_r2, h⟩ := obd h
    refine rcV (rest := []) X hKK hP 1 (zX5_behind l D cI cC q n d lb kp kr ty tx rd rl wi x1 r2 h_r2) gX5_neighbour_X5_behind rfl rfl rfl hdX5_behind ⟨Nat.le_of_ble_eq_true rfl, Nat.le_of_ble_eq_true rfl⟩ [0, 1, 2, 3, 4, 5, 6] rfl 0 rfl rfl rfl hl.1 rfl (Nat.le_of_ble_eq_true rfl) dX5_neighbour_12 ⟨Nat.zero_le _, Nat.zero_le _⟩ ?_
    refine lv_istore_n (lv' := [(3, .int r2), (0, .ref (q 0)), (1, .int x1), (2, .int x2)]) hx hb dX5_neighbour_15 rfl hl (by decide) rfl (fun ls hl => ?_)
    refine lv_iload_n hx hb dX5_neighbour_16 rfl (lv_at hl 3 rfl) ?_
    by_cases c3 : x2 = iI 0
    · replace h := ifp c3 h
      refine lv_tableIn (tgt := 56) hx hb dX5_neighbour_17 (by rw [c3]; decide) (by rw [c3]; decide) (by rw [c3]; rfl) (by decide) ?_
      refine lv_iload_n hx hb dX5_neighbour_56 rfl (lv_at hl 0 rfl) ?_
      refine lv_aload_n hx hb dX5_neighbour_57 rfl (lv_at hl 1 rfl) ?_
      refine va_get (D := D) (ci := 5) (v := .int n) (C := RX5) (T := TX5) (N := 10) hx hb X.2.2.2.2.1 iwX5_neighbour_5 X.2.2.2.1 hKK.1 hP 0 rfl rfl 0 (by decide) (X.2.2.2.2.1 _ flX5_neighbour_29) (fun _ h9 => h9) rfl dX5_neighbour_58 ?_
      refine lv_icmp_ge (tgt := 83) hx hb dX5_neighbour_61 (by decide) (fun c4 => ?_) (fun c4 => ?_)
      · replace h := ifp c4 h
        refine lv_bipush (v := iI (-5)) hx hb dX5_neighbour_83 (by decide) ?_
        exact rd_ret X rfl (Option.some.inj h) dX5_neighbour_85
      · replace h := ifn c4 h
        refine lv_aload_n hx hb dX5_neighbour_64 rfl (lv_at hl 1 rfl) ?_
        refine va_get (D := D) (ci := 5) (v := .ref (q 1)) (C := RX5) (T := TX5) (N := 10) hx hb X.2.2.2.2.1 iwX5_neighbour_5 X.2.2.2.1 hKK.1 hP 0 rfl rfl 1 (by decide) (X.2.2.2.2.1 _ flX5_neighbour_7) (fun _ h9 => h9) rfl dX5_neighbour_65 ?_
        refine lv_iload_n hx hb dX5_neighbour_68 rfl (lv_at hl 0 rfl) ?_
        obtain ⟨g5, h⟩ := asr h
        refine va_iald hx hb hKK.1 hP 1 0 rfl rfl g5 dX5_neighbour_69 ?_
        refine lv_aload_n hx hb dX5_neighbour_70 rfl (lv_at hl 1 rfl) ?_
        refine va_get (D := D) (ci := 5) (v := .ref (q 1)) (C := RX5) (T := TX5) (N := 10) hx hb X.2.2.2.2.1 iwX5_neighbour_5 X.2.2.2.1 hKK.1 hP 0 rfl rfl 1 (by decide) (X.2.2.2.2.1 _ flX5_neighbour_7) (fun _ h9 => h9) rfl dX5_neighbour_71 ?_
        refine lv_iload_n hx hb dX5_neighbour_74 rfl (lv_at hl 2 rfl) ?_
        obtain ⟨g6, h⟩ := asr h
        refine va_iald hx hb hKK.1 hP 1 0 rfl rfl g6 dX5_neighbour_75 ?_
        refine lv_icmp_ne (tgt := 83) hx hb dX5_neighbour_76 (by decide) (fun c7 => ?_) (fun c7 => ?_)
        · replace h := ifn c7 h
          refine lv_bipush (v := iI (-5)) hx hb dX5_neighbour_83 (by decide) ?_
          exact rd_ret X rfl (Option.some.inj h) dX5_neighbour_85
        · replace h := ifp c7 h
          refine lv_iload_n hx hb dX5_neighbour_79 rfl (lv_at hl 0 rfl) ?_
          refine lv_goto (tgt := 85) hx hb dX5_neighbour_80 (by decide) ?_
          exact rd_ret X rfl (Option.some.inj h) dX5_neighbour_85
    replace h := ifn c3 h
    by_cases c8 : x2 = iI 1
    · replace h := ifp c8 h
      refine lv_tableIn (tgt := 86) hx hb dX5_neighbour_17 (by rw [c8]; decide) (by rw [c8]; decide) (by rw [c8]; rfl) (by decide) ?_
      refine lv_aload_n hx hb dX5_neighbour_86 rfl (lv_at hl 1 rfl) ?_
      refine lv_iload_n hx hb dX5_neighbour_87 rfl (lv_at hl 2 rfl) ?_
      obtain ⟨r9, h_r9, h⟩ := obd h
      refine rcV (rest := []) X hKK hP 1 (zX5_sibling l D cI cC q n d lb kp kr ty tx rd rl wi x1 r9 h_r9) gX5_neighbour_X5_sibling rfl rfl rfl hdX5_sibling ⟨Nat.le_of_ble_eq_true rfl, Nat.le_of_ble_eq_true rfl⟩ [0, 1, 2, 3, 4, 5, 6] rfl 0 rfl rfl rfl hl.1 rfl (Nat.le_of_ble_eq_true rfl) dX5_neighbour_88 ⟨Nat.zero_le _, Nat.zero_le _⟩ ?_
      exact rd_ret X rfl (Option.some.inj h) dX5_neighbour_91
    replace h := ifn c8 h
    by_cases c10 : x2 = iI 2
    · replace h := ifp c10 h
      refine lv_tableIn (tgt := 92) hx hb dX5_neighbour_17 (by rw [c10]; decide) (by rw [c10]; decide) (by rw [c10]; rfl) (by decide) ?_
      refine lv_aload_n hx hb dX5_neighbour_92 rfl (lv_at hl 1 rfl) ?_
      refine lv_iload_n hx hb dX5_neighbour_93 rfl (lv_at hl 2 rfl) ?_
      refine lv_iconst (v := iI 1) hx hb dX5_neighbour_94 rfl ?_
      obtain ⟨r11, h_r11, h⟩ := obd h
      refine rcV (rest := []) X hKK hP 2 (zX5_levelMate l D cI cC q n d lb kp kr ty tx rd rl wi x1 (iI 1) r11 h_r11) gX5_neighbour_X5_levelMate rfl rfl rfl hdX5_levelMate ⟨Nat.le_of_ble_eq_true rfl, Nat.le_of_ble_eq_true rfl⟩ [0, 1, 2, 3, 4, 5, 6] rfl 0 rfl rfl rfl hl.1 rfl (Nat.le_of_ble_eq_true rfl) dX5_neighbour_95 ⟨Nat.zero_le _, Nat.zero_le _⟩ ?_
      exact rd_ret X rfl (Option.some.inj h) dX5_neighbour_98
    replace h := ifn c10 h
    by_cases c12 : x2 = iI 3
    · replace h := ifp c12 h
      refine lv_tableIn (tgt := 99) hx hb dX5_neighbour_17 (by rw [c12]; decide) (by rw [c12]; decide) (by rw [c12]; rfl) (by decide) ?_
      refine lv_aload_n hx hb dX5_neighbour_99 rfl (lv_at hl 1 rfl) ?_
      refine lv_iload_n hx hb dX5_neighbour_100 rfl (lv_at hl 2 rfl) ?_
      refine lv_iconst (v := iI (-1)) hx hb dX5_neighbour_101 rfl ?_
      obtain ⟨r13, h_r13, h⟩ := obd h
      refine rcV (rest := []) X hKK hP 2 (zX5_levelMate l D cI cC q n d lb kp kr ty tx rd rl wi x1 (iI (-1)) r13 h_r13) gX5_neighbour_X5_levelMate rfl rfl rfl hdX5_levelMate ⟨Nat.le_of_ble_eq_true rfl, Nat.le_of_ble_eq_true rfl⟩ [0, 1, 2, 3, 4, 5, 6] rfl 0 rfl rfl rfl hl.1 rfl (Nat.le_of_ble_eq_true rfl) dX5_neighbour_102 ⟨Nat.zero_le _, Nat.zero_le _⟩ ?_
      exact rd_ret X rfl (Option.some.inj h) dX5_neighbour_105
    replace h := ifn c12 h
    by_cases c14 : x2 = iI 4
    · replace h := ifp c14 h
      refine lv_tableIn (tgt := 106) hx hb dX5_neighbour_17 (by rw [c14]; decide) (by rw [c14]; decide) (by rw [c14]; rfl) (by decide) ?_
      refine lv_aload_n hx hb dX5_neighbour_106 rfl (lv_at hl 1 rfl) ?_
      refine lv_iload_n hx hb dX5_neighbour_107 rfl (lv_at hl 2 rfl) ?_
      obtain ⟨r15, h_r15, h⟩ := obd h
      refine rcV (rest := []) X hKK hP 1 (zX5_leafBehind l D cI cC q n d lb kp kr ty tx rd rl wi x1 r15 h_r15) gX5_neighbour_X5_leafBehind rfl rfl rfl hdX5_leafBehind ⟨Nat.le_of_ble_eq_true rfl, Nat.le_of_ble_eq_true rfl⟩ [0, 1, 2, 3, 4, 5, 6] rfl 0 rfl rfl rfl hl.1 rfl (Nat.le_of_ble_eq_true rfl) dX5_neighbour_108 ⟨Nat.zero_le _, Nat.zero_le _⟩ ?_
      exact rd_ret X rfl (Option.some.inj h) dX5_neighbour_111
    replace h := ifn c14 h
    by_cases c16 : x2 = iI 5
    · replace h := ifp c16 h
      refine lv_tableIn (tgt := 112) hx hb dX5_neighbour_17 (by rw [c16]; decide) (by rw [c16]; decide) (by rw [c16]; rfl) (by decide) ?_
      refine lv_aload_n hx hb dX5_neighbour_112 rfl (lv_at hl 1 rfl) ?_
      refine lv_iload_n hx hb dX5_neighbour_113 rfl (lv_at hl 2 rfl) ?_
      obtain ⟨r17, h_r17, h⟩ := obd h
      refine rcV (rest := []) X hKK hP 1 (zX5_heaviest l D cI cC q n d lb kp kr ty tx rd rl wi x1 r17 h_r17) gX5_neighbour_X5_heaviest rfl rfl rfl hdX5_heaviest ⟨Nat.le_of_ble_eq_true rfl, Nat.le_of_ble_eq_true rfl⟩ [0, 1, 2, 3, 4, 5, 6] rfl 0 rfl rfl rfl hl.1 rfl (Nat.le_of_ble_eq_true rfl) dX5_neighbour_114 ⟨Nat.zero_le _, Nat.zero_le _⟩ ?_
      exact rd_ret X rfl (Option.some.inj h) dX5_neighbour_117
    replace h := ifn c16 h
    refine lv_tableOut (tgt := 118) hx hb dX5_neighbour_17 (sw5 c3 c8 c10 c12 c14 c16) (by decide) ?_
    refine lv_bipush (v := iI (-2)) hx hb dX5_neighbour_118 (by decide) ?_
    exact rd_ret X rfl (Option.some.inj h) dX5_neighbour_120
  · replace h := ifn c1 h
    refine lv_iconst (v := iI (-1)) hx hb dX5_neighbour_8 rfl ?_
    exact rd_ret X rfl (Option.some.inj h) dX5_neighbour_9
def mX5_upTo_2 : Nat → (Nat → Int32) → Int32 → Int32 → Int32 → Option (Int32)
  | 0, _, _, _, _ => none
  | f + 1, d, x1, x2, x3 => (if inb x3 100 then (if (d x3.toNatClampNeg) ≤ x2 then some x3 else ((mX5_parentOf d x3).bind fun r3 => mX5_upTo_2 f d x1 x2 r3)) else none)
def mX5_upTo (d : Nat → Int32) (x1 : Int32) (x2 : Int32) : Option (Int32) := mX5_upTo_2 FU d x1 x2 x1
theorem hdX5_upTo : yX5_upTo.cls = RX5 ∧ yX5_upTo.cls ≠ "java/lang/invoke/MethodHandle" ∧ yX5_upTo.cls ≠ "java/lang/invoke/VarHandle" ∧ (parseMethodDescriptor yX5_upTo.desc).map (fun d => d.parameters.length) = some 2 := by decide +kernel
theorem flX5_upTo_7 : Cond.fieldLink RX5 7 "BracketTreeModel" "depthOf" "[I" ∈ wsX5_upTo := by decide +kernel
theorem iwX5_upTo_5 : ∀ w ∈ wsX50, w ∈ wsX5_upTo := by decide +kernel
abbrev rmX5_upTo : Room := { frames := 1, cells := 0, slots := 0, locals := 22 }
set_option maxHeartbeats 4000000 in
set_option maxRecDepth 100000 in
theorem kX5_upTo_2 {p : Program} {l : Launch} {e : Env} {s : State} {m : MethodId} {args : Array Value} {below : List Frame} {meth : Method} {c : Code} {D : va_G} {cI cC : ClassId} {q : Nat → Nat} {n : Int32} {d : Nat → Int32} {lb : Nat → Int32} {kp : Int32} {kr : Nat → Int32} {ty : Int32} {tx : Nat → Int32} {rd : Nat → Int32} {rl : Nat → Int32} {wi : Int32} {r : Int32} (X : CX p s m args meth c wsX5_upTo cX5_upTo 4 (some .int) RX5) (hKK : KK D cI cC s) (hP : va_P D vwCl (wM cI cC q n d lb kp kr ty tx rd rl wi) s.heap) : ∀ (f : Nat), ∀ (x1 : Int32) (x2 : Int32) (x3 : Int32) (ls : Array Slot), lv_has ls 4 [(0, .ref (q 0)), (1, .int x1), (2, .int x2), (3, .int x3)] → mX5_upTo_2 f d x1 x2 x3 = some r → W p l e rmX5_upTo s m args below meth c s.heap [] 0 0 (MQ below (rdQ r) args s 0 0 (fun _ => False)) (F0 m 2 ls []) := by
  have hx := X.1
  have hb := X.2.1
  intro f
  induction f with
  | zero =>
    intro x1 x2 x3 ls hl h
    exact absurd h (by unfold mX5_upTo_2; intro h; cases h)
  | succ f ih =>
    intro x1 x2 x3 ls hl h
    rw [mX5_upTo_2] at h
    refine lv_aload_n hx hb dX5_upTo_2 rfl (lv_at hl 0 rfl) ?_
    refine va_get (D := D) (ci := 5) (v := .ref (q 1)) (C := RX5) (T := TX5) (N := 10) hx hb X.2.2.2.2.1 iwX5_upTo_5 X.2.2.2.1 hKK.1 hP 0 rfl rfl 1 (by decide) (X.2.2.2.2.1 _ flX5_upTo_7) (fun _ h9 => h9) rfl dX5_upTo_3 ?_
    refine lv_iload_n hx hb dX5_upTo_6 rfl (lv_at hl 3 rfl) ?_
    obtain ⟨g1, h⟩ := asr h
    refine va_iald hx hb hKK.1 hP 1 0 rfl rfl g1 dX5_upTo_7 ?_
    refine lv_iload_n hx hb dX5_upTo_8 rfl (lv_at hl 2 rfl) ?_
    refine lv_icmp_le (tgt := 21) hx hb dX5_upTo_9 (by decide) (fun c2 => ?_) (fun c2 => ?_)
    · replace h := ifp c2 h
      refine lv_iload_n hx hb dX5_upTo_21 rfl (lv_at hl 3 rfl) ?_
      exact rd_ret X rfl (Option.some.inj h) dX5_upTo_22
    · replace h := ifn c2 h
      refine lv_aload_n hx hb dX5_upTo_12 rfl (lv_at hl 0 rfl) ?_
      refine lv_iload_n hx hb dX5_upTo_13 rfl (lv_at hl 3 rfl) ?_
      obtain ⟨r3, h_r3, h⟩ := obd h
      refine rcV (rest := []) X hKK hP 1 (zX5_parentOf l D cI cC q n d lb kp kr ty tx rd rl wi x3 r3 h_r3) gX5_upTo_X5_parentOf rfl rfl rfl hdX5_parentOf ⟨Nat.le_of_ble_eq_true rfl, Nat.le_of_ble_eq_true rfl⟩ [0, 1, 2, 3, 4, 5, 6] rfl 0 rfl rfl rfl hl.1 rfl (Nat.le_of_ble_eq_true rfl) dX5_upTo_14 ⟨Nat.zero_le _, Nat.zero_le _⟩ ?_
      refine lv_istore_n (lv' := [(3, .int r3), (0, .ref (q 0)), (1, .int x1), (2, .int x2)]) hx hb dX5_upTo_17 rfl hl (by decide) rfl (fun ls hl => ?_)
      refine lv_goto (tgt := 2) hx hb dX5_upTo_18 (by decide) ?_
      exact ih x1 x2 r3 ls (lv_sub hl [1, 2, 3, 0] rfl) h
set_option maxHeartbeats 4000000 in
set_option maxRecDepth 100000 in
theorem zX5_upTo (l : Launch) (D : va_G) (cI cC : ClassId) (q : Nat → Nat) (n : Int32) (d : Nat → Int32) (lb : Nat → Int32) (kp : Int32) (kr : Nat → Int32) (ty : Int32) (tx : Nat → Int32) (rd : Nat → Int32) (rl : Nat → Int32) (wi : Int32) (x1 : Int32) (x2 : Int32) (r : Int32) (h : mX5_upTo d x1 x2 = some r) : Met l yX5_upTo wsX5_upTo rmX5_upTo (va_Pc [.ref (q 0), .int x1, .int x2] (BW D cI cC (wM cI cC q n d lb kp kr ty tx rd rl wi))) (rdQ r) 0 0 (fun _ => False) := by
  refine MetI RX5 (by decide +kernel) rfl rfl (Nat.le_of_ble_eq_true rfl) ?_
  intro p e s m below meth c ls X _ hB hl
  obtain ⟨hP, hKK⟩ := hB
  have hx := X.1
  have hb := X.2.1
  replace hl : lv_has ls 4 [(0, .ref (q 0)), (1, .int x1), (2, .int x2)] := hl
  unfold mX5_upTo at h
  refine lv_iload_n hx hb dX5_upTo_0 rfl (lv_at hl 1 rfl) ?_
  refine lv_istore_n (lv' := [(3, .int x1), (0, .ref (q 0)), (1, .int x1), (2, .int x2)]) hx hb dX5_upTo_1 rfl hl (by decide) rfl (fun ls hl => ?_)
  exact kX5_upTo_2 X hKK hP FU x1 x2 x1 ls (lv_sub hl [1, 2, 3, 0] rfl) h
def mX5_ancestorAt (n : Int32) (d : Nat → Int32) (x1 : Int32) (x2 : Int32) : Option (Int32) := (if (mX5_noNode n x1) = 0 then (if inb x1 100 then (if (mX5_in x2 (iI 0) (d x1.toNatClampNeg)) = 0 then some (iI (-2)) else ((mX5_upTo d x1 x2).bind fun r4 => some r4)) else none) else some (iI (-1)))
theorem hdX5_ancestorAt : yX5_ancestorAt.cls = RX5 ∧ yX5_ancestorAt.cls ≠ "java/lang/invoke/MethodHandle" ∧ yX5_ancestorAt.cls ≠ "java/lang/invoke/VarHandle" ∧ (parseMethodDescriptor yX5_ancestorAt.desc).map (fun d => d.parameters.length) = some 2 := by decide +kernel
theorem flX5_ancestorAt_7 : Cond.fieldLink RX5 7 "BracketTreeModel" "depthOf" "[I" ∈ wsX5_ancestorAt := by decide +kernel
theorem iwX5_ancestorAt_5 : ∀ w ∈ wsX50, w ∈ wsX5_ancestorAt := by decide +kernel
abbrev rmX5_ancestorAt : Room := { frames := 2, cells := 0, slots := 0, locals := 45 }
set_option maxHeartbeats 4000000 in
set_option maxRecDepth 100000 in
theorem zX5_ancestorAt (l : Launch) (D : va_G) (cI cC : ClassId) (q : Nat → Nat) (n : Int32) (d : Nat → Int32) (lb : Nat → Int32) (kp : Int32) (kr : Nat → Int32) (ty : Int32) (tx : Nat → Int32) (rd : Nat → Int32) (rl : Nat → Int32) (wi : Int32) (x1 : Int32) (x2 : Int32) (r : Int32) (h : mX5_ancestorAt n d x1 x2 = some r) : Met l yX5_ancestorAt wsX5_ancestorAt rmX5_ancestorAt (va_Pc [.ref (q 0), .int x1, .int x2] (BW D cI cC (wM cI cC q n d lb kp kr ty tx rd rl wi))) (rdQ r) 0 0 (fun _ => False) := by
  refine MetI RX5 (by decide +kernel) rfl rfl (Nat.le_of_ble_eq_true rfl) ?_
  intro p e s m below meth c ls X _ hB hl
  obtain ⟨hP, hKK⟩ := hB
  have hx := X.1
  have hb := X.2.1
  replace hl : lv_has ls 3 [(0, .ref (q 0)), (1, .int x1), (2, .int x2)] := hl
  unfold mX5_ancestorAt at h
  refine lv_aload_n hx hb dX5_ancestorAt_0 rfl (lv_at hl 0 rfl) ?_
  refine lv_iload_n hx hb dX5_ancestorAt_1 rfl (lv_at hl 1 rfl) ?_
  refine rcV (rest := []) X hKK hP 1 (zX5_noNode l D cI cC q n d lb kp kr ty tx rd rl wi x1 _ rfl) gX5_ancestorAt_X5_noNode rfl rfl rfl hdX5_noNode ⟨Nat.le_of_ble_eq_true rfl, Nat.le_of_ble_eq_true rfl⟩ [0, 1, 2, 3, 4, 5, 6] rfl 0 rfl rfl rfl hl.1 rfl (Nat.le_of_ble_eq_true rfl) dX5_ancestorAt_2 ⟨Nat.zero_le _, Nat.zero_le _⟩ ?_
  refine lv_if_eq (tgt := 10) hx hb dX5_ancestorAt_5 (by decide) (fun c1 => ?_) (fun c1 => ?_)
  · replace h := ifp c1 h
    refine lv_iload_n hx hb dX5_ancestorAt_10 rfl (lv_at hl 2 rfl) ?_
    refine lv_iconst (v := iI 0) hx hb dX5_ancestorAt_11 rfl ?_
    refine lv_aload_n hx hb dX5_ancestorAt_12 rfl (lv_at hl 0 rfl) ?_
    refine va_get (D := D) (ci := 5) (v := .ref (q 1)) (C := RX5) (T := TX5) (N := 10) hx hb X.2.2.2.2.1 iwX5_ancestorAt_5 X.2.2.2.1 hKK.1 hP 0 rfl rfl 1 (by decide) (X.2.2.2.2.1 _ flX5_ancestorAt_7) (fun _ h9 => h9) rfl dX5_ancestorAt_13 ?_
    refine lv_iload_n hx hb dX5_ancestorAt_16 rfl (lv_at hl 1 rfl) ?_
    obtain ⟨g2, h⟩ := asr h
    refine va_iald hx hb hKK.1 hP 1 0 rfl rfl g2 dX5_ancestorAt_17 ?_
    refine rcS (rest := []) X hKK hP 3 (zX5_in l D cI cC x2 (iI 0) (d x1.toNatClampNeg) _ rfl) gX5_ancestorAt_X5_in rfl rfl rfl hdX5_in ⟨Nat.le_of_ble_eq_true rfl, Nat.le_of_ble_eq_true rfl⟩ [] rfl rfl hl.1 rfl (Nat.le_of_ble_eq_true rfl) dX5_ancestorAt_18 ⟨Nat.zero_le _, Nat.zero_le _⟩ ?_
    refine lv_if_eq (tgt := 33) hx hb dX5_ancestorAt_21 (by decide) (fun c3 => ?_) (fun c3 => ?_)
    · replace h := ifp c3 h
      refine lv_bipush (v := iI (-2)) hx hb dX5_ancestorAt_33 (by decide) ?_
      exact rd_ret X rfl (Option.some.inj h) dX5_ancestorAt_35
    · replace h := ifn c3 h
      refine lv_aload_n hx hb dX5_ancestorAt_24 rfl (lv_at hl 0 rfl) ?_
      refine lv_iload_n hx hb dX5_ancestorAt_25 rfl (lv_at hl 1 rfl) ?_
      refine lv_iload_n hx hb dX5_ancestorAt_26 rfl (lv_at hl 2 rfl) ?_
      obtain ⟨r4, h_r4, h⟩ := obd h
      refine rcV (rest := []) X hKK hP 2 (zX5_upTo l D cI cC q n d lb kp kr ty tx rd rl wi x1 x2 r4 h_r4) gX5_ancestorAt_X5_upTo rfl rfl rfl hdX5_upTo ⟨Nat.le_of_ble_eq_true rfl, Nat.le_of_ble_eq_true rfl⟩ [0, 1, 2, 3, 4, 5, 6] rfl 0 rfl rfl rfl hl.1 rfl (Nat.le_of_ble_eq_true rfl) dX5_ancestorAt_27 ⟨Nat.zero_le _, Nat.zero_le _⟩ ?_
      refine lv_goto (tgt := 35) hx hb dX5_ancestorAt_30 (by decide) ?_
      exact rd_ret X rfl (Option.some.inj h) dX5_ancestorAt_35
  · replace h := ifn c1 h
    refine lv_iconst (v := iI (-1)) hx hb dX5_ancestorAt_8 rfl ?_
    exact rd_ret X rfl (Option.some.inj h) dX5_ancestorAt_9
def mX5_holds (n : Int32) (d : Nat → Int32) (x1 : Int32) (x2 : Int32) : Option (Int32) := (if x2 < x1 then some (iI 0) else ((mX5_behind n d x1).bind fun r2 => (if r2 ≤ x2 then some (iI 0) else some (iI 1))))
theorem hdX5_holds : yX5_holds.cls = RX5 ∧ yX5_holds.cls ≠ "java/lang/invoke/MethodHandle" ∧ yX5_holds.cls ≠ "java/lang/invoke/VarHandle" ∧ (parseMethodDescriptor yX5_holds.desc).map (fun d => d.parameters.length) = some 2 := by decide +kernel
abbrev rmX5_holds : Room := { frames := 1, cells := 0, slots := 0, locals := 22 }
set_option maxHeartbeats 4000000 in
set_option maxRecDepth 100000 in
theorem zX5_holds (l : Launch) (D : va_G) (cI cC : ClassId) (q : Nat → Nat) (n : Int32) (d : Nat → Int32) (lb : Nat → Int32) (kp : Int32) (kr : Nat → Int32) (ty : Int32) (tx : Nat → Int32) (rd : Nat → Int32) (rl : Nat → Int32) (wi : Int32) (x1 : Int32) (x2 : Int32) (r : Int32) (h : mX5_holds n d x1 x2 = some r) : Met l yX5_holds wsX5_holds rmX5_holds (va_Pc [.ref (q 0), .int x1, .int x2] (BW D cI cC (wM cI cC q n d lb kp kr ty tx rd rl wi))) (rdQ r) 0 0 (fun _ => False) := by
  refine MetI RX5 (by decide +kernel) rfl rfl (Nat.le_of_ble_eq_true rfl) ?_
  intro p e s m below meth c ls X _ hB hl
  obtain ⟨hP, hKK⟩ := hB
  have hx := X.1
  have hb := X.2.1
  replace hl : lv_has ls 3 [(0, .ref (q 0)), (1, .int x1), (2, .int x2)] := hl
  unfold mX5_holds at h
  refine lv_iload_n hx hb dX5_holds_0 rfl (lv_at hl 2 rfl) ?_
  refine lv_iload_n hx hb dX5_holds_1 rfl (lv_at hl 1 rfl) ?_
  refine lv_icmp_lt (tgt := 18) hx hb dX5_holds_2 (by decide) (fun c1 => ?_) (fun c1 => ?_)
  · replace h := ifp c1 h
    refine lv_iconst (v := iI 0) hx hb dX5_holds_18 rfl ?_
    exact rd_ret X rfl (Option.some.inj h) dX5_holds_19
  · replace h := ifn c1 h
    refine lv_iload_n hx hb dX5_holds_5 rfl (lv_at hl 2 rfl) ?_
    refine lv_aload_n hx hb dX5_holds_6 rfl (lv_at hl 0 rfl) ?_
    refine lv_iload_n hx hb dX5_holds_7 rfl (lv_at hl 1 rfl) ?_
    obtain ⟨r2, h_r2, h⟩ := obd h
    refine rcV (rest := [.int x2]) X hKK hP 1 (zX5_behind l D cI cC q n d lb kp kr ty tx rd rl wi x1 r2 h_r2) gX5_holds_X5_behind rfl rfl rfl hdX5_behind ⟨Nat.le_of_ble_eq_true rfl, Nat.le_of_ble_eq_true rfl⟩ [0, 1, 2, 3, 4, 5, 6] rfl 0 rfl rfl rfl hl.1 rfl (Nat.le_of_ble_eq_true rfl) dX5_holds_8 ⟨Nat.zero_le _, Nat.zero_le _⟩ ?_
    refine lv_icmp_ge (tgt := 18) hx hb dX5_holds_11 (by decide) (fun c3 => ?_) (fun c3 => ?_)
    · replace h := ifp c3 h
      refine lv_iconst (v := iI 0) hx hb dX5_holds_18 rfl ?_
      exact rd_ret X rfl (Option.some.inj h) dX5_holds_19
    · replace h := ifn c3 h
      refine lv_iconst (v := iI 1) hx hb dX5_holds_14 rfl ?_
      refine lv_goto (tgt := 19) hx hb dX5_holds_15 (by decide) ?_
      exact rd_ret X rfl (Option.some.inj h) dX5_holds_19
def mX5_commonOf_2 : Nat → Int32 → (Nat → Int32) → Int32 → Int32 → Int32 → Option (Int32)
  | 0, _, _, _, _, _ => none
  | f + 1, n, d, x1, x2, x3 => ((mX5_holds n d x3 x2).bind fun r1 => (if r1 = 0 then ((mX5_parentOf d x3).bind fun r3 => mX5_commonOf_2 f n d x1 x2 r3) else some x3))
def mX5_commonOf (n : Int32) (d : Nat → Int32) (x1 : Int32) (x2 : Int32) : Option (Int32) := mX5_commonOf_2 FU n d x1 x2 x1
theorem hdX5_commonOf : yX5_commonOf.cls = RX5 ∧ yX5_commonOf.cls ≠ "java/lang/invoke/MethodHandle" ∧ yX5_commonOf.cls ≠ "java/lang/invoke/VarHandle" ∧ (parseMethodDescriptor yX5_commonOf.desc).map (fun d => d.parameters.length) = some 2 := by decide +kernel
abbrev rmX5_commonOf : Room := { frames := 2, cells := 0, slots := 0, locals := 44 }
set_option maxHeartbeats 4000000 in
set_option maxRecDepth 100000 in
theorem kX5_commonOf_2 {p : Program} {l : Launch} {e : Env} {s : State} {m : MethodId} {args : Array Value} {below : List Frame} {meth : Method} {c : Code} {D : va_G} {cI cC : ClassId} {q : Nat → Nat} {n : Int32} {d : Nat → Int32} {lb : Nat → Int32} {kp : Int32} {kr : Nat → Int32} {ty : Int32} {tx : Nat → Int32} {rd : Nat → Int32} {rl : Nat → Int32} {wi : Int32} {r : Int32} (X : CX p s m args meth c wsX5_commonOf cX5_commonOf 4 (some .int) RX5) (hKK : KK D cI cC s) (hP : va_P D vwCl (wM cI cC q n d lb kp kr ty tx rd rl wi) s.heap) : ∀ (f : Nat), ∀ (x1 : Int32) (x2 : Int32) (x3 : Int32) (ls : Array Slot), lv_has ls 4 [(0, .ref (q 0)), (1, .int x1), (2, .int x2), (3, .int x3)] → mX5_commonOf_2 f n d x1 x2 x3 = some r → W p l e rmX5_commonOf s m args below meth c s.heap [] 0 0 (MQ below (rdQ r) args s 0 0 (fun _ => False)) (F0 m 2 ls []) := by
  have hx := X.1
  have hb := X.2.1
  intro f
  induction f with
  | zero =>
    intro x1 x2 x3 ls hl h
    exact absurd h (by unfold mX5_commonOf_2; intro h; cases h)
  | succ f ih =>
    intro x1 x2 x3 ls hl h
    rw [mX5_commonOf_2] at h
    refine lv_aload_n hx hb dX5_commonOf_2 rfl (lv_at hl 0 rfl) ?_
    refine lv_iload_n hx hb dX5_commonOf_3 rfl (lv_at hl 3 rfl) ?_
    refine lv_iload_n hx hb dX5_commonOf_4 rfl (lv_at hl 2 rfl) ?_
    obtain ⟨r1, h_r1, h⟩ := obd h
    refine rcV (rest := []) X hKK hP 2 (zX5_holds l D cI cC q n d lb kp kr ty tx rd rl wi x3 x2 r1 h_r1) gX5_commonOf_X5_holds rfl rfl rfl hdX5_holds ⟨Nat.le_of_ble_eq_true rfl, Nat.le_of_ble_eq_true rfl⟩ [0, 1, 2, 3, 4, 5, 6] rfl 0 rfl rfl rfl hl.1 rfl (Nat.le_of_ble_eq_true rfl) dX5_commonOf_5 ⟨Nat.zero_le _, Nat.zero_le _⟩ ?_
    refine lv_if_ne (tgt := 20) hx hb dX5_commonOf_8 (by decide) (fun c2 => ?_) (fun c2 => ?_)
    · replace h := ifn c2 h
      refine lv_iload_n hx hb dX5_commonOf_20 rfl (lv_at hl 3 rfl) ?_
      exact rd_ret X rfl (Option.some.inj h) dX5_commonOf_21
    · replace h := ifp c2 h
      refine lv_aload_n hx hb dX5_commonOf_11 rfl (lv_at hl 0 rfl) ?_
      refine lv_iload_n hx hb dX5_commonOf_12 rfl (lv_at hl 3 rfl) ?_
      obtain ⟨r3, h_r3, h⟩ := obd h
      refine rcV (rest := []) X hKK hP 1 (zX5_parentOf l D cI cC q n d lb kp kr ty tx rd rl wi x3 r3 h_r3) gX5_commonOf_X5_parentOf rfl rfl rfl hdX5_parentOf ⟨Nat.le_of_ble_eq_true rfl, Nat.le_of_ble_eq_true rfl⟩ [0, 1, 2, 3, 4, 5, 6] rfl 0 rfl rfl rfl hl.1 rfl (Nat.le_of_ble_eq_true rfl) dX5_commonOf_13 ⟨Nat.zero_le _, Nat.zero_le _⟩ ?_
      refine lv_istore_n (lv' := [(3, .int r3), (0, .ref (q 0)), (1, .int x1), (2, .int x2)]) hx hb dX5_commonOf_16 rfl hl (by decide) rfl (fun ls hl => ?_)
      refine lv_goto (tgt := 2) hx hb dX5_commonOf_17 (by decide) ?_
      exact ih x1 x2 r3 ls (lv_sub hl [1, 2, 3, 0] rfl) h
set_option maxHeartbeats 4000000 in
set_option maxRecDepth 100000 in
theorem zX5_commonOf (l : Launch) (D : va_G) (cI cC : ClassId) (q : Nat → Nat) (n : Int32) (d : Nat → Int32) (lb : Nat → Int32) (kp : Int32) (kr : Nat → Int32) (ty : Int32) (tx : Nat → Int32) (rd : Nat → Int32) (rl : Nat → Int32) (wi : Int32) (x1 : Int32) (x2 : Int32) (r : Int32) (h : mX5_commonOf n d x1 x2 = some r) : Met l yX5_commonOf wsX5_commonOf rmX5_commonOf (va_Pc [.ref (q 0), .int x1, .int x2] (BW D cI cC (wM cI cC q n d lb kp kr ty tx rd rl wi))) (rdQ r) 0 0 (fun _ => False) := by
  refine MetI RX5 (by decide +kernel) rfl rfl (Nat.le_of_ble_eq_true rfl) ?_
  intro p e s m below meth c ls X _ hB hl
  obtain ⟨hP, hKK⟩ := hB
  have hx := X.1
  have hb := X.2.1
  replace hl : lv_has ls 4 [(0, .ref (q 0)), (1, .int x1), (2, .int x2)] := hl
  unfold mX5_commonOf at h
  refine lv_iload_n hx hb dX5_commonOf_0 rfl (lv_at hl 1 rfl) ?_
  refine lv_istore_n (lv' := [(3, .int x1), (0, .ref (q 0)), (1, .int x1), (2, .int x2)]) hx hb dX5_commonOf_1 rfl hl (by decide) rfl (fun ls hl => ?_)
  exact kX5_commonOf_2 X hKK hP FU x1 x2 x1 ls (lv_sub hl [1, 2, 3, 0] rfl) h
def mX5_common (n : Int32) (d : Nat → Int32) (x1 : Int32) (x2 : Int32) : Option (Int32) := (if (mX5_noNode n x1) = 0 then (if (mX5_noNode n x2) = 0 then ((mX5_commonOf n d x1 x2).bind fun r3 => some r3) else some (iI (-1))) else some (iI (-1)))
theorem hdX5_common : yX5_common.cls = RX5 ∧ yX5_common.cls ≠ "java/lang/invoke/MethodHandle" ∧ yX5_common.cls ≠ "java/lang/invoke/VarHandle" ∧ (parseMethodDescriptor yX5_common.desc).map (fun d => d.parameters.length) = some 2 := by decide +kernel
abbrev rmX5_common : Room := { frames := 3, cells := 0, slots := 0, locals := 67 }
set_option maxHeartbeats 4000000 in
set_option maxRecDepth 100000 in
theorem zX5_common (l : Launch) (D : va_G) (cI cC : ClassId) (q : Nat → Nat) (n : Int32) (d : Nat → Int32) (lb : Nat → Int32) (kp : Int32) (kr : Nat → Int32) (ty : Int32) (tx : Nat → Int32) (rd : Nat → Int32) (rl : Nat → Int32) (wi : Int32) (x1 : Int32) (x2 : Int32) (r : Int32) (h : mX5_common n d x1 x2 = some r) : Met l yX5_common wsX5_common rmX5_common (va_Pc [.ref (q 0), .int x1, .int x2] (BW D cI cC (wM cI cC q n d lb kp kr ty tx rd rl wi))) (rdQ r) 0 0 (fun _ => False) := by
  refine MetI RX5 (by decide +kernel) rfl rfl (Nat.le_of_ble_eq_true rfl) ?_
  intro p e s m below meth c ls X _ hB hl
  obtain ⟨hP, hKK⟩ := hB
  have hx := X.1
  have hb := X.2.1
  replace hl : lv_has ls 3 [(0, .ref (q 0)), (1, .int x1), (2, .int x2)] := hl
  unfold mX5_common at h
  refine lv_aload_n hx hb dX5_common_0 rfl (lv_at hl 0 rfl) ?_
  refine lv_iload_n hx hb dX5_common_1 rfl (lv_at hl 1 rfl) ?_
  refine rcV (rest := []) X hKK hP 1 (zX5_noNode l D cI cC q n d lb kp kr ty tx rd rl wi x1 _ rfl) gX5_common_X5_noNode rfl rfl rfl hdX5_noNode ⟨Nat.le_of_ble_eq_true rfl, Nat.le_of_ble_eq_true rfl⟩ [0, 1, 2, 3, 4, 5, 6] rfl 0 rfl rfl rfl hl.1 rfl (Nat.le_of_ble_eq_true rfl) dX5_common_2 ⟨Nat.zero_le _, Nat.zero_le _⟩ ?_
  refine lv_if_ne (tgt := 16) hx hb dX5_common_5 (by decide) (fun c1 => ?_) (fun c1 => ?_)
  · replace h := ifn c1 h
    refine lv_iconst (v := iI (-1)) hx hb dX5_common_16 rfl ?_
    refine lv_goto (tgt := 26) hx hb dX5_common_17 (by decide) ?_
    exact rd_ret X rfl (Option.some.inj h) dX5_common_26
  · replace h := ifp c1 h
    refine lv_aload_n hx hb dX5_common_8 rfl (lv_at hl 0 rfl) ?_
    refine lv_iload_n hx hb dX5_common_9 rfl (lv_at hl 2 rfl) ?_
    refine rcV (rest := []) X hKK hP 1 (zX5_noNode l D cI cC q n d lb kp kr ty tx rd rl wi x2 _ rfl) gX5_common_X5_noNode rfl rfl rfl hdX5_noNode ⟨Nat.le_of_ble_eq_true rfl, Nat.le_of_ble_eq_true rfl⟩ [0, 1, 2, 3, 4, 5, 6] rfl 0 rfl rfl rfl hl.1 rfl (Nat.le_of_ble_eq_true rfl) dX5_common_10 ⟨Nat.zero_le _, Nat.zero_le _⟩ ?_
    refine lv_if_eq (tgt := 20) hx hb dX5_common_13 (by decide) (fun c2 => ?_) (fun c2 => ?_)
    · replace h := ifp c2 h
      refine lv_aload_n hx hb dX5_common_20 rfl (lv_at hl 0 rfl) ?_
      refine lv_iload_n hx hb dX5_common_21 rfl (lv_at hl 1 rfl) ?_
      refine lv_iload_n hx hb dX5_common_22 rfl (lv_at hl 2 rfl) ?_
      obtain ⟨r3, h_r3, h⟩ := obd h
      refine rcV (rest := []) X hKK hP 2 (zX5_commonOf l D cI cC q n d lb kp kr ty tx rd rl wi x1 x2 r3 h_r3) gX5_common_X5_commonOf rfl rfl rfl hdX5_commonOf ⟨Nat.le_of_ble_eq_true rfl, Nat.le_of_ble_eq_true rfl⟩ [0, 1, 2, 3, 4, 5, 6] rfl 0 rfl rfl rfl hl.1 rfl (Nat.le_of_ble_eq_true rfl) dX5_common_23 ⟨Nat.zero_le _, Nat.zero_le _⟩ ?_
      exact rd_ret X rfl (Option.some.inj h) dX5_common_26
    · replace h := ifn c2 h
      refine lv_iconst (v := iI (-1)) hx hb dX5_common_16 rfl ?_
      refine lv_goto (tgt := 26) hx hb dX5_common_17 (by decide) ?_
      exact rd_ret X rfl (Option.some.inj h) dX5_common_26
def mX5_way (n : Int32) (d : Nat → Int32) (x1 : Int32) (x2 : Int32) (x3 : Int32) : Option (Int32) := (if (mX5_noNode n x1) = 0 then (if (mX5_noNode n x2) = 0 then (if (iI (-1)) ≤ x3 then ((mX5_commonOf n d x1 x2).bind fun r4 => (if inb r4 100 then (if inb x1 100 then (if inb x2 100 then (if 0 ≤ x3 then (if x3 ≤ ((((d x1.toNatClampNeg) - (d r4.toNatClampNeg)) + (d x2.toNatClampNeg)) - (d r4.toNatClampNeg)) then (if ((d x1.toNatClampNeg) - (d r4.toNatClampNeg)) < x3 then ((mX5_upTo d x2 (((d r4.toNatClampNeg) + x3) - ((d x1.toNatClampNeg) - (d r4.toNatClampNeg)))).bind fun r11 => some r11) else (if inb x1 100 then ((mX5_upTo d x1 ((d x1.toNatClampNeg) - x3)).bind fun r13 => some r13) else none)) else some (iI (-5))) else some ((((d x1.toNatClampNeg) - (d r4.toNatClampNeg)) + (d x2.toNatClampNeg)) - (d r4.toNatClampNeg))) else none) else none) else none)) else some (iI (-2))) else some (iI (-1))) else some (iI (-1)))
theorem hdX5_way : yX5_way.cls = RX5 ∧ yX5_way.cls ≠ "java/lang/invoke/MethodHandle" ∧ yX5_way.cls ≠ "java/lang/invoke/VarHandle" ∧ (parseMethodDescriptor yX5_way.desc).map (fun d => d.parameters.length) = some 3 := by decide +kernel
theorem flX5_way_7 : Cond.fieldLink RX5 7 "BracketTreeModel" "depthOf" "[I" ∈ wsX5_way := by decide +kernel
theorem iwX5_way_5 : ∀ w ∈ wsX50, w ∈ wsX5_way := by decide +kernel
abbrev rmX5_way : Room := { frames := 3, cells := 0, slots := 0, locals := 67 }
set_option maxHeartbeats 4000000 in
set_option maxRecDepth 100000 in
theorem zX5_way (l : Launch) (D : va_G) (cI cC : ClassId) (q : Nat → Nat) (n : Int32) (d : Nat → Int32) (lb : Nat → Int32) (kp : Int32) (kr : Nat → Int32) (ty : Int32) (tx : Nat → Int32) (rd : Nat → Int32) (rl : Nat → Int32) (wi : Int32) (x1 : Int32) (x2 : Int32) (x3 : Int32) (r : Int32) (h : mX5_way n d x1 x2 x3 = some r) : Met l yX5_way wsX5_way rmX5_way (va_Pc [.ref (q 0), .int x1, .int x2, .int x3] (BW D cI cC (wM cI cC q n d lb kp kr ty tx rd rl wi))) (rdQ r) 0 0 (fun _ => False) := by
  refine MetI RX5 (by decide +kernel) rfl rfl (Nat.le_of_ble_eq_true rfl) ?_
  intro p e s m below meth c ls X _ hB hl
  obtain ⟨hP, hKK⟩ := hB
  have hx := X.1
  have hb := X.2.1
  replace hl : lv_has ls 7 [(0, .ref (q 0)), (1, .int x1), (2, .int x2), (3, .int x3)] := hl
  unfold mX5_way at h
  refine lv_aload_n hx hb dX5_way_0 rfl (lv_at hl 0 rfl) ?_
  refine lv_iload_n hx hb dX5_way_1 rfl (lv_at hl 1 rfl) ?_
  refine rcV (rest := []) X hKK hP 1 (zX5_noNode l D cI cC q n d lb kp kr ty tx rd rl wi x1 _ rfl) gX5_way_X5_noNode rfl rfl rfl hdX5_noNode ⟨Nat.le_of_ble_eq_true rfl, Nat.le_of_ble_eq_true rfl⟩ [0, 1, 2, 3, 4, 5, 6] rfl 0 rfl rfl rfl hl.1 rfl (Nat.le_of_ble_eq_true rfl) dX5_way_2 ⟨Nat.zero_le _, Nat.zero_le _⟩ ?_
  refine lv_if_ne (tgt := 16) hx hb dX5_way_5 (by decide) (fun c1 => ?_) (fun c1 => ?_)
  · replace h := ifn c1 h
    refine lv_iconst (v := iI (-1)) hx hb dX5_way_16 rfl ?_
    exact rd_ret X rfl (Option.some.inj h) dX5_way_17
  · replace h := ifp c1 h
    refine lv_aload_n hx hb dX5_way_8 rfl (lv_at hl 0 rfl) ?_
    refine lv_iload_n hx hb dX5_way_9 rfl (lv_at hl 2 rfl) ?_
    refine rcV (rest := []) X hKK hP 1 (zX5_noNode l D cI cC q n d lb kp kr ty tx rd rl wi x2 _ rfl) gX5_way_X5_noNode rfl rfl rfl hdX5_noNode ⟨Nat.le_of_ble_eq_true rfl, Nat.le_of_ble_eq_true rfl⟩ [0, 1, 2, 3, 4, 5, 6] rfl 0 rfl rfl rfl hl.1 rfl (Nat.le_of_ble_eq_true rfl) dX5_way_10 ⟨Nat.zero_le _, Nat.zero_le _⟩ ?_
    refine lv_if_eq (tgt := 18) hx hb dX5_way_13 (by decide) (fun c2 => ?_) (fun c2 => ?_)
    · replace h := ifp c2 h
      refine lv_iload_n hx hb dX5_way_18 rfl (lv_at hl 3 rfl) ?_
      refine lv_iconst (v := iI (-1)) hx hb dX5_way_19 rfl ?_
      refine lv_icmp_ge (tgt := 26) hx hb dX5_way_20 (by decide) (fun c3 => ?_) (fun c3 => ?_)
      · replace h := ifp c3 h
        refine lv_aload_n hx hb dX5_way_26 rfl (lv_at hl 0 rfl) ?_
        refine va_get (D := D) (ci := 5) (v := .ref (q 1)) (C := RX5) (T := TX5) (N := 10) hx hb X.2.2.2.2.1 iwX5_way_5 X.2.2.2.1 hKK.1 hP 0 rfl rfl 1 (by decide) (X.2.2.2.2.1 _ flX5_way_7) (fun _ h9 => h9) rfl dX5_way_27 ?_
        refine lv_aload_n hx hb dX5_way_30 rfl (lv_at hl 0 rfl) ?_
        refine lv_iload_n hx hb dX5_way_31 rfl (lv_at hl 1 rfl) ?_
        refine lv_iload_n hx hb dX5_way_32 rfl (lv_at hl 2 rfl) ?_
        obtain ⟨r4, h_r4, h⟩ := obd h
        refine rcV (rest := [.ref (q 1)]) X hKK hP 2 (zX5_commonOf l D cI cC q n d lb kp kr ty tx rd rl wi x1 x2 r4 h_r4) gX5_way_X5_commonOf rfl rfl rfl hdX5_commonOf ⟨Nat.le_of_ble_eq_true rfl, Nat.le_of_ble_eq_true rfl⟩ [0, 1, 2, 3, 4, 5, 6] rfl 0 rfl rfl rfl hl.1 rfl (Nat.le_of_ble_eq_true rfl) dX5_way_33 ⟨Nat.zero_le _, Nat.zero_le _⟩ ?_
        obtain ⟨g5, h⟩ := asr h
        refine va_iald hx hb hKK.1 hP 1 0 rfl rfl g5 dX5_way_36 ?_
        refine lv_istore (lv' := [(4, .int (d r4.toNatClampNeg)), (0, .ref (q 0)), (1, .int x1), (2, .int x2), (3, .int x3)]) hx hb dX5_way_37 hl (by decide) rfl (fun ls hl => ?_)
        refine lv_aload_n hx hb dX5_way_39 rfl (lv_at hl 1 rfl) ?_
        refine va_get (D := D) (ci := 5) (v := .ref (q 1)) (C := RX5) (T := TX5) (N := 10) hx hb X.2.2.2.2.1 iwX5_way_5 X.2.2.2.1 hKK.1 hP 0 rfl rfl 1 (by decide) (X.2.2.2.2.1 _ flX5_way_7) (fun _ h9 => h9) rfl dX5_way_40 ?_
        refine lv_iload_n hx hb dX5_way_43 rfl (lv_at hl 2 rfl) ?_
        obtain ⟨g6, h⟩ := asr h
        refine va_iald hx hb hKK.1 hP 1 0 rfl rfl g6 dX5_way_44 ?_
        refine lv_iload hx hb dX5_way_45 (lv_at hl 0 rfl) ?_
        refine lv_isub hx hb dX5_way_47 ?_
        refine lv_istore (lv' := [(5, .int ((d x1.toNatClampNeg) - (d r4.toNatClampNeg))), (4, .int (d r4.toNatClampNeg)), (0, .ref (q 0)), (1, .int x1), (2, .int x2), (3, .int x3)]) hx hb dX5_way_48 hl (by decide) rfl (fun ls hl => ?_)
        refine lv_iload hx hb dX5_way_50 (lv_at hl 0 rfl) ?_
        refine lv_aload_n hx hb dX5_way_52 rfl (lv_at hl 2 rfl) ?_
        refine va_get (D := D) (ci := 5) (v := .ref (q 1)) (C := RX5) (T := TX5) (N := 10) hx hb X.2.2.2.2.1 iwX5_way_5 X.2.2.2.1 hKK.1 hP 0 rfl rfl 1 (by decide) (X.2.2.2.2.1 _ flX5_way_7) (fun _ h9 => h9) rfl dX5_way_53 ?_
        refine lv_iload_n hx hb dX5_way_56 rfl (lv_at hl 4 rfl) ?_
        obtain ⟨g7, h⟩ := asr h
        refine va_iald hx hb hKK.1 hP 1 0 rfl rfl g7 dX5_way_57 ?_
        refine lv_iadd hx hb dX5_way_58 ?_
        refine lv_iload hx hb dX5_way_59 (lv_at hl 1 rfl) ?_
        refine lv_isub hx hb dX5_way_61 ?_
        refine lv_istore (lv' := [(6, .int ((((d x1.toNatClampNeg) - (d r4.toNatClampNeg)) + (d x2.toNatClampNeg)) - (d r4.toNatClampNeg))), (5, .int ((d x1.toNatClampNeg) - (d r4.toNatClampNeg))), (4, .int (d r4.toNatClampNeg)), (0, .ref (q 0)), (1, .int x1), (2, .int x2), (3, .int x3)]) hx hb dX5_way_62 hl (by decide) rfl (fun ls hl => ?_)
        refine lv_iload_n hx hb dX5_way_64 rfl (lv_at hl 6 rfl) ?_
        refine lv_if_ge (tgt := 71) hx hb dX5_way_65 (by decide) (fun c8 => ?_) (fun c8 => ?_)
        · replace h := ifp c8 h
          refine lv_iload_n hx hb dX5_way_71 rfl (lv_at hl 6 rfl) ?_
          refine lv_iload hx hb dX5_way_72 (lv_at hl 0 rfl) ?_
          refine lv_icmp_le (tgt := 80) hx hb dX5_way_74 (by decide) (fun c9 => ?_) (fun c9 => ?_)
          · replace h := ifp c9 h
            refine lv_iload_n hx hb dX5_way_80 rfl (lv_at hl 6 rfl) ?_
            refine lv_iload hx hb dX5_way_81 (lv_at hl 1 rfl) ?_
            refine lv_icmp_gt (tgt := 102) hx hb dX5_way_83 (by decide) (fun c10 => ?_) (fun c10 => ?_)
            · replace h := ifp c10 h
              refine lv_aload_n hx hb dX5_way_102 rfl (lv_at hl 3 rfl) ?_
              refine lv_iload_n hx hb dX5_way_103 rfl (lv_at hl 5 rfl) ?_
              refine lv_iload hx hb dX5_way_104 (lv_at hl 2 rfl) ?_
              refine lv_iload_n hx hb dX5_way_106 rfl (lv_at hl 6 rfl) ?_
              refine lv_iadd hx hb dX5_way_107 ?_
              refine lv_iload hx hb dX5_way_108 (lv_at hl 1 rfl) ?_
              refine lv_isub hx hb dX5_way_110 ?_
              obtain ⟨r11, h_r11, h⟩ := obd h
              refine rcV (rest := []) X hKK hP 2 (zX5_upTo l D cI cC q n d lb kp kr ty tx rd rl wi x2 (((d r4.toNatClampNeg) + x3) - ((d x1.toNatClampNeg) - (d r4.toNatClampNeg))) r11 h_r11) gX5_way_X5_upTo rfl rfl rfl hdX5_upTo ⟨Nat.le_of_ble_eq_true rfl, Nat.le_of_ble_eq_true rfl⟩ [0, 1, 2, 3, 4, 5, 6] rfl 0 rfl rfl rfl hl.1 rfl (Nat.le_of_ble_eq_true rfl) dX5_way_111 ⟨Nat.zero_le _, Nat.zero_le _⟩ ?_
              exact rd_ret X rfl (Option.some.inj h) dX5_way_114
            · replace h := ifn c10 h
              refine lv_aload_n hx hb dX5_way_86 rfl (lv_at hl 3 rfl) ?_
              refine lv_iload_n hx hb dX5_way_87 rfl (lv_at hl 4 rfl) ?_
              refine lv_aload_n hx hb dX5_way_88 rfl (lv_at hl 3 rfl) ?_
              refine va_get (D := D) (ci := 5) (v := .ref (q 1)) (C := RX5) (T := TX5) (N := 10) hx hb X.2.2.2.2.1 iwX5_way_5 X.2.2.2.1 hKK.1 hP 0 rfl rfl 1 (by decide) (X.2.2.2.2.1 _ flX5_way_7) (fun _ h9 => h9) rfl dX5_way_89 ?_
              refine lv_iload_n hx hb dX5_way_92 rfl (lv_at hl 4 rfl) ?_
              obtain ⟨g12, h⟩ := asr h
              refine va_iald hx hb hKK.1 hP 1 0 rfl rfl g12 dX5_way_93 ?_
              refine lv_iload_n hx hb dX5_way_94 rfl (lv_at hl 6 rfl) ?_
              refine lv_isub hx hb dX5_way_95 ?_
              obtain ⟨r13, h_r13, h⟩ := obd h
              refine rcV (rest := []) X hKK hP 2 (zX5_upTo l D cI cC q n d lb kp kr ty tx rd rl wi x1 ((d x1.toNatClampNeg) - x3) r13 h_r13) gX5_way_X5_upTo rfl rfl rfl hdX5_upTo ⟨Nat.le_of_ble_eq_true rfl, Nat.le_of_ble_eq_true rfl⟩ [0, 1, 2, 3, 4, 5, 6] rfl 0 rfl rfl rfl hl.1 rfl (Nat.le_of_ble_eq_true rfl) dX5_way_96 ⟨Nat.zero_le _, Nat.zero_le _⟩ ?_
              refine lv_goto (tgt := 114) hx hb dX5_way_99 (by decide) ?_
              exact rd_ret X rfl (Option.some.inj h) dX5_way_114
          · replace h := ifn c9 h
            refine lv_bipush (v := iI (-5)) hx hb dX5_way_77 (by decide) ?_
            exact rd_ret X rfl (Option.some.inj h) dX5_way_79
        · replace h := ifn c8 h
          refine lv_iload hx hb dX5_way_68 (lv_at hl 0 rfl) ?_
          exact rd_ret X rfl (Option.some.inj h) dX5_way_70
      · replace h := ifn c3 h
        refine lv_bipush (v := iI (-2)) hx hb dX5_way_23 (by decide) ?_
        exact rd_ret X rfl (Option.some.inj h) dX5_way_25
    · replace h := ifn c2 h
      refine lv_iconst (v := iI (-1)) hx hb dX5_way_16 rfl ?_
      exact rd_ret X rfl (Option.some.inj h) dX5_way_17
def mX5_level_17 : Nat → Int32 → (Nat → Int32) → Int32 → Int32 → Int32 → Int32 → Option (Int32)
  | 0, _, _, _, _, _, _ => none
  | f + 1, n, d, x1, x2, x3, x4 => (if n ≤ x4 then (if 0 ≤ x2 then some (iI (-5)) else some x3) else (if inb x4 100 then (if (d x4.toNatClampNeg) = x1 then (if x3 = x2 then some x4 else mX5_level_17 f n d x1 x2 (x3 + iI 1) (x4 + iI 1)) else mX5_level_17 f n d x1 x2 x3 (x4 + iI 1)) else none))
def mX5_level (n : Int32) (d : Nat → Int32) (x1 : Int32) (x2 : Int32) : Option (Int32) := (if x1 < 0 then some (iI (-2)) else (if (iI (-1)) ≤ x2 then mX5_level_17 FU n d x1 x2 (iI 0) (iI 0) else some (iI (-2))))
theorem hdX5_level : yX5_level.cls = RX5 ∧ yX5_level.cls ≠ "java/lang/invoke/MethodHandle" ∧ yX5_level.cls ≠ "java/lang/invoke/VarHandle" ∧ (parseMethodDescriptor yX5_level.desc).map (fun d => d.parameters.length) = some 2 := by decide +kernel
theorem flX5_level_29 : Cond.fieldLink RX5 29 "BracketTreeModel" "n" "I" ∈ wsX5_level := by decide +kernel
theorem iwX5_level_5 : ∀ w ∈ wsX50, w ∈ wsX5_level := by decide +kernel
theorem flX5_level_7 : Cond.fieldLink RX5 7 "BracketTreeModel" "depthOf" "[I" ∈ wsX5_level := by decide +kernel
abbrev rmX5_level : Room := { frames := 0, cells := 0, slots := 0, locals := 0 }
set_option maxHeartbeats 4000000 in
set_option maxRecDepth 100000 in
theorem kX5_level_17 {p : Program} {l : Launch} {e : Env} {s : State} {m : MethodId} {args : Array Value} {below : List Frame} {meth : Method} {c : Code} {D : va_G} {cI cC : ClassId} {q : Nat → Nat} {n : Int32} {d : Nat → Int32} {lb : Nat → Int32} {kp : Int32} {kr : Nat → Int32} {ty : Int32} {tx : Nat → Int32} {rd : Nat → Int32} {rl : Nat → Int32} {wi : Int32} {r : Int32} (X : CX p s m args meth c wsX5_level cX5_level 5 (some .int) RX5) (hKK : KK D cI cC s) (hP : va_P D vwCl (wM cI cC q n d lb kp kr ty tx rd rl wi) s.heap) : ∀ (f : Nat), ∀ (x1 : Int32) (x2 : Int32) (x3 : Int32) (x4 : Int32) (ls : Array Slot), lv_has ls 5 [(0, .ref (q 0)), (1, .int x1), (2, .int x2), (3, .int x3), (4, .int x4)] → mX5_level_17 f n d x1 x2 x3 x4 = some r → W p l e rmX5_level s m args below meth c s.heap [] 0 0 (MQ below (rdQ r) args s 0 0 (fun _ => False)) (F0 m 17 ls []) := by
  have hx := X.1
  have hb := X.2.1
  intro f
  induction f with
  | zero =>
    intro x1 x2 x3 x4 ls hl h
    exact absurd h (by unfold mX5_level_17; intro h; cases h)
  | succ f ih =>
    intro x1 x2 x3 x4 ls hl h
    rw [mX5_level_17] at h
    refine lv_iload hx hb dX5_level_17 (lv_at hl 4 rfl) ?_
    refine lv_aload_n hx hb dX5_level_19 rfl (lv_at hl 0 rfl) ?_
    refine va_get (D := D) (ci := 5) (v := .int n) (C := RX5) (T := TX5) (N := 10) hx hb X.2.2.2.2.1 iwX5_level_5 X.2.2.2.1 hKK.1 hP 0 rfl rfl 0 (by decide) (X.2.2.2.2.1 _ flX5_level_29) (fun _ h9 => h9) rfl dX5_level_20 ?_
    refine lv_icmp_ge (tgt := 54) hx hb dX5_level_23 (by decide) (fun c3 => ?_) (fun c3 => ?_)
    · replace h := ifp c3 h
      refine lv_iload_n hx hb dX5_level_54 rfl (lv_at hl 2 rfl) ?_
      refine lv_if_ge (tgt := 62) hx hb dX5_level_55 (by decide) (fun c4 => ?_) (fun c4 => ?_)
      · replace h := ifp c4 h
        refine lv_bipush (v := iI (-5)) hx hb dX5_level_62 (by decide) ?_
        exact rd_ret X rfl (Option.some.inj h) dX5_level_64
      · replace h := ifn c4 h
        refine lv_iload_n hx hb dX5_level_58 rfl (lv_at hl 3 rfl) ?_
        refine lv_goto (tgt := 64) hx hb dX5_level_59 (by decide) ?_
        exact rd_ret X rfl (Option.some.inj h) dX5_level_64
    · replace h := ifn c3 h
      refine lv_aload_n hx hb dX5_level_26 rfl (lv_at hl 0 rfl) ?_
      refine va_get (D := D) (ci := 5) (v := .ref (q 1)) (C := RX5) (T := TX5) (N := 10) hx hb X.2.2.2.2.1 iwX5_level_5 X.2.2.2.1 hKK.1 hP 0 rfl rfl 1 (by decide) (X.2.2.2.2.1 _ flX5_level_7) (fun _ h9 => h9) rfl dX5_level_27 ?_
      refine lv_iload hx hb dX5_level_30 (lv_at hl 4 rfl) ?_
      obtain ⟨g5, h⟩ := asr h
      refine va_iald hx hb hKK.1 hP 1 0 rfl rfl g5 dX5_level_32 ?_
      refine lv_iload_n hx hb dX5_level_33 rfl (lv_at hl 1 rfl) ?_
      refine lv_icmp_ne (tgt := 48) hx hb dX5_level_34 (by decide) (fun c6 => ?_) (fun c6 => ?_)
      · replace h := ifn c6 h
        refine lv_iinc (v := (x4 + iI 1)) (lv' := [(4, .int (x4 + iI 1)), (0, .ref (q 0)), (1, .int x1), (2, .int x2), (3, .int x3)]) hx hb dX5_level_48 hl (k := 4) rfl rfl (by decide) rfl (fun ls hl => ?_)
        refine lv_goto (tgt := 17) hx hb dX5_level_51 (by decide) ?_
        exact ih x1 x2 x3 (x4 + iI 1) ls (lv_sub hl [1, 2, 3, 4, 0] rfl) h
      · replace h := ifp c6 h
        refine lv_iload_n hx hb dX5_level_37 rfl (lv_at hl 3 rfl) ?_
        refine lv_iload_n hx hb dX5_level_38 rfl (lv_at hl 2 rfl) ?_
        refine lv_icmp_ne (tgt := 45) hx hb dX5_level_39 (by decide) (fun c7 => ?_) (fun c7 => ?_)
        · replace h := ifn c7 h
          refine lv_iinc (v := (x3 + iI 1)) (lv' := [(3, .int (x3 + iI 1)), (0, .ref (q 0)), (1, .int x1), (2, .int x2), (4, .int x4)]) hx hb dX5_level_45 hl (k := 3) rfl rfl (by decide) rfl (fun ls hl => ?_)
          refine lv_iinc (v := (x4 + iI 1)) (lv' := [(4, .int (x4 + iI 1)), (3, .int (x3 + iI 1)), (0, .ref (q 0)), (1, .int x1), (2, .int x2)]) hx hb dX5_level_48 hl (k := 4) rfl rfl (by decide) rfl (fun ls hl => ?_)
          refine lv_goto (tgt := 17) hx hb dX5_level_51 (by decide) ?_
          exact ih x1 x2 (x3 + iI 1) (x4 + iI 1) ls (lv_sub hl [2, 3, 4, 1, 0] rfl) h
        · replace h := ifp c7 h
          refine lv_iload hx hb dX5_level_42 (lv_at hl 4 rfl) ?_
          exact rd_ret X rfl (Option.some.inj h) dX5_level_44
set_option maxHeartbeats 4000000 in
set_option maxRecDepth 100000 in
theorem zX5_level (l : Launch) (D : va_G) (cI cC : ClassId) (q : Nat → Nat) (n : Int32) (d : Nat → Int32) (lb : Nat → Int32) (kp : Int32) (kr : Nat → Int32) (ty : Int32) (tx : Nat → Int32) (rd : Nat → Int32) (rl : Nat → Int32) (wi : Int32) (x1 : Int32) (x2 : Int32) (r : Int32) (h : mX5_level n d x1 x2 = some r) : Met l yX5_level wsX5_level rmX5_level (va_Pc [.ref (q 0), .int x1, .int x2] (BW D cI cC (wM cI cC q n d lb kp kr ty tx rd rl wi))) (rdQ r) 0 0 (fun _ => False) := by
  refine MetI RX5 (by decide +kernel) rfl rfl (Nat.le_of_ble_eq_true rfl) ?_
  intro p e s m below meth c ls X _ hB hl
  obtain ⟨hP, hKK⟩ := hB
  have hx := X.1
  have hb := X.2.1
  replace hl : lv_has ls 5 [(0, .ref (q 0)), (1, .int x1), (2, .int x2)] := hl
  unfold mX5_level at h
  refine lv_iload_n hx hb dX5_level_0 rfl (lv_at hl 1 rfl) ?_
  refine lv_if_lt (tgt := 9) hx hb dX5_level_1 (by decide) (fun c1 => ?_) (fun c1 => ?_)
  · replace h := ifp c1 h
    refine lv_bipush (v := iI (-2)) hx hb dX5_level_9 (by decide) ?_
    exact rd_ret X rfl (Option.some.inj h) dX5_level_11
  · replace h := ifn c1 h
    refine lv_iload_n hx hb dX5_level_4 rfl (lv_at hl 2 rfl) ?_
    refine lv_iconst (v := iI (-1)) hx hb dX5_level_5 rfl ?_
    refine lv_icmp_ge (tgt := 12) hx hb dX5_level_6 (by decide) (fun c2 => ?_) (fun c2 => ?_)
    · replace h := ifp c2 h
      refine lv_iconst (v := iI 0) hx hb dX5_level_12 rfl ?_
      refine lv_istore_n (lv' := [(3, .int (iI 0)), (0, .ref (q 0)), (1, .int x1), (2, .int x2)]) hx hb dX5_level_13 rfl hl (by decide) rfl (fun ls hl => ?_)
      refine lv_iconst (v := iI 0) hx hb dX5_level_14 rfl ?_
      refine lv_istore (lv' := [(4, .int (iI 0)), (3, .int (iI 0)), (0, .ref (q 0)), (1, .int x1), (2, .int x2)]) hx hb dX5_level_15 hl (by decide) rfl (fun ls hl => ?_)
      exact kX5_level_17 X hKK hP FU x1 x2 (iI 0) (iI 0) ls (lv_sub hl [2, 3, 4, 1, 0] rfl) h
    · replace h := ifn c2 h
      refine lv_bipush (v := iI (-2)) hx hb dX5_level_9 (by decide) ?_
      exact rd_ret X rfl (Option.some.inj h) dX5_level_11
def mX5_byPostorder_2 : Nat → Int32 → (Nat → Int32) → Int32 → Int32 → Option (Int32)
  | 0, _, _, _, _ => none
  | f + 1, n, d, x1, x2 => (if n ≤ x2 then some (iI (-2)) else ((mX5_rankOf n d x2).bind fun r2 => (if r2 = x1 then some x2 else mX5_byPostorder_2 f n d x1 (x2 + iI 1))))
def mX5_byPostorder (n : Int32) (d : Nat → Int32) (x1 : Int32) : Option (Int32) := mX5_byPostorder_2 FU n d x1 (iI 0)
theorem hdX5_byPostorder : yX5_byPostorder.cls = RX5 ∧ yX5_byPostorder.cls ≠ "java/lang/invoke/MethodHandle" ∧ yX5_byPostorder.cls ≠ "java/lang/invoke/VarHandle" ∧ (parseMethodDescriptor yX5_byPostorder.desc).map (fun d => d.parameters.length) = some 1 := by decide +kernel
theorem flX5_byPostorder_29 : Cond.fieldLink RX5 29 "BracketTreeModel" "n" "I" ∈ wsX5_byPostorder := by decide +kernel
theorem iwX5_byPostorder_5 : ∀ w ∈ wsX50, w ∈ wsX5_byPostorder := by decide +kernel
abbrev rmX5_byPostorder : Room := { frames := 2, cells := 0, slots := 0, locals := 43 }
set_option maxHeartbeats 4000000 in
set_option maxRecDepth 100000 in
theorem kX5_byPostorder_2 {p : Program} {l : Launch} {e : Env} {s : State} {m : MethodId} {args : Array Value} {below : List Frame} {meth : Method} {c : Code} {D : va_G} {cI cC : ClassId} {q : Nat → Nat} {n : Int32} {d : Nat → Int32} {lb : Nat → Int32} {kp : Int32} {kr : Nat → Int32} {ty : Int32} {tx : Nat → Int32} {rd : Nat → Int32} {rl : Nat → Int32} {wi : Int32} {r : Int32} (X : CX p s m args meth c wsX5_byPostorder cX5_byPostorder 3 (some .int) RX5) (hKK : KK D cI cC s) (hP : va_P D vwCl (wM cI cC q n d lb kp kr ty tx rd rl wi) s.heap) : ∀ (f : Nat), ∀ (x1 : Int32) (x2 : Int32) (ls : Array Slot), lv_has ls 3 [(0, .ref (q 0)), (1, .int x1), (2, .int x2)] → mX5_byPostorder_2 f n d x1 x2 = some r → W p l e rmX5_byPostorder s m args below meth c s.heap [] 0 0 (MQ below (rdQ r) args s 0 0 (fun _ => False)) (F0 m 2 ls []) := by
  have hx := X.1
  have hb := X.2.1
  intro f
  induction f with
  | zero =>
    intro x1 x2 ls hl h
    exact absurd h (by unfold mX5_byPostorder_2; intro h; cases h)
  | succ f ih =>
    intro x1 x2 ls hl h
    rw [mX5_byPostorder_2] at h
    refine lv_iload_n hx hb dX5_byPostorder_2 rfl (lv_at hl 2 rfl) ?_
    refine lv_aload_n hx hb dX5_byPostorder_3 rfl (lv_at hl 0 rfl) ?_
    refine va_get (D := D) (ci := 5) (v := .int n) (C := RX5) (T := TX5) (N := 10) hx hb X.2.2.2.2.1 iwX5_byPostorder_5 X.2.2.2.1 hKK.1 hP 0 rfl rfl 0 (by decide) (X.2.2.2.2.1 _ flX5_byPostorder_29) (fun _ h9 => h9) rfl dX5_byPostorder_4 ?_
    refine lv_icmp_ge (tgt := 27) hx hb dX5_byPostorder_7 (by decide) (fun c1 => ?_) (fun c1 => ?_)
    · replace h := ifp c1 h
      refine lv_bipush (v := iI (-2)) hx hb dX5_byPostorder_27 (by decide) ?_
      exact rd_ret X rfl (Option.some.inj h) dX5_byPostorder_29
    · replace h := ifn c1 h
      refine lv_aload_n hx hb dX5_byPostorder_10 rfl (lv_at hl 0 rfl) ?_
      refine lv_iload_n hx hb dX5_byPostorder_11 rfl (lv_at hl 2 rfl) ?_
      obtain ⟨r2, h_r2, h⟩ := obd h
      refine rcV (rest := []) X hKK hP 1 (zX5_rankOf l D cI cC q n d lb kp kr ty tx rd rl wi x2 r2 h_r2) gX5_byPostorder_X5_rankOf rfl rfl rfl hdX5_rankOf ⟨Nat.le_of_ble_eq_true rfl, Nat.le_of_ble_eq_true rfl⟩ [0, 1, 2, 3, 4, 5, 6] rfl 0 rfl rfl rfl hl.1 rfl (Nat.le_of_ble_eq_true rfl) dX5_byPostorder_12 ⟨Nat.zero_le _, Nat.zero_le _⟩ ?_
      refine lv_iload_n hx hb dX5_byPostorder_15 rfl (lv_at hl 1 rfl) ?_
      refine lv_icmp_ne (tgt := 21) hx hb dX5_byPostorder_16 (by decide) (fun c3 => ?_) (fun c3 => ?_)
      · replace h := ifn c3 h
        refine lv_iinc (v := (x2 + iI 1)) (lv' := [(2, .int (x2 + iI 1)), (0, .ref (q 0)), (1, .int x1)]) hx hb dX5_byPostorder_21 hl (k := 2) rfl rfl (by decide) rfl (fun ls hl => ?_)
        refine lv_goto (tgt := 2) hx hb dX5_byPostorder_24 (by decide) ?_
        exact ih x1 (x2 + iI 1) ls (lv_sub hl [1, 2, 0] rfl) h
      · replace h := ifp c3 h
        refine lv_iload_n hx hb dX5_byPostorder_19 rfl (lv_at hl 2 rfl) ?_
        exact rd_ret X rfl (Option.some.inj h) dX5_byPostorder_20
set_option maxHeartbeats 4000000 in
set_option maxRecDepth 100000 in
theorem zX5_byPostorder (l : Launch) (D : va_G) (cI cC : ClassId) (q : Nat → Nat) (n : Int32) (d : Nat → Int32) (lb : Nat → Int32) (kp : Int32) (kr : Nat → Int32) (ty : Int32) (tx : Nat → Int32) (rd : Nat → Int32) (rl : Nat → Int32) (wi : Int32) (x1 : Int32) (r : Int32) (h : mX5_byPostorder n d x1 = some r) : Met l yX5_byPostorder wsX5_byPostorder rmX5_byPostorder (va_Pc [.ref (q 0), .int x1] (BW D cI cC (wM cI cC q n d lb kp kr ty tx rd rl wi))) (rdQ r) 0 0 (fun _ => False) := by
  refine MetI RX5 (by decide +kernel) rfl rfl (Nat.le_of_ble_eq_true rfl) ?_
  intro p e s m below meth c ls X _ hB hl
  obtain ⟨hP, hKK⟩ := hB
  have hx := X.1
  have hb := X.2.1
  replace hl : lv_has ls 3 [(0, .ref (q 0)), (1, .int x1)] := hl
  unfold mX5_byPostorder at h
  refine lv_iconst (v := iI 0) hx hb dX5_byPostorder_0 rfl ?_
  refine lv_istore_n (lv' := [(2, .int (iI 0)), (0, .ref (q 0)), (1, .int x1)]) hx hb dX5_byPostorder_1 rfl hl (by decide) rfl (fun ls hl => ?_)
  exact kX5_byPostorder_2 X hKK hP FU x1 (iI 0) ls (lv_sub hl [1, 2, 0] rfl) h
def mX5_deepest_14 : Nat → Int32 → (Nat → Int32) → Int32 → Int32 → Int32 → Option (Int32)
  | 0, _, _, _, _, _ => none
  | f + 1, n, d, x1, x2, x3 => ((mX5_behind n d x1).bind fun r2 => (if r2 ≤ x3 then some x2 else (if inb x3 100 then (if inb x2 100 then (if (d x3.toNatClampNeg) ≤ (d x2.toNatClampNeg) then mX5_deepest_14 f n d x1 x2 (x3 + iI 1) else mX5_deepest_14 f n d x1 x3 (x3 + iI 1)) else none) else none)))
def mX5_deepest (n : Int32) (d : Nat → Int32) (x1 : Int32) : Option (Int32) := (if (mX5_noNode n x1) = 0 then mX5_deepest_14 FU n d x1 x1 x1 else some (iI (-1)))
theorem hdX5_deepest : yX5_deepest.cls = RX5 ∧ yX5_deepest.cls ≠ "java/lang/invoke/MethodHandle" ∧ yX5_deepest.cls ≠ "java/lang/invoke/VarHandle" ∧ (parseMethodDescriptor yX5_deepest.desc).map (fun d => d.parameters.length) = some 1 := by decide +kernel
theorem flX5_deepest_7 : Cond.fieldLink RX5 7 "BracketTreeModel" "depthOf" "[I" ∈ wsX5_deepest := by decide +kernel
theorem iwX5_deepest_5 : ∀ w ∈ wsX50, w ∈ wsX5_deepest := by decide +kernel
abbrev rmX5_deepest : Room := { frames := 2, cells := 0, slots := 0, locals := 43 }
set_option maxHeartbeats 4000000 in
set_option maxRecDepth 100000 in
theorem kX5_deepest_14 {p : Program} {l : Launch} {e : Env} {s : State} {m : MethodId} {args : Array Value} {below : List Frame} {meth : Method} {c : Code} {D : va_G} {cI cC : ClassId} {q : Nat → Nat} {n : Int32} {d : Nat → Int32} {lb : Nat → Int32} {kp : Int32} {kr : Nat → Int32} {ty : Int32} {tx : Nat → Int32} {rd : Nat → Int32} {rl : Nat → Int32} {wi : Int32} {r : Int32} (X : CX p s m args meth c wsX5_deepest cX5_deepest 4 (some .int) RX5) (hKK : KK D cI cC s) (hP : va_P D vwCl (wM cI cC q n d lb kp kr ty tx rd rl wi) s.heap) : ∀ (f : Nat), ∀ (x1 : Int32) (x2 : Int32) (x3 : Int32) (ls : Array Slot), lv_has ls 4 [(0, .ref (q 0)), (1, .int x1), (2, .int x2), (3, .int x3)] → mX5_deepest_14 f n d x1 x2 x3 = some r → W p l e rmX5_deepest s m args below meth c s.heap [] 0 0 (MQ below (rdQ r) args s 0 0 (fun _ => False)) (F0 m 14 ls []) := by
  have hx := X.1
  have hb := X.2.1
  intro f
  induction f with
  | zero =>
    intro x1 x2 x3 ls hl h
    exact absurd h (by unfold mX5_deepest_14; intro h; cases h)
  | succ f ih =>
    intro x1 x2 x3 ls hl h
    rw [mX5_deepest_14] at h
    refine lv_iload_n hx hb dX5_deepest_14 rfl (lv_at hl 3 rfl) ?_
    refine lv_aload_n hx hb dX5_deepest_15 rfl (lv_at hl 0 rfl) ?_
    refine lv_iload_n hx hb dX5_deepest_16 rfl (lv_at hl 1 rfl) ?_
    obtain ⟨r2, h_r2, h⟩ := obd h
    refine rcV (rest := [.int x3]) X hKK hP 1 (zX5_behind l D cI cC q n d lb kp kr ty tx rd rl wi x1 r2 h_r2) gX5_deepest_X5_behind rfl rfl rfl hdX5_behind ⟨Nat.le_of_ble_eq_true rfl, Nat.le_of_ble_eq_true rfl⟩ [0, 1, 2, 3, 4, 5, 6] rfl 0 rfl rfl rfl hl.1 rfl (Nat.le_of_ble_eq_true rfl) dX5_deepest_17 ⟨Nat.zero_le _, Nat.zero_le _⟩ ?_
    refine lv_icmp_ge (tgt := 50) hx hb dX5_deepest_20 (by decide) (fun c3 => ?_) (fun c3 => ?_)
    · replace h := ifp c3 h
      refine lv_iload_n hx hb dX5_deepest_50 rfl (lv_at hl 2 rfl) ?_
      exact rd_ret X rfl (Option.some.inj h) dX5_deepest_51
    · replace h := ifn c3 h
      refine lv_aload_n hx hb dX5_deepest_23 rfl (lv_at hl 0 rfl) ?_
      refine va_get (D := D) (ci := 5) (v := .ref (q 1)) (C := RX5) (T := TX5) (N := 10) hx hb X.2.2.2.2.1 iwX5_deepest_5 X.2.2.2.1 hKK.1 hP 0 rfl rfl 1 (by decide) (X.2.2.2.2.1 _ flX5_deepest_7) (fun _ h9 => h9) rfl dX5_deepest_24 ?_
      refine lv_iload_n hx hb dX5_deepest_27 rfl (lv_at hl 3 rfl) ?_
      obtain ⟨g4, h⟩ := asr h
      refine va_iald hx hb hKK.1 hP 1 0 rfl rfl g4 dX5_deepest_28 ?_
      refine lv_aload_n hx hb dX5_deepest_29 rfl (lv_at hl 0 rfl) ?_
      refine va_get (D := D) (ci := 5) (v := .ref (q 1)) (C := RX5) (T := TX5) (N := 10) hx hb X.2.2.2.2.1 iwX5_deepest_5 X.2.2.2.1 hKK.1 hP 0 rfl rfl 1 (by decide) (X.2.2.2.2.1 _ flX5_deepest_7) (fun _ h9 => h9) rfl dX5_deepest_30 ?_
      refine lv_iload_n hx hb dX5_deepest_33 rfl (lv_at hl 2 rfl) ?_
      obtain ⟨g5, h⟩ := asr h
      refine va_iald hx hb hKK.1 hP 1 0 rfl rfl g5 dX5_deepest_34 ?_
      refine lv_icmp_le (tgt := 42) hx hb dX5_deepest_35 (by decide) (fun c6 => ?_) (fun c6 => ?_)
      · replace h := ifp c6 h
        refine lv_iload_n hx hb dX5_deepest_42 rfl (lv_at hl 2 rfl) ?_
        refine lv_istore_n (lv' := [(2, .int x2), (0, .ref (q 0)), (1, .int x1), (3, .int x3)]) hx hb dX5_deepest_43 rfl hl (by decide) rfl (fun ls hl => ?_)
        refine lv_iinc (v := (x3 + iI 1)) (lv' := [(3, .int (x3 + iI 1)), (2, .int x2), (0, .ref (q 0)), (1, .int x1)]) hx hb dX5_deepest_44 hl (k := 3) rfl rfl (by decide) rfl (fun ls hl => ?_)
        refine lv_goto (tgt := 14) hx hb dX5_deepest_47 (by decide) ?_
        exact ih x1 x2 (x3 + iI 1) ls (lv_sub hl [2, 3, 1, 0] rfl) h
      · replace h := ifn c6 h
        refine lv_iload_n hx hb dX5_deepest_38 rfl (lv_at hl 3 rfl) ?_
        refine lv_goto (tgt := 43) hx hb dX5_deepest_39 (by decide) ?_
        refine lv_istore_n (lv' := [(2, .int x3), (0, .ref (q 0)), (1, .int x1), (3, .int x3)]) hx hb dX5_deepest_43 rfl hl (by decide) rfl (fun ls hl => ?_)
        refine lv_iinc (v := (x3 + iI 1)) (lv' := [(3, .int (x3 + iI 1)), (2, .int x3), (0, .ref (q 0)), (1, .int x1)]) hx hb dX5_deepest_44 hl (k := 3) rfl rfl (by decide) rfl (fun ls hl => ?_)
        refine lv_goto (tgt := 14) hx hb dX5_deepest_47 (by decide) ?_
        exact ih x1 x3 (x3 + iI 1) ls (lv_sub hl [2, 3, 1, 0] rfl) h
set_option maxHeartbeats 4000000 in
set_option maxRecDepth 100000 in
theorem zX5_deepest (l : Launch) (D : va_G) (cI cC : ClassId) (q : Nat → Nat) (n : Int32) (d : Nat → Int32) (lb : Nat → Int32) (kp : Int32) (kr : Nat → Int32) (ty : Int32) (tx : Nat → Int32) (rd : Nat → Int32) (rl : Nat → Int32) (wi : Int32) (x1 : Int32) (r : Int32) (h : mX5_deepest n d x1 = some r) : Met l yX5_deepest wsX5_deepest rmX5_deepest (va_Pc [.ref (q 0), .int x1] (BW D cI cC (wM cI cC q n d lb kp kr ty tx rd rl wi))) (rdQ r) 0 0 (fun _ => False) := by
  refine MetI RX5 (by decide +kernel) rfl rfl (Nat.le_of_ble_eq_true rfl) ?_
  intro p e s m below meth c ls X _ hB hl
  obtain ⟨hP, hKK⟩ := hB
  have hx := X.1
  have hb := X.2.1
  replace hl : lv_has ls 4 [(0, .ref (q 0)), (1, .int x1)] := hl
  unfold mX5_deepest at h
  refine lv_aload_n hx hb dX5_deepest_0 rfl (lv_at hl 0 rfl) ?_
  refine lv_iload_n hx hb dX5_deepest_1 rfl (lv_at hl 1 rfl) ?_
  refine rcV (rest := []) X hKK hP 1 (zX5_noNode l D cI cC q n d lb kp kr ty tx rd rl wi x1 _ rfl) gX5_deepest_X5_noNode rfl rfl rfl hdX5_noNode ⟨Nat.le_of_ble_eq_true rfl, Nat.le_of_ble_eq_true rfl⟩ [0, 1, 2, 3, 4, 5, 6] rfl 0 rfl rfl rfl hl.1 rfl (Nat.le_of_ble_eq_true rfl) dX5_deepest_2 ⟨Nat.zero_le _, Nat.zero_le _⟩ ?_
  refine lv_if_eq (tgt := 10) hx hb dX5_deepest_5 (by decide) (fun c1 => ?_) (fun c1 => ?_)
  · replace h := ifp c1 h
    refine lv_iload_n hx hb dX5_deepest_10 rfl (lv_at hl 1 rfl) ?_
    refine lv_istore_n (lv' := [(2, .int x1), (0, .ref (q 0)), (1, .int x1)]) hx hb dX5_deepest_11 rfl hl (by decide) rfl (fun ls hl => ?_)
    refine lv_iload_n hx hb dX5_deepest_12 rfl (lv_at hl 2 rfl) ?_
    refine lv_istore_n (lv' := [(3, .int x1), (2, .int x1), (0, .ref (q 0)), (1, .int x1)]) hx hb dX5_deepest_13 rfl hl (by decide) rfl (fun ls hl => ?_)
    exact kX5_deepest_14 X hKK hP FU x1 x1 x1 ls (lv_sub hl [2, 3, 1, 0] rfl) h
  · replace h := ifn c1 h
    refine lv_iconst (v := iI (-1)) hx hb dX5_deepest_8 rfl ?_
    exact rd_ret X rfl (Option.some.inj h) dX5_deepest_9
def mX5_opensAt_2 : Nat → Int32 → (Nat → Int32) → Int32 → Int32 → Option (Int32)
  | 0, _, _, _, _ => none
  | f + 1, n, d, x1, x2 => (if n ≤ x2 then some (iI (-1)) else ((mX5_opening d x2).bind fun r2 => (if r2 = x1 then some x2 else mX5_opensAt_2 f n d x1 (x2 + iI 1))))
def mX5_opensAt (n : Int32) (d : Nat → Int32) (x1 : Int32) : Option (Int32) := mX5_opensAt_2 FU n d x1 (iI 0)
theorem hdX5_opensAt : yX5_opensAt.cls = RX5 ∧ yX5_opensAt.cls ≠ "java/lang/invoke/MethodHandle" ∧ yX5_opensAt.cls ≠ "java/lang/invoke/VarHandle" ∧ (parseMethodDescriptor yX5_opensAt.desc).map (fun d => d.parameters.length) = some 1 := by decide +kernel
theorem flX5_opensAt_29 : Cond.fieldLink RX5 29 "BracketTreeModel" "n" "I" ∈ wsX5_opensAt := by decide +kernel
theorem iwX5_opensAt_5 : ∀ w ∈ wsX50, w ∈ wsX5_opensAt := by decide +kernel
abbrev rmX5_opensAt : Room := { frames := 1, cells := 0, slots := 0, locals := 21 }
set_option maxHeartbeats 4000000 in
set_option maxRecDepth 100000 in
theorem kX5_opensAt_2 {p : Program} {l : Launch} {e : Env} {s : State} {m : MethodId} {args : Array Value} {below : List Frame} {meth : Method} {c : Code} {D : va_G} {cI cC : ClassId} {q : Nat → Nat} {n : Int32} {d : Nat → Int32} {lb : Nat → Int32} {kp : Int32} {kr : Nat → Int32} {ty : Int32} {tx : Nat → Int32} {rd : Nat → Int32} {rl : Nat → Int32} {wi : Int32} {r : Int32} (X : CX p s m args meth c wsX5_opensAt cX5_opensAt 3 (some .int) RX5) (hKK : KK D cI cC s) (hP : va_P D vwCl (wM cI cC q n d lb kp kr ty tx rd rl wi) s.heap) : ∀ (f : Nat), ∀ (x1 : Int32) (x2 : Int32) (ls : Array Slot), lv_has ls 3 [(0, .ref (q 0)), (1, .int x1), (2, .int x2)] → mX5_opensAt_2 f n d x1 x2 = some r → W p l e rmX5_opensAt s m args below meth c s.heap [] 0 0 (MQ below (rdQ r) args s 0 0 (fun _ => False)) (F0 m 2 ls []) := by
  have hx := X.1
  have hb := X.2.1
  intro f
  induction f with
  | zero =>
    intro x1 x2 ls hl h
    exact absurd h (by unfold mX5_opensAt_2; intro h; cases h)
  | succ f ih =>
    intro x1 x2 ls hl h
    rw [mX5_opensAt_2] at h
    refine lv_iload_n hx hb dX5_opensAt_2 rfl (lv_at hl 2 rfl) ?_
    refine lv_aload_n hx hb dX5_opensAt_3 rfl (lv_at hl 0 rfl) ?_
    refine va_get (D := D) (ci := 5) (v := .int n) (C := RX5) (T := TX5) (N := 10) hx hb X.2.2.2.2.1 iwX5_opensAt_5 X.2.2.2.1 hKK.1 hP 0 rfl rfl 0 (by decide) (X.2.2.2.2.1 _ flX5_opensAt_29) (fun _ h9 => h9) rfl dX5_opensAt_4 ?_
    refine lv_icmp_ge (tgt := 27) hx hb dX5_opensAt_7 (by decide) (fun c1 => ?_) (fun c1 => ?_)
    · replace h := ifp c1 h
      refine lv_iconst (v := iI (-1)) hx hb dX5_opensAt_27 rfl ?_
      exact rd_ret X rfl (Option.some.inj h) dX5_opensAt_28
    · replace h := ifn c1 h
      refine lv_aload_n hx hb dX5_opensAt_10 rfl (lv_at hl 0 rfl) ?_
      refine lv_iload_n hx hb dX5_opensAt_11 rfl (lv_at hl 2 rfl) ?_
      obtain ⟨r2, h_r2, h⟩ := obd h
      refine rcV (rest := []) X hKK hP 1 (zX5_opening l D cI cC q n d lb kp kr ty tx rd rl wi x2 r2 h_r2) gX5_opensAt_X5_opening rfl rfl rfl hdX5_opening ⟨Nat.le_of_ble_eq_true rfl, Nat.le_of_ble_eq_true rfl⟩ [0, 1, 2, 3, 4, 5, 6] rfl 0 rfl rfl rfl hl.1 rfl (Nat.le_of_ble_eq_true rfl) dX5_opensAt_12 ⟨Nat.zero_le _, Nat.zero_le _⟩ ?_
      refine lv_iload_n hx hb dX5_opensAt_15 rfl (lv_at hl 1 rfl) ?_
      refine lv_icmp_ne (tgt := 21) hx hb dX5_opensAt_16 (by decide) (fun c3 => ?_) (fun c3 => ?_)
      · replace h := ifn c3 h
        refine lv_iinc (v := (x2 + iI 1)) (lv' := [(2, .int (x2 + iI 1)), (0, .ref (q 0)), (1, .int x1)]) hx hb dX5_opensAt_21 hl (k := 2) rfl rfl (by decide) rfl (fun ls hl => ?_)
        refine lv_goto (tgt := 2) hx hb dX5_opensAt_24 (by decide) ?_
        exact ih x1 (x2 + iI 1) ls (lv_sub hl [1, 2, 0] rfl) h
      · replace h := ifp c3 h
        refine lv_iload_n hx hb dX5_opensAt_19 rfl (lv_at hl 2 rfl) ?_
        exact rd_ret X rfl (Option.some.inj h) dX5_opensAt_20
set_option maxHeartbeats 4000000 in
set_option maxRecDepth 100000 in
theorem zX5_opensAt (l : Launch) (D : va_G) (cI cC : ClassId) (q : Nat → Nat) (n : Int32) (d : Nat → Int32) (lb : Nat → Int32) (kp : Int32) (kr : Nat → Int32) (ty : Int32) (tx : Nat → Int32) (rd : Nat → Int32) (rl : Nat → Int32) (wi : Int32) (x1 : Int32) (r : Int32) (h : mX5_opensAt n d x1 = some r) : Met l yX5_opensAt wsX5_opensAt rmX5_opensAt (va_Pc [.ref (q 0), .int x1] (BW D cI cC (wM cI cC q n d lb kp kr ty tx rd rl wi))) (rdQ r) 0 0 (fun _ => False) := by
  refine MetI RX5 (by decide +kernel) rfl rfl (Nat.le_of_ble_eq_true rfl) ?_
  intro p e s m below meth c ls X _ hB hl
  obtain ⟨hP, hKK⟩ := hB
  have hx := X.1
  have hb := X.2.1
  replace hl : lv_has ls 3 [(0, .ref (q 0)), (1, .int x1)] := hl
  unfold mX5_opensAt at h
  refine lv_iconst (v := iI 0) hx hb dX5_opensAt_0 rfl ?_
  refine lv_istore_n (lv' := [(2, .int (iI 0)), (0, .ref (q 0)), (1, .int x1)]) hx hb dX5_opensAt_1 rfl hl (by decide) rfl (fun ls hl => ?_)
  exact kX5_opensAt_2 X hKK hP FU x1 (iI 0) ls (lv_sub hl [1, 2, 0] rfl) h
def mX5_nodeAt_8 : Nat → Int32 → (Nat → Int32) → Int32 → Int32 → Int32 → Option (Int32)
  | 0, _, _, _, _, _ => none
  | f + 1, n, d, x1, x2, x3 => (if n ≤ x3 then some x2 else (if 0 ≤ x2 then some x2 else ((mX5_closing n d x3).bind fun r4 => (if r4 = x1 then mX5_nodeAt_8 f n d x1 x3 (x3 + iI 1) else mX5_nodeAt_8 f n d x1 x2 (x3 + iI 1)))))
def mX5_nodeAt (n : Int32) (d : Nat → Int32) (x1 : Int32) : Option (Int32) := ((mX5_opensAt n d x1).bind fun r1 => mX5_nodeAt_8 FU n d x1 r1 (iI 0))
theorem hdX5_nodeAt : yX5_nodeAt.cls = RX5 ∧ yX5_nodeAt.cls ≠ "java/lang/invoke/MethodHandle" ∧ yX5_nodeAt.cls ≠ "java/lang/invoke/VarHandle" ∧ (parseMethodDescriptor yX5_nodeAt.desc).map (fun d => d.parameters.length) = some 1 := by decide +kernel
theorem flX5_nodeAt_29 : Cond.fieldLink RX5 29 "BracketTreeModel" "n" "I" ∈ wsX5_nodeAt := by decide +kernel
theorem iwX5_nodeAt_5 : ∀ w ∈ wsX50, w ∈ wsX5_nodeAt := by decide +kernel
abbrev rmX5_nodeAt : Room := { frames := 2, cells := 0, slots := 0, locals := 43 }
set_option maxHeartbeats 4000000 in
set_option maxRecDepth 100000 in
theorem kX5_nodeAt_8 {p : Program} {l : Launch} {e : Env} {s : State} {m : MethodId} {args : Array Value} {below : List Frame} {meth : Method} {c : Code} {D : va_G} {cI cC : ClassId} {q : Nat → Nat} {n : Int32} {d : Nat → Int32} {lb : Nat → Int32} {kp : Int32} {kr : Nat → Int32} {ty : Int32} {tx : Nat → Int32} {rd : Nat → Int32} {rl : Nat → Int32} {wi : Int32} {r : Int32} (X : CX p s m args meth c wsX5_nodeAt cX5_nodeAt 4 (some .int) RX5) (hKK : KK D cI cC s) (hP : va_P D vwCl (wM cI cC q n d lb kp kr ty tx rd rl wi) s.heap) : ∀ (f : Nat), ∀ (x1 : Int32) (x2 : Int32) (x3 : Int32) (ls : Array Slot), lv_has ls 4 [(0, .ref (q 0)), (1, .int x1), (2, .int x2), (3, .int x3)] → mX5_nodeAt_8 f n d x1 x2 x3 = some r → W p l e rmX5_nodeAt s m args below meth c s.heap [] 0 0 (MQ below (rdQ r) args s 0 0 (fun _ => False)) (F0 m 8 ls []) := by
  have hx := X.1
  have hb := X.2.1
  intro f
  induction f with
  | zero =>
    intro x1 x2 x3 ls hl h
    exact absurd h (by unfold mX5_nodeAt_8; intro h; cases h)
  | succ f ih =>
    intro x1 x2 x3 ls hl h
    rw [mX5_nodeAt_8] at h
    refine lv_iload_n hx hb dX5_nodeAt_8 rfl (lv_at hl 3 rfl) ?_
    refine lv_aload_n hx hb dX5_nodeAt_9 rfl (lv_at hl 0 rfl) ?_
    refine va_get (D := D) (ci := 5) (v := .int n) (C := RX5) (T := TX5) (N := 10) hx hb X.2.2.2.2.1 iwX5_nodeAt_5 X.2.2.2.1 hKK.1 hP 0 rfl rfl 0 (by decide) (X.2.2.2.2.1 _ flX5_nodeAt_29) (fun _ h9 => h9) rfl dX5_nodeAt_10 ?_
    refine lv_icmp_ge (tgt := 41) hx hb dX5_nodeAt_13 (by decide) (fun c2 => ?_) (fun c2 => ?_)
    · replace h := ifp c2 h
      refine lv_iload_n hx hb dX5_nodeAt_41 rfl (lv_at hl 2 rfl) ?_
      exact rd_ret X rfl (Option.some.inj h) dX5_nodeAt_42
    · replace h := ifn c2 h
      refine lv_iload_n hx hb dX5_nodeAt_16 rfl (lv_at hl 2 rfl) ?_
      refine lv_if_ge (tgt := 41) hx hb dX5_nodeAt_17 (by decide) (fun c3 => ?_) (fun c3 => ?_)
      · replace h := ifp c3 h
        refine lv_iload_n hx hb dX5_nodeAt_41 rfl (lv_at hl 2 rfl) ?_
        exact rd_ret X rfl (Option.some.inj h) dX5_nodeAt_42
      · replace h := ifn c3 h
        refine lv_aload_n hx hb dX5_nodeAt_20 rfl (lv_at hl 0 rfl) ?_
        refine lv_iload_n hx hb dX5_nodeAt_21 rfl (lv_at hl 3 rfl) ?_
        obtain ⟨r4, h_r4, h⟩ := obd h
        refine rcV (rest := []) X hKK hP 1 (zX5_closing l D cI cC q n d lb kp kr ty tx rd rl wi x3 r4 h_r4) gX5_nodeAt_X5_closing rfl rfl rfl hdX5_closing ⟨Nat.le_of_ble_eq_true rfl, Nat.le_of_ble_eq_true rfl⟩ [0, 1, 2, 3, 4, 5, 6] rfl 0 rfl rfl rfl hl.1 rfl (Nat.le_of_ble_eq_true rfl) dX5_nodeAt_22 ⟨Nat.zero_le _, Nat.zero_le _⟩ ?_
        refine lv_iload_n hx hb dX5_nodeAt_25 rfl (lv_at hl 1 rfl) ?_
        refine lv_icmp_ne (tgt := 33) hx hb dX5_nodeAt_26 (by decide) (fun c5 => ?_) (fun c5 => ?_)
        · replace h := ifn c5 h
          refine lv_iload_n hx hb dX5_nodeAt_33 rfl (lv_at hl 2 rfl) ?_
          refine lv_istore_n (lv' := [(2, .int x2), (0, .ref (q 0)), (1, .int x1), (3, .int x3)]) hx hb dX5_nodeAt_34 rfl hl (by decide) rfl (fun ls hl => ?_)
          refine lv_iinc (v := (x3 + iI 1)) (lv' := [(3, .int (x3 + iI 1)), (2, .int x2), (0, .ref (q 0)), (1, .int x1)]) hx hb dX5_nodeAt_35 hl (k := 3) rfl rfl (by decide) rfl (fun ls hl => ?_)
          refine lv_goto (tgt := 8) hx hb dX5_nodeAt_38 (by decide) ?_
          exact ih x1 x2 (x3 + iI 1) ls (lv_sub hl [2, 3, 1, 0] rfl) h
        · replace h := ifp c5 h
          refine lv_iload_n hx hb dX5_nodeAt_29 rfl (lv_at hl 3 rfl) ?_
          refine lv_goto (tgt := 34) hx hb dX5_nodeAt_30 (by decide) ?_
          refine lv_istore_n (lv' := [(2, .int x3), (0, .ref (q 0)), (1, .int x1), (3, .int x3)]) hx hb dX5_nodeAt_34 rfl hl (by decide) rfl (fun ls hl => ?_)
          refine lv_iinc (v := (x3 + iI 1)) (lv' := [(3, .int (x3 + iI 1)), (2, .int x3), (0, .ref (q 0)), (1, .int x1)]) hx hb dX5_nodeAt_35 hl (k := 3) rfl rfl (by decide) rfl (fun ls hl => ?_)
          refine lv_goto (tgt := 8) hx hb dX5_nodeAt_38 (by decide) ?_
          exact ih x1 x3 (x3 + iI 1) ls (lv_sub hl [2, 3, 1, 0] rfl) h
set_option maxHeartbeats 4000000 in
set_option maxRecDepth 100000 in
theorem zX5_nodeAt (l : Launch) (D : va_G) (cI cC : ClassId) (q : Nat → Nat) (n : Int32) (d : Nat → Int32) (lb : Nat → Int32) (kp : Int32) (kr : Nat → Int32) (ty : Int32) (tx : Nat → Int32) (rd : Nat → Int32) (rl : Nat → Int32) (wi : Int32) (x1 : Int32) (r : Int32) (h : mX5_nodeAt n d x1 = some r) : Met l yX5_nodeAt wsX5_nodeAt rmX5_nodeAt (va_Pc [.ref (q 0), .int x1] (BW D cI cC (wM cI cC q n d lb kp kr ty tx rd rl wi))) (rdQ r) 0 0 (fun _ => False) := by
  refine MetI RX5 (by decide +kernel) rfl rfl (Nat.le_of_ble_eq_true rfl) ?_
  intro p e s m below meth c ls X _ hB hl
  obtain ⟨hP, hKK⟩ := hB
  have hx := X.1
  have hb := X.2.1
  replace hl : lv_has ls 4 [(0, .ref (q 0)), (1, .int x1)] := hl
  unfold mX5_nodeAt at h
  refine lv_aload_n hx hb dX5_nodeAt_0 rfl (lv_at hl 0 rfl) ?_
  refine lv_iload_n hx hb dX5_nodeAt_1 rfl (lv_at hl 1 rfl) ?_
  obtain ⟨r1, h_r1, h⟩ := obd h
  refine rcV (rest := []) X hKK hP 1 (zX5_opensAt l D cI cC q n d lb kp kr ty tx rd rl wi x1 r1 h_r1) gX5_nodeAt_X5_opensAt rfl rfl rfl hdX5_opensAt ⟨Nat.le_of_ble_eq_true rfl, Nat.le_of_ble_eq_true rfl⟩ [0, 1, 2, 3, 4, 5, 6] rfl 0 rfl rfl rfl hl.1 rfl (Nat.le_of_ble_eq_true rfl) dX5_nodeAt_2 ⟨Nat.zero_le _, Nat.zero_le _⟩ ?_
  refine lv_istore_n (lv' := [(2, .int r1), (0, .ref (q 0)), (1, .int x1)]) hx hb dX5_nodeAt_5 rfl hl (by decide) rfl (fun ls hl => ?_)
  refine lv_iconst (v := iI 0) hx hb dX5_nodeAt_6 rfl ?_
  refine lv_istore_n (lv' := [(3, .int (iI 0)), (2, .int r1), (0, .ref (q 0)), (1, .int x1)]) hx hb dX5_nodeAt_7 rfl hl (by decide) rfl (fun ls hl => ?_)
  exact kX5_nodeAt_8 X hKK hP FU x1 r1 (iI 0) ls (lv_sub hl [2, 3, 1, 0] rfl) h
def mX5_excess (n : Int32) (d : Nat → Int32) (x1 : Int32) : Option (Int32) := ((mX5_nodeAt n d x1).bind fun r1 => ((mX5_opening d r1).bind fun r2 => (if r2 = x1 then (if inb r1 100 then some ((d r1.toNatClampNeg) + (iI 1)) else none) else (if inb r1 100 then some (d r1.toNatClampNeg) else none))))
theorem hdX5_excess : yX5_excess.cls = RX5 ∧ yX5_excess.cls ≠ "java/lang/invoke/MethodHandle" ∧ yX5_excess.cls ≠ "java/lang/invoke/VarHandle" ∧ (parseMethodDescriptor yX5_excess.desc).map (fun d => d.parameters.length) = some 1 := by decide +kernel
theorem flX5_excess_7 : Cond.fieldLink RX5 7 "BracketTreeModel" "depthOf" "[I" ∈ wsX5_excess := by decide +kernel
theorem iwX5_excess_5 : ∀ w ∈ wsX50, w ∈ wsX5_excess := by decide +kernel
abbrev rmX5_excess : Room := { frames := 3, cells := 0, slots := 0, locals := 66 }
set_option maxHeartbeats 4000000 in
set_option maxRecDepth 100000 in
theorem zX5_excess (l : Launch) (D : va_G) (cI cC : ClassId) (q : Nat → Nat) (n : Int32) (d : Nat → Int32) (lb : Nat → Int32) (kp : Int32) (kr : Nat → Int32) (ty : Int32) (tx : Nat → Int32) (rd : Nat → Int32) (rl : Nat → Int32) (wi : Int32) (x1 : Int32) (r : Int32) (h : mX5_excess n d x1 = some r) : Met l yX5_excess wsX5_excess rmX5_excess (va_Pc [.ref (q 0), .int x1] (BW D cI cC (wM cI cC q n d lb kp kr ty tx rd rl wi))) (rdQ r) 0 0 (fun _ => False) := by
  refine MetI RX5 (by decide +kernel) rfl rfl (Nat.le_of_ble_eq_true rfl) ?_
  intro p e s m below meth c ls X _ hB hl
  obtain ⟨hP, hKK⟩ := hB
  have hx := X.1
  have hb := X.2.1
  replace hl : lv_has ls 3 [(0, .ref (q 0)), (1, .int x1)] := hl
  unfold mX5_excess at h
  refine lv_aload_n hx hb dX5_excess_0 rfl (lv_at hl 0 rfl) ?_
  refine lv_iload_n hx hb dX5_excess_1 rfl (lv_at hl 1 rfl) ?_
  obtain ⟨r1, h_r1, h⟩ := obd h
  refine rcV (rest := []) X hKK hP 1 (zX5_nodeAt l D cI cC q n d lb kp kr ty tx rd rl wi x1 r1 h_r1) gX5_excess_X5_nodeAt rfl rfl rfl hdX5_nodeAt ⟨Nat.le_of_ble_eq_true rfl, Nat.le_of_ble_eq_true rfl⟩ [0, 1, 2, 3, 4, 5, 6] rfl 0 rfl rfl rfl hl.1 rfl (Nat.le_of_ble_eq_true rfl) dX5_excess_2 ⟨Nat.zero_le _, Nat.zero_le _⟩ ?_
  refine lv_istore_n (lv' := [(2, .int r1), (0, .ref (q 0)), (1, .int x1)]) hx hb dX5_excess_5 rfl hl (by decide) rfl (fun ls hl => ?_)
  refine lv_aload_n hx hb dX5_excess_6 rfl (lv_at hl 1 rfl) ?_
  refine lv_iload_n hx hb dX5_excess_7 rfl (lv_at hl 0 rfl) ?_
  obtain ⟨r2, h_r2, h⟩ := obd h
  refine rcV (rest := []) X hKK hP 1 (zX5_opening l D cI cC q n d lb kp kr ty tx rd rl wi r1 r2 h_r2) gX5_excess_X5_opening rfl rfl rfl hdX5_opening ⟨Nat.le_of_ble_eq_true rfl, Nat.le_of_ble_eq_true rfl⟩ [0, 1, 2, 3, 4, 5, 6] rfl 0 rfl rfl rfl hl.1 rfl (Nat.le_of_ble_eq_true rfl) dX5_excess_8 ⟨Nat.zero_le _, Nat.zero_le _⟩ ?_
  refine lv_iload_n hx hb dX5_excess_11 rfl (lv_at hl 2 rfl) ?_
  refine lv_icmp_ne (tgt := 26) hx hb dX5_excess_12 (by decide) (fun c3 => ?_) (fun c3 => ?_)
  · replace h := ifn c3 h
    refine lv_aload_n hx hb dX5_excess_26 rfl (lv_at hl 1 rfl) ?_
    refine va_get (D := D) (ci := 5) (v := .ref (q 1)) (C := RX5) (T := TX5) (N := 10) hx hb X.2.2.2.2.1 iwX5_excess_5 X.2.2.2.1 hKK.1 hP 0 rfl rfl 1 (by decide) (X.2.2.2.2.1 _ flX5_excess_7) (fun _ h9 => h9) rfl dX5_excess_27 ?_
    refine lv_iload_n hx hb dX5_excess_30 rfl (lv_at hl 0 rfl) ?_
    obtain ⟨g4, h⟩ := asr h
    refine va_iald hx hb hKK.1 hP 1 0 rfl rfl g4 dX5_excess_31 ?_
    exact rd_ret X rfl (Option.some.inj h) dX5_excess_32
  · replace h := ifp c3 h
    refine lv_aload_n hx hb dX5_excess_15 rfl (lv_at hl 1 rfl) ?_
    refine va_get (D := D) (ci := 5) (v := .ref (q 1)) (C := RX5) (T := TX5) (N := 10) hx hb X.2.2.2.2.1 iwX5_excess_5 X.2.2.2.1 hKK.1 hP 0 rfl rfl 1 (by decide) (X.2.2.2.2.1 _ flX5_excess_7) (fun _ h9 => h9) rfl dX5_excess_16 ?_
    refine lv_iload_n hx hb dX5_excess_19 rfl (lv_at hl 0 rfl) ?_
    obtain ⟨g5, h⟩ := asr h
    refine va_iald hx hb hKK.1 hP 1 0 rfl rfl g5 dX5_excess_20 ?_
    refine lv_iconst (v := iI 1) hx hb dX5_excess_21 rfl ?_
    refine lv_iadd hx hb dX5_excess_22 ?_
    refine lv_goto (tgt := 32) hx hb dX5_excess_23 (by decide) ?_
    exact rd_ret X rfl (Option.some.inj h) dX5_excess_32
def mX5_bracket (n : Int32) (d : Nat → Int32) (x1 : Int32) (x2 : Int32) : Option (Int32) := (if (mX5_in x1 (iI 0) (((iI 2) * n) - (iI 1))) = 0 then some (iI (-1)) else ((mX5_nodeAt n d x1).bind fun r2 => ((mX5_opening d r2).bind fun r3 => (if r3 = x1 then (if x2 = iI 0 then (if (iI 1) = 0 then some (iI 0) else some (iI 1)) else (if x2 = iI 1 then ((mX5_excess n d x1).bind fun r21 => some r21) else (if x2 = iI 2 then (if (iI 1) = 0 then ((mX5_opening d r2).bind fun r24 => some r24) else ((mX5_closing n d r2).bind fun r25 => some r25)) else (if x2 = iI 3 then (if r2 = 0 then some (iI (-5)) else ((mX5_parentOf d r2).bind fun r28 => ((mX5_opening d r28).bind fun r29 => some r29))) else (if x2 = iI 4 then some r2 else some (iI (-2))))))) else (if x2 = iI 0 then (if (iI 0) = 0 then some (iI 0) else some (iI 1)) else (if x2 = iI 1 then ((mX5_excess n d x1).bind fun r8 => some r8) else (if x2 = iI 2 then (if (iI 0) = 0 then ((mX5_opening d r2).bind fun r11 => some r11) else ((mX5_closing n d r2).bind fun r12 => some r12)) else (if x2 = iI 3 then (if r2 = 0 then some (iI (-5)) else ((mX5_parentOf d r2).bind fun r15 => ((mX5_opening d r15).bind fun r16 => some r16))) else (if x2 = iI 4 then some r2 else some (iI (-2)))))))))))
theorem hdX5_bracket : yX5_bracket.cls = RX5 ∧ yX5_bracket.cls ≠ "java/lang/invoke/MethodHandle" ∧ yX5_bracket.cls ≠ "java/lang/invoke/VarHandle" ∧ (parseMethodDescriptor yX5_bracket.desc).map (fun d => d.parameters.length) = some 2 := by decide +kernel
theorem flX5_bracket_29 : Cond.fieldLink RX5 29 "BracketTreeModel" "n" "I" ∈ wsX5_bracket := by decide +kernel
theorem iwX5_bracket_5 : ∀ w ∈ wsX50, w ∈ wsX5_bracket := by decide +kernel
abbrev rmX5_bracket : Room := { frames := 4, cells := 0, slots := 0, locals := 88 }
set_option maxHeartbeats 4000000 in
set_option maxRecDepth 100000 in
theorem zX5_bracket (l : Launch) (D : va_G) (cI cC : ClassId) (q : Nat → Nat) (n : Int32) (d : Nat → Int32) (lb : Nat → Int32) (kp : Int32) (kr : Nat → Int32) (ty : Int32) (tx : Nat → Int32) (rd : Nat → Int32) (rl : Nat → Int32) (wi : Int32) (x1 : Int32) (x2 : Int32) (r : Int32) (h : mX5_bracket n d x1 x2 = some r) : Met l yX5_bracket wsX5_bracket rmX5_bracket (va_Pc [.ref (q 0), .int x1, .int x2] (BW D cI cC (wM cI cC q n d lb kp kr ty tx rd rl wi))) (rdQ r) 0 0 (fun _ => False) := by
  refine MetI RX5 (by decide +kernel) rfl rfl (Nat.le_of_ble_eq_true rfl) ?_
  intro p e s m below meth c ls X _ hB hl
  obtain ⟨hP, hKK⟩ := hB
  have hx := X.1
  have hb := X.2.1
  replace hl : lv_has ls 5 [(0, .ref (q 0)), (1, .int x1), (2, .int x2)] := hl
  unfold mX5_bracket at h
  refine lv_iload_n hx hb dX5_bracket_0 rfl (lv_at hl 1 rfl) ?_
  refine lv_iconst (v := iI 0) hx hb dX5_bracket_1 rfl ?_
  refine lv_iconst (v := iI 2) hx hb dX5_bracket_2 rfl ?_
  refine lv_aload_n hx hb dX5_bracket_3 rfl (lv_at hl 0 rfl) ?_
  refine va_get (D := D) (ci := 5) (v := .int n) (C := RX5) (T := TX5) (N := 10) hx hb X.2.2.2.2.1 iwX5_bracket_5 X.2.2.2.1 hKK.1 hP 0 rfl rfl 0 (by decide) (X.2.2.2.2.1 _ flX5_bracket_29) (fun _ h9 => h9) rfl dX5_bracket_4 ?_
  refine lv_imul hx hb dX5_bracket_7 ?_
  refine lv_iconst (v := iI 1) hx hb dX5_bracket_8 rfl ?_
  refine lv_isub hx hb dX5_bracket_9 ?_
  refine rcS (rest := []) X hKK hP 3 (zX5_in l D cI cC x1 (iI 0) (((iI 2) * n) - (iI 1)) _ rfl) gX5_bracket_X5_in rfl rfl rfl hdX5_in ⟨Nat.le_of_ble_eq_true rfl, Nat.le_of_ble_eq_true rfl⟩ [] rfl rfl hl.1 rfl (Nat.le_of_ble_eq_true rfl) dX5_bracket_10 ⟨Nat.zero_le _, Nat.zero_le _⟩ ?_
  refine lv_if_ne (tgt := 18) hx hb dX5_bracket_13 (by decide) (fun c1 => ?_) (fun c1 => ?_)
  · replace h := ifn c1 h
    refine lv_aload_n hx hb dX5_bracket_18 rfl (lv_at hl 0 rfl) ?_
    refine lv_iload_n hx hb dX5_bracket_19 rfl (lv_at hl 1 rfl) ?_
    obtain ⟨r2, h_r2, h⟩ := obd h
    refine rcV (rest := []) X hKK hP 1 (zX5_nodeAt l D cI cC q n d lb kp kr ty tx rd rl wi x1 r2 h_r2) gX5_bracket_X5_nodeAt rfl rfl rfl hdX5_nodeAt ⟨Nat.le_of_ble_eq_true rfl, Nat.le_of_ble_eq_true rfl⟩ [0, 1, 2, 3, 4, 5, 6] rfl 0 rfl rfl rfl hl.1 rfl (Nat.le_of_ble_eq_true rfl) dX5_bracket_20 ⟨Nat.zero_le _, Nat.zero_le _⟩ ?_
    refine lv_istore_n (lv' := [(3, .int r2), (0, .ref (q 0)), (1, .int x1), (2, .int x2)]) hx hb dX5_bracket_23 rfl hl (by decide) rfl (fun ls hl => ?_)
    refine lv_aload_n hx hb dX5_bracket_24 rfl (lv_at hl 1 rfl) ?_
    refine lv_iload_n hx hb dX5_bracket_25 rfl (lv_at hl 0 rfl) ?_
    obtain ⟨r3, h_r3, h⟩ := obd h
    refine rcV (rest := []) X hKK hP 1 (zX5_opening l D cI cC q n d lb kp kr ty tx rd rl wi r2 r3 h_r3) gX5_bracket_X5_opening rfl rfl rfl hdX5_opening ⟨Nat.le_of_ble_eq_true rfl, Nat.le_of_ble_eq_true rfl⟩ [0, 1, 2, 3, 4, 5, 6] rfl 0 rfl rfl rfl hl.1 rfl (Nat.le_of_ble_eq_true rfl) dX5_bracket_26 ⟨Nat.zero_le _, Nat.zero_le _⟩ ?_
    refine lv_iload_n hx hb dX5_bracket_29 rfl (lv_at hl 2 rfl) ?_
    refine lv_icmp_ne (tgt := 37) hx hb dX5_bracket_30 (by decide) (fun c4 => ?_) (fun c4 => ?_)
    · replace h := ifn c4 h
      refine lv_iconst (v := iI 0) hx hb dX5_bracket_37 rfl ?_
      refine lv_istore (lv' := [(4, .int (iI 0)), (3, .int r2), (0, .ref (q 0)), (1, .int x1), (2, .int x2)]) hx hb dX5_bracket_38 hl (by decide) rfl (fun ls hl => ?_)
      refine lv_iload_n hx hb dX5_bracket_40 rfl (lv_at hl 4 rfl) ?_
      by_cases c5 : x2 = iI 0
      · replace h := ifp c5 h
        refine lv_tableIn (tgt := 76) hx hb dX5_bracket_41 (by rw [c5]; decide) (by rw [c5]; decide) (by rw [c5]; rfl) (by decide) ?_
        refine lv_iload hx hb dX5_bracket_76 (lv_at hl 0 rfl) ?_
        refine lv_if_eq (tgt := 85) hx hb dX5_bracket_78 (by decide) (fun c6 => ?_) (fun c6 => ?_)
        · replace h := ifp c6 h
          refine lv_iconst (v := iI 0) hx hb dX5_bracket_85 rfl ?_
          exact rd_ret X rfl (Option.some.inj h) dX5_bracket_86
        · replace h := ifn c6 h
          refine lv_iconst (v := iI 1) hx hb dX5_bracket_81 rfl ?_
          refine lv_goto (tgt := 86) hx hb dX5_bracket_82 (by decide) ?_
          exact rd_ret X rfl (Option.some.inj h) dX5_bracket_86
      replace h := ifn c5 h
      by_cases c7 : x2 = iI 1
      · replace h := ifp c7 h
        refine lv_tableIn (tgt := 87) hx hb dX5_bracket_41 (by rw [c7]; decide) (by rw [c7]; decide) (by rw [c7]; rfl) (by decide) ?_
        refine lv_aload_n hx hb dX5_bracket_87 rfl (lv_at hl 2 rfl) ?_
        refine lv_iload_n hx hb dX5_bracket_88 rfl (lv_at hl 3 rfl) ?_
        obtain ⟨r8, h_r8, h⟩ := obd h
        refine rcV (rest := []) X hKK hP 1 (zX5_excess l D cI cC q n d lb kp kr ty tx rd rl wi x1 r8 h_r8) gX5_bracket_X5_excess rfl rfl rfl hdX5_excess ⟨Nat.le_of_ble_eq_true rfl, Nat.le_of_ble_eq_true rfl⟩ [0, 1, 2, 3, 4, 5, 6] rfl 0 rfl rfl rfl hl.1 rfl (Nat.le_of_ble_eq_true rfl) dX5_bracket_89 ⟨Nat.zero_le _, Nat.zero_le _⟩ ?_
        exact rd_ret X rfl (Option.some.inj h) dX5_bracket_92
      replace h := ifn c7 h
      by_cases c9 : x2 = iI 2
      · replace h := ifp c9 h
        refine lv_tableIn (tgt := 93) hx hb dX5_bracket_41 (by rw [c9]; decide) (by rw [c9]; decide) (by rw [c9]; rfl) (by decide) ?_
        refine lv_iload hx hb dX5_bracket_93 (lv_at hl 0 rfl) ?_
        refine lv_if_eq (tgt := 106) hx hb dX5_bracket_95 (by decide) (fun c10 => ?_) (fun c10 => ?_)
        · replace h := ifp c10 h
          refine lv_aload_n hx hb dX5_bracket_106 rfl (lv_at hl 2 rfl) ?_
          refine lv_iload_n hx hb dX5_bracket_107 rfl (lv_at hl 1 rfl) ?_
          obtain ⟨r11, h_r11, h⟩ := obd h
          refine rcV (rest := []) X hKK hP 1 (zX5_opening l D cI cC q n d lb kp kr ty tx rd rl wi r2 r11 h_r11) gX5_bracket_X5_opening rfl rfl rfl hdX5_opening ⟨Nat.le_of_ble_eq_true rfl, Nat.le_of_ble_eq_true rfl⟩ [0, 1, 2, 3, 4, 5, 6] rfl 0 rfl rfl rfl hl.1 rfl (Nat.le_of_ble_eq_true rfl) dX5_bracket_108 ⟨Nat.zero_le _, Nat.zero_le _⟩ ?_
          exact rd_ret X rfl (Option.some.inj h) dX5_bracket_111
        · replace h := ifn c10 h
          refine lv_aload_n hx hb dX5_bracket_98 rfl (lv_at hl 2 rfl) ?_
          refine lv_iload_n hx hb dX5_bracket_99 rfl (lv_at hl 1 rfl) ?_
          obtain ⟨r12, h_r12, h⟩ := obd h
          refine rcV (rest := []) X hKK hP 1 (zX5_closing l D cI cC q n d lb kp kr ty tx rd rl wi r2 r12 h_r12) gX5_bracket_X5_closing rfl rfl rfl hdX5_closing ⟨Nat.le_of_ble_eq_true rfl, Nat.le_of_ble_eq_true rfl⟩ [0, 1, 2, 3, 4, 5, 6] rfl 0 rfl rfl rfl hl.1 rfl (Nat.le_of_ble_eq_true rfl) dX5_bracket_100 ⟨Nat.zero_le _, Nat.zero_le _⟩ ?_
          refine lv_goto (tgt := 111) hx hb dX5_bracket_103 (by decide) ?_
          exact rd_ret X rfl (Option.some.inj h) dX5_bracket_111
      replace h := ifn c9 h
      by_cases c13 : x2 = iI 3
      · replace h := ifp c13 h
        refine lv_tableIn (tgt := 112) hx hb dX5_bracket_41 (by rw [c13]; decide) (by rw [c13]; decide) (by rw [c13]; rfl) (by decide) ?_
        refine lv_iload_n hx hb dX5_bracket_112 rfl (lv_at hl 1 rfl) ?_
        refine lv_if_ne (tgt := 121) hx hb dX5_bracket_113 (by decide) (fun c14 => ?_) (fun c14 => ?_)
        · replace h := ifn c14 h
          refine lv_aload_n hx hb dX5_bracket_121 rfl (lv_at hl 2 rfl) ?_
          refine lv_aload_n hx hb dX5_bracket_122 rfl (lv_at hl 2 rfl) ?_
          refine lv_iload_n hx hb dX5_bracket_123 rfl (lv_at hl 1 rfl) ?_
          obtain ⟨r15, h_r15, h⟩ := obd h
          refine rcV (rest := [.ref (q 0)]) X hKK hP 1 (zX5_parentOf l D cI cC q n d lb kp kr ty tx rd rl wi r2 r15 h_r15) gX5_bracket_X5_parentOf rfl rfl rfl hdX5_parentOf ⟨Nat.le_of_ble_eq_true rfl, Nat.le_of_ble_eq_true rfl⟩ [0, 1, 2, 3, 4, 5, 6] rfl 0 rfl rfl rfl hl.1 rfl (Nat.le_of_ble_eq_true rfl) dX5_bracket_124 ⟨Nat.zero_le _, Nat.zero_le _⟩ ?_
          obtain ⟨r16, h_r16, h⟩ := obd h
          refine rcV (rest := []) X hKK hP 1 (zX5_opening l D cI cC q n d lb kp kr ty tx rd rl wi r15 r16 h_r16) gX5_bracket_X5_opening rfl rfl rfl hdX5_opening ⟨Nat.le_of_ble_eq_true rfl, Nat.le_of_ble_eq_true rfl⟩ [0, 1, 2, 3, 4, 5, 6] rfl 0 rfl rfl rfl hl.1 rfl (Nat.le_of_ble_eq_true rfl) dX5_bracket_127 ⟨Nat.zero_le _, Nat.zero_le _⟩ ?_
          exact rd_ret X rfl (Option.some.inj h) dX5_bracket_130
        · replace h := ifp c14 h
          refine lv_bipush (v := iI (-5)) hx hb dX5_bracket_116 (by decide) ?_
          refine lv_goto (tgt := 130) hx hb dX5_bracket_118 (by decide) ?_
          exact rd_ret X rfl (Option.some.inj h) dX5_bracket_130
      replace h := ifn c13 h
      by_cases c17 : x2 = iI 4
      · replace h := ifp c17 h
        refine lv_tableIn (tgt := 131) hx hb dX5_bracket_41 (by rw [c17]; decide) (by rw [c17]; decide) (by rw [c17]; rfl) (by decide) ?_
        refine lv_iload_n hx hb dX5_bracket_131 rfl (lv_at hl 1 rfl) ?_
        exact rd_ret X rfl (Option.some.inj h) dX5_bracket_132
      replace h := ifn c17 h
      refine lv_tableOut (tgt := 133) hx hb dX5_bracket_41 (sw4 c5 c7 c9 c13 c17) (by decide) ?_
      refine lv_bipush (v := iI (-2)) hx hb dX5_bracket_133 (by decide) ?_
      exact rd_ret X rfl (Option.some.inj h) dX5_bracket_135
    · replace h := ifp c4 h
      refine lv_iconst (v := iI 1) hx hb dX5_bracket_33 rfl ?_
      refine lv_goto (tgt := 38) hx hb dX5_bracket_34 (by decide) ?_
      refine lv_istore (lv' := [(4, .int (iI 1)), (3, .int r2), (0, .ref (q 0)), (1, .int x1), (2, .int x2)]) hx hb dX5_bracket_38 hl (by decide) rfl (fun ls hl => ?_)
      refine lv_iload_n hx hb dX5_bracket_40 rfl (lv_at hl 4 rfl) ?_
      by_cases c18 : x2 = iI 0
      · replace h := ifp c18 h
        refine lv_tableIn (tgt := 76) hx hb dX5_bracket_41 (by rw [c18]; decide) (by rw [c18]; decide) (by rw [c18]; rfl) (by decide) ?_
        refine lv_iload hx hb dX5_bracket_76 (lv_at hl 0 rfl) ?_
        refine lv_if_eq (tgt := 85) hx hb dX5_bracket_78 (by decide) (fun c19 => ?_) (fun c19 => ?_)
        · replace h := ifp c19 h
          refine lv_iconst (v := iI 0) hx hb dX5_bracket_85 rfl ?_
          exact rd_ret X rfl (Option.some.inj h) dX5_bracket_86
        · replace h := ifn c19 h
          refine lv_iconst (v := iI 1) hx hb dX5_bracket_81 rfl ?_
          refine lv_goto (tgt := 86) hx hb dX5_bracket_82 (by decide) ?_
          exact rd_ret X rfl (Option.some.inj h) dX5_bracket_86
      replace h := ifn c18 h
      by_cases c20 : x2 = iI 1
      · replace h := ifp c20 h
        refine lv_tableIn (tgt := 87) hx hb dX5_bracket_41 (by rw [c20]; decide) (by rw [c20]; decide) (by rw [c20]; rfl) (by decide) ?_
        refine lv_aload_n hx hb dX5_bracket_87 rfl (lv_at hl 2 rfl) ?_
        refine lv_iload_n hx hb dX5_bracket_88 rfl (lv_at hl 3 rfl) ?_
        obtain ⟨r21, h_r21, h⟩ := obd h
        refine rcV (rest := []) X hKK hP 1 (zX5_excess l D cI cC q n d lb kp kr ty tx rd rl wi x1 r21 h_r21) gX5_bracket_X5_excess rfl rfl rfl hdX5_excess ⟨Nat.le_of_ble_eq_true rfl, Nat.le_of_ble_eq_true rfl⟩ [0, 1, 2, 3, 4, 5, 6] rfl 0 rfl rfl rfl hl.1 rfl (Nat.le_of_ble_eq_true rfl) dX5_bracket_89 ⟨Nat.zero_le _, Nat.zero_le _⟩ ?_
        exact rd_ret X rfl (Option.some.inj h) dX5_bracket_92
      replace h := ifn c20 h
      by_cases c22 : x2 = iI 2
      · replace h := ifp c22 h
        refine lv_tableIn (tgt := 93) hx hb dX5_bracket_41 (by rw [c22]; decide) (by rw [c22]; decide) (by rw [c22]; rfl) (by decide) ?_
        refine lv_iload hx hb dX5_bracket_93 (lv_at hl 0 rfl) ?_
        refine lv_if_eq (tgt := 106) hx hb dX5_bracket_95 (by decide) (fun c23 => ?_) (fun c23 => ?_)
        · replace h := ifp c23 h
          refine lv_aload_n hx hb dX5_bracket_106 rfl (lv_at hl 2 rfl) ?_
          refine lv_iload_n hx hb dX5_bracket_107 rfl (lv_at hl 1 rfl) ?_
          obtain ⟨r24, h_r24, h⟩ := obd h
          refine rcV (rest := []) X hKK hP 1 (zX5_opening l D cI cC q n d lb kp kr ty tx rd rl wi r2 r24 h_r24) gX5_bracket_X5_opening rfl rfl rfl hdX5_opening ⟨Nat.le_of_ble_eq_true rfl, Nat.le_of_ble_eq_true rfl⟩ [0, 1, 2, 3, 4, 5, 6] rfl 0 rfl rfl rfl hl.1 rfl (Nat.le_of_ble_eq_true rfl) dX5_bracket_108 ⟨Nat.zero_le _, Nat.zero_le _⟩ ?_
          exact rd_ret X rfl (Option.some.inj h) dX5_bracket_111
        · replace h := ifn c23 h
          refine lv_aload_n hx hb dX5_bracket_98 rfl (lv_at hl 2 rfl) ?_
          refine lv_iload_n hx hb dX5_bracket_99 rfl (lv_at hl 1 rfl) ?_
          obtain ⟨r25, h_r25, h⟩ := obd h
          refine rcV (rest := []) X hKK hP 1 (zX5_closing l D cI cC q n d lb kp kr ty tx rd rl wi r2 r25 h_r25) gX5_bracket_X5_closing rfl rfl rfl hdX5_closing ⟨Nat.le_of_ble_eq_true rfl, Nat.le_of_ble_eq_true rfl⟩ [0, 1, 2, 3, 4, 5, 6] rfl 0 rfl rfl rfl hl.1 rfl (Nat.le_of_ble_eq_true rfl) dX5_bracket_100 ⟨Nat.zero_le _, Nat.zero_le _⟩ ?_
          refine lv_goto (tgt := 111) hx hb dX5_bracket_103 (by decide) ?_
          exact rd_ret X rfl (Option.some.inj h) dX5_bracket_111
      replace h := ifn c22 h
      by_cases c26 : x2 = iI 3
      · replace h := ifp c26 h
        refine lv_tableIn (tgt := 112) hx hb dX5_bracket_41 (by rw [c26]; decide) (by rw [c26]; decide) (by rw [c26]; rfl) (by decide) ?_
        refine lv_iload_n hx hb dX5_bracket_112 rfl (lv_at hl 1 rfl) ?_
        refine lv_if_ne (tgt := 121) hx hb dX5_bracket_113 (by decide) (fun c27 => ?_) (fun c27 => ?_)
        · replace h := ifn c27 h
          refine lv_aload_n hx hb dX5_bracket_121 rfl (lv_at hl 2 rfl) ?_
          refine lv_aload_n hx hb dX5_bracket_122 rfl (lv_at hl 2 rfl) ?_
          refine lv_iload_n hx hb dX5_bracket_123 rfl (lv_at hl 1 rfl) ?_
          obtain ⟨r28, h_r28, h⟩ := obd h
          refine rcV (rest := [.ref (q 0)]) X hKK hP 1 (zX5_parentOf l D cI cC q n d lb kp kr ty tx rd rl wi r2 r28 h_r28) gX5_bracket_X5_parentOf rfl rfl rfl hdX5_parentOf ⟨Nat.le_of_ble_eq_true rfl, Nat.le_of_ble_eq_true rfl⟩ [0, 1, 2, 3, 4, 5, 6] rfl 0 rfl rfl rfl hl.1 rfl (Nat.le_of_ble_eq_true rfl) dX5_bracket_124 ⟨Nat.zero_le _, Nat.zero_le _⟩ ?_
          obtain ⟨r29, h_r29, h⟩ := obd h
          refine rcV (rest := []) X hKK hP 1 (zX5_opening l D cI cC q n d lb kp kr ty tx rd rl wi r28 r29 h_r29) gX5_bracket_X5_opening rfl rfl rfl hdX5_opening ⟨Nat.le_of_ble_eq_true rfl, Nat.le_of_ble_eq_true rfl⟩ [0, 1, 2, 3, 4, 5, 6] rfl 0 rfl rfl rfl hl.1 rfl (Nat.le_of_ble_eq_true rfl) dX5_bracket_127 ⟨Nat.zero_le _, Nat.zero_le _⟩ ?_
          exact rd_ret X rfl (Option.some.inj h) dX5_bracket_130
        · replace h := ifp c27 h
          refine lv_bipush (v := iI (-5)) hx hb dX5_bracket_116 (by decide) ?_
          refine lv_goto (tgt := 130) hx hb dX5_bracket_118 (by decide) ?_
          exact rd_ret X rfl (Option.some.inj h) dX5_bracket_130
      replace h := ifn c26 h
      by_cases c30 : x2 = iI 4
      · replace h := ifp c30 h
        refine lv_tableIn (tgt := 131) hx hb dX5_bracket_41 (by rw [c30]; decide) (by rw [c30]; decide) (by rw [c30]; rfl) (by decide) ?_
        refine lv_iload_n hx hb dX5_bracket_131 rfl (lv_at hl 1 rfl) ?_
        exact rd_ret X rfl (Option.some.inj h) dX5_bracket_132
      replace h := ifn c30 h
      refine lv_tableOut (tgt := 133) hx hb dX5_bracket_41 (sw4 c18 c20 c22 c26 c30) (by decide) ?_
      refine lv_bipush (v := iI (-2)) hx hb dX5_bracket_133 (by decide) ?_
      exact rd_ret X rfl (Option.some.inj h) dX5_bracket_135
  · replace h := ifp c1 h
    refine lv_iconst (v := iI (-1)) hx hb dX5_bracket_16 rfl ?_
    exact rd_ret X rfl (Option.some.inj h) dX5_bracket_17
def mX5_blocks (n : Int32) (wi : Int32)  : Option (Int32) := (if ¬ (wi = 0) then some (((((iI 2) * n) + wi) - (iI 1)) / wi) else none)
theorem hdX5_blocks : yX5_blocks.cls = RX5 ∧ yX5_blocks.cls ≠ "java/lang/invoke/MethodHandle" ∧ yX5_blocks.cls ≠ "java/lang/invoke/VarHandle" ∧ (parseMethodDescriptor yX5_blocks.desc).map (fun d => d.parameters.length) = some 0 := by decide +kernel
theorem flX5_blocks_29 : Cond.fieldLink RX5 29 "BracketTreeModel" "n" "I" ∈ wsX5_blocks := by decide +kernel
theorem iwX5_blocks_5 : ∀ w ∈ wsX50, w ∈ wsX5_blocks := by decide +kernel
theorem flX5_blocks_33 : Cond.fieldLink RX5 33 "BracketTreeModel" "width" "I" ∈ wsX5_blocks := by decide +kernel
abbrev rmX5_blocks : Room := { frames := 0, cells := 0, slots := 0, locals := 0 }
set_option maxHeartbeats 4000000 in
set_option maxRecDepth 100000 in
theorem zX5_blocks (l : Launch) (D : va_G) (cI cC : ClassId) (q : Nat → Nat) (n : Int32) (d : Nat → Int32) (lb : Nat → Int32) (kp : Int32) (kr : Nat → Int32) (ty : Int32) (tx : Nat → Int32) (rd : Nat → Int32) (rl : Nat → Int32) (wi : Int32)  (r : Int32) (h : mX5_blocks n wi = some r) : Met l yX5_blocks wsX5_blocks rmX5_blocks (va_Pc [.ref (q 0)] (BW D cI cC (wM cI cC q n d lb kp kr ty tx rd rl wi))) (rdQ r) 0 0 (fun _ => False) := by
  refine MetI RX5 (by decide +kernel) rfl rfl (Nat.le_of_ble_eq_true rfl) ?_
  intro p e s m below meth c ls X _ hB hl
  obtain ⟨hP, hKK⟩ := hB
  have hx := X.1
  have hb := X.2.1
  replace hl : lv_has ls 1 [(0, .ref (q 0))] := hl
  unfold mX5_blocks at h
  refine lv_iconst (v := iI 2) hx hb dX5_blocks_0 rfl ?_
  refine lv_aload_n hx hb dX5_blocks_1 rfl (lv_at hl 0 rfl) ?_
  refine va_get (D := D) (ci := 5) (v := .int n) (C := RX5) (T := TX5) (N := 10) hx hb X.2.2.2.2.1 iwX5_blocks_5 X.2.2.2.1 hKK.1 hP 0 rfl rfl 0 (by decide) (X.2.2.2.2.1 _ flX5_blocks_29) (fun _ h9 => h9) rfl dX5_blocks_2 ?_
  refine lv_imul hx hb dX5_blocks_5 ?_
  refine lv_aload_n hx hb dX5_blocks_6 rfl (lv_at hl 0 rfl) ?_
  refine va_get (D := D) (ci := 5) (v := .int wi) (C := RX5) (T := TX5) (N := 10) hx hb X.2.2.2.2.1 iwX5_blocks_5 X.2.2.2.1 hKK.1 hP 0 rfl rfl 9 (by decide) (X.2.2.2.2.1 _ flX5_blocks_33) (fun _ h9 => h9) rfl dX5_blocks_7 ?_
  refine lv_iadd hx hb dX5_blocks_10 ?_
  refine lv_iconst (v := iI 1) hx hb dX5_blocks_11 rfl ?_
  refine lv_isub hx hb dX5_blocks_12 ?_
  refine lv_aload_n hx hb dX5_blocks_13 rfl (lv_at hl 0 rfl) ?_
  refine va_get (D := D) (ci := 5) (v := .int wi) (C := RX5) (T := TX5) (N := 10) hx hb X.2.2.2.2.1 iwX5_blocks_5 X.2.2.2.1 hKK.1 hP 0 rfl rfl 9 (by decide) (X.2.2.2.2.1 _ flX5_blocks_33) (fun _ h9 => h9) rfl dX5_blocks_14 ?_
  obtain ⟨g1, h⟩ := asr h
  refine lv_idiv hx hb dX5_blocks_17 g1 ?_
  exact rd_ret X rfl (Option.some.inj h) dX5_blocks_18
def mX5_block_71 : Nat → Int32 → (Nat → Int32) → Int32 → Int32 → Int32 → Int32 → Int32 → Int32 → Int32 → Int32 → Option (Int32)
  | 0, _, _, _, _, _, _, _, _, _, _ => none
  | f + 1, n, d, wi, x1, x2, x3, x4, x5, x6, x7 => (if x4 ≤ x7 then (if x2 = iI 0 then (if x1 = 0 then some (iI 0) else ((mX5_excess n d (x3 - (iI 1))).bind fun r9 => some r9)) else (if x2 = iI 1 then some x5 else (if x2 = iI 2 then some x6 else (if x2 = iI 3 then some (x4 - x3) else some (iI (-2)))))) else ((mX5_excess n d x7).bind fun r13 => (if x5 ≤ r13 then (if r13 ≤ x6 then mX5_block_71 f n d wi x1 x2 x3 x4 x5 x6 (x7 + iI 1) else mX5_block_71 f n d wi x1 x2 x3 x4 x5 r13 (x7 + iI 1)) else (if r13 ≤ x6 then mX5_block_71 f n d wi x1 x2 x3 x4 r13 x6 (x7 + iI 1) else mX5_block_71 f n d wi x1 x2 x3 x4 r13 r13 (x7 + iI 1)))))
def mX5_block (n : Int32) (d : Nat → Int32) (wi : Int32) (x1 : Int32) (x2 : Int32) : Option (Int32) := ((mX5_blocks n wi).bind fun r1 => (if (mX5_in x1 (iI 0) (r1 - (iI 1))) = 0 then some (iI (-1)) else (if ((iI 2) * n) ≤ ((x1 * wi) + wi) then ((mX5_excess n d (x1 * wi)).bind fun r4 => mX5_block_71 FU n d wi x1 x2 (x1 * wi) ((iI 2) * n) r4 r4 ((x1 * wi) + (iI 1))) else ((mX5_excess n d (x1 * wi)).bind fun r5 => mX5_block_71 FU n d wi x1 x2 (x1 * wi) ((x1 * wi) + wi) r5 r5 ((x1 * wi) + (iI 1))))))
theorem hdX5_block : yX5_block.cls = RX5 ∧ yX5_block.cls ≠ "java/lang/invoke/MethodHandle" ∧ yX5_block.cls ≠ "java/lang/invoke/VarHandle" ∧ (parseMethodDescriptor yX5_block.desc).map (fun d => d.parameters.length) = some 2 := by decide +kernel
theorem flX5_block_33 : Cond.fieldLink RX5 33 "BracketTreeModel" "width" "I" ∈ wsX5_block := by decide +kernel
theorem iwX5_block_5 : ∀ w ∈ wsX50, w ∈ wsX5_block := by decide +kernel
theorem flX5_block_29 : Cond.fieldLink RX5 29 "BracketTreeModel" "n" "I" ∈ wsX5_block := by decide +kernel
abbrev rmX5_block : Room := { frames := 4, cells := 0, slots := 0, locals := 88 }
set_option maxHeartbeats 4000000 in
set_option maxRecDepth 100000 in
theorem kX5_block_71 {p : Program} {l : Launch} {e : Env} {s : State} {m : MethodId} {args : Array Value} {below : List Frame} {meth : Method} {c : Code} {D : va_G} {cI cC : ClassId} {q : Nat → Nat} {n : Int32} {d : Nat → Int32} {lb : Nat → Int32} {kp : Int32} {kr : Nat → Int32} {ty : Int32} {tx : Nat → Int32} {rd : Nat → Int32} {rl : Nat → Int32} {wi : Int32} {r : Int32} (X : CX p s m args meth c wsX5_block cX5_block 9 (some .int) RX5) (hKK : KK D cI cC s) (hP : va_P D vwCl (wM cI cC q n d lb kp kr ty tx rd rl wi) s.heap) : ∀ (f : Nat), ∀ (x1 : Int32) (x2 : Int32) (x3 : Int32) (x4 : Int32) (x5 : Int32) (x6 : Int32) (x7 : Int32) (ls : Array Slot), lv_has ls 9 [(0, .ref (q 0)), (1, .int x1), (2, .int x2), (3, .int x3), (4, .int x4), (5, .int x5), (6, .int x6), (7, .int x7)] → mX5_block_71 f n d wi x1 x2 x3 x4 x5 x6 x7 = some r → W p l e rmX5_block s m args below meth c s.heap [] 0 0 (MQ below (rdQ r) args s 0 0 (fun _ => False)) (F0 m 71 ls []) := by
  have hx := X.1
  have hb := X.2.1
  intro f
  induction f with
  | zero =>
    intro x1 x2 x3 x4 x5 x6 x7 ls hl h
    exact absurd h (by unfold mX5_block_71; intro h; cases h)
  | succ f ih =>
    intro x1 x2 x3 x4 x5 x6 x7 ls hl h
    rw [mX5_block_71] at h
    refine lv_iload hx hb dX5_block_71 (lv_at hl 7 rfl) ?_
    refine lv_iload hx hb dX5_block_73 (lv_at hl 4 rfl) ?_
    refine lv_icmp_ge (tgt := 124) hx hb dX5_block_75 (by decide) (fun c6 => ?_) (fun c6 => ?_)
    · replace h := ifp c6 h
      refine lv_iload_n hx hb dX5_block_124 rfl (lv_at hl 2 rfl) ?_
      by_cases c7 : x2 = iI 0
      · replace h := ifp c7 h
        refine lv_tableIn (tgt := 156) hx hb dX5_block_125 (by rw [c7]; decide) (by rw [c7]; decide) (by rw [c7]; rfl) (by decide) ?_
        refine lv_iload_n hx hb dX5_block_156 rfl (lv_at hl 1 rfl) ?_
        refine lv_if_ne (tgt := 164) hx hb dX5_block_157 (by decide) (fun c8 => ?_) (fun c8 => ?_)
        · replace h := ifn c8 h
          refine lv_aload_n hx hb dX5_block_164 rfl (lv_at hl 0 rfl) ?_
          refine lv_iload_n hx hb dX5_block_165 rfl (lv_at hl 3 rfl) ?_
          refine lv_iconst (v := iI 1) hx hb dX5_block_166 rfl ?_
          refine lv_isub hx hb dX5_block_167 ?_
          obtain ⟨r9, h_r9, h⟩ := obd h
          refine rcV (rest := []) X hKK hP 1 (zX5_excess l D cI cC q n d lb kp kr ty tx rd rl wi (x3 - (iI 1)) r9 h_r9) gX5_block_X5_excess rfl rfl rfl hdX5_excess ⟨Nat.le_of_ble_eq_true rfl, Nat.le_of_ble_eq_true rfl⟩ [0, 1, 2, 3, 4, 5, 6] rfl 0 rfl rfl rfl hl.1 rfl (Nat.le_of_ble_eq_true rfl) dX5_block_168 ⟨Nat.zero_le _, Nat.zero_le _⟩ ?_
          exact rd_ret X rfl (Option.some.inj h) dX5_block_171
        · replace h := ifp c8 h
          refine lv_iconst (v := iI 0) hx hb dX5_block_160 rfl ?_
          refine lv_goto (tgt := 171) hx hb dX5_block_161 (by decide) ?_
          exact rd_ret X rfl (Option.some.inj h) dX5_block_171
      replace h := ifn c7 h
      by_cases c10 : x2 = iI 1
      · replace h := ifp c10 h
        refine lv_tableIn (tgt := 172) hx hb dX5_block_125 (by rw [c10]; decide) (by rw [c10]; decide) (by rw [c10]; rfl) (by decide) ?_
        refine lv_iload hx hb dX5_block_172 (lv_at hl 5 rfl) ?_
        exact rd_ret X rfl (Option.some.inj h) dX5_block_174
      replace h := ifn c10 h
      by_cases c11 : x2 = iI 2
      · replace h := ifp c11 h
        refine lv_tableIn (tgt := 175) hx hb dX5_block_125 (by rw [c11]; decide) (by rw [c11]; decide) (by rw [c11]; rfl) (by decide) ?_
        refine lv_iload hx hb dX5_block_175 (lv_at hl 6 rfl) ?_
        exact rd_ret X rfl (Option.some.inj h) dX5_block_177
      replace h := ifn c11 h
      by_cases c12 : x2 = iI 3
      · replace h := ifp c12 h
        refine lv_tableIn (tgt := 178) hx hb dX5_block_125 (by rw [c12]; decide) (by rw [c12]; decide) (by rw [c12]; rfl) (by decide) ?_
        refine lv_iload hx hb dX5_block_178 (lv_at hl 4 rfl) ?_
        refine lv_iload_n hx hb dX5_block_180 rfl (lv_at hl 3 rfl) ?_
        refine lv_isub hx hb dX5_block_181 ?_
        exact rd_ret X rfl (Option.some.inj h) dX5_block_182
      replace h := ifn c12 h
      refine lv_tableOut (tgt := 183) hx hb dX5_block_125 (sw3 c7 c10 c11 c12) (by decide) ?_
      refine lv_bipush (v := iI (-2)) hx hb dX5_block_183 (by decide) ?_
      exact rd_ret X rfl (Option.some.inj h) dX5_block_185
    · replace h := ifn c6 h
      refine lv_aload_n hx hb dX5_block_78 rfl (lv_at hl 0 rfl) ?_
      refine lv_iload hx hb dX5_block_79 (lv_at hl 7 rfl) ?_
      obtain ⟨r13, h_r13, h⟩ := obd h
      refine rcV (rest := []) X hKK hP 1 (zX5_excess l D cI cC q n d lb kp kr ty tx rd rl wi x7 r13 h_r13) gX5_block_X5_excess rfl rfl rfl hdX5_excess ⟨Nat.le_of_ble_eq_true rfl, Nat.le_of_ble_eq_true rfl⟩ [0, 1, 2, 3, 4, 5, 6] rfl 0 rfl rfl rfl hl.1 rfl (Nat.le_of_ble_eq_true rfl) dX5_block_81 ⟨Nat.zero_le _, Nat.zero_le _⟩ ?_
      refine lv_istore (lv' := [(8, .int r13), (0, .ref (q 0)), (1, .int x1), (2, .int x2), (3, .int x3), (4, .int x4), (5, .int x5), (6, .int x6), (7, .int x7)]) hx hb dX5_block_84 hl (by decide) rfl (fun ls hl => ?_)
      refine lv_iload hx hb dX5_block_86 (lv_at hl 0 rfl) ?_
      refine lv_iload hx hb dX5_block_88 (lv_at hl 6 rfl) ?_
      refine lv_icmp_ge (tgt := 98) hx hb dX5_block_90 (by decide) (fun c14 => ?_) (fun c14 => ?_)
      · replace h := ifp c14 h
        refine lv_iload hx hb dX5_block_98 (lv_at hl 6 rfl) ?_
        refine lv_istore (lv' := [(5, .int x5), (8, .int r13), (0, .ref (q 0)), (1, .int x1), (2, .int x2), (3, .int x3), (4, .int x4), (6, .int x6), (7, .int x7)]) hx hb dX5_block_100 hl (by decide) rfl (fun ls hl => ?_)
        refine lv_iload hx hb dX5_block_102 (lv_at hl 1 rfl) ?_
        refine lv_iload hx hb dX5_block_104 (lv_at hl 7 rfl) ?_
        refine lv_icmp_le (tgt := 114) hx hb dX5_block_106 (by decide) (fun c15 => ?_) (fun c15 => ?_)
        · replace h := ifp c15 h
          refine lv_iload hx hb dX5_block_114 (lv_at hl 7 rfl) ?_
          refine lv_istore (lv' := [(6, .int x6), (5, .int x5), (8, .int r13), (0, .ref (q 0)), (1, .int x1), (2, .int x2), (3, .int x3), (4, .int x4), (7, .int x7)]) hx hb dX5_block_116 hl (by decide) rfl (fun ls hl => ?_)
          refine lv_iinc (v := (x7 + iI 1)) (lv' := [(7, .int (x7 + iI 1)), (6, .int x6), (5, .int x5), (8, .int r13), (0, .ref (q 0)), (1, .int x1), (2, .int x2), (3, .int x3), (4, .int x4)]) hx hb dX5_block_118 hl (k := 8) rfl rfl (by decide) rfl (fun ls hl => ?_)
          refine lv_goto (tgt := 71) hx hb dX5_block_121 (by decide) ?_
          exact ih x1 x2 x3 x4 x5 x6 (x7 + iI 1) ls (lv_sub hl [4, 5, 6, 7, 8, 2, 1, 0] rfl) h
        · replace h := ifn c15 h
          refine lv_iload hx hb dX5_block_109 (lv_at hl 1 rfl) ?_
          refine lv_goto (tgt := 116) hx hb dX5_block_111 (by decide) ?_
          refine lv_istore (lv' := [(6, .int r13), (5, .int x5), (8, .int r13), (0, .ref (q 0)), (1, .int x1), (2, .int x2), (3, .int x3), (4, .int x4), (7, .int x7)]) hx hb dX5_block_116 hl (by decide) rfl (fun ls hl => ?_)
          refine lv_iinc (v := (x7 + iI 1)) (lv' := [(7, .int (x7 + iI 1)), (6, .int r13), (5, .int x5), (8, .int r13), (0, .ref (q 0)), (1, .int x1), (2, .int x2), (3, .int x3), (4, .int x4)]) hx hb dX5_block_118 hl (k := 8) rfl rfl (by decide) rfl (fun ls hl => ?_)
          refine lv_goto (tgt := 71) hx hb dX5_block_121 (by decide) ?_
          exact ih x1 x2 x3 x4 x5 r13 (x7 + iI 1) ls (lv_sub hl [4, 5, 6, 7, 8, 2, 1, 0] rfl) h
      · replace h := ifn c14 h
        refine lv_iload hx hb dX5_block_93 (lv_at hl 0 rfl) ?_
        refine lv_goto (tgt := 100) hx hb dX5_block_95 (by decide) ?_
        refine lv_istore (lv' := [(5, .int r13), (8, .int r13), (0, .ref (q 0)), (1, .int x1), (2, .int x2), (3, .int x3), (4, .int x4), (6, .int x6), (7, .int x7)]) hx hb dX5_block_100 hl (by decide) rfl (fun ls hl => ?_)
        refine lv_iload hx hb dX5_block_102 (lv_at hl 1 rfl) ?_
        refine lv_iload hx hb dX5_block_104 (lv_at hl 7 rfl) ?_
        refine lv_icmp_le (tgt := 114) hx hb dX5_block_106 (by decide) (fun c16 => ?_) (fun c16 => ?_)
        · replace h := ifp c16 h
          refine lv_iload hx hb dX5_block_114 (lv_at hl 7 rfl) ?_
          refine lv_istore (lv' := [(6, .int x6), (5, .int r13), (8, .int r13), (0, .ref (q 0)), (1, .int x1), (2, .int x2), (3, .int x3), (4, .int x4), (7, .int x7)]) hx hb dX5_block_116 hl (by decide) rfl (fun ls hl => ?_)
          refine lv_iinc (v := (x7 + iI 1)) (lv' := [(7, .int (x7 + iI 1)), (6, .int x6), (5, .int r13), (8, .int r13), (0, .ref (q 0)), (1, .int x1), (2, .int x2), (3, .int x3), (4, .int x4)]) hx hb dX5_block_118 hl (k := 8) rfl rfl (by decide) rfl (fun ls hl => ?_)
          refine lv_goto (tgt := 71) hx hb dX5_block_121 (by decide) ?_
          exact ih x1 x2 x3 x4 r13 x6 (x7 + iI 1) ls (lv_sub hl [4, 5, 6, 7, 8, 2, 1, 0] rfl) h
        · replace h := ifn c16 h
          refine lv_iload hx hb dX5_block_109 (lv_at hl 1 rfl) ?_
          refine lv_goto (tgt := 116) hx hb dX5_block_111 (by decide) ?_
          refine lv_istore (lv' := [(6, .int r13), (5, .int r13), (8, .int r13), (0, .ref (q 0)), (1, .int x1), (2, .int x2), (3, .int x3), (4, .int x4), (7, .int x7)]) hx hb dX5_block_116 hl (by decide) rfl (fun ls hl => ?_)
          refine lv_iinc (v := (x7 + iI 1)) (lv' := [(7, .int (x7 + iI 1)), (6, .int r13), (5, .int r13), (8, .int r13), (0, .ref (q 0)), (1, .int x1), (2, .int x2), (3, .int x3), (4, .int x4)]) hx hb dX5_block_118 hl (k := 8) rfl rfl (by decide) rfl (fun ls hl => ?_)
          refine lv_goto (tgt := 71) hx hb dX5_block_121 (by decide) ?_
          exact ih x1 x2 x3 x4 r13 r13 (x7 + iI 1) ls (lv_sub hl [4, 5, 6, 7, 8, 2, 1, 0] rfl) h
set_option maxHeartbeats 4000000 in
set_option maxRecDepth 100000 in
theorem zX5_block (l : Launch) (D : va_G) (cI cC : ClassId) (q : Nat → Nat) (n : Int32) (d : Nat → Int32) (lb : Nat → Int32) (kp : Int32) (kr : Nat → Int32) (ty : Int32) (tx : Nat → Int32) (rd : Nat → Int32) (rl : Nat → Int32) (wi : Int32) (x1 : Int32) (x2 : Int32) (r : Int32) (h : mX5_block n d wi x1 x2 = some r) : Met l yX5_block wsX5_block rmX5_block (va_Pc [.ref (q 0), .int x1, .int x2] (BW D cI cC (wM cI cC q n d lb kp kr ty tx rd rl wi))) (rdQ r) 0 0 (fun _ => False) := by
  refine MetI RX5 (by decide +kernel) rfl rfl (Nat.le_of_ble_eq_true rfl) ?_
  intro p e s m below meth c ls X _ hB hl
  obtain ⟨hP, hKK⟩ := hB
  have hx := X.1
  have hb := X.2.1
  replace hl : lv_has ls 9 [(0, .ref (q 0)), (1, .int x1), (2, .int x2)] := hl
  unfold mX5_block at h
  refine lv_iload_n hx hb dX5_block_0 rfl (lv_at hl 1 rfl) ?_
  refine lv_iconst (v := iI 0) hx hb dX5_block_1 rfl ?_
  refine lv_aload_n hx hb dX5_block_2 rfl (lv_at hl 0 rfl) ?_
  obtain ⟨r1, h_r1, h⟩ := obd h
  refine rcV (rest := [.int (iI 0), .int x1]) X hKK hP 0 (zX5_blocks l D cI cC q n d lb kp kr ty tx rd rl wi r1 h_r1) gX5_block_X5_blocks rfl rfl rfl hdX5_blocks ⟨Nat.le_of_ble_eq_true rfl, Nat.le_of_ble_eq_true rfl⟩ [0, 1, 2, 3, 4, 5, 6] rfl 0 rfl rfl rfl hl.1 rfl (Nat.le_of_ble_eq_true rfl) dX5_block_3 ⟨Nat.zero_le _, Nat.zero_le _⟩ ?_
  refine lv_iconst (v := iI 1) hx hb dX5_block_6 rfl ?_
  refine lv_isub hx hb dX5_block_7 ?_
  refine rcS (rest := []) X hKK hP 3 (zX5_in l D cI cC x1 (iI 0) (r1 - (iI 1)) _ rfl) gX5_block_X5_in rfl rfl rfl hdX5_in ⟨Nat.le_of_ble_eq_true rfl, Nat.le_of_ble_eq_true rfl⟩ [] rfl rfl hl.1 rfl (Nat.le_of_ble_eq_true rfl) dX5_block_8 ⟨Nat.zero_le _, Nat.zero_le _⟩ ?_
  refine lv_if_ne (tgt := 16) hx hb dX5_block_11 (by decide) (fun c2 => ?_) (fun c2 => ?_)
  · replace h := ifn c2 h
    refine lv_iload_n hx hb dX5_block_16 rfl (lv_at hl 1 rfl) ?_
    refine lv_aload_n hx hb dX5_block_17 rfl (lv_at hl 0 rfl) ?_
    refine va_get (D := D) (ci := 5) (v := .int wi) (C := RX5) (T := TX5) (N := 10) hx hb X.2.2.2.2.1 iwX5_block_5 X.2.2.2.1 hKK.1 hP 0 rfl rfl 9 (by decide) (X.2.2.2.2.1 _ flX5_block_33) (fun _ h9 => h9) rfl dX5_block_18 ?_
    refine lv_imul hx hb dX5_block_21 ?_
    refine lv_istore_n (lv' := [(3, .int (x1 * wi)), (0, .ref (q 0)), (1, .int x1), (2, .int x2)]) hx hb dX5_block_22 rfl hl (by decide) rfl (fun ls hl => ?_)
    refine lv_iload_n hx hb dX5_block_23 rfl (lv_at hl 0 rfl) ?_
    refine lv_aload_n hx hb dX5_block_24 rfl (lv_at hl 1 rfl) ?_
    refine va_get (D := D) (ci := 5) (v := .int wi) (C := RX5) (T := TX5) (N := 10) hx hb X.2.2.2.2.1 iwX5_block_5 X.2.2.2.1 hKK.1 hP 0 rfl rfl 9 (by decide) (X.2.2.2.2.1 _ flX5_block_33) (fun _ h9 => h9) rfl dX5_block_25 ?_
    refine lv_iadd hx hb dX5_block_28 ?_
    refine lv_iconst (v := iI 2) hx hb dX5_block_29 rfl ?_
    refine lv_aload_n hx hb dX5_block_30 rfl (lv_at hl 1 rfl) ?_
    refine va_get (D := D) (ci := 5) (v := .int n) (C := RX5) (T := TX5) (N := 10) hx hb X.2.2.2.2.1 iwX5_block_5 X.2.2.2.1 hKK.1 hP 0 rfl rfl 0 (by decide) (X.2.2.2.2.1 _ flX5_block_29) (fun _ h9 => h9) rfl dX5_block_31 ?_
    refine lv_imul hx hb dX5_block_34 ?_
    refine lv_icmp_ge (tgt := 47) hx hb dX5_block_35 (by decide) (fun c3 => ?_) (fun c3 => ?_)
    · replace h := ifp c3 h
      refine lv_iconst (v := iI 2) hx hb dX5_block_47 rfl ?_
      refine lv_aload_n hx hb dX5_block_48 rfl (lv_at hl 1 rfl) ?_
      refine va_get (D := D) (ci := 5) (v := .int n) (C := RX5) (T := TX5) (N := 10) hx hb X.2.2.2.2.1 iwX5_block_5 X.2.2.2.1 hKK.1 hP 0 rfl rfl 0 (by decide) (X.2.2.2.2.1 _ flX5_block_29) (fun _ h9 => h9) rfl dX5_block_49 ?_
      refine lv_imul hx hb dX5_block_52 ?_
      refine lv_istore (lv' := [(4, .int ((iI 2) * n)), (3, .int (x1 * wi)), (0, .ref (q 0)), (1, .int x1), (2, .int x2)]) hx hb dX5_block_53 hl (by decide) rfl (fun ls hl => ?_)
      refine lv_aload_n hx hb dX5_block_55 rfl (lv_at hl 2 rfl) ?_
      refine lv_iload_n hx hb dX5_block_56 rfl (lv_at hl 1 rfl) ?_
      obtain ⟨r4, h_r4, h⟩ := obd h
      refine rcV (rest := []) X hKK hP 1 (zX5_excess l D cI cC q n d lb kp kr ty tx rd rl wi (x1 * wi) r4 h_r4) gX5_block_X5_excess rfl rfl rfl hdX5_excess ⟨Nat.le_of_ble_eq_true rfl, Nat.le_of_ble_eq_true rfl⟩ [0, 1, 2, 3, 4, 5, 6] rfl 0 rfl rfl rfl hl.1 rfl (Nat.le_of_ble_eq_true rfl) dX5_block_57 ⟨Nat.zero_le _, Nat.zero_le _⟩ ?_
      refine lv_istore (lv' := [(5, .int r4), (4, .int ((iI 2) * n)), (3, .int (x1 * wi)), (0, .ref (q 0)), (1, .int x1), (2, .int x2)]) hx hb dX5_block_60 hl (by decide) rfl (fun ls hl => ?_)
      refine lv_iload hx hb dX5_block_62 (lv_at hl 0 rfl) ?_
      refine lv_istore (lv' := [(6, .int r4), (5, .int r4), (4, .int ((iI 2) * n)), (3, .int (x1 * wi)), (0, .ref (q 0)), (1, .int x1), (2, .int x2)]) hx hb dX5_block_64 hl (by decide) rfl (fun ls hl => ?_)
      refine lv_iload_n hx hb dX5_block_66 rfl (lv_at hl 3 rfl) ?_
      refine lv_iconst (v := iI 1) hx hb dX5_block_67 rfl ?_
      refine lv_iadd hx hb dX5_block_68 ?_
      refine lv_istore (lv' := [(7, .int ((x1 * wi) + (iI 1))), (6, .int r4), (5, .int r4), (4, .int ((iI 2) * n)), (3, .int (x1 * wi)), (0, .ref (q 0)), (1, .int x1), (2, .int x2)]) hx hb dX5_block_69 hl (by decide) rfl (fun ls hl => ?_)
      exact kX5_block_71 X hKK hP FU x1 x2 (x1 * wi) ((iI 2) * n) r4 r4 ((x1 * wi) + (iI 1)) ls (lv_sub hl [5, 6, 7, 4, 3, 2, 1, 0] rfl) h
    · replace h := ifn c3 h
      refine lv_iload_n hx hb dX5_block_38 rfl (lv_at hl 0 rfl) ?_
      refine lv_aload_n hx hb dX5_block_39 rfl (lv_at hl 1 rfl) ?_
      refine va_get (D := D) (ci := 5) (v := .int wi) (C := RX5) (T := TX5) (N := 10) hx hb X.2.2.2.2.1 iwX5_block_5 X.2.2.2.1 hKK.1 hP 0 rfl rfl 9 (by decide) (X.2.2.2.2.1 _ flX5_block_33) (fun _ h9 => h9) rfl dX5_block_40 ?_
      refine lv_iadd hx hb dX5_block_43 ?_
      refine lv_goto (tgt := 53) hx hb dX5_block_44 (by decide) ?_
      refine lv_istore (lv' := [(4, .int ((x1 * wi) + wi)), (3, .int (x1 * wi)), (0, .ref (q 0)), (1, .int x1), (2, .int x2)]) hx hb dX5_block_53 hl (by decide) rfl (fun ls hl => ?_)
      refine lv_aload_n hx hb dX5_block_55 rfl (lv_at hl 2 rfl) ?_
      refine lv_iload_n hx hb dX5_block_56 rfl (lv_at hl 1 rfl) ?_
      obtain ⟨r5, h_r5, h⟩ := obd h
      refine rcV (rest := []) X hKK hP 1 (zX5_excess l D cI cC q n d lb kp kr ty tx rd rl wi (x1 * wi) r5 h_r5) gX5_block_X5_excess rfl rfl rfl hdX5_excess ⟨Nat.le_of_ble_eq_true rfl, Nat.le_of_ble_eq_true rfl⟩ [0, 1, 2, 3, 4, 5, 6] rfl 0 rfl rfl rfl hl.1 rfl (Nat.le_of_ble_eq_true rfl) dX5_block_57 ⟨Nat.zero_le _, Nat.zero_le _⟩ ?_
      refine lv_istore (lv' := [(5, .int r5), (4, .int ((x1 * wi) + wi)), (3, .int (x1 * wi)), (0, .ref (q 0)), (1, .int x1), (2, .int x2)]) hx hb dX5_block_60 hl (by decide) rfl (fun ls hl => ?_)
      refine lv_iload hx hb dX5_block_62 (lv_at hl 0 rfl) ?_
      refine lv_istore (lv' := [(6, .int r5), (5, .int r5), (4, .int ((x1 * wi) + wi)), (3, .int (x1 * wi)), (0, .ref (q 0)), (1, .int x1), (2, .int x2)]) hx hb dX5_block_64 hl (by decide) rfl (fun ls hl => ?_)
      refine lv_iload_n hx hb dX5_block_66 rfl (lv_at hl 3 rfl) ?_
      refine lv_iconst (v := iI 1) hx hb dX5_block_67 rfl ?_
      refine lv_iadd hx hb dX5_block_68 ?_
      refine lv_istore (lv' := [(7, .int ((x1 * wi) + (iI 1))), (6, .int r5), (5, .int r5), (4, .int ((x1 * wi) + wi)), (3, .int (x1 * wi)), (0, .ref (q 0)), (1, .int x1), (2, .int x2)]) hx hb dX5_block_69 hl (by decide) rfl (fun ls hl => ?_)
      exact kX5_block_71 X hKK hP FU x1 x2 (x1 * wi) ((x1 * wi) + wi) r5 r5 ((x1 * wi) + (iI 1)) ls (lv_sub hl [5, 6, 7, 4, 3, 2, 1, 0] rfl) h
  · replace h := ifp c2 h
    refine lv_iconst (v := iI (-1)) hx hb dX5_block_14 rfl ?_
    exact rd_ret X rfl (Option.some.inj h) dX5_block_15
def mX5_space_7 : Nat → Int32 → Int32 → Int32 → Int32 → Int32 → Option (Int32)
  | 0, _, _, _, _, _ => none
  | f + 1, n, wi, x1, x2, x3 => (if x3 ≤ 0 then ((mX5_blocks n wi).bind fun r2 => (if x1 = iI 0 then some ((iI 2) * n) else (if x1 = iI 1 then some ((iI 5) * n) else (if x1 = iI 2 then some (((iI 3) * x2) * r2) else (if x1 = iI 3 then some (((iI 7) * n) + (((iI 3) * x2) * r2)) else (if x1 = iI 4 then ((mX5_blocks n wi).bind fun r8 => some r8) else some (iI (-2)))))))) else (if ¬ ((iI 2) = 0) then mX5_space_7 f n wi x1 (x2 + iI 1) (x3 / (iI 2)) else none))
def mX5_space (n : Int32) (wi : Int32) (x1 : Int32) : Option (Int32) := mX5_space_7 FU n wi x1 (iI 0) n
theorem hdX5_space : yX5_space.cls = RX5 ∧ yX5_space.cls ≠ "java/lang/invoke/MethodHandle" ∧ yX5_space.cls ≠ "java/lang/invoke/VarHandle" ∧ (parseMethodDescriptor yX5_space.desc).map (fun d => d.parameters.length) = some 1 := by decide +kernel
theorem flX5_space_29 : Cond.fieldLink RX5 29 "BracketTreeModel" "n" "I" ∈ wsX5_space := by decide +kernel
theorem iwX5_space_5 : ∀ w ∈ wsX50, w ∈ wsX5_space := by decide +kernel
abbrev rmX5_space : Room := { frames := 1, cells := 0, slots := 0, locals := 20 }
set_option maxHeartbeats 4000000 in
set_option maxRecDepth 100000 in
theorem kX5_space_7 {p : Program} {l : Launch} {e : Env} {s : State} {m : MethodId} {args : Array Value} {below : List Frame} {meth : Method} {c : Code} {D : va_G} {cI cC : ClassId} {q : Nat → Nat} {n : Int32} {d : Nat → Int32} {lb : Nat → Int32} {kp : Int32} {kr : Nat → Int32} {ty : Int32} {tx : Nat → Int32} {rd : Nat → Int32} {rl : Nat → Int32} {wi : Int32} {r : Int32} (X : CX p s m args meth c wsX5_space cX5_space 4 (some .int) RX5) (hKK : KK D cI cC s) (hP : va_P D vwCl (wM cI cC q n d lb kp kr ty tx rd rl wi) s.heap) : ∀ (f : Nat), ∀ (x1 : Int32) (x2 : Int32) (x3 : Int32) (ls : Array Slot), lv_has ls 4 [(0, .ref (q 0)), (1, .int x1), (2, .int x2), (3, .int x3)] → mX5_space_7 f n wi x1 x2 x3 = some r → W p l e rmX5_space s m args below meth c s.heap [] 0 0 (MQ below (rdQ r) args s 0 0 (fun _ => False)) (F0 m 7 ls []) := by
  have hx := X.1
  have hb := X.2.1
  intro f
  induction f with
  | zero =>
    intro x1 x2 x3 ls hl h
    exact absurd h (by unfold mX5_space_7; intro h; cases h)
  | succ f ih =>
    intro x1 x2 x3 ls hl h
    rw [mX5_space_7] at h
    refine lv_iload_n hx hb dX5_space_7 rfl (lv_at hl 3 rfl) ?_
    refine lv_if_le (tgt := 21) hx hb dX5_space_8 (by decide) (fun c1 => ?_) (fun c1 => ?_)
    · replace h := ifp c1 h
      refine lv_iconst (v := iI 3) hx hb dX5_space_21 rfl ?_
      refine lv_iload_n hx hb dX5_space_22 rfl (lv_at hl 2 rfl) ?_
      refine lv_imul hx hb dX5_space_23 ?_
      refine lv_aload_n hx hb dX5_space_24 rfl (lv_at hl 0 rfl) ?_
      obtain ⟨r2, h_r2, h⟩ := obd h
      refine rcV (rest := [.int ((iI 3) * x2)]) X hKK hP 0 (zX5_blocks l D cI cC q n d lb kp kr ty tx rd rl wi r2 h_r2) gX5_space_X5_blocks rfl rfl rfl hdX5_blocks ⟨Nat.le_of_ble_eq_true rfl, Nat.le_of_ble_eq_true rfl⟩ [0, 1, 2, 3, 4, 5, 6] rfl 0 rfl rfl rfl hl.1 rfl (Nat.le_of_ble_eq_true rfl) dX5_space_25 ⟨Nat.zero_le _, Nat.zero_le _⟩ ?_
      refine lv_imul hx hb dX5_space_28 ?_
      refine lv_istore_n (lv' := [(3, .int (((iI 3) * x2) * r2)), (0, .ref (q 0)), (1, .int x1), (2, .int x2)]) hx hb dX5_space_29 rfl hl (by decide) rfl (fun ls hl => ?_)
      refine lv_iload_n hx hb dX5_space_30 rfl (lv_at hl 2 rfl) ?_
      by_cases c3 : x1 = iI 0
      · replace h := ifp c3 h
        refine lv_tableIn (tgt := 64) hx hb dX5_space_31 (by rw [c3]; decide) (by rw [c3]; decide) (by rw [c3]; rfl) (by decide) ?_
        refine lv_iconst (v := iI 2) hx hb dX5_space_64 rfl ?_
        refine lv_aload_n hx hb dX5_space_65 rfl (lv_at hl 1 rfl) ?_
        refine va_get (D := D) (ci := 5) (v := .int n) (C := RX5) (T := TX5) (N := 10) hx hb X.2.2.2.2.1 iwX5_space_5 X.2.2.2.1 hKK.1 hP 0 rfl rfl 0 (by decide) (X.2.2.2.2.1 _ flX5_space_29) (fun _ h9 => h9) rfl dX5_space_66 ?_
        refine lv_imul hx hb dX5_space_69 ?_
        exact rd_ret X rfl (Option.some.inj h) dX5_space_70
      replace h := ifn c3 h
      by_cases c4 : x1 = iI 1
      · replace h := ifp c4 h
        refine lv_tableIn (tgt := 71) hx hb dX5_space_31 (by rw [c4]; decide) (by rw [c4]; decide) (by rw [c4]; rfl) (by decide) ?_
        refine lv_iconst (v := iI 5) hx hb dX5_space_71 rfl ?_
        refine lv_aload_n hx hb dX5_space_72 rfl (lv_at hl 1 rfl) ?_
        refine va_get (D := D) (ci := 5) (v := .int n) (C := RX5) (T := TX5) (N := 10) hx hb X.2.2.2.2.1 iwX5_space_5 X.2.2.2.1 hKK.1 hP 0 rfl rfl 0 (by decide) (X.2.2.2.2.1 _ flX5_space_29) (fun _ h9 => h9) rfl dX5_space_73 ?_
        refine lv_imul hx hb dX5_space_76 ?_
        exact rd_ret X rfl (Option.some.inj h) dX5_space_77
      replace h := ifn c4 h
      by_cases c5 : x1 = iI 2
      · replace h := ifp c5 h
        refine lv_tableIn (tgt := 78) hx hb dX5_space_31 (by rw [c5]; decide) (by rw [c5]; decide) (by rw [c5]; rfl) (by decide) ?_
        refine lv_iload_n hx hb dX5_space_78 rfl (lv_at hl 0 rfl) ?_
        exact rd_ret X rfl (Option.some.inj h) dX5_space_79
      replace h := ifn c5 h
      by_cases c6 : x1 = iI 3
      · replace h := ifp c6 h
        refine lv_tableIn (tgt := 80) hx hb dX5_space_31 (by rw [c6]; decide) (by rw [c6]; decide) (by rw [c6]; rfl) (by decide) ?_
        refine lv_bipush (v := iI 7) hx hb dX5_space_80 (by decide) ?_
        refine lv_aload_n hx hb dX5_space_82 rfl (lv_at hl 1 rfl) ?_
        refine va_get (D := D) (ci := 5) (v := .int n) (C := RX5) (T := TX5) (N := 10) hx hb X.2.2.2.2.1 iwX5_space_5 X.2.2.2.1 hKK.1 hP 0 rfl rfl 0 (by decide) (X.2.2.2.2.1 _ flX5_space_29) (fun _ h9 => h9) rfl dX5_space_83 ?_
        refine lv_imul hx hb dX5_space_86 ?_
        refine lv_iload_n hx hb dX5_space_87 rfl (lv_at hl 0 rfl) ?_
        refine lv_iadd hx hb dX5_space_88 ?_
        exact rd_ret X rfl (Option.some.inj h) dX5_space_89
      replace h := ifn c6 h
      by_cases c7 : x1 = iI 4
      · replace h := ifp c7 h
        refine lv_tableIn (tgt := 90) hx hb dX5_space_31 (by rw [c7]; decide) (by rw [c7]; decide) (by rw [c7]; rfl) (by decide) ?_
        refine lv_aload_n hx hb dX5_space_90 rfl (lv_at hl 1 rfl) ?_
        obtain ⟨r8, h_r8, h⟩ := obd h
        refine rcV (rest := []) X hKK hP 0 (zX5_blocks l D cI cC q n d lb kp kr ty tx rd rl wi r8 h_r8) gX5_space_X5_blocks rfl rfl rfl hdX5_blocks ⟨Nat.le_of_ble_eq_true rfl, Nat.le_of_ble_eq_true rfl⟩ [0, 1, 2, 3, 4, 5, 6] rfl 0 rfl rfl rfl hl.1 rfl (Nat.le_of_ble_eq_true rfl) dX5_space_91 ⟨Nat.zero_le _, Nat.zero_le _⟩ ?_
        exact rd_ret X rfl (Option.some.inj h) dX5_space_94
      replace h := ifn c7 h
      refine lv_tableOut (tgt := 95) hx hb dX5_space_31 (sw4 c3 c4 c5 c6 c7) (by decide) ?_
      refine lv_bipush (v := iI (-2)) hx hb dX5_space_95 (by decide) ?_
      exact rd_ret X rfl (Option.some.inj h) dX5_space_97
    · replace h := ifn c1 h
      refine lv_iinc (v := (x2 + iI 1)) (lv' := [(2, .int (x2 + iI 1)), (0, .ref (q 0)), (1, .int x1), (3, .int x3)]) hx hb dX5_space_11 hl (k := 2) rfl rfl (by decide) rfl (fun ls hl => ?_)
      refine lv_iload_n hx hb dX5_space_14 rfl (lv_at hl 3 rfl) ?_
      refine lv_iconst (v := iI 2) hx hb dX5_space_15 rfl ?_
      obtain ⟨g9, h⟩ := asr h
      refine lv_idiv hx hb dX5_space_16 g9 ?_
      refine lv_istore_n (lv' := [(3, .int (x3 / (iI 2))), (2, .int (x2 + iI 1)), (0, .ref (q 0)), (1, .int x1)]) hx hb dX5_space_17 rfl hl (by decide) rfl (fun ls hl => ?_)
      refine lv_goto (tgt := 7) hx hb dX5_space_18 (by decide) ?_
      exact ih x1 (x2 + iI 1) (x3 / (iI 2)) ls (lv_sub hl [2, 3, 1, 0] rfl) h
set_option maxHeartbeats 4000000 in
set_option maxRecDepth 100000 in
theorem zX5_space (l : Launch) (D : va_G) (cI cC : ClassId) (q : Nat → Nat) (n : Int32) (d : Nat → Int32) (lb : Nat → Int32) (kp : Int32) (kr : Nat → Int32) (ty : Int32) (tx : Nat → Int32) (rd : Nat → Int32) (rl : Nat → Int32) (wi : Int32) (x1 : Int32) (r : Int32) (h : mX5_space n wi x1 = some r) : Met l yX5_space wsX5_space rmX5_space (va_Pc [.ref (q 0), .int x1] (BW D cI cC (wM cI cC q n d lb kp kr ty tx rd rl wi))) (rdQ r) 0 0 (fun _ => False) := by
  refine MetI RX5 (by decide +kernel) rfl rfl (Nat.le_of_ble_eq_true rfl) ?_
  intro p e s m below meth c ls X _ hB hl
  obtain ⟨hP, hKK⟩ := hB
  have hx := X.1
  have hb := X.2.1
  replace hl : lv_has ls 4 [(0, .ref (q 0)), (1, .int x1)] := hl
  unfold mX5_space at h
  refine lv_iconst (v := iI 0) hx hb dX5_space_0 rfl ?_
  refine lv_istore_n (lv' := [(2, .int (iI 0)), (0, .ref (q 0)), (1, .int x1)]) hx hb dX5_space_1 rfl hl (by decide) rfl (fun ls hl => ?_)
  refine lv_aload_n hx hb dX5_space_2 rfl (lv_at hl 1 rfl) ?_
  refine va_get (D := D) (ci := 5) (v := .int n) (C := RX5) (T := TX5) (N := 10) hx hb X.2.2.2.2.1 iwX5_space_5 X.2.2.2.1 hKK.1 hP 0 rfl rfl 0 (by decide) (X.2.2.2.2.1 _ flX5_space_29) (fun _ h9 => h9) rfl dX5_space_3 ?_
  refine lv_istore_n (lv' := [(3, .int n), (2, .int (iI 0)), (0, .ref (q 0)), (1, .int x1)]) hx hb dX5_space_6 rfl hl (by decide) rfl (fun ls hl => ?_)
  exact kX5_space_7 X hKK hP FU x1 (iI 0) n ls (lv_sub hl [2, 3, 1, 0] rfl) h
def mX5_find_6 : Nat → Int32 → (Nat → Int32) → (Nat → Int32) → Int32 → Int32 → Int32 → Int32 → Int32 → Option (Int32)
  | 0, _, _, _, _, _, _, _, _ => none
  | f + 1, n, d, lb, x1, x2, x3, x4, x5 => ((mX5_behind n d x1).bind fun r1 => (if r1 ≤ x5 then (if 0 ≤ x3 then some (iI (-5)) else some x4) else (if inb x5 100 then (if (lb x5.toNatClampNeg) = x2 then (if x4 = x3 then some x5 else mX5_find_6 f n d lb x1 x2 x3 (x4 + iI 1) (x5 + iI 1)) else mX5_find_6 f n d lb x1 x2 x3 x4 (x5 + iI 1)) else none)))
def mX5_find (n : Int32) (d : Nat → Int32) (lb : Nat → Int32) (x1 : Int32) (x2 : Int32) (x3 : Int32) : Option (Int32) := mX5_find_6 FU n d lb x1 x2 x3 (iI 0) x1
theorem hdX5_find : yX5_find.cls = RX5 ∧ yX5_find.cls ≠ "java/lang/invoke/MethodHandle" ∧ yX5_find.cls ≠ "java/lang/invoke/VarHandle" ∧ (parseMethodDescriptor yX5_find.desc).map (fun d => d.parameters.length) = some 3 := by decide +kernel
theorem flX5_find_13 : Cond.fieldLink RX5 13 "BracketTreeModel" "labelOf" "[C" ∈ wsX5_find := by decide +kernel
theorem iwX5_find_5 : ∀ w ∈ wsX50, w ∈ wsX5_find := by decide +kernel
abbrev rmX5_find : Room := { frames := 1, cells := 0, slots := 0, locals := 22 }
set_option maxHeartbeats 4000000 in
set_option maxRecDepth 100000 in
theorem kX5_find_6 {p : Program} {l : Launch} {e : Env} {s : State} {m : MethodId} {args : Array Value} {below : List Frame} {meth : Method} {c : Code} {D : va_G} {cI cC : ClassId} {q : Nat → Nat} {n : Int32} {d : Nat → Int32} {lb : Nat → Int32} {kp : Int32} {kr : Nat → Int32} {ty : Int32} {tx : Nat → Int32} {rd : Nat → Int32} {rl : Nat → Int32} {wi : Int32} {r : Int32} (X : CX p s m args meth c wsX5_find cX5_find 6 (some .int) RX5) (hKK : KK D cI cC s) (hP : va_P D vwCl (wM cI cC q n d lb kp kr ty tx rd rl wi) s.heap) : ∀ (f : Nat), ∀ (x1 : Int32) (x2 : Int32) (x3 : Int32) (x4 : Int32) (x5 : Int32) (ls : Array Slot), lv_has ls 6 [(0, .ref (q 0)), (1, .int x1), (2, .int x2), (3, .int x3), (4, .int x4), (5, .int x5)] → mX5_find_6 f n d lb x1 x2 x3 x4 x5 = some r → W p l e rmX5_find s m args below meth c s.heap [] 0 0 (MQ below (rdQ r) args s 0 0 (fun _ => False)) (F0 m 6 ls []) := by
  have hx := X.1
  have hb := X.2.1
  intro f
  induction f with
  | zero =>
    intro x1 x2 x3 x4 x5 ls hl h
    exact absurd h (by unfold mX5_find_6; intro h; cases h)
  | succ f ih =>
    intro x1 x2 x3 x4 x5 ls hl h
    rw [mX5_find_6] at h
    refine lv_iload hx hb dX5_find_6 (lv_at hl 5 rfl) ?_
    refine lv_aload_n hx hb dX5_find_8 rfl (lv_at hl 0 rfl) ?_
    refine lv_iload_n hx hb dX5_find_9 rfl (lv_at hl 1 rfl) ?_
    obtain ⟨r1, h_r1, h⟩ := obd h
    refine rcV (rest := [.int x5]) X hKK hP 1 (zX5_behind l D cI cC q n d lb kp kr ty tx rd rl wi x1 r1 h_r1) gX5_find_X5_behind rfl rfl rfl hdX5_behind ⟨Nat.le_of_ble_eq_true rfl, Nat.le_of_ble_eq_true rfl⟩ [0, 1, 2, 3, 4, 5, 6] rfl 0 rfl rfl rfl hl.1 rfl (Nat.le_of_ble_eq_true rfl) dX5_find_10 ⟨Nat.zero_le _, Nat.zero_le _⟩ ?_
    refine lv_icmp_ge (tgt := 45) hx hb dX5_find_13 (by decide) (fun c2 => ?_) (fun c2 => ?_)
    · replace h := ifp c2 h
      refine lv_iload_n hx hb dX5_find_45 rfl (lv_at hl 3 rfl) ?_
      refine lv_if_ge (tgt := 54) hx hb dX5_find_46 (by decide) (fun c3 => ?_) (fun c3 => ?_)
      · replace h := ifp c3 h
        refine lv_bipush (v := iI (-5)) hx hb dX5_find_54 (by decide) ?_
        exact rd_ret X rfl (Option.some.inj h) dX5_find_56
      · replace h := ifn c3 h
        refine lv_iload hx hb dX5_find_49 (lv_at hl 4 rfl) ?_
        refine lv_goto (tgt := 56) hx hb dX5_find_51 (by decide) ?_
        exact rd_ret X rfl (Option.some.inj h) dX5_find_56
    · replace h := ifn c2 h
      refine lv_aload_n hx hb dX5_find_16 rfl (lv_at hl 0 rfl) ?_
      refine va_get (D := D) (ci := 5) (v := .ref (q 2)) (C := RX5) (T := TX5) (N := 10) hx hb X.2.2.2.2.1 iwX5_find_5 X.2.2.2.1 hKK.1 hP 0 rfl rfl 2 (by decide) (X.2.2.2.2.1 _ flX5_find_13) (fun _ h9 => h9) rfl dX5_find_17 ?_
      refine lv_iload hx hb dX5_find_20 (lv_at hl 5 rfl) ?_
      obtain ⟨g4, h⟩ := asr h
      refine va_cald hx hb hKK.1 hP 2 1 rfl rfl g4 dX5_find_22 ?_
      refine lv_iload_n hx hb dX5_find_23 rfl (lv_at hl 2 rfl) ?_
      refine lv_icmp_ne (tgt := 39) hx hb dX5_find_24 (by decide) (fun c5 => ?_) (fun c5 => ?_)
      · replace h := ifn c5 h
        refine lv_iinc (v := (x5 + iI 1)) (lv' := [(5, .int (x5 + iI 1)), (0, .ref (q 0)), (1, .int x1), (2, .int x2), (3, .int x3), (4, .int x4)]) hx hb dX5_find_39 hl (k := 5) rfl rfl (by decide) rfl (fun ls hl => ?_)
        refine lv_goto (tgt := 6) hx hb dX5_find_42 (by decide) ?_
        exact ih x1 x2 x3 x4 (x5 + iI 1) ls (lv_sub hl [1, 2, 3, 4, 5, 0] rfl) h
      · replace h := ifp c5 h
        refine lv_iload hx hb dX5_find_27 (lv_at hl 4 rfl) ?_
        refine lv_iload_n hx hb dX5_find_29 rfl (lv_at hl 3 rfl) ?_
        refine lv_icmp_ne (tgt := 36) hx hb dX5_find_30 (by decide) (fun c6 => ?_) (fun c6 => ?_)
        · replace h := ifn c6 h
          refine lv_iinc (v := (x4 + iI 1)) (lv' := [(4, .int (x4 + iI 1)), (0, .ref (q 0)), (1, .int x1), (2, .int x2), (3, .int x3), (5, .int x5)]) hx hb dX5_find_36 hl (k := 4) rfl rfl (by decide) rfl (fun ls hl => ?_)
          refine lv_iinc (v := (x5 + iI 1)) (lv' := [(5, .int (x5 + iI 1)), (4, .int (x4 + iI 1)), (0, .ref (q 0)), (1, .int x1), (2, .int x2), (3, .int x3)]) hx hb dX5_find_39 hl (k := 5) rfl rfl (by decide) rfl (fun ls hl => ?_)
          refine lv_goto (tgt := 6) hx hb dX5_find_42 (by decide) ?_
          exact ih x1 x2 x3 (x4 + iI 1) (x5 + iI 1) ls (lv_sub hl [2, 3, 4, 5, 1, 0] rfl) h
        · replace h := ifp c6 h
          refine lv_iload hx hb dX5_find_33 (lv_at hl 5 rfl) ?_
          exact rd_ret X rfl (Option.some.inj h) dX5_find_35
set_option maxHeartbeats 4000000 in
set_option maxRecDepth 100000 in
theorem zX5_find (l : Launch) (D : va_G) (cI cC : ClassId) (q : Nat → Nat) (n : Int32) (d : Nat → Int32) (lb : Nat → Int32) (kp : Int32) (kr : Nat → Int32) (ty : Int32) (tx : Nat → Int32) (rd : Nat → Int32) (rl : Nat → Int32) (wi : Int32) (x1 : Int32) (x2 : Int32) (x3 : Int32) (r : Int32) (h : mX5_find n d lb x1 x2 x3 = some r) : Met l yX5_find wsX5_find rmX5_find (va_Pc [.ref (q 0), .int x1, .int x2, .int x3] (BW D cI cC (wM cI cC q n d lb kp kr ty tx rd rl wi))) (rdQ r) 0 0 (fun _ => False) := by
  refine MetI RX5 (by decide +kernel) rfl rfl (Nat.le_of_ble_eq_true rfl) ?_
  intro p e s m below meth c ls X _ hB hl
  obtain ⟨hP, hKK⟩ := hB
  have hx := X.1
  have hb := X.2.1
  replace hl : lv_has ls 6 [(0, .ref (q 0)), (1, .int x1), (2, .int x2), (3, .int x3)] := hl
  unfold mX5_find at h
  refine lv_iconst (v := iI 0) hx hb dX5_find_0 rfl ?_
  refine lv_istore (lv' := [(4, .int (iI 0)), (0, .ref (q 0)), (1, .int x1), (2, .int x2), (3, .int x3)]) hx hb dX5_find_1 hl (by decide) rfl (fun ls hl => ?_)
  refine lv_iload_n hx hb dX5_find_3 rfl (lv_at hl 2 rfl) ?_
  refine lv_istore (lv' := [(5, .int x1), (4, .int (iI 0)), (0, .ref (q 0)), (1, .int x1), (2, .int x2), (3, .int x3)]) hx hb dX5_find_4 hl (by decide) rfl (fun ls hl => ?_)
  exact kX5_find_6 X hKK hP FU x1 x2 x3 (iI 0) x1 ls (lv_sub hl [2, 3, 4, 5, 1, 0] rfl) h
def mX5_labelled (n : Int32) (d : Nat → Int32) (lb : Nat → Int32) (x1 : Int32) (x2 : Int32) : Option (Int32) := (if (mX5_noNode n x1) = 0 then (if (mX5_isLetter x2) = 0 then some (iI (-2)) else ((mX5_find n d lb x1 x2 (iI (-1))).bind fun r3 => some r3)) else some (iI (-1)))
theorem hdX5_labelled : yX5_labelled.cls = RX5 ∧ yX5_labelled.cls ≠ "java/lang/invoke/MethodHandle" ∧ yX5_labelled.cls ≠ "java/lang/invoke/VarHandle" ∧ (parseMethodDescriptor yX5_labelled.desc).map (fun d => d.parameters.length) = some 2 := by decide +kernel
abbrev rmX5_labelled : Room := { frames := 2, cells := 0, slots := 0, locals := 47 }
set_option maxHeartbeats 4000000 in
set_option maxRecDepth 100000 in
theorem zX5_labelled (l : Launch) (D : va_G) (cI cC : ClassId) (q : Nat → Nat) (n : Int32) (d : Nat → Int32) (lb : Nat → Int32) (kp : Int32) (kr : Nat → Int32) (ty : Int32) (tx : Nat → Int32) (rd : Nat → Int32) (rl : Nat → Int32) (wi : Int32) (x1 : Int32) (x2 : Int32) (r : Int32) (h : mX5_labelled n d lb x1 x2 = some r) : Met l yX5_labelled wsX5_labelled rmX5_labelled (va_Pc [.ref (q 0), .int x1, .int x2] (BW D cI cC (wM cI cC q n d lb kp kr ty tx rd rl wi))) (rdQ r) 0 0 (fun _ => False) := by
  refine MetI RX5 (by decide +kernel) rfl rfl (Nat.le_of_ble_eq_true rfl) ?_
  intro p e s m below meth c ls X _ hB hl
  obtain ⟨hP, hKK⟩ := hB
  have hx := X.1
  have hb := X.2.1
  replace hl : lv_has ls 3 [(0, .ref (q 0)), (1, .int x1), (2, .int x2)] := hl
  unfold mX5_labelled at h
  refine lv_aload_n hx hb dX5_labelled_0 rfl (lv_at hl 0 rfl) ?_
  refine lv_iload_n hx hb dX5_labelled_1 rfl (lv_at hl 1 rfl) ?_
  refine rcV (rest := []) X hKK hP 1 (zX5_noNode l D cI cC q n d lb kp kr ty tx rd rl wi x1 _ rfl) gX5_labelled_X5_noNode rfl rfl rfl hdX5_noNode ⟨Nat.le_of_ble_eq_true rfl, Nat.le_of_ble_eq_true rfl⟩ [0, 1, 2, 3, 4, 5, 6] rfl 0 rfl rfl rfl hl.1 rfl (Nat.le_of_ble_eq_true rfl) dX5_labelled_2 ⟨Nat.zero_le _, Nat.zero_le _⟩ ?_
  refine lv_if_eq (tgt := 10) hx hb dX5_labelled_5 (by decide) (fun c1 => ?_) (fun c1 => ?_)
  · replace h := ifp c1 h
    refine lv_iload_n hx hb dX5_labelled_10 rfl (lv_at hl 2 rfl) ?_
    refine rcS (rest := []) X hKK hP 1 (zX5_isLetter l D cI cC x2 _ rfl) gX5_labelled_X5_isLetter rfl rfl rfl hdX5_isLetter ⟨Nat.le_of_ble_eq_true rfl, Nat.le_of_ble_eq_true rfl⟩ [] rfl rfl hl.1 rfl (Nat.le_of_ble_eq_true rfl) dX5_labelled_11 ⟨Nat.zero_le _, Nat.zero_le _⟩ ?_
    refine lv_if_eq (tgt := 27) hx hb dX5_labelled_14 (by decide) (fun c2 => ?_) (fun c2 => ?_)
    · replace h := ifp c2 h
      refine lv_bipush (v := iI (-2)) hx hb dX5_labelled_27 (by decide) ?_
      exact rd_ret X rfl (Option.some.inj h) dX5_labelled_29
    · replace h := ifn c2 h
      refine lv_aload_n hx hb dX5_labelled_17 rfl (lv_at hl 0 rfl) ?_
      refine lv_iload_n hx hb dX5_labelled_18 rfl (lv_at hl 1 rfl) ?_
      refine lv_iload_n hx hb dX5_labelled_19 rfl (lv_at hl 2 rfl) ?_
      refine lv_iconst (v := iI (-1)) hx hb dX5_labelled_20 rfl ?_
      obtain ⟨r3, h_r3, h⟩ := obd h
      refine rcV (rest := []) X hKK hP 3 (zX5_find l D cI cC q n d lb kp kr ty tx rd rl wi x1 x2 (iI (-1)) r3 h_r3) gX5_labelled_X5_find rfl rfl rfl hdX5_find ⟨Nat.le_of_ble_eq_true rfl, Nat.le_of_ble_eq_true rfl⟩ [0, 1, 2, 3, 4, 5, 6] rfl 0 rfl rfl rfl hl.1 rfl (Nat.le_of_ble_eq_true rfl) dX5_labelled_21 ⟨Nat.zero_le _, Nat.zero_le _⟩ ?_
      refine lv_goto (tgt := 29) hx hb dX5_labelled_24 (by decide) ?_
      exact rd_ret X rfl (Option.some.inj h) dX5_labelled_29
  · replace h := ifn c1 h
    refine lv_iconst (v := iI (-1)) hx hb dX5_labelled_8 rfl ?_
    exact rd_ret X rfl (Option.some.inj h) dX5_labelled_9
def mX5_select (n : Int32) (d : Nat → Int32) (lb : Nat → Int32) (x1 : Int32) (x2 : Int32) (x3 : Int32) : Option (Int32) := (if (mX5_noNode n x1) = 0 then (if (mX5_isLetter x2) = 0 then some (iI (-2)) else (if x3 < 0 then some (iI (-2)) else ((mX5_find n d lb x1 x2 x3).bind fun r4 => some r4))) else some (iI (-1)))
theorem hdX5_select : yX5_select.cls = RX5 ∧ yX5_select.cls ≠ "java/lang/invoke/MethodHandle" ∧ yX5_select.cls ≠ "java/lang/invoke/VarHandle" ∧ (parseMethodDescriptor yX5_select.desc).map (fun d => d.parameters.length) = some 3 := by decide +kernel
abbrev rmX5_select : Room := { frames := 2, cells := 0, slots := 0, locals := 47 }
set_option maxHeartbeats 4000000 in
set_option maxRecDepth 100000 in
theorem zX5_select (l : Launch) (D : va_G) (cI cC : ClassId) (q : Nat → Nat) (n : Int32) (d : Nat → Int32) (lb : Nat → Int32) (kp : Int32) (kr : Nat → Int32) (ty : Int32) (tx : Nat → Int32) (rd : Nat → Int32) (rl : Nat → Int32) (wi : Int32) (x1 : Int32) (x2 : Int32) (x3 : Int32) (r : Int32) (h : mX5_select n d lb x1 x2 x3 = some r) : Met l yX5_select wsX5_select rmX5_select (va_Pc [.ref (q 0), .int x1, .int x2, .int x3] (BW D cI cC (wM cI cC q n d lb kp kr ty tx rd rl wi))) (rdQ r) 0 0 (fun _ => False) := by
  refine MetI RX5 (by decide +kernel) rfl rfl (Nat.le_of_ble_eq_true rfl) ?_
  intro p e s m below meth c ls X _ hB hl
  obtain ⟨hP, hKK⟩ := hB
  have hx := X.1
  have hb := X.2.1
  replace hl : lv_has ls 4 [(0, .ref (q 0)), (1, .int x1), (2, .int x2), (3, .int x3)] := hl
  unfold mX5_select at h
  refine lv_aload_n hx hb dX5_select_0 rfl (lv_at hl 0 rfl) ?_
  refine lv_iload_n hx hb dX5_select_1 rfl (lv_at hl 1 rfl) ?_
  refine rcV (rest := []) X hKK hP 1 (zX5_noNode l D cI cC q n d lb kp kr ty tx rd rl wi x1 _ rfl) gX5_select_X5_noNode rfl rfl rfl hdX5_noNode ⟨Nat.le_of_ble_eq_true rfl, Nat.le_of_ble_eq_true rfl⟩ [0, 1, 2, 3, 4, 5, 6] rfl 0 rfl rfl rfl hl.1 rfl (Nat.le_of_ble_eq_true rfl) dX5_select_2 ⟨Nat.zero_le _, Nat.zero_le _⟩ ?_
  refine lv_if_eq (tgt := 10) hx hb dX5_select_5 (by decide) (fun c1 => ?_) (fun c1 => ?_)
  · replace h := ifp c1 h
    refine lv_iload_n hx hb dX5_select_10 rfl (lv_at hl 2 rfl) ?_
    refine rcS (rest := []) X hKK hP 1 (zX5_isLetter l D cI cC x2 _ rfl) gX5_select_X5_isLetter rfl rfl rfl hdX5_isLetter ⟨Nat.le_of_ble_eq_true rfl, Nat.le_of_ble_eq_true rfl⟩ [] rfl rfl hl.1 rfl (Nat.le_of_ble_eq_true rfl) dX5_select_11 ⟨Nat.zero_le _, Nat.zero_le _⟩ ?_
    refine lv_if_eq (tgt := 31) hx hb dX5_select_14 (by decide) (fun c2 => ?_) (fun c2 => ?_)
    · replace h := ifp c2 h
      refine lv_bipush (v := iI (-2)) hx hb dX5_select_31 (by decide) ?_
      exact rd_ret X rfl (Option.some.inj h) dX5_select_33
    · replace h := ifn c2 h
      refine lv_iload_n hx hb dX5_select_17 rfl (lv_at hl 3 rfl) ?_
      refine lv_if_lt (tgt := 31) hx hb dX5_select_18 (by decide) (fun c3 => ?_) (fun c3 => ?_)
      · replace h := ifp c3 h
        refine lv_bipush (v := iI (-2)) hx hb dX5_select_31 (by decide) ?_
        exact rd_ret X rfl (Option.some.inj h) dX5_select_33
      · replace h := ifn c3 h
        refine lv_aload_n hx hb dX5_select_21 rfl (lv_at hl 0 rfl) ?_
        refine lv_iload_n hx hb dX5_select_22 rfl (lv_at hl 1 rfl) ?_
        refine lv_iload_n hx hb dX5_select_23 rfl (lv_at hl 2 rfl) ?_
        refine lv_iload_n hx hb dX5_select_24 rfl (lv_at hl 3 rfl) ?_
        obtain ⟨r4, h_r4, h⟩ := obd h
        refine rcV (rest := []) X hKK hP 3 (zX5_find l D cI cC q n d lb kp kr ty tx rd rl wi x1 x2 x3 r4 h_r4) gX5_select_X5_find rfl rfl rfl hdX5_find ⟨Nat.le_of_ble_eq_true rfl, Nat.le_of_ble_eq_true rfl⟩ [0, 1, 2, 3, 4, 5, 6] rfl 0 rfl rfl rfl hl.1 rfl (Nat.le_of_ble_eq_true rfl) dX5_select_25 ⟨Nat.zero_le _, Nat.zero_le _⟩ ?_
        refine lv_goto (tgt := 33) hx hb dX5_select_28 (by decide) ?_
        exact rd_ret X rfl (Option.some.inj h) dX5_select_33
  · replace h := ifn c1 h
    refine lv_iconst (v := iI (-1)) hx hb dX5_select_8 rfl ?_
    exact rd_ret X rfl (Option.some.inj h) dX5_select_9
def mX5_ancestorWith_26 : Nat → Int32 → (Nat → Int32) → (Nat → Int32) → Int32 → Int32 → Int32 → Option (Int32)
  | 0, _, _, _, _, _, _ => none
  | f + 1, n, d, lb, x1, x2, x3 => (if x3 < 0 then (if 0 ≤ x3 then some x3 else some (iI (-5))) else (if inb x3 100 then (if (lb x3.toNatClampNeg) = x2 then (if 0 ≤ x3 then some x3 else some (iI (-5))) else ((mX5_parentOf d x3).bind fun r9 => mX5_ancestorWith_26 f n d lb x1 x2 r9)) else none))
def mX5_ancestorWith (n : Int32) (d : Nat → Int32) (lb : Nat → Int32) (x1 : Int32) (x2 : Int32) : Option (Int32) := (if (mX5_noNode n x1) = 0 then (if (mX5_isLetter x2) = 0 then some (iI (-2)) else ((mX5_parentOf d x1).bind fun r3 => mX5_ancestorWith_26 FU n d lb x1 x2 r3)) else some (iI (-1)))
theorem hdX5_ancestorWith : yX5_ancestorWith.cls = RX5 ∧ yX5_ancestorWith.cls ≠ "java/lang/invoke/MethodHandle" ∧ yX5_ancestorWith.cls ≠ "java/lang/invoke/VarHandle" ∧ (parseMethodDescriptor yX5_ancestorWith.desc).map (fun d => d.parameters.length) = some 2 := by decide +kernel
theorem flX5_ancestorWith_13 : Cond.fieldLink RX5 13 "BracketTreeModel" "labelOf" "[C" ∈ wsX5_ancestorWith := by decide +kernel
theorem iwX5_ancestorWith_5 : ∀ w ∈ wsX50, w ∈ wsX5_ancestorWith := by decide +kernel
abbrev rmX5_ancestorWith : Room := { frames := 2, cells := 0, slots := 0, locals := 43 }
set_option maxHeartbeats 4000000 in
set_option maxRecDepth 100000 in
theorem kX5_ancestorWith_26 {p : Program} {l : Launch} {e : Env} {s : State} {m : MethodId} {args : Array Value} {below : List Frame} {meth : Method} {c : Code} {D : va_G} {cI cC : ClassId} {q : Nat → Nat} {n : Int32} {d : Nat → Int32} {lb : Nat → Int32} {kp : Int32} {kr : Nat → Int32} {ty : Int32} {tx : Nat → Int32} {rd : Nat → Int32} {rl : Nat → Int32} {wi : Int32} {r : Int32} (X : CX p s m args meth c wsX5_ancestorWith cX5_ancestorWith 4 (some .int) RX5) (hKK : KK D cI cC s) (hP : va_P D vwCl (wM cI cC q n d lb kp kr ty tx rd rl wi) s.heap) : ∀ (f : Nat), ∀ (x1 : Int32) (x2 : Int32) (x3 : Int32) (ls : Array Slot), lv_has ls 4 [(0, .ref (q 0)), (1, .int x1), (2, .int x2), (3, .int x3)] → mX5_ancestorWith_26 f n d lb x1 x2 x3 = some r → W p l e rmX5_ancestorWith s m args below meth c s.heap [] 0 0 (MQ below (rdQ r) args s 0 0 (fun _ => False)) (F0 m 26 ls []) := by
  have hx := X.1
  have hb := X.2.1
  intro f
  induction f with
  | zero =>
    intro x1 x2 x3 ls hl h
    exact absurd h (by unfold mX5_ancestorWith_26; intro h; cases h)
  | succ f ih =>
    intro x1 x2 x3 ls hl h
    rw [mX5_ancestorWith_26] at h
    refine lv_iload_n hx hb dX5_ancestorWith_26 rfl (lv_at hl 3 rfl) ?_
    refine lv_if_lt (tgt := 49) hx hb dX5_ancestorWith_27 (by decide) (fun c4 => ?_) (fun c4 => ?_)
    · replace h := ifp c4 h
      refine lv_iload_n hx hb dX5_ancestorWith_49 rfl (lv_at hl 3 rfl) ?_
      refine lv_if_ge (tgt := 58) hx hb dX5_ancestorWith_50 (by decide) (fun c5 => ?_) (fun c5 => ?_)
      · replace h := ifp c5 h
        refine lv_iload_n hx hb dX5_ancestorWith_58 rfl (lv_at hl 3 rfl) ?_
        exact rd_ret X rfl (Option.some.inj h) dX5_ancestorWith_59
      · replace h := ifn c5 h
        refine lv_bipush (v := iI (-5)) hx hb dX5_ancestorWith_53 (by decide) ?_
        refine lv_goto (tgt := 59) hx hb dX5_ancestorWith_55 (by decide) ?_
        exact rd_ret X rfl (Option.some.inj h) dX5_ancestorWith_59
    · replace h := ifn c4 h
      refine lv_aload_n hx hb dX5_ancestorWith_30 rfl (lv_at hl 0 rfl) ?_
      refine va_get (D := D) (ci := 5) (v := .ref (q 2)) (C := RX5) (T := TX5) (N := 10) hx hb X.2.2.2.2.1 iwX5_ancestorWith_5 X.2.2.2.1 hKK.1 hP 0 rfl rfl 2 (by decide) (X.2.2.2.2.1 _ flX5_ancestorWith_13) (fun _ h9 => h9) rfl dX5_ancestorWith_31 ?_
      refine lv_iload_n hx hb dX5_ancestorWith_34 rfl (lv_at hl 3 rfl) ?_
      obtain ⟨g6, h⟩ := asr h
      refine va_cald hx hb hKK.1 hP 2 1 rfl rfl g6 dX5_ancestorWith_35 ?_
      refine lv_iload_n hx hb dX5_ancestorWith_36 rfl (lv_at hl 2 rfl) ?_
      refine lv_icmp_eq (tgt := 49) hx hb dX5_ancestorWith_37 (by decide) (fun c7 => ?_) (fun c7 => ?_)
      · replace h := ifp c7 h
        refine lv_iload_n hx hb dX5_ancestorWith_49 rfl (lv_at hl 3 rfl) ?_
        refine lv_if_ge (tgt := 58) hx hb dX5_ancestorWith_50 (by decide) (fun c8 => ?_) (fun c8 => ?_)
        · replace h := ifp c8 h
          refine lv_iload_n hx hb dX5_ancestorWith_58 rfl (lv_at hl 3 rfl) ?_
          exact rd_ret X rfl (Option.some.inj h) dX5_ancestorWith_59
        · replace h := ifn c8 h
          refine lv_bipush (v := iI (-5)) hx hb dX5_ancestorWith_53 (by decide) ?_
          refine lv_goto (tgt := 59) hx hb dX5_ancestorWith_55 (by decide) ?_
          exact rd_ret X rfl (Option.some.inj h) dX5_ancestorWith_59
      · replace h := ifn c7 h
        refine lv_aload_n hx hb dX5_ancestorWith_40 rfl (lv_at hl 0 rfl) ?_
        refine lv_iload_n hx hb dX5_ancestorWith_41 rfl (lv_at hl 3 rfl) ?_
        obtain ⟨r9, h_r9, h⟩ := obd h
        refine rcV (rest := []) X hKK hP 1 (zX5_parentOf l D cI cC q n d lb kp kr ty tx rd rl wi x3 r9 h_r9) gX5_ancestorWith_X5_parentOf rfl rfl rfl hdX5_parentOf ⟨Nat.le_of_ble_eq_true rfl, Nat.le_of_ble_eq_true rfl⟩ [0, 1, 2, 3, 4, 5, 6] rfl 0 rfl rfl rfl hl.1 rfl (Nat.le_of_ble_eq_true rfl) dX5_ancestorWith_42 ⟨Nat.zero_le _, Nat.zero_le _⟩ ?_
        refine lv_istore_n (lv' := [(3, .int r9), (0, .ref (q 0)), (1, .int x1), (2, .int x2)]) hx hb dX5_ancestorWith_45 rfl hl (by decide) rfl (fun ls hl => ?_)
        refine lv_goto (tgt := 26) hx hb dX5_ancestorWith_46 (by decide) ?_
        exact ih x1 x2 r9 ls (lv_sub hl [1, 2, 3, 0] rfl) h
set_option maxHeartbeats 4000000 in
set_option maxRecDepth 100000 in
theorem zX5_ancestorWith (l : Launch) (D : va_G) (cI cC : ClassId) (q : Nat → Nat) (n : Int32) (d : Nat → Int32) (lb : Nat → Int32) (kp : Int32) (kr : Nat → Int32) (ty : Int32) (tx : Nat → Int32) (rd : Nat → Int32) (rl : Nat → Int32) (wi : Int32) (x1 : Int32) (x2 : Int32) (r : Int32) (h : mX5_ancestorWith n d lb x1 x2 = some r) : Met l yX5_ancestorWith wsX5_ancestorWith rmX5_ancestorWith (va_Pc [.ref (q 0), .int x1, .int x2] (BW D cI cC (wM cI cC q n d lb kp kr ty tx rd rl wi))) (rdQ r) 0 0 (fun _ => False) := by
  refine MetI RX5 (by decide +kernel) rfl rfl (Nat.le_of_ble_eq_true rfl) ?_
  intro p e s m below meth c ls X _ hB hl
  obtain ⟨hP, hKK⟩ := hB
  have hx := X.1
  have hb := X.2.1
  replace hl : lv_has ls 4 [(0, .ref (q 0)), (1, .int x1), (2, .int x2)] := hl
  unfold mX5_ancestorWith at h
  refine lv_aload_n hx hb dX5_ancestorWith_0 rfl (lv_at hl 0 rfl) ?_
  refine lv_iload_n hx hb dX5_ancestorWith_1 rfl (lv_at hl 1 rfl) ?_
  refine rcV (rest := []) X hKK hP 1 (zX5_noNode l D cI cC q n d lb kp kr ty tx rd rl wi x1 _ rfl) gX5_ancestorWith_X5_noNode rfl rfl rfl hdX5_noNode ⟨Nat.le_of_ble_eq_true rfl, Nat.le_of_ble_eq_true rfl⟩ [0, 1, 2, 3, 4, 5, 6] rfl 0 rfl rfl rfl hl.1 rfl (Nat.le_of_ble_eq_true rfl) dX5_ancestorWith_2 ⟨Nat.zero_le _, Nat.zero_le _⟩ ?_
  refine lv_if_eq (tgt := 10) hx hb dX5_ancestorWith_5 (by decide) (fun c1 => ?_) (fun c1 => ?_)
  · replace h := ifp c1 h
    refine lv_iload_n hx hb dX5_ancestorWith_10 rfl (lv_at hl 2 rfl) ?_
    refine rcS (rest := []) X hKK hP 1 (zX5_isLetter l D cI cC x2 _ rfl) gX5_ancestorWith_X5_isLetter rfl rfl rfl hdX5_isLetter ⟨Nat.le_of_ble_eq_true rfl, Nat.le_of_ble_eq_true rfl⟩ [] rfl rfl hl.1 rfl (Nat.le_of_ble_eq_true rfl) dX5_ancestorWith_11 ⟨Nat.zero_le _, Nat.zero_le _⟩ ?_
    refine lv_if_ne (tgt := 20) hx hb dX5_ancestorWith_14 (by decide) (fun c2 => ?_) (fun c2 => ?_)
    · replace h := ifn c2 h
      refine lv_aload_n hx hb dX5_ancestorWith_20 rfl (lv_at hl 0 rfl) ?_
      refine lv_iload_n hx hb dX5_ancestorWith_21 rfl (lv_at hl 1 rfl) ?_
      obtain ⟨r3, h_r3, h⟩ := obd h
      refine rcV (rest := []) X hKK hP 1 (zX5_parentOf l D cI cC q n d lb kp kr ty tx rd rl wi x1 r3 h_r3) gX5_ancestorWith_X5_parentOf rfl rfl rfl hdX5_parentOf ⟨Nat.le_of_ble_eq_true rfl, Nat.le_of_ble_eq_true rfl⟩ [0, 1, 2, 3, 4, 5, 6] rfl 0 rfl rfl rfl hl.1 rfl (Nat.le_of_ble_eq_true rfl) dX5_ancestorWith_22 ⟨Nat.zero_le _, Nat.zero_le _⟩ ?_
      refine lv_istore_n (lv' := [(3, .int r3), (0, .ref (q 0)), (1, .int x1), (2, .int x2)]) hx hb dX5_ancestorWith_25 rfl hl (by decide) rfl (fun ls hl => ?_)
      exact kX5_ancestorWith_26 X hKK hP FU x1 x2 r3 ls (lv_sub hl [1, 2, 3, 0] rfl) h
    · replace h := ifp c2 h
      refine lv_bipush (v := iI (-2)) hx hb dX5_ancestorWith_17 (by decide) ?_
      exact rd_ret X rfl (Option.some.inj h) dX5_ancestorWith_19
  · replace h := ifn c1 h
    refine lv_iconst (v := iI (-1)) hx hb dX5_ancestorWith_8 rfl ?_
    exact rd_ret X rfl (Option.some.inj h) dX5_ancestorWith_9
def mX5_alike_29 : Nat → Int32 → (Nat → Int32) → (Nat → Int32) → Int32 → Int32 → Int32 → Int32 → Int32 → Option (Int32)
  | 0, _, _, _, _, _, _, _, _ => none
  | f + 1, n, d, lb, x1, x2, x3, x4, x5 => (if x3 ≤ x5 then (if x4 = iI 0 ∨ x4 = iI 1 then some x4 else none) else (if x4 = 0 then (if x4 = iI 0 ∨ x4 = iI 1 then some x4 else none) else (if inb (x1 + x5) 100 then (if inb (x2 + x5) 100 then (if (lb (x1 + x5).toNatClampNeg) = (lb (x2 + x5).toNatClampNeg) then (if inb (x1 + x5) 100 then (if inb x1 100 then (if inb (x2 + x5) 100 then (if inb x2 100 then (if ((d (x1 + x5).toNatClampNeg) - (d x1.toNatClampNeg)) = ((d (x2 + x5).toNatClampNeg) - (d x2.toNatClampNeg)) then mX5_alike_29 f n d lb x1 x2 x3 (iI 1) (x5 + iI 1) else mX5_alike_29 f n d lb x1 x2 x3 (iI 0) (x5 + iI 1)) else none) else none) else none) else none) else mX5_alike_29 f n d lb x1 x2 x3 (iI 0) (x5 + iI 1)) else none) else none)))
def mX5_alike (n : Int32) (d : Nat → Int32) (lb : Nat → Int32) (x1 : Int32) (x2 : Int32) : Option (Int32) := ((mX5_behind n d x1).bind fun r1 => ((mX5_behind n d x2).bind fun r2 => (if (r2 - x2) = (r1 - x1) then mX5_alike_29 FU n d lb x1 x2 (r1 - x1) (iI 1) (iI 0) else mX5_alike_29 FU n d lb x1 x2 (r1 - x1) (iI 0) (iI 0))))
theorem hdX5_alike : yX5_alike.cls = RX5 ∧ yX5_alike.cls ≠ "java/lang/invoke/MethodHandle" ∧ yX5_alike.cls ≠ "java/lang/invoke/VarHandle" ∧ (parseMethodDescriptor yX5_alike.desc).map (fun d => d.parameters.length) = some 2 := by decide +kernel
theorem flX5_alike_13 : Cond.fieldLink RX5 13 "BracketTreeModel" "labelOf" "[C" ∈ wsX5_alike := by decide +kernel
theorem iwX5_alike_5 : ∀ w ∈ wsX50, w ∈ wsX5_alike := by decide +kernel
theorem flX5_alike_7 : Cond.fieldLink RX5 7 "BracketTreeModel" "depthOf" "[I" ∈ wsX5_alike := by decide +kernel
abbrev rmX5_alike : Room := { frames := 1, cells := 0, slots := 0, locals := 22 }
set_option maxHeartbeats 4000000 in
set_option maxRecDepth 100000 in
theorem kX5_alike_29 {p : Program} {l : Launch} {e : Env} {s : State} {m : MethodId} {args : Array Value} {below : List Frame} {meth : Method} {c : Code} {D : va_G} {cI cC : ClassId} {q : Nat → Nat} {n : Int32} {d : Nat → Int32} {lb : Nat → Int32} {kp : Int32} {kr : Nat → Int32} {ty : Int32} {tx : Nat → Int32} {rd : Nat → Int32} {rl : Nat → Int32} {wi : Int32} {r : Int32} (X : CX p s m args meth c wsX5_alike cX5_alike 6 (some .boolean) RX5) (hKK : KK D cI cC s) (hP : va_P D vwCl (wM cI cC q n d lb kp kr ty tx rd rl wi) s.heap) : ∀ (f : Nat), ∀ (x1 : Int32) (x2 : Int32) (x3 : Int32) (x4 : Int32) (x5 : Int32) (ls : Array Slot), lv_has ls 6 [(0, .ref (q 0)), (1, .int x1), (2, .int x2), (3, .int x3), (4, .int x4), (5, .int x5)] → mX5_alike_29 f n d lb x1 x2 x3 x4 x5 = some r → W p l e rmX5_alike s m args below meth c s.heap [] 0 0 (MQ below (rdQ r) args s 0 0 (fun _ => False)) (F0 m 29 ls []) := by
  have hx := X.1
  have hb := X.2.1
  intro f
  induction f with
  | zero =>
    intro x1 x2 x3 x4 x5 ls hl h
    exact absurd h (by unfold mX5_alike_29; intro h; cases h)
  | succ f ih =>
    intro x1 x2 x3 x4 x5 ls hl h
    rw [mX5_alike_29] at h
    refine lv_iload hx hb dX5_alike_29 (lv_at hl 5 rfl) ?_
    refine lv_iload_n hx hb dX5_alike_31 rfl (lv_at hl 3 rfl) ?_
    refine lv_icmp_ge (tgt := 109) hx hb dX5_alike_32 (by decide) (fun c4 => ?_) (fun c4 => ?_)
    · replace h := ifp c4 h
      refine lv_iload hx hb dX5_alike_109 (lv_at hl 4 rfl) ?_
      obtain ⟨g5, h⟩ := asr h
      exact rd_ret X (nbool g5) (Option.some.inj h) dX5_alike_111
    · replace h := ifn c4 h
      refine lv_iload hx hb dX5_alike_35 (lv_at hl 4 rfl) ?_
      refine lv_if_eq (tgt := 109) hx hb dX5_alike_37 (by decide) (fun c6 => ?_) (fun c6 => ?_)
      · replace h := ifp c6 h
        refine lv_iload hx hb dX5_alike_109 (lv_at hl 4 rfl) ?_
        obtain ⟨g7, h⟩ := asr h
        exact rd_ret X (nbool g7) (Option.some.inj h) dX5_alike_111
      · replace h := ifn c6 h
        refine lv_aload_n hx hb dX5_alike_40 rfl (lv_at hl 0 rfl) ?_
        refine va_get (D := D) (ci := 5) (v := .ref (q 2)) (C := RX5) (T := TX5) (N := 10) hx hb X.2.2.2.2.1 iwX5_alike_5 X.2.2.2.1 hKK.1 hP 0 rfl rfl 2 (by decide) (X.2.2.2.2.1 _ flX5_alike_13) (fun _ h9 => h9) rfl dX5_alike_41 ?_
        refine lv_iload_n hx hb dX5_alike_44 rfl (lv_at hl 1 rfl) ?_
        refine lv_iload hx hb dX5_alike_45 (lv_at hl 5 rfl) ?_
        refine lv_iadd hx hb dX5_alike_47 ?_
        obtain ⟨g8, h⟩ := asr h
        refine va_cald hx hb hKK.1 hP 2 1 rfl rfl g8 dX5_alike_48 ?_
        refine lv_aload_n hx hb dX5_alike_49 rfl (lv_at hl 0 rfl) ?_
        refine va_get (D := D) (ci := 5) (v := .ref (q 2)) (C := RX5) (T := TX5) (N := 10) hx hb X.2.2.2.2.1 iwX5_alike_5 X.2.2.2.1 hKK.1 hP 0 rfl rfl 2 (by decide) (X.2.2.2.2.1 _ flX5_alike_13) (fun _ h9 => h9) rfl dX5_alike_50 ?_
        refine lv_iload_n hx hb dX5_alike_53 rfl (lv_at hl 2 rfl) ?_
        refine lv_iload hx hb dX5_alike_54 (lv_at hl 5 rfl) ?_
        refine lv_iadd hx hb dX5_alike_56 ?_
        obtain ⟨g9, h⟩ := asr h
        refine va_cald hx hb hKK.1 hP 2 1 rfl rfl g9 dX5_alike_57 ?_
        refine lv_icmp_ne (tgt := 100) hx hb dX5_alike_58 (by decide) (fun c10 => ?_) (fun c10 => ?_)
        · replace h := ifn c10 h
          refine lv_iconst (v := iI 0) hx hb dX5_alike_100 rfl ?_
          refine lv_istore (lv' := [(4, .int (iI 0)), (0, .ref (q 0)), (1, .int x1), (2, .int x2), (3, .int x3), (5, .int x5)]) hx hb dX5_alike_101 hl (by decide) rfl (fun ls hl => ?_)
          refine lv_iinc (v := (x5 + iI 1)) (lv' := [(5, .int (x5 + iI 1)), (4, .int (iI 0)), (0, .ref (q 0)), (1, .int x1), (2, .int x2), (3, .int x3)]) hx hb dX5_alike_103 hl (k := 5) rfl rfl (by decide) rfl (fun ls hl => ?_)
          refine lv_goto (tgt := 29) hx hb dX5_alike_106 (by decide) ?_
          exact ih x1 x2 x3 (iI 0) (x5 + iI 1) ls (lv_sub hl [2, 3, 4, 5, 1, 0] rfl) h
        · replace h := ifp c10 h
          refine lv_aload_n hx hb dX5_alike_61 rfl (lv_at hl 0 rfl) ?_
          refine va_get (D := D) (ci := 5) (v := .ref (q 1)) (C := RX5) (T := TX5) (N := 10) hx hb X.2.2.2.2.1 iwX5_alike_5 X.2.2.2.1 hKK.1 hP 0 rfl rfl 1 (by decide) (X.2.2.2.2.1 _ flX5_alike_7) (fun _ h9 => h9) rfl dX5_alike_62 ?_
          refine lv_iload_n hx hb dX5_alike_65 rfl (lv_at hl 1 rfl) ?_
          refine lv_iload hx hb dX5_alike_66 (lv_at hl 5 rfl) ?_
          refine lv_iadd hx hb dX5_alike_68 ?_
          obtain ⟨g11, h⟩ := asr h
          refine va_iald hx hb hKK.1 hP 1 0 rfl rfl g11 dX5_alike_69 ?_
          refine lv_aload_n hx hb dX5_alike_70 rfl (lv_at hl 0 rfl) ?_
          refine va_get (D := D) (ci := 5) (v := .ref (q 1)) (C := RX5) (T := TX5) (N := 10) hx hb X.2.2.2.2.1 iwX5_alike_5 X.2.2.2.1 hKK.1 hP 0 rfl rfl 1 (by decide) (X.2.2.2.2.1 _ flX5_alike_7) (fun _ h9 => h9) rfl dX5_alike_71 ?_
          refine lv_iload_n hx hb dX5_alike_74 rfl (lv_at hl 1 rfl) ?_
          obtain ⟨g12, h⟩ := asr h
          refine va_iald hx hb hKK.1 hP 1 0 rfl rfl g12 dX5_alike_75 ?_
          refine lv_isub hx hb dX5_alike_76 ?_
          refine lv_aload_n hx hb dX5_alike_77 rfl (lv_at hl 0 rfl) ?_
          refine va_get (D := D) (ci := 5) (v := .ref (q 1)) (C := RX5) (T := TX5) (N := 10) hx hb X.2.2.2.2.1 iwX5_alike_5 X.2.2.2.1 hKK.1 hP 0 rfl rfl 1 (by decide) (X.2.2.2.2.1 _ flX5_alike_7) (fun _ h9 => h9) rfl dX5_alike_78 ?_
          refine lv_iload_n hx hb dX5_alike_81 rfl (lv_at hl 2 rfl) ?_
          refine lv_iload hx hb dX5_alike_82 (lv_at hl 5 rfl) ?_
          refine lv_iadd hx hb dX5_alike_84 ?_
          obtain ⟨g13, h⟩ := asr h
          refine va_iald hx hb hKK.1 hP 1 0 rfl rfl g13 dX5_alike_85 ?_
          refine lv_aload_n hx hb dX5_alike_86 rfl (lv_at hl 0 rfl) ?_
          refine va_get (D := D) (ci := 5) (v := .ref (q 1)) (C := RX5) (T := TX5) (N := 10) hx hb X.2.2.2.2.1 iwX5_alike_5 X.2.2.2.1 hKK.1 hP 0 rfl rfl 1 (by decide) (X.2.2.2.2.1 _ flX5_alike_7) (fun _ h9 => h9) rfl dX5_alike_87 ?_
          refine lv_iload_n hx hb dX5_alike_90 rfl (lv_at hl 2 rfl) ?_
          obtain ⟨g14, h⟩ := asr h
          refine va_iald hx hb hKK.1 hP 1 0 rfl rfl g14 dX5_alike_91 ?_
          refine lv_isub hx hb dX5_alike_92 ?_
          refine lv_icmp_ne (tgt := 100) hx hb dX5_alike_93 (by decide) (fun c15 => ?_) (fun c15 => ?_)
          · replace h := ifn c15 h
            refine lv_iconst (v := iI 0) hx hb dX5_alike_100 rfl ?_
            refine lv_istore (lv' := [(4, .int (iI 0)), (0, .ref (q 0)), (1, .int x1), (2, .int x2), (3, .int x3), (5, .int x5)]) hx hb dX5_alike_101 hl (by decide) rfl (fun ls hl => ?_)
            refine lv_iinc (v := (x5 + iI 1)) (lv' := [(5, .int (x5 + iI 1)), (4, .int (iI 0)), (0, .ref (q 0)), (1, .int x1), (2, .int x2), (3, .int x3)]) hx hb dX5_alike_103 hl (k := 5) rfl rfl (by decide) rfl (fun ls hl => ?_)
            refine lv_goto (tgt := 29) hx hb dX5_alike_106 (by decide) ?_
            exact ih x1 x2 x3 (iI 0) (x5 + iI 1) ls (lv_sub hl [2, 3, 4, 5, 1, 0] rfl) h
          · replace h := ifp c15 h
            refine lv_iconst (v := iI 1) hx hb dX5_alike_96 rfl ?_
            refine lv_goto (tgt := 101) hx hb dX5_alike_97 (by decide) ?_
            refine lv_istore (lv' := [(4, .int (iI 1)), (0, .ref (q 0)), (1, .int x1), (2, .int x2), (3, .int x3), (5, .int x5)]) hx hb dX5_alike_101 hl (by decide) rfl (fun ls hl => ?_)
            refine lv_iinc (v := (x5 + iI 1)) (lv' := [(5, .int (x5 + iI 1)), (4, .int (iI 1)), (0, .ref (q 0)), (1, .int x1), (2, .int x2), (3, .int x3)]) hx hb dX5_alike_103 hl (k := 5) rfl rfl (by decide) rfl (fun ls hl => ?_)
            refine lv_goto (tgt := 29) hx hb dX5_alike_106 (by decide) ?_
            exact ih x1 x2 x3 (iI 1) (x5 + iI 1) ls (lv_sub hl [2, 3, 4, 5, 1, 0] rfl) h
set_option maxHeartbeats 4000000 in
set_option maxRecDepth 100000 in
theorem zX5_alike (l : Launch) (D : va_G) (cI cC : ClassId) (q : Nat → Nat) (n : Int32) (d : Nat → Int32) (lb : Nat → Int32) (kp : Int32) (kr : Nat → Int32) (ty : Int32) (tx : Nat → Int32) (rd : Nat → Int32) (rl : Nat → Int32) (wi : Int32) (x1 : Int32) (x2 : Int32) (r : Int32) (h : mX5_alike n d lb x1 x2 = some r) : Met l yX5_alike wsX5_alike rmX5_alike (va_Pc [.ref (q 0), .int x1, .int x2] (BW D cI cC (wM cI cC q n d lb kp kr ty tx rd rl wi))) (rdQ r) 0 0 (fun _ => False) := by
  refine MetI RX5 (by decide +kernel) rfl rfl (Nat.le_of_ble_eq_true rfl) ?_
  intro p e s m below meth c ls X _ hB hl
  obtain ⟨hP, hKK⟩ := hB
  have hx := X.1
  have hb := X.2.1
  replace hl : lv_has ls 6 [(0, .ref (q 0)), (1, .int x1), (2, .int x2)] := hl
  unfold mX5_alike at h
  refine lv_aload_n hx hb dX5_alike_0 rfl (lv_at hl 0 rfl) ?_
  refine lv_iload_n hx hb dX5_alike_1 rfl (lv_at hl 1 rfl) ?_
  obtain ⟨r1, h_r1, h⟩ := obd h
  refine rcV (rest := []) X hKK hP 1 (zX5_behind l D cI cC q n d lb kp kr ty tx rd rl wi x1 r1 h_r1) gX5_alike_X5_behind rfl rfl rfl hdX5_behind ⟨Nat.le_of_ble_eq_true rfl, Nat.le_of_ble_eq_true rfl⟩ [0, 1, 2, 3, 4, 5, 6] rfl 0 rfl rfl rfl hl.1 rfl (Nat.le_of_ble_eq_true rfl) dX5_alike_2 ⟨Nat.zero_le _, Nat.zero_le _⟩ ?_
  refine lv_iload_n hx hb dX5_alike_5 rfl (lv_at hl 1 rfl) ?_
  refine lv_isub hx hb dX5_alike_6 ?_
  refine lv_istore_n (lv' := [(3, .int (r1 - x1)), (0, .ref (q 0)), (1, .int x1), (2, .int x2)]) hx hb dX5_alike_7 rfl hl (by decide) rfl (fun ls hl => ?_)
  refine lv_aload_n hx hb dX5_alike_8 rfl (lv_at hl 1 rfl) ?_
  refine lv_iload_n hx hb dX5_alike_9 rfl (lv_at hl 3 rfl) ?_
  obtain ⟨r2, h_r2, h⟩ := obd h
  refine rcV (rest := []) X hKK hP 1 (zX5_behind l D cI cC q n d lb kp kr ty tx rd rl wi x2 r2 h_r2) gX5_alike_X5_behind rfl rfl rfl hdX5_behind ⟨Nat.le_of_ble_eq_true rfl, Nat.le_of_ble_eq_true rfl⟩ [0, 1, 2, 3, 4, 5, 6] rfl 0 rfl rfl rfl hl.1 rfl (Nat.le_of_ble_eq_true rfl) dX5_alike_10 ⟨Nat.zero_le _, Nat.zero_le _⟩ ?_
  refine lv_iload_n hx hb dX5_alike_13 rfl (lv_at hl 3 rfl) ?_
  refine lv_isub hx hb dX5_alike_14 ?_
  refine lv_iload_n hx hb dX5_alike_15 rfl (lv_at hl 0 rfl) ?_
  refine lv_icmp_ne (tgt := 23) hx hb dX5_alike_16 (by decide) (fun c3 => ?_) (fun c3 => ?_)
  · replace h := ifn c3 h
    refine lv_iconst (v := iI 0) hx hb dX5_alike_23 rfl ?_
    refine lv_istore (lv' := [(4, .int (iI 0)), (3, .int (r1 - x1)), (0, .ref (q 0)), (1, .int x1), (2, .int x2)]) hx hb dX5_alike_24 hl (by decide) rfl (fun ls hl => ?_)
    refine lv_iconst (v := iI 0) hx hb dX5_alike_26 rfl ?_
    refine lv_istore (lv' := [(5, .int (iI 0)), (4, .int (iI 0)), (3, .int (r1 - x1)), (0, .ref (q 0)), (1, .int x1), (2, .int x2)]) hx hb dX5_alike_27 hl (by decide) rfl (fun ls hl => ?_)
    exact kX5_alike_29 X hKK hP FU x1 x2 (r1 - x1) (iI 0) (iI 0) ls (lv_sub hl [3, 4, 5, 2, 1, 0] rfl) h
  · replace h := ifp c3 h
    refine lv_iconst (v := iI 1) hx hb dX5_alike_19 rfl ?_
    refine lv_goto (tgt := 24) hx hb dX5_alike_20 (by decide) ?_
    refine lv_istore (lv' := [(4, .int (iI 1)), (3, .int (r1 - x1)), (0, .ref (q 0)), (1, .int x1), (2, .int x2)]) hx hb dX5_alike_24 hl (by decide) rfl (fun ls hl => ?_)
    refine lv_iconst (v := iI 0) hx hb dX5_alike_26 rfl ?_
    refine lv_istore (lv' := [(5, .int (iI 0)), (4, .int (iI 1)), (3, .int (r1 - x1)), (0, .ref (q 0)), (1, .int x1), (2, .int x2)]) hx hb dX5_alike_27 hl (by decide) rfl (fun ls hl => ?_)
    exact kX5_alike_29 X hKK hP FU x1 x2 (r1 - x1) (iI 1) (iI 0) ls (lv_sub hl [3, 4, 5, 2, 1, 0] rfl) h
def mX5_areEqual (n : Int32) (d : Nat → Int32) (lb : Nat → Int32) (x1 : Int32) (x2 : Int32) : Option (Int32) := (if (mX5_noNode n x1) = 0 then (if (mX5_noNode n x2) = 0 then ((mX5_alike n d lb x1 x2).bind fun r3 => (if r3 = 0 then some (iI 0) else some (iI 1))) else some (iI (-1))) else some (iI (-1)))
theorem hdX5_areEqual : yX5_areEqual.cls = RX5 ∧ yX5_areEqual.cls ≠ "java/lang/invoke/MethodHandle" ∧ yX5_areEqual.cls ≠ "java/lang/invoke/VarHandle" ∧ (parseMethodDescriptor yX5_areEqual.desc).map (fun d => d.parameters.length) = some 2 := by decide +kernel
abbrev rmX5_areEqual : Room := { frames := 2, cells := 0, slots := 0, locals := 47 }
set_option maxHeartbeats 4000000 in
set_option maxRecDepth 100000 in
theorem zX5_areEqual (l : Launch) (D : va_G) (cI cC : ClassId) (q : Nat → Nat) (n : Int32) (d : Nat → Int32) (lb : Nat → Int32) (kp : Int32) (kr : Nat → Int32) (ty : Int32) (tx : Nat → Int32) (rd : Nat → Int32) (rl : Nat → Int32) (wi : Int32) (x1 : Int32) (x2 : Int32) (r : Int32) (h : mX5_areEqual n d lb x1 x2 = some r) : Met l yX5_areEqual wsX5_areEqual rmX5_areEqual (va_Pc [.ref (q 0), .int x1, .int x2] (BW D cI cC (wM cI cC q n d lb kp kr ty tx rd rl wi))) (rdQ r) 0 0 (fun _ => False) := by
  refine MetI RX5 (by decide +kernel) rfl rfl (Nat.le_of_ble_eq_true rfl) ?_
  intro p e s m below meth c ls X _ hB hl
  obtain ⟨hP, hKK⟩ := hB
  have hx := X.1
  have hb := X.2.1
  replace hl : lv_has ls 3 [(0, .ref (q 0)), (1, .int x1), (2, .int x2)] := hl
  unfold mX5_areEqual at h
  refine lv_aload_n hx hb dX5_areEqual_0 rfl (lv_at hl 0 rfl) ?_
  refine lv_iload_n hx hb dX5_areEqual_1 rfl (lv_at hl 1 rfl) ?_
  refine rcV (rest := []) X hKK hP 1 (zX5_noNode l D cI cC q n d lb kp kr ty tx rd rl wi x1 _ rfl) gX5_areEqual_X5_noNode rfl rfl rfl hdX5_noNode ⟨Nat.le_of_ble_eq_true rfl, Nat.le_of_ble_eq_true rfl⟩ [0, 1, 2, 3, 4, 5, 6] rfl 0 rfl rfl rfl hl.1 rfl (Nat.le_of_ble_eq_true rfl) dX5_areEqual_2 ⟨Nat.zero_le _, Nat.zero_le _⟩ ?_
  refine lv_if_ne (tgt := 16) hx hb dX5_areEqual_5 (by decide) (fun c1 => ?_) (fun c1 => ?_)
  · replace h := ifn c1 h
    refine lv_iconst (v := iI (-1)) hx hb dX5_areEqual_16 rfl ?_
    exact rd_ret X rfl (Option.some.inj h) dX5_areEqual_17
  · replace h := ifp c1 h
    refine lv_aload_n hx hb dX5_areEqual_8 rfl (lv_at hl 0 rfl) ?_
    refine lv_iload_n hx hb dX5_areEqual_9 rfl (lv_at hl 2 rfl) ?_
    refine rcV (rest := []) X hKK hP 1 (zX5_noNode l D cI cC q n d lb kp kr ty tx rd rl wi x2 _ rfl) gX5_areEqual_X5_noNode rfl rfl rfl hdX5_noNode ⟨Nat.le_of_ble_eq_true rfl, Nat.le_of_ble_eq_true rfl⟩ [0, 1, 2, 3, 4, 5, 6] rfl 0 rfl rfl rfl hl.1 rfl (Nat.le_of_ble_eq_true rfl) dX5_areEqual_10 ⟨Nat.zero_le _, Nat.zero_le _⟩ ?_
    refine lv_if_eq (tgt := 18) hx hb dX5_areEqual_13 (by decide) (fun c2 => ?_) (fun c2 => ?_)
    · replace h := ifp c2 h
      refine lv_aload_n hx hb dX5_areEqual_18 rfl (lv_at hl 0 rfl) ?_
      refine lv_iload_n hx hb dX5_areEqual_19 rfl (lv_at hl 1 rfl) ?_
      refine lv_iload_n hx hb dX5_areEqual_20 rfl (lv_at hl 2 rfl) ?_
      obtain ⟨r3, h_r3, h⟩ := obd h
      refine rcV (rest := []) X hKK hP 2 (zX5_alike l D cI cC q n d lb kp kr ty tx rd rl wi x1 x2 r3 h_r3) gX5_areEqual_X5_alike rfl rfl rfl hdX5_alike ⟨Nat.le_of_ble_eq_true rfl, Nat.le_of_ble_eq_true rfl⟩ [0, 1, 2, 3, 4, 5, 6] rfl 0 rfl rfl rfl hl.1 rfl (Nat.le_of_ble_eq_true rfl) dX5_areEqual_21 ⟨Nat.zero_le _, Nat.zero_le _⟩ ?_
      refine lv_if_eq (tgt := 31) hx hb dX5_areEqual_24 (by decide) (fun c4 => ?_) (fun c4 => ?_)
      · replace h := ifp c4 h
        refine lv_iconst (v := iI 0) hx hb dX5_areEqual_31 rfl ?_
        exact rd_ret X rfl (Option.some.inj h) dX5_areEqual_32
      · replace h := ifn c4 h
        refine lv_iconst (v := iI 1) hx hb dX5_areEqual_27 rfl ?_
        refine lv_goto (tgt := 32) hx hb dX5_areEqual_28 (by decide) ?_
        exact rd_ret X rfl (Option.some.inj h) dX5_areEqual_32
    · replace h := ifn c2 h
      refine lv_iconst (v := iI (-1)) hx hb dX5_areEqual_16 rfl ?_
      exact rd_ret X rfl (Option.some.inj h) dX5_areEqual_17
def mX5_copies_14 : Nat → Int32 → (Nat → Int32) → (Nat → Int32) → Int32 → Int32 → Int32 → Option (Int32)
  | 0, _, _, _, _, _, _ => none
  | f + 1, n, d, lb, x1, x2, x3 => (if n ≤ x3 then some x2 else ((mX5_alike n d lb x1 x3).bind fun r3 => (if r3 = 0 then mX5_copies_14 f n d lb x1 (x2 + (iI 0)) (x3 + iI 1) else mX5_copies_14 f n d lb x1 (x2 + (iI 1)) (x3 + iI 1))))
def mX5_copies (n : Int32) (d : Nat → Int32) (lb : Nat → Int32) (x1 : Int32) : Option (Int32) := (if (mX5_noNode n x1) = 0 then mX5_copies_14 FU n d lb x1 (iI 0) (iI 0) else some (iI (-1)))
theorem hdX5_copies : yX5_copies.cls = RX5 ∧ yX5_copies.cls ≠ "java/lang/invoke/MethodHandle" ∧ yX5_copies.cls ≠ "java/lang/invoke/VarHandle" ∧ (parseMethodDescriptor yX5_copies.desc).map (fun d => d.parameters.length) = some 1 := by decide +kernel
theorem flX5_copies_29 : Cond.fieldLink RX5 29 "BracketTreeModel" "n" "I" ∈ wsX5_copies := by decide +kernel
theorem iwX5_copies_5 : ∀ w ∈ wsX50, w ∈ wsX5_copies := by decide +kernel
abbrev rmX5_copies : Room := { frames := 2, cells := 0, slots := 0, locals := 47 }
set_option maxHeartbeats 4000000 in
set_option maxRecDepth 100000 in
theorem kX5_copies_14 {p : Program} {l : Launch} {e : Env} {s : State} {m : MethodId} {args : Array Value} {below : List Frame} {meth : Method} {c : Code} {D : va_G} {cI cC : ClassId} {q : Nat → Nat} {n : Int32} {d : Nat → Int32} {lb : Nat → Int32} {kp : Int32} {kr : Nat → Int32} {ty : Int32} {tx : Nat → Int32} {rd : Nat → Int32} {rl : Nat → Int32} {wi : Int32} {r : Int32} (X : CX p s m args meth c wsX5_copies cX5_copies 4 (some .int) RX5) (hKK : KK D cI cC s) (hP : va_P D vwCl (wM cI cC q n d lb kp kr ty tx rd rl wi) s.heap) : ∀ (f : Nat), ∀ (x1 : Int32) (x2 : Int32) (x3 : Int32) (ls : Array Slot), lv_has ls 4 [(0, .ref (q 0)), (1, .int x1), (2, .int x2), (3, .int x3)] → mX5_copies_14 f n d lb x1 x2 x3 = some r → W p l e rmX5_copies s m args below meth c s.heap [] 0 0 (MQ below (rdQ r) args s 0 0 (fun _ => False)) (F0 m 14 ls []) := by
  have hx := X.1
  have hb := X.2.1
  intro f
  induction f with
  | zero =>
    intro x1 x2 x3 ls hl h
    exact absurd h (by unfold mX5_copies_14; intro h; cases h)
  | succ f ih =>
    intro x1 x2 x3 ls hl h
    rw [mX5_copies_14] at h
    refine lv_iload_n hx hb dX5_copies_14 rfl (lv_at hl 3 rfl) ?_
    refine lv_aload_n hx hb dX5_copies_15 rfl (lv_at hl 0 rfl) ?_
    refine va_get (D := D) (ci := 5) (v := .int n) (C := RX5) (T := TX5) (N := 10) hx hb X.2.2.2.2.1 iwX5_copies_5 X.2.2.2.1 hKK.1 hP 0 rfl rfl 0 (by decide) (X.2.2.2.2.1 _ flX5_copies_29) (fun _ h9 => h9) rfl dX5_copies_16 ?_
    refine lv_icmp_ge (tgt := 45) hx hb dX5_copies_19 (by decide) (fun c2 => ?_) (fun c2 => ?_)
    · replace h := ifp c2 h
      refine lv_iload_n hx hb dX5_copies_45 rfl (lv_at hl 2 rfl) ?_
      exact rd_ret X rfl (Option.some.inj h) dX5_copies_46
    · replace h := ifn c2 h
      refine lv_iload_n hx hb dX5_copies_22 rfl (lv_at hl 2 rfl) ?_
      refine lv_aload_n hx hb dX5_copies_23 rfl (lv_at hl 0 rfl) ?_
      refine lv_iload_n hx hb dX5_copies_24 rfl (lv_at hl 1 rfl) ?_
      refine lv_iload_n hx hb dX5_copies_25 rfl (lv_at hl 3 rfl) ?_
      obtain ⟨r3, h_r3, h⟩ := obd h
      refine rcV (rest := [.int x2]) X hKK hP 2 (zX5_alike l D cI cC q n d lb kp kr ty tx rd rl wi x1 x3 r3 h_r3) gX5_copies_X5_alike rfl rfl rfl hdX5_alike ⟨Nat.le_of_ble_eq_true rfl, Nat.le_of_ble_eq_true rfl⟩ [0, 1, 2, 3, 4, 5, 6] rfl 0 rfl rfl rfl hl.1 rfl (Nat.le_of_ble_eq_true rfl) dX5_copies_26 ⟨Nat.zero_le _, Nat.zero_le _⟩ ?_
      refine lv_if_eq (tgt := 36) hx hb dX5_copies_29 (by decide) (fun c4 => ?_) (fun c4 => ?_)
      · replace h := ifp c4 h
        refine lv_iconst (v := iI 0) hx hb dX5_copies_36 rfl ?_
        refine lv_iadd hx hb dX5_copies_37 ?_
        refine lv_istore_n (lv' := [(2, .int (x2 + (iI 0))), (0, .ref (q 0)), (1, .int x1), (3, .int x3)]) hx hb dX5_copies_38 rfl hl (by decide) rfl (fun ls hl => ?_)
        refine lv_iinc (v := (x3 + iI 1)) (lv' := [(3, .int (x3 + iI 1)), (2, .int (x2 + (iI 0))), (0, .ref (q 0)), (1, .int x1)]) hx hb dX5_copies_39 hl (k := 3) rfl rfl (by decide) rfl (fun ls hl => ?_)
        refine lv_goto (tgt := 14) hx hb dX5_copies_42 (by decide) ?_
        exact ih x1 (x2 + (iI 0)) (x3 + iI 1) ls (lv_sub hl [2, 3, 1, 0] rfl) h
      · replace h := ifn c4 h
        refine lv_iconst (v := iI 1) hx hb dX5_copies_32 rfl ?_
        refine lv_goto (tgt := 37) hx hb dX5_copies_33 (by decide) ?_
        refine lv_iadd hx hb dX5_copies_37 ?_
        refine lv_istore_n (lv' := [(2, .int (x2 + (iI 1))), (0, .ref (q 0)), (1, .int x1), (3, .int x3)]) hx hb dX5_copies_38 rfl hl (by decide) rfl (fun ls hl => ?_)
        refine lv_iinc (v := (x3 + iI 1)) (lv' := [(3, .int (x3 + iI 1)), (2, .int (x2 + (iI 1))), (0, .ref (q 0)), (1, .int x1)]) hx hb dX5_copies_39 hl (k := 3) rfl rfl (by decide) rfl (fun ls hl => ?_)
        refine lv_goto (tgt := 14) hx hb dX5_copies_42 (by decide) ?_
        exact ih x1 (x2 + (iI 1)) (x3 + iI 1) ls (lv_sub hl [2, 3, 1, 0] rfl) h
set_option maxHeartbeats 4000000 in
set_option maxRecDepth 100000 in
theorem zX5_copies (l : Launch) (D : va_G) (cI cC : ClassId) (q : Nat → Nat) (n : Int32) (d : Nat → Int32) (lb : Nat → Int32) (kp : Int32) (kr : Nat → Int32) (ty : Int32) (tx : Nat → Int32) (rd : Nat → Int32) (rl : Nat → Int32) (wi : Int32) (x1 : Int32) (r : Int32) (h : mX5_copies n d lb x1 = some r) : Met l yX5_copies wsX5_copies rmX5_copies (va_Pc [.ref (q 0), .int x1] (BW D cI cC (wM cI cC q n d lb kp kr ty tx rd rl wi))) (rdQ r) 0 0 (fun _ => False) := by
  refine MetI RX5 (by decide +kernel) rfl rfl (Nat.le_of_ble_eq_true rfl) ?_
  intro p e s m below meth c ls X _ hB hl
  obtain ⟨hP, hKK⟩ := hB
  have hx := X.1
  have hb := X.2.1
  replace hl : lv_has ls 4 [(0, .ref (q 0)), (1, .int x1)] := hl
  unfold mX5_copies at h
  refine lv_aload_n hx hb dX5_copies_0 rfl (lv_at hl 0 rfl) ?_
  refine lv_iload_n hx hb dX5_copies_1 rfl (lv_at hl 1 rfl) ?_
  refine rcV (rest := []) X hKK hP 1 (zX5_noNode l D cI cC q n d lb kp kr ty tx rd rl wi x1 _ rfl) gX5_copies_X5_noNode rfl rfl rfl hdX5_noNode ⟨Nat.le_of_ble_eq_true rfl, Nat.le_of_ble_eq_true rfl⟩ [0, 1, 2, 3, 4, 5, 6] rfl 0 rfl rfl rfl hl.1 rfl (Nat.le_of_ble_eq_true rfl) dX5_copies_2 ⟨Nat.zero_le _, Nat.zero_le _⟩ ?_
  refine lv_if_eq (tgt := 10) hx hb dX5_copies_5 (by decide) (fun c1 => ?_) (fun c1 => ?_)
  · replace h := ifp c1 h
    refine lv_iconst (v := iI 0) hx hb dX5_copies_10 rfl ?_
    refine lv_istore_n (lv' := [(2, .int (iI 0)), (0, .ref (q 0)), (1, .int x1)]) hx hb dX5_copies_11 rfl hl (by decide) rfl (fun ls hl => ?_)
    refine lv_iconst (v := iI 0) hx hb dX5_copies_12 rfl ?_
    refine lv_istore_n (lv' := [(3, .int (iI 0)), (2, .int (iI 0)), (0, .ref (q 0)), (1, .int x1)]) hx hb dX5_copies_13 rfl hl (by decide) rfl (fun ls hl => ?_)
    exact kX5_copies_14 X hKK hP FU x1 (iI 0) (iI 0) ls (lv_sub hl [2, 3, 1, 0] rfl) h
  · replace h := ifn c1 h
    refine lv_iconst (v := iI (-1)) hx hb dX5_copies_8 rfl ?_
    exact rd_ret X rfl (Option.some.inj h) dX5_copies_9
