def mL_low  (x0 : Int32) (x1 : Int32) : Option (Int32) := (if ¬ (x1 = 0) then some ((x0 &&& (2147483647 : Int32)) - (x0 &&& (2147483647 : Int32)) / x1 * x1) else none)
theorem hdL_low : yL_low.cls = RL ∧ yL_low.cls ≠ "java/lang/invoke/MethodHandle" ∧ yL_low.cls ≠ "java/lang/invoke/VarHandle" ∧ (parseMethodDescriptor yL_low.desc).map (fun d => d.parameters.length) = some 2 := by decide +kernel
theorem lcL_low_8 : Cond.constant RL 8 (2147483647) ∈ wsL_low := by decide +kernel
abbrev rmL_low : Room := { frames := 0, cells := 0, slots := 0, locals := 0 }
set_option maxHeartbeats 4000000 in
set_option maxRecDepth 100000 in
theorem zL_low (l : Launch) (D : va_G) (cI cC : ClassId)  (x0 : Int32) (x1 : Int32) (r : Int32) (h : mL_low x0 x1 = some r) : Met l yL_low wsL_low rmL_low (va_Pc [.int x0, .int x1] (BW D cI cC [])) (rdQ r) 0 0 (fun _ => False) := by
  refine MetI RL (by decide +kernel) rfl rfl (Nat.le_of_ble_eq_true rfl) ?_
  intro p e s m below meth c ls X _ hB hl
  obtain ⟨hP, hKK⟩ := hB
  have hx := X.1
  have hb := X.2.1
  replace hl : lv_has ls 2 [(0, .int x0), (1, .int x1)] := hl
  unfold mL_low at h
  refine lv_iload_n hx hb dL_low_0 rfl (lv_at hl 0 rfl) ?_
  refine lv_ldc (v := 2147483647) hx hb X.2.2.2.1 (X.2.2.2.2.1 _ lcL_low_8) dL_low_1 ?_
  refine lv_iand hx hb dL_low_3 ?_
  refine lv_iload_n hx hb dL_low_4 rfl (lv_at hl 1 rfl) ?_
  obtain ⟨g1, h⟩ := asr h
  refine lv_irem hx hb dL_low_5 g1 ?_
  exact rd_ret X rfl (Option.some.inj h) dL_low_6
def mL_node_287 (rec : Int32 → (Nat → Int32) → (Nat → Int32) → Int32 → Int32 → Int32 → Int32 → Int32 → Int32 → Int32 → Int32 → Int32 → Int32 → Int32 → Int32 → Int32 → Int32 → Int32 → Int32 → Option (Int32)) (n : Int32) (d : Nat → Int32) (lb : Nat → Int32) (x1 : Int32) (x2 : Int32) (x3 : Int32) (x4 : Int32) (x5 : Int32) (x6 : Int32) (x7 : Int32) (x8 : Int32) (x9 : Int32) (x10 : Int32) (x11 : Int32) (x13 : Int32) (x14 : Int32) (x15 : Int32) (x16 : Int32) (x17 : Int32) (x18 : Int32) (y0 : Int32) : Option (Int32) := ((mX4_node n d lb x17 (iI 6)).bind fun r89 => rec n d lb x1 x2 x3 x4 x5 x6 x7 x8 x9 (x10 + x18) (x11 + r89) y0 (x13 + x18) x14 x15 (x16 + iI 1))
def mL_node_257 (rec : Int32 → (Nat → Int32) → (Nat → Int32) → Int32 → Int32 → Int32 → Int32 → Int32 → Int32 → Int32 → Int32 → Int32 → Int32 → Int32 → Int32 → Int32 → Int32 → Int32 → Int32 → Option (Int32)) (n : Int32) (d : Nat → Int32) (lb : Nat → Int32) (x1 : Int32) (x2 : Int32) (x3 : Int32) (x4 : Int32) (x5 : Int32) (x6 : Int32) (x7 : Int32) (x8 : Int32) (x9 : Int32) (x10 : Int32) (x11 : Int32) (x12 : Int32) (x13 : Int32) (x14 : Int32) (x16 : Int32) (x17 : Int32) (x18 : Int32) (y0 : Int32) : Option (Int32) := ((mX4_node n d lb x17 (iI 4)).bind fun r86 => (if (r86 + (iI 1)) ≤ x12 then mL_node_287 rec n d lb x1 x2 x3 x4 x5 x6 x7 x8 x9 x10 x11 x13 x14 y0 x16 x17 x18 x12 else ((mX4_node n d lb x17 (iI 4)).bind fun r88 => mL_node_287 rec n d lb x1 x2 x3 x4 x5 x6 x7 x8 x9 x10 x11 x13 x14 y0 x16 x17 x18 (r88 + (iI 1)))))
def mL_node_241 (rec : Int32 → (Nat → Int32) → (Nat → Int32) → Int32 → Int32 → Int32 → Int32 → Int32 → Int32 → Int32 → Int32 → Int32 → Int32 → Int32 → Int32 → Int32 → Int32 → Int32 → Int32 → Option (Int32)) (n : Int32) (d : Nat → Int32) (lb : Nat → Int32) (x1 : Int32) (x2 : Int32) (x3 : Int32) (x4 : Int32) (x5 : Int32) (x6 : Int32) (x7 : Int32) (x8 : Int32) (x9 : Int32) (x10 : Int32) (x11 : Int32) (x12 : Int32) (x13 : Int32) (x15 : Int32) (x16 : Int32) (x17 : Int32) (x18 : Int32) (y0 : Int32) : Option (Int32) := (if x18 ≤ x15 then mL_node_257 rec n d lb x1 x2 x3 x4 x5 x6 x7 x8 x9 x10 x11 x12 x13 y0 x16 x17 x18 x15 else mL_node_257 rec n d lb x1 x2 x3 x4 x5 x6 x7 x8 x9 x10 x11 x12 x13 y0 x16 x17 x18 x18)
def mL_node_213 (rec : Int32 → (Nat → Int32) → (Nat → Int32) → Int32 → Int32 → Int32 → Int32 → Int32 → Int32 → Int32 → Int32 → Int32 → Int32 → Int32 → Int32 → Int32 → Int32 → Int32 → Int32 → Option (Int32)) (n : Int32) (d : Nat → Int32) (lb : Nat → Int32) (x1 : Int32) (x2 : Int32) (x3 : Int32) (x4 : Int32) (x5 : Int32) (x6 : Int32) (x7 : Int32) (x8 : Int32) (x9 : Int32) (x10 : Int32) (x11 : Int32) (x12 : Int32) (x13 : Int32) (x14 : Int32) (x15 : Int32) (x16 : Int32) (x17 : Int32) (y0 : Int32) (y1 : Int32) : Option (Int32) := (if y1 = y0 then ((mX4_node n d lb x17 (iI 3)).bind fun r83 => (if r83 ≤ x15 then mL_node_241 rec n d lb x1 x2 x3 x4 x5 x6 x7 x8 x9 x10 x11 x12 x13 x15 x16 x17 r83 x14 else mL_node_241 rec n d lb x1 x2 x3 x4 x5 x6 x7 x8 x9 x10 x11 x12 x13 x15 x16 x17 r83 x17)) else none)
def mL_node_180 (rec : Int32 → (Nat → Int32) → (Nat → Int32) → Int32 → Int32 → Int32 → Int32 → Int32 → Int32 → Int32 → Int32 → Int32 → Int32 → Int32 → Int32 → Int32 → Int32 → Int32 → Int32 → Option (Int32)) (n : Int32) (d : Nat → Int32) (lb : Nat → Int32) (x1 : Int32) (x2 : Int32) (x3 : Int32) (x4 : Int32) (x5 : Int32) (x6 : Int32) (x7 : Int32) (x8 : Int32) (x9 : Int32) (x10 : Int32) (x11 : Int32) (x12 : Int32) (x13 : Int32) (x14 : Int32) (x15 : Int32) (x16 : Int32) (x17 : Int32) (y0 : Int32) (y1 : Int32) : Option (Int32) := (if y1 = y0 then ((mX4_neighbour n d x17 (iI 0)).bind fun r65 => (if (x16 + (iI 1)) = x5 then mL_node_213 rec n d lb x1 x2 x3 x4 x5 x6 x7 x8 x9 x10 x11 x12 x13 x14 x15 x16 x17 (iI (-5)) r65 else ((mX4_child n d x1 (x16 + (iI 1))).bind fun r67 => mL_node_213 rec n d lb x1 x2 x3 x4 x5 x6 x7 x8 x9 x10 x11 x12 x13 x14 x15 x16 x17 r67 r65))) else none)
def mL_node_606 (n : Int32) (d : Nat → Int32) (lb : Nat → Int32) (x1 : Int32) (x3 : Int32) (x6 : Int32) (x7 : Int32) (x16 : Int32) (x17 : Int32) (y0 : Int32) (y1 : Int32) : Option (Int32) := (if y1 = y0 then ((mX4_node n d lb x1 (iI 9)).bind fun r69 => ((mX4_deepest n d x1).bind fun r70 => (if r70 < x1 then none else (if (x1 + x6) ≤ r70 then none else ((mX4_node n d lb r70 (iI 0)).bind fun r73 => (if r73 = (x3 + x7) then (if r69 = (((x1 + x6) - (iI 1)) - x3) then ((mX4_byPostorder n d r69).bind fun r76 => (if r76 = x1 then (if x16 = 0 then none else (if x17 = 0 then none else (if (iI 1) = 0 then none else (if (iI 1) = 0 then none else some (iI 1))))) else none)) else none) else none)))))) else none)
def mL_node_465 (n : Int32) (d : Nat → Int32) (lb : Nat → Int32) (x1 : Int32) (x3 : Int32) (x4 : Int32) (x6 : Int32) (x7 : Int32) (x8 : Int32) (x9 : Int32) (x16 : Int32) (y0 : Int32) : Option (Int32) := (if (x9 - x8) = (((iI 2) * x6) - (iI 1)) then (if x8 = (((iI 2) * x1) - x3) then ((mX4_bracket n d x8 (iI 0)).bind fun r45 => (if r45 = (iI 1) then ((mX4_bracket n d x9 (iI 0)).bind fun r47 => (if r47 = 0 then ((mX4_bracket n d x8 (iI 2)).bind fun r49 => (if r49 = x9 then ((mX4_bracket n d x9 (iI 2)).bind fun r51 => (if r51 = x8 then ((mX4_bracket n d x8 (iI 4)).bind fun r53 => (if r53 = x1 then ((mX4_bracket n d x9 (iI 4)).bind fun r55 => (if r55 = x1 then ((mX4_bracket n d x8 (iI 1)).bind fun r57 => (if r57 = (x3 + (iI 1)) then ((mX4_bracket n d x9 (iI 1)).bind fun r59 => (if r59 = x3 then ((mX4_bracket n d x9 (iI 3)).bind fun r61 => (if x1 = 0 then mL_node_606 n d lb x1 x3 x6 x7 x16 y0 (iI (-5)) r61 else ((mX4_node n d lb x4 (iI 7)).bind fun r63 => mL_node_606 n d lb x1 x3 x6 x7 x16 y0 r63 r61))) else none)) else none)) else none)) else none)) else none)) else none)) else none)) else none)) else none) else none)
def mL_node_95 : Nat → Int32 → (Nat → Int32) → (Nat → Int32) → Int32 → Int32 → Int32 → Int32 → Int32 → Int32 → Int32 → Int32 → Int32 → Int32 → Int32 → Int32 → Int32 → Int32 → Int32 → Int32 → Option (Int32)
  | 0, _, _, _, _, _, _, _, _, _, _, _, _, _, _, _, _, _, _, _ => none
  | f + 1, n, d, lb, x1, x2, x3, x4, x5, x6, x7, x8, x9, x10, x11, x12, x13, x14, x15, x16 => (if x5 ≤ x16 then (if x10 = x6 then ((mX4_node n d lb x1 (iI 6)).bind fun r11 => (if x11 = r11 then (if x12 = x7 then ((mX4_neighbour n d x1 (iI 5)).bind fun r14 => (if x14 = r14 then ((mX4_child n d x1 x5).bind fun r16 => (if r16 = (iI (-5)) then ((mX4_child n d x1 (iI (-1))).bind fun r18 => (if r18 = (iI (-2)) then (if x1 = 0 then (if x4 = (iI (-5)) then (if x3 = 0 then (if x6 = x2 then ((mX4_node n d lb x1 (iI 5)).bind fun r26 => (if r26 = 0 then ((mX4_neighbour n d x1 (iI 0)).bind fun r28 => (if r28 = (iI (-5)) then ((mX4_neighbour n d x1 (iI 1)).bind fun r30 => (if r30 = (iI (-5)) then mL_node_465 n d lb x1 x3 x4 x6 x7 x8 x9 (iI 1) (iI 1) else none)) else none)) else none)) else none) else none) else none) else (if x4 < 0 then none else (if x1 ≤ x4 then none else mL_node_465 n d lb x1 x3 x4 x6 x7 x8 x9 (iI 1) (iI 1)))) else none)) else none)) else none)) else none) else none)) else none) else ((mX4_child n d x1 x16).bind fun r32 => (if r32 = x13 then ((mX4_node n d lb r32 (iI 1)).bind fun r34 => (if r34 = x1 then ((mX4_node n d lb r32 (iI 0)).bind fun r36 => (if r36 = (x3 + (iI 1)) then ((mX4_node n d lb r32 (iI 5)).bind fun r38 => (if r38 = x16 then ((mX4_neighbour n d r32 (iI 1)).bind fun r40 => (if x16 = 0 then mL_node_180 (mL_node_95 f) n d lb x1 x2 x3 x4 x5 x6 x7 x8 x9 x10 x11 x12 x13 x14 x15 x16 r32 (iI (-5)) r40 else ((mX4_child n d x1 (x16 - (iI 1))).bind fun r42 => mL_node_180 (mL_node_95 f) n d lb x1 x2 x3 x4 x5 x6 x7 x8 x9 x10 x11 x12 x13 x14 x15 x16 r32 r42 r40))) else none)) else none)) else none)) else none)))
def mL_node_75 (n : Int32) (d : Nat → Int32) (lb : Nat → Int32) (x1 : Int32) (x2 : Int32) (x3 : Int32) (x4 : Int32) (x5 : Int32) (x6 : Int32) (x7 : Int32) (x8 : Int32) (x9 : Int32) (x10 : Int32) (y0 : Int32) : Option (Int32) := mL_node_95 FU n d lb x1 x2 x3 x4 x5 x6 x7 x8 x9 x10 y0 (iI 0) (x1 + (iI 1)) (iI (-5)) (iI 0) (iI 0)
def mL_node (n : Int32) (d : Nat → Int32) (lb : Nat → Int32) (x1 : Int32) : Option (Int32) := ((mX4_node n d lb x1 (iI 0)).bind fun r1 => ((mX4_node n d lb x1 (iI 1)).bind fun r2 => ((mX4_node n d lb x1 (iI 2)).bind fun r3 => ((mX4_node n d lb x1 (iI 3)).bind fun r4 => ((mX4_node n d lb x1 (iI 4)).bind fun r5 => ((mX4_node n d lb x1 (iI 7)).bind fun r6 => ((mX4_node n d lb x1 (iI 8)).bind fun r7 => (if r3 = 0 then mL_node_75 n d lb x1 (mX4_size n) r1 r2 r3 r4 r5 r6 r7 (iI 1) (iI 1) else mL_node_75 n d lb x1 (mX4_size n) r1 r2 r3 r4 r5 r6 r7 (iI 1) (iI 0)))))))))
theorem hdL_node : yL_node.cls = RL ∧ yL_node.cls ≠ "java/lang/invoke/MethodHandle" ∧ yL_node.cls ≠ "java/lang/invoke/VarHandle" ∧ (parseMethodDescriptor yL_node.desc).map (fun d => d.parameters.length) = some 2 := by decide +kernel
abbrev rmL_node : Room := { frames := 7, cells := 0, slots := 0, locals := 152 }
set_option maxHeartbeats 4000000 in
set_option maxRecDepth 100000 in
theorem kL_node_287 {p : Program} {l : Launch} {e : Env} {s : State} {m : MethodId} {args : Array Value} {below : List Frame} {meth : Method} {c : Code} {D : va_G} {cI cC : ClassId} {q : Nat → Nat} {n : Int32} {d : Nat → Int32} {lb : Nat → Int32} {xd : Nat → Int32} {xl : Nat → Int32} {wi : Int32} {sl : Int32} {kp : Int32} {ct : Nat → Int32} {gd : Nat → Int32} {gl : Nat → Int32} {ln : Int32} {ch : Nat → Int32} {r : Int32} (X : CX p s m args meth c wsL_node cL_node 22 (some .boolean) RL) (hKK : KK D cI cC s) (hP : va_P D vwCl (wA cI q n d lb xd xl wi sl kp ct gd gl ln ch) s.heap) (rec : Int32 → (Nat → Int32) → (Nat → Int32) → Int32 → Int32 → Int32 → Int32 → Int32 → Int32 → Int32 → Int32 → Int32 → Int32 → Int32 → Int32 → Int32 → Int32 → Int32 → Int32 → Option (Int32)) (hrec : ∀ (x1 : Int32) (x2 : Int32) (x3 : Int32) (x4 : Int32) (x5 : Int32) (x6 : Int32) (x7 : Int32) (x8 : Int32) (x9 : Int32) (x10 : Int32) (x11 : Int32) (x12 : Int32) (x13 : Int32) (x14 : Int32) (x15 : Int32) (x16 : Int32) (ls : Array Slot), lv_has ls 22 [(0, .ref (q 0)), (1, .int x1), (2, .int x2), (3, .int x3), (4, .int x4), (5, .int x5), (6, .int x6), (7, .int x7), (8, .int x8), (9, .int x9), (10, .int x10), (11, .int x11), (12, .int x12), (13, .int x13), (14, .int x14), (15, .int x15), (16, .int x16)] → rec n d lb x1 x2 x3 x4 x5 x6 x7 x8 x9 x10 x11 x12 x13 x14 x15 x16 = some r → W p l e rmL_node s m args below meth c s.heap [] 0 0 (MQ below (rdQ r) args s 0 0 (fun _ => False)) (F0 m 95 ls [])) : ∀ (x1 : Int32) (x2 : Int32) (x3 : Int32) (x4 : Int32) (x5 : Int32) (x6 : Int32) (x7 : Int32) (x8 : Int32) (x9 : Int32) (x10 : Int32) (x11 : Int32) (x13 : Int32) (x14 : Int32) (x15 : Int32) (x16 : Int32) (x17 : Int32) (x18 : Int32) (y0 : Int32) (ls : Array Slot), lv_has ls 22 [(0, .ref (q 0)), (1, .int x1), (2, .int x2), (3, .int x3), (4, .int x4), (5, .int x5), (6, .int x6), (7, .int x7), (8, .int x8), (9, .int x9), (10, .int x10), (11, .int x11), (13, .int x13), (14, .int x14), (15, .int x15), (16, .int x16), (17, .int x17), (18, .int x18)] → mL_node_287 rec n d lb x1 x2 x3 x4 x5 x6 x7 x8 x9 x10 x11 x13 x14 x15 x16 x17 x18 y0 = some r → W p l e rmL_node s m args below meth c s.heap [] 0 0 (MQ below (rdQ r) args s 0 0 (fun _ => False)) (F0 m 287 ls [.int y0]) := by
  have hx := X.1
  have hb := X.2.1
  intro x1 x2 x3 x4 x5 x6 x7 x8 x9 x10 x11 x13 x14 x15 x16 x17 x18 y0 ls hl h
  unfold mL_node_287 at h
  refine lv_istore (lv' := [(12, .int y0), (0, .ref (q 0)), (1, .int x1), (2, .int x2), (3, .int x3), (4, .int x4), (5, .int x5), (6, .int x6), (7, .int x7), (8, .int x8), (9, .int x9), (10, .int x10), (11, .int x11), (13, .int x13), (14, .int x14), (15, .int x15), (16, .int x16), (17, .int x17), (18, .int x18)]) hx hb dL_node_287 hl (by decide) rfl (fun ls hl => ?_)
  refine lv_iload hx hb dL_node_289 (lv_at hl 12 rfl) ?_
  refine lv_aload_n hx hb dL_node_291 rfl (lv_at hl 1 rfl) ?_
  refine lv_iload hx hb dL_node_292 (lv_at hl 17 rfl) ?_
  refine lv_bipush (v := iI 6) hx hb dL_node_294 (by decide) ?_
  obtain ⟨r89, h_r89, h⟩ := obd h
  refine rcV (rest := [.int x11]) X hKK hP 2 (zX4_node l D cI cC q n d lb xd xl wi sl kp ct gd gl ln ch x17 (iI 6) r89 h_r89) gL_node_X4_node rfl rfl rfl hdX4_node ⟨Nat.le_of_ble_eq_true rfl, Nat.le_of_ble_eq_true rfl⟩ [0, 1, 2, 3, 4, 5, 6, 7, 8, 9, 10, 11, 12] rfl 0 rfl rfl rfl hl.1 rfl (Nat.le_of_ble_eq_true rfl) dL_node_296 ⟨Nat.zero_le _, Nat.zero_le _⟩ ?_
  refine lv_iadd hx hb dL_node_299 ?_
  refine lv_istore (lv' := [(11, .int (x11 + r89)), (12, .int y0), (0, .ref (q 0)), (1, .int x1), (2, .int x2), (3, .int x3), (4, .int x4), (5, .int x5), (6, .int x6), (7, .int x7), (8, .int x8), (9, .int x9), (10, .int x10), (13, .int x13), (14, .int x14), (15, .int x15), (16, .int x16), (17, .int x17), (18, .int x18)]) hx hb dL_node_300 hl (by decide) rfl (fun ls hl => ?_)
  refine lv_iload hx hb dL_node_302 (lv_at hl 12 rfl) ?_
  refine lv_iload hx hb dL_node_304 (lv_at hl 18 rfl) ?_
  refine lv_iadd hx hb dL_node_306 ?_
  refine lv_istore (lv' := [(10, .int (x10 + x18)), (11, .int (x11 + r89)), (12, .int y0), (0, .ref (q 0)), (1, .int x1), (2, .int x2), (3, .int x3), (4, .int x4), (5, .int x5), (6, .int x6), (7, .int x7), (8, .int x8), (9, .int x9), (13, .int x13), (14, .int x14), (15, .int x15), (16, .int x16), (17, .int x17), (18, .int x18)]) hx hb dL_node_307 hl (by decide) rfl (fun ls hl => ?_)
  refine lv_iload hx hb dL_node_309 (lv_at hl 13 rfl) ?_
  refine lv_iload hx hb dL_node_311 (lv_at hl 18 rfl) ?_
  refine lv_iadd hx hb dL_node_313 ?_
  refine lv_istore (lv' := [(13, .int (x13 + x18)), (10, .int (x10 + x18)), (11, .int (x11 + r89)), (12, .int y0), (0, .ref (q 0)), (1, .int x1), (2, .int x2), (3, .int x3), (4, .int x4), (5, .int x5), (6, .int x6), (7, .int x7), (8, .int x8), (9, .int x9), (14, .int x14), (15, .int x15), (16, .int x16), (17, .int x17), (18, .int x18)]) hx hb dL_node_314 hl (by decide) rfl (fun ls hl => ?_)
  refine lv_iinc (v := (x16 + iI 1)) (lv' := [(16, .int (x16 + iI 1)), (13, .int (x13 + x18)), (10, .int (x10 + x18)), (11, .int (x11 + r89)), (12, .int y0), (0, .ref (q 0)), (1, .int x1), (2, .int x2), (3, .int x3), (4, .int x4), (5, .int x5), (6, .int x6), (7, .int x7), (8, .int x8), (9, .int x9), (14, .int x14), (15, .int x15), (17, .int x17), (18, .int x18)]) hx hb dL_node_316 hl (k := 16) rfl rfl (by decide) rfl (fun ls hl => ?_)
  refine lv_goto (tgt := 95) hx hb dL_node_319 (by decide) ?_
  exact hrec x1 x2 x3 x4 x5 x6 x7 x8 x9 (x10 + x18) (x11 + r89) y0 (x13 + x18) x14 x15 (x16 + iI 1) ls (lv_sub hl [5, 6, 7, 8, 9, 10, 11, 12, 13, 14, 2, 3, 4, 1, 15, 16, 0] rfl) h
set_option maxHeartbeats 4000000 in
set_option maxRecDepth 100000 in
theorem kL_node_257 {p : Program} {l : Launch} {e : Env} {s : State} {m : MethodId} {args : Array Value} {below : List Frame} {meth : Method} {c : Code} {D : va_G} {cI cC : ClassId} {q : Nat → Nat} {n : Int32} {d : Nat → Int32} {lb : Nat → Int32} {xd : Nat → Int32} {xl : Nat → Int32} {wi : Int32} {sl : Int32} {kp : Int32} {ct : Nat → Int32} {gd : Nat → Int32} {gl : Nat → Int32} {ln : Int32} {ch : Nat → Int32} {r : Int32} (X : CX p s m args meth c wsL_node cL_node 22 (some .boolean) RL) (hKK : KK D cI cC s) (hP : va_P D vwCl (wA cI q n d lb xd xl wi sl kp ct gd gl ln ch) s.heap) (rec : Int32 → (Nat → Int32) → (Nat → Int32) → Int32 → Int32 → Int32 → Int32 → Int32 → Int32 → Int32 → Int32 → Int32 → Int32 → Int32 → Int32 → Int32 → Int32 → Int32 → Int32 → Option (Int32)) (hrec : ∀ (x1 : Int32) (x2 : Int32) (x3 : Int32) (x4 : Int32) (x5 : Int32) (x6 : Int32) (x7 : Int32) (x8 : Int32) (x9 : Int32) (x10 : Int32) (x11 : Int32) (x12 : Int32) (x13 : Int32) (x14 : Int32) (x15 : Int32) (x16 : Int32) (ls : Array Slot), lv_has ls 22 [(0, .ref (q 0)), (1, .int x1), (2, .int x2), (3, .int x3), (4, .int x4), (5, .int x5), (6, .int x6), (7, .int x7), (8, .int x8), (9, .int x9), (10, .int x10), (11, .int x11), (12, .int x12), (13, .int x13), (14, .int x14), (15, .int x15), (16, .int x16)] → rec n d lb x1 x2 x3 x4 x5 x6 x7 x8 x9 x10 x11 x12 x13 x14 x15 x16 = some r → W p l e rmL_node s m args below meth c s.heap [] 0 0 (MQ below (rdQ r) args s 0 0 (fun _ => False)) (F0 m 95 ls [])) : ∀ (x1 : Int32) (x2 : Int32) (x3 : Int32) (x4 : Int32) (x5 : Int32) (x6 : Int32) (x7 : Int32) (x8 : Int32) (x9 : Int32) (x10 : Int32) (x11 : Int32) (x12 : Int32) (x13 : Int32) (x14 : Int32) (x16 : Int32) (x17 : Int32) (x18 : Int32) (y0 : Int32) (ls : Array Slot), lv_has ls 22 [(0, .ref (q 0)), (1, .int x1), (2, .int x2), (3, .int x3), (4, .int x4), (5, .int x5), (6, .int x6), (7, .int x7), (8, .int x8), (9, .int x9), (10, .int x10), (11, .int x11), (12, .int x12), (13, .int x13), (14, .int x14), (16, .int x16), (17, .int x17), (18, .int x18)] → mL_node_257 rec n d lb x1 x2 x3 x4 x5 x6 x7 x8 x9 x10 x11 x12 x13 x14 x16 x17 x18 y0 = some r → W p l e rmL_node s m args below meth c s.heap [] 0 0 (MQ below (rdQ r) args s 0 0 (fun _ => False)) (F0 m 257 ls [.int y0]) := by
  have hx := X.1
  have hb := X.2.1
  intro x1 x2 x3 x4 x5 x6 x7 x8 x9 x10 x11 x12 x13 x14 x16 x17 x18 y0 ls hl h
  unfold mL_node_257 at h
  refine lv_istore (lv' := [(15, .int y0), (0, .ref (q 0)), (1, .int x1), (2, .int x2), (3, .int x3), (4, .int x4), (5, .int x5), (6, .int x6), (7, .int x7), (8, .int x8), (9, .int x9), (10, .int x10), (11, .int x11), (12, .int x12), (13, .int x13), (14, .int x14), (16, .int x16), (17, .int x17), (18, .int x18)]) hx hb dL_node_257 hl (by decide) rfl (fun ls hl => ?_)
  refine lv_aload_n hx hb dL_node_259 rfl (lv_at hl 1 rfl) ?_
  refine lv_iload hx hb dL_node_260 (lv_at hl 17 rfl) ?_
  refine lv_iconst (v := iI 4) hx hb dL_node_262 rfl ?_
  obtain ⟨r86, h_r86, h⟩ := obd h
  refine rcV (rest := []) X hKK hP 2 (zX4_node l D cI cC q n d lb xd xl wi sl kp ct gd gl ln ch x17 (iI 4) r86 h_r86) gL_node_X4_node rfl rfl rfl hdX4_node ⟨Nat.le_of_ble_eq_true rfl, Nat.le_of_ble_eq_true rfl⟩ [0, 1, 2, 3, 4, 5, 6, 7, 8, 9, 10, 11, 12] rfl 0 rfl rfl rfl hl.1 rfl (Nat.le_of_ble_eq_true rfl) dL_node_263 ⟨Nat.zero_le _, Nat.zero_le _⟩ ?_
  refine lv_iconst (v := iI 1) hx hb dL_node_266 rfl ?_
  refine lv_iadd hx hb dL_node_267 ?_
  refine lv_iload hx hb dL_node_268 (lv_at hl 13 rfl) ?_
  refine lv_icmp_le (tgt := 285) hx hb dL_node_270 (by decide) (fun c87 => ?_) (fun c87 => ?_)
  · replace h := ifp c87 h
    refine lv_iload hx hb dL_node_285 (lv_at hl 13 rfl) ?_
    exact kL_node_287 X hKK hP rec hrec x1 x2 x3 x4 x5 x6 x7 x8 x9 x10 x11 x13 x14 y0 x16 x17 x18 x12 ls (lv_sub hl [1, 2, 3, 4, 5, 6, 7, 8, 9, 10, 11, 12, 14, 15, 0, 16, 17, 18] rfl) h
  · replace h := ifn c87 h
    refine lv_aload_n hx hb dL_node_273 rfl (lv_at hl 1 rfl) ?_
    refine lv_iload hx hb dL_node_274 (lv_at hl 17 rfl) ?_
    refine lv_iconst (v := iI 4) hx hb dL_node_276 rfl ?_
    obtain ⟨r88, h_r88, h⟩ := obd h
    refine rcV (rest := []) X hKK hP 2 (zX4_node l D cI cC q n d lb xd xl wi sl kp ct gd gl ln ch x17 (iI 4) r88 h_r88) gL_node_X4_node rfl rfl rfl hdX4_node ⟨Nat.le_of_ble_eq_true rfl, Nat.le_of_ble_eq_true rfl⟩ [0, 1, 2, 3, 4, 5, 6, 7, 8, 9, 10, 11, 12] rfl 0 rfl rfl rfl hl.1 rfl (Nat.le_of_ble_eq_true rfl) dL_node_277 ⟨Nat.zero_le _, Nat.zero_le _⟩ ?_
    refine lv_iconst (v := iI 1) hx hb dL_node_280 rfl ?_
    refine lv_iadd hx hb dL_node_281 ?_
    refine lv_goto (tgt := 287) hx hb dL_node_282 (by decide) ?_
    exact kL_node_287 X hKK hP rec hrec x1 x2 x3 x4 x5 x6 x7 x8 x9 x10 x11 x13 x14 y0 x16 x17 x18 (r88 + (iI 1)) ls (lv_sub hl [1, 2, 3, 4, 5, 6, 7, 8, 9, 10, 11, 12, 14, 15, 0, 16, 17, 18] rfl) h
set_option maxHeartbeats 4000000 in
set_option maxRecDepth 100000 in
theorem kL_node_241 {p : Program} {l : Launch} {e : Env} {s : State} {m : MethodId} {args : Array Value} {below : List Frame} {meth : Method} {c : Code} {D : va_G} {cI cC : ClassId} {q : Nat → Nat} {n : Int32} {d : Nat → Int32} {lb : Nat → Int32} {xd : Nat → Int32} {xl : Nat → Int32} {wi : Int32} {sl : Int32} {kp : Int32} {ct : Nat → Int32} {gd : Nat → Int32} {gl : Nat → Int32} {ln : Int32} {ch : Nat → Int32} {r : Int32} (X : CX p s m args meth c wsL_node cL_node 22 (some .boolean) RL) (hKK : KK D cI cC s) (hP : va_P D vwCl (wA cI q n d lb xd xl wi sl kp ct gd gl ln ch) s.heap) (rec : Int32 → (Nat → Int32) → (Nat → Int32) → Int32 → Int32 → Int32 → Int32 → Int32 → Int32 → Int32 → Int32 → Int32 → Int32 → Int32 → Int32 → Int32 → Int32 → Int32 → Int32 → Option (Int32)) (hrec : ∀ (x1 : Int32) (x2 : Int32) (x3 : Int32) (x4 : Int32) (x5 : Int32) (x6 : Int32) (x7 : Int32) (x8 : Int32) (x9 : Int32) (x10 : Int32) (x11 : Int32) (x12 : Int32) (x13 : Int32) (x14 : Int32) (x15 : Int32) (x16 : Int32) (ls : Array Slot), lv_has ls 22 [(0, .ref (q 0)), (1, .int x1), (2, .int x2), (3, .int x3), (4, .int x4), (5, .int x5), (6, .int x6), (7, .int x7), (8, .int x8), (9, .int x9), (10, .int x10), (11, .int x11), (12, .int x12), (13, .int x13), (14, .int x14), (15, .int x15), (16, .int x16)] → rec n d lb x1 x2 x3 x4 x5 x6 x7 x8 x9 x10 x11 x12 x13 x14 x15 x16 = some r → W p l e rmL_node s m args below meth c s.heap [] 0 0 (MQ below (rdQ r) args s 0 0 (fun _ => False)) (F0 m 95 ls [])) : ∀ (x1 : Int32) (x2 : Int32) (x3 : Int32) (x4 : Int32) (x5 : Int32) (x6 : Int32) (x7 : Int32) (x8 : Int32) (x9 : Int32) (x10 : Int32) (x11 : Int32) (x12 : Int32) (x13 : Int32) (x15 : Int32) (x16 : Int32) (x17 : Int32) (x18 : Int32) (y0 : Int32) (ls : Array Slot), lv_has ls 22 [(0, .ref (q 0)), (1, .int x1), (2, .int x2), (3, .int x3), (4, .int x4), (5, .int x5), (6, .int x6), (7, .int x7), (8, .int x8), (9, .int x9), (10, .int x10), (11, .int x11), (12, .int x12), (13, .int x13), (15, .int x15), (16, .int x16), (17, .int x17), (18, .int x18)] → mL_node_241 rec n d lb x1 x2 x3 x4 x5 x6 x7 x8 x9 x10 x11 x12 x13 x15 x16 x17 x18 y0 = some r → W p l e rmL_node s m args below meth c s.heap [] 0 0 (MQ below (rdQ r) args s 0 0 (fun _ => False)) (F0 m 241 ls [.int y0]) := by
  have hx := X.1
  have hb := X.2.1
  intro x1 x2 x3 x4 x5 x6 x7 x8 x9 x10 x11 x12 x13 x15 x16 x17 x18 y0 ls hl h
  unfold mL_node_241 at h
  refine lv_istore (lv' := [(14, .int y0), (0, .ref (q 0)), (1, .int x1), (2, .int x2), (3, .int x3), (4, .int x4), (5, .int x5), (6, .int x6), (7, .int x7), (8, .int x8), (9, .int x9), (10, .int x10), (11, .int x11), (12, .int x12), (13, .int x13), (15, .int x15), (16, .int x16), (17, .int x17), (18, .int x18)]) hx hb dL_node_241 hl (by decide) rfl (fun ls hl => ?_)
  refine lv_iload hx hb dL_node_243 (lv_at hl 18 rfl) ?_
  refine lv_iload hx hb dL_node_245 (lv_at hl 15 rfl) ?_
  refine lv_icmp_le (tgt := 255) hx hb dL_node_247 (by decide) (fun c85 => ?_) (fun c85 => ?_)
  · replace h := ifp c85 h
    refine lv_iload hx hb dL_node_255 (lv_at hl 15 rfl) ?_
    exact kL_node_257 X hKK hP rec hrec x1 x2 x3 x4 x5 x6 x7 x8 x9 x10 x11 x12 x13 y0 x16 x17 x18 x15 ls (lv_sub hl [1, 2, 3, 4, 5, 6, 7, 8, 9, 10, 11, 12, 13, 14, 0, 16, 17, 18] rfl) h
  · replace h := ifn c85 h
    refine lv_iload hx hb dL_node_250 (lv_at hl 18 rfl) ?_
    refine lv_goto (tgt := 257) hx hb dL_node_252 (by decide) ?_
    exact kL_node_257 X hKK hP rec hrec x1 x2 x3 x4 x5 x6 x7 x8 x9 x10 x11 x12 x13 y0 x16 x17 x18 x18 ls (lv_sub hl [1, 2, 3, 4, 5, 6, 7, 8, 9, 10, 11, 12, 13, 14, 0, 16, 17, 18] rfl) h
set_option maxHeartbeats 4000000 in
set_option maxRecDepth 100000 in
theorem kL_node_213 {p : Program} {l : Launch} {e : Env} {s : State} {m : MethodId} {args : Array Value} {below : List Frame} {meth : Method} {c : Code} {D : va_G} {cI cC : ClassId} {q : Nat → Nat} {n : Int32} {d : Nat → Int32} {lb : Nat → Int32} {xd : Nat → Int32} {xl : Nat → Int32} {wi : Int32} {sl : Int32} {kp : Int32} {ct : Nat → Int32} {gd : Nat → Int32} {gl : Nat → Int32} {ln : Int32} {ch : Nat → Int32} {r : Int32} (X : CX p s m args meth c wsL_node cL_node 22 (some .boolean) RL) (hKK : KK D cI cC s) (hP : va_P D vwCl (wA cI q n d lb xd xl wi sl kp ct gd gl ln ch) s.heap) (rec : Int32 → (Nat → Int32) → (Nat → Int32) → Int32 → Int32 → Int32 → Int32 → Int32 → Int32 → Int32 → Int32 → Int32 → Int32 → Int32 → Int32 → Int32 → Int32 → Int32 → Int32 → Option (Int32)) (hrec : ∀ (x1 : Int32) (x2 : Int32) (x3 : Int32) (x4 : Int32) (x5 : Int32) (x6 : Int32) (x7 : Int32) (x8 : Int32) (x9 : Int32) (x10 : Int32) (x11 : Int32) (x12 : Int32) (x13 : Int32) (x14 : Int32) (x15 : Int32) (x16 : Int32) (ls : Array Slot), lv_has ls 22 [(0, .ref (q 0)), (1, .int x1), (2, .int x2), (3, .int x3), (4, .int x4), (5, .int x5), (6, .int x6), (7, .int x7), (8, .int x8), (9, .int x9), (10, .int x10), (11, .int x11), (12, .int x12), (13, .int x13), (14, .int x14), (15, .int x15), (16, .int x16)] → rec n d lb x1 x2 x3 x4 x5 x6 x7 x8 x9 x10 x11 x12 x13 x14 x15 x16 = some r → W p l e rmL_node s m args below meth c s.heap [] 0 0 (MQ below (rdQ r) args s 0 0 (fun _ => False)) (F0 m 95 ls [])) : ∀ (x1 : Int32) (x2 : Int32) (x3 : Int32) (x4 : Int32) (x5 : Int32) (x6 : Int32) (x7 : Int32) (x8 : Int32) (x9 : Int32) (x10 : Int32) (x11 : Int32) (x12 : Int32) (x13 : Int32) (x14 : Int32) (x15 : Int32) (x16 : Int32) (x17 : Int32) (y0 : Int32) (y1 : Int32) (ls : Array Slot), lv_has ls 22 [(0, .ref (q 0)), (1, .int x1), (2, .int x2), (3, .int x3), (4, .int x4), (5, .int x5), (6, .int x6), (7, .int x7), (8, .int x8), (9, .int x9), (10, .int x10), (11, .int x11), (12, .int x12), (13, .int x13), (14, .int x14), (15, .int x15), (16, .int x16), (17, .int x17)] → mL_node_213 rec n d lb x1 x2 x3 x4 x5 x6 x7 x8 x9 x10 x11 x12 x13 x14 x15 x16 x17 y0 y1 = some r → W p l e rmL_node s m args below meth c s.heap [] 0 0 (MQ below (rdQ r) args s 0 0 (fun _ => False)) (F0 m 213 ls [.int y0, .int y1]) := by
  have hx := X.1
  have hb := X.2.1
  intro x1 x2 x3 x4 x5 x6 x7 x8 x9 x10 x11 x12 x13 x14 x15 x16 x17 y0 y1 ls hl h
  unfold mL_node_213 at h
  refine lv_icmp_eq (tgt := 218) hx hb dL_node_213 (by decide) (fun c82 => ?_) (fun c82 => ?_)
  · replace h := ifp c82 h
    refine lv_aload_n hx hb dL_node_218 rfl (lv_at hl 0 rfl) ?_
    refine lv_iload hx hb dL_node_219 (lv_at hl 17 rfl) ?_
    refine lv_iconst (v := iI 3) hx hb dL_node_221 rfl ?_
    obtain ⟨r83, h_r83, h⟩ := obd h
    refine rcV (rest := []) X hKK hP 2 (zX4_node l D cI cC q n d lb xd xl wi sl kp ct gd gl ln ch x17 (iI 3) r83 h_r83) gL_node_X4_node rfl rfl rfl hdX4_node ⟨Nat.le_of_ble_eq_true rfl, Nat.le_of_ble_eq_true rfl⟩ [0, 1, 2, 3, 4, 5, 6, 7, 8, 9, 10, 11, 12] rfl 0 rfl rfl rfl hl.1 rfl (Nat.le_of_ble_eq_true rfl) dL_node_222 ⟨Nat.zero_le _, Nat.zero_le _⟩ ?_
    refine lv_istore (lv' := [(18, .int r83), (0, .ref (q 0)), (1, .int x1), (2, .int x2), (3, .int x3), (4, .int x4), (5, .int x5), (6, .int x6), (7, .int x7), (8, .int x8), (9, .int x9), (10, .int x10), (11, .int x11), (12, .int x12), (13, .int x13), (14, .int x14), (15, .int x15), (16, .int x16), (17, .int x17)]) hx hb dL_node_225 hl (by decide) rfl (fun ls hl => ?_)
    refine lv_iload hx hb dL_node_227 (lv_at hl 0 rfl) ?_
    refine lv_iload hx hb dL_node_229 (lv_at hl 16 rfl) ?_
    refine lv_icmp_le (tgt := 239) hx hb dL_node_231 (by decide) (fun c84 => ?_) (fun c84 => ?_)
    · replace h := ifp c84 h
      refine lv_iload hx hb dL_node_239 (lv_at hl 15 rfl) ?_
      exact kL_node_241 X hKK hP rec hrec x1 x2 x3 x4 x5 x6 x7 x8 x9 x10 x11 x12 x13 x15 x16 x17 r83 x14 ls (lv_sub hl [1, 2, 3, 4, 5, 6, 7, 8, 9, 10, 11, 12, 13, 14, 16, 17, 18, 0] rfl) h
    · replace h := ifn c84 h
      refine lv_iload hx hb dL_node_234 (lv_at hl 18 rfl) ?_
      refine lv_goto (tgt := 241) hx hb dL_node_236 (by decide) ?_
      exact kL_node_241 X hKK hP rec hrec x1 x2 x3 x4 x5 x6 x7 x8 x9 x10 x11 x12 x13 x15 x16 x17 r83 x17 ls (lv_sub hl [1, 2, 3, 4, 5, 6, 7, 8, 9, 10, 11, 12, 13, 14, 16, 17, 18, 0] rfl) h
  · replace h := ifn c82 h
    cases h
set_option maxHeartbeats 4000000 in
set_option maxRecDepth 100000 in
theorem kL_node_180 {p : Program} {l : Launch} {e : Env} {s : State} {m : MethodId} {args : Array Value} {below : List Frame} {meth : Method} {c : Code} {D : va_G} {cI cC : ClassId} {q : Nat → Nat} {n : Int32} {d : Nat → Int32} {lb : Nat → Int32} {xd : Nat → Int32} {xl : Nat → Int32} {wi : Int32} {sl : Int32} {kp : Int32} {ct : Nat → Int32} {gd : Nat → Int32} {gl : Nat → Int32} {ln : Int32} {ch : Nat → Int32} {r : Int32} (X : CX p s m args meth c wsL_node cL_node 22 (some .boolean) RL) (hKK : KK D cI cC s) (hP : va_P D vwCl (wA cI q n d lb xd xl wi sl kp ct gd gl ln ch) s.heap) (rec : Int32 → (Nat → Int32) → (Nat → Int32) → Int32 → Int32 → Int32 → Int32 → Int32 → Int32 → Int32 → Int32 → Int32 → Int32 → Int32 → Int32 → Int32 → Int32 → Int32 → Int32 → Option (Int32)) (hrec : ∀ (x1 : Int32) (x2 : Int32) (x3 : Int32) (x4 : Int32) (x5 : Int32) (x6 : Int32) (x7 : Int32) (x8 : Int32) (x9 : Int32) (x10 : Int32) (x11 : Int32) (x12 : Int32) (x13 : Int32) (x14 : Int32) (x15 : Int32) (x16 : Int32) (ls : Array Slot), lv_has ls 22 [(0, .ref (q 0)), (1, .int x1), (2, .int x2), (3, .int x3), (4, .int x4), (5, .int x5), (6, .int x6), (7, .int x7), (8, .int x8), (9, .int x9), (10, .int x10), (11, .int x11), (12, .int x12), (13, .int x13), (14, .int x14), (15, .int x15), (16, .int x16)] → rec n d lb x1 x2 x3 x4 x5 x6 x7 x8 x9 x10 x11 x12 x13 x14 x15 x16 = some r → W p l e rmL_node s m args below meth c s.heap [] 0 0 (MQ below (rdQ r) args s 0 0 (fun _ => False)) (F0 m 95 ls [])) : ∀ (x1 : Int32) (x2 : Int32) (x3 : Int32) (x4 : Int32) (x5 : Int32) (x6 : Int32) (x7 : Int32) (x8 : Int32) (x9 : Int32) (x10 : Int32) (x11 : Int32) (x12 : Int32) (x13 : Int32) (x14 : Int32) (x15 : Int32) (x16 : Int32) (x17 : Int32) (y0 : Int32) (y1 : Int32) (ls : Array Slot), lv_has ls 22 [(0, .ref (q 0)), (1, .int x1), (2, .int x2), (3, .int x3), (4, .int x4), (5, .int x5), (6, .int x6), (7, .int x7), (8, .int x8), (9, .int x9), (10, .int x10), (11, .int x11), (12, .int x12), (13, .int x13), (14, .int x14), (15, .int x15), (16, .int x16), (17, .int x17)] → mL_node_180 rec n d lb x1 x2 x3 x4 x5 x6 x7 x8 x9 x10 x11 x12 x13 x14 x15 x16 x17 y0 y1 = some r → W p l e rmL_node s m args below meth c s.heap [] 0 0 (MQ below (rdQ r) args s 0 0 (fun _ => False)) (F0 m 180 ls [.int y0, .int y1]) := by
  have hx := X.1
  have hb := X.2.1
  intro x1 x2 x3 x4 x5 x6 x7 x8 x9 x10 x11 x12 x13 x14 x15 x16 x17 y0 y1 ls hl h
  unfold mL_node_180 at h
  refine lv_icmp_ne (tgt := 216) hx hb dL_node_180 (by decide) (fun c64 => ?_) (fun c64 => ?_)
  · replace h := ifn c64 h
    cases h
  · replace h := ifp c64 h
    refine lv_aload_n hx hb dL_node_183 rfl (lv_at hl 0 rfl) ?_
    refine lv_iload hx hb dL_node_184 (lv_at hl 17 rfl) ?_
    refine lv_iconst (v := iI 0) hx hb dL_node_186 rfl ?_
    obtain ⟨r65, h_r65, h⟩ := obd h
    refine rcV (rest := []) X hKK hP 2 (zX4_neighbour l D cI cC q n d lb xd xl wi sl kp ct gd gl ln ch x17 (iI 0) r65 h_r65) gL_node_X4_neighbour rfl rfl rfl hdX4_neighbour ⟨Nat.le_of_ble_eq_true rfl, Nat.le_of_ble_eq_true rfl⟩ [0, 1, 2, 3, 4, 5, 6, 7, 8, 9, 10, 11, 12] rfl 0 rfl rfl rfl hl.1 rfl (Nat.le_of_ble_eq_true rfl) dL_node_187 ⟨Nat.zero_le _, Nat.zero_le _⟩ ?_
    refine lv_iload hx hb dL_node_190 (lv_at hl 16 rfl) ?_
    refine lv_iconst (v := iI 1) hx hb dL_node_192 rfl ?_
    refine lv_iadd hx hb dL_node_193 ?_
    refine lv_iload hx hb dL_node_194 (lv_at hl 5 rfl) ?_
    refine lv_icmp_ne (tgt := 204) hx hb dL_node_196 (by decide) (fun c66 => ?_) (fun c66 => ?_)
    · replace h := ifn c66 h
      refine lv_aload_n hx hb dL_node_204 rfl (lv_at hl 0 rfl) ?_
      refine lv_iload_n hx hb dL_node_205 rfl (lv_at hl 1 rfl) ?_
      refine lv_iload hx hb dL_node_206 (lv_at hl 16 rfl) ?_
      refine lv_iconst (v := iI 1) hx hb dL_node_208 rfl ?_
      refine lv_iadd hx hb dL_node_209 ?_
      obtain ⟨r67, h_r67, h⟩ := obd h
      refine rcV (rest := [.int r65]) X hKK hP 2 (zX4_child l D cI cC q n d lb xd xl wi sl kp ct gd gl ln ch x1 (x16 + (iI 1)) r67 h_r67) gL_node_X4_child rfl rfl rfl hdX4_child ⟨Nat.le_of_ble_eq_true rfl, Nat.le_of_ble_eq_true rfl⟩ [0, 1, 2, 3, 4, 5, 6, 7, 8, 9, 10, 11, 12] rfl 0 rfl rfl rfl hl.1 rfl (Nat.le_of_ble_eq_true rfl) dL_node_210 ⟨Nat.zero_le _, Nat.zero_le _⟩ ?_
      exact kL_node_213 X hKK hP rec hrec x1 x2 x3 x4 x5 x6 x7 x8 x9 x10 x11 x12 x13 x14 x15 x16 x17 r67 r65 ls (lv_sub hl [0, 1, 2, 3, 4, 5, 6, 7, 8, 9, 10, 11, 12, 13, 14, 15, 16, 17] rfl) h
    · replace h := ifp c66 h
      refine lv_bipush (v := iI (-5)) hx hb dL_node_199 (by decide) ?_
      refine lv_goto (tgt := 213) hx hb dL_node_201 (by decide) ?_
      exact kL_node_213 X hKK hP rec hrec x1 x2 x3 x4 x5 x6 x7 x8 x9 x10 x11 x12 x13 x14 x15 x16 x17 (iI (-5)) r65 ls (lv_sub hl [0, 1, 2, 3, 4, 5, 6, 7, 8, 9, 10, 11, 12, 13, 14, 15, 16, 17] rfl) h
set_option maxHeartbeats 4000000 in
set_option maxRecDepth 100000 in
theorem kL_node_606 {p : Program} {l : Launch} {e : Env} {s : State} {m : MethodId} {args : Array Value} {below : List Frame} {meth : Method} {c : Code} {D : va_G} {cI cC : ClassId} {q : Nat → Nat} {n : Int32} {d : Nat → Int32} {lb : Nat → Int32} {xd : Nat → Int32} {xl : Nat → Int32} {wi : Int32} {sl : Int32} {kp : Int32} {ct : Nat → Int32} {gd : Nat → Int32} {gl : Nat → Int32} {ln : Int32} {ch : Nat → Int32} {r : Int32} (X : CX p s m args meth c wsL_node cL_node 22 (some .boolean) RL) (hKK : KK D cI cC s) (hP : va_P D vwCl (wA cI q n d lb xd xl wi sl kp ct gd gl ln ch) s.heap) : ∀ (x1 : Int32) (x3 : Int32) (x6 : Int32) (x7 : Int32) (x16 : Int32) (x17 : Int32) (y0 : Int32) (y1 : Int32) (ls : Array Slot), lv_has ls 22 [(0, .ref (q 0)), (1, .int x1), (3, .int x3), (6, .int x6), (7, .int x7), (16, .int x16), (17, .int x17)] → mL_node_606 n d lb x1 x3 x6 x7 x16 x17 y0 y1 = some r → W p l e rmL_node s m args below meth c s.heap [] 0 0 (MQ below (rdQ r) args s 0 0 (fun _ => False)) (F0 m 606 ls [.int y0, .int y1]) := by
  have hx := X.1
  have hb := X.2.1
  intro x1 x3 x6 x7 x16 x17 y0 y1 ls hl h
  unfold mL_node_606 at h
  refine lv_icmp_ne (tgt := 613) hx hb dL_node_606 (by decide) (fun c68 => ?_) (fun c68 => ?_)
  · replace h := ifn c68 h
    cases h
  · replace h := ifp c68 h
    refine lv_iconst (v := iI 1) hx hb dL_node_609 rfl ?_
    refine lv_goto (tgt := 614) hx hb dL_node_610 (by decide) ?_
    refine lv_istore (lv' := [(18, .int (iI 1)), (0, .ref (q 0)), (1, .int x1), (3, .int x3), (6, .int x6), (7, .int x7), (16, .int x16), (17, .int x17)]) hx hb dL_node_614 hl (by decide) rfl (fun ls hl => ?_)
    refine lv_aload_n hx hb dL_node_616 rfl (lv_at hl 1 rfl) ?_
    refine lv_iload_n hx hb dL_node_617 rfl (lv_at hl 2 rfl) ?_
    refine lv_bipush (v := iI 9) hx hb dL_node_618 (by decide) ?_
    obtain ⟨r69, h_r69, h⟩ := obd h
    refine rcV (rest := []) X hKK hP 2 (zX4_node l D cI cC q n d lb xd xl wi sl kp ct gd gl ln ch x1 (iI 9) r69 h_r69) gL_node_X4_node rfl rfl rfl hdX4_node ⟨Nat.le_of_ble_eq_true rfl, Nat.le_of_ble_eq_true rfl⟩ [0, 1, 2, 3, 4, 5, 6, 7, 8, 9, 10, 11, 12] rfl 0 rfl rfl rfl hl.1 rfl (Nat.le_of_ble_eq_true rfl) dL_node_620 ⟨Nat.zero_le _, Nat.zero_le _⟩ ?_
    refine lv_istore (lv' := [(19, .int r69), (18, .int (iI 1)), (0, .ref (q 0)), (1, .int x1), (3, .int x3), (6, .int x6), (7, .int x7), (16, .int x16), (17, .int x17)]) hx hb dL_node_623 hl (by decide) rfl (fun ls hl => ?_)
    refine lv_aload_n hx hb dL_node_625 rfl (lv_at hl 2 rfl) ?_
    refine lv_iload_n hx hb dL_node_626 rfl (lv_at hl 3 rfl) ?_
    obtain ⟨r70, h_r70, h⟩ := obd h
    refine rcV (rest := []) X hKK hP 1 (zX4_deepest l D cI cC q n d lb xd xl wi sl kp ct gd gl ln ch x1 r70 h_r70) gL_node_X4_deepest rfl rfl rfl hdX4_deepest ⟨Nat.le_of_ble_eq_true rfl, Nat.le_of_ble_eq_true rfl⟩ [0, 1, 2, 3, 4, 5, 6, 7, 8, 9, 10, 11, 12] rfl 0 rfl rfl rfl hl.1 rfl (Nat.le_of_ble_eq_true rfl) dL_node_627 ⟨Nat.zero_le _, Nat.zero_le _⟩ ?_
    refine lv_istore (lv' := [(20, .int r70), (19, .int r69), (18, .int (iI 1)), (0, .ref (q 0)), (1, .int x1), (3, .int x3), (6, .int x6), (7, .int x7), (16, .int x16), (17, .int x17)]) hx hb dL_node_630 hl (by decide) rfl (fun ls hl => ?_)
    refine lv_iload hx hb dL_node_632 (lv_at hl 0 rfl) ?_
    refine lv_iload_n hx hb dL_node_634 rfl (lv_at hl 4 rfl) ?_
    refine lv_icmp_lt (tgt := 688) hx hb dL_node_635 (by decide) (fun c71 => ?_) (fun c71 => ?_)
    · replace h := ifp c71 h
      cases h
    · replace h := ifn c71 h
      refine lv_iload hx hb dL_node_638 (lv_at hl 0 rfl) ?_
      refine lv_iload_n hx hb dL_node_640 rfl (lv_at hl 4 rfl) ?_
      refine lv_iload hx hb dL_node_641 (lv_at hl 6 rfl) ?_
      refine lv_iadd hx hb dL_node_643 ?_
      refine lv_icmp_ge (tgt := 688) hx hb dL_node_644 (by decide) (fun c72 => ?_) (fun c72 => ?_)
      · replace h := ifp c72 h
        cases h
      · replace h := ifn c72 h
        refine lv_aload_n hx hb dL_node_647 rfl (lv_at hl 3 rfl) ?_
        refine lv_iload hx hb dL_node_648 (lv_at hl 0 rfl) ?_
        refine lv_iconst (v := iI 0) hx hb dL_node_650 rfl ?_
        obtain ⟨r73, h_r73, h⟩ := obd h
        refine rcV (rest := []) X hKK hP 2 (zX4_node l D cI cC q n d lb xd xl wi sl kp ct gd gl ln ch r70 (iI 0) r73 h_r73) gL_node_X4_node rfl rfl rfl hdX4_node ⟨Nat.le_of_ble_eq_true rfl, Nat.le_of_ble_eq_true rfl⟩ [0, 1, 2, 3, 4, 5, 6, 7, 8, 9, 10, 11, 12] rfl 0 rfl rfl rfl hl.1 rfl (Nat.le_of_ble_eq_true rfl) dL_node_651 ⟨Nat.zero_le _, Nat.zero_le _⟩ ?_
        refine lv_iload_n hx hb dL_node_654 rfl (lv_at hl 5 rfl) ?_
        refine lv_iload hx hb dL_node_655 (lv_at hl 7 rfl) ?_
        refine lv_iadd hx hb dL_node_657 ?_
        refine lv_icmp_ne (tgt := 688) hx hb dL_node_658 (by decide) (fun c74 => ?_) (fun c74 => ?_)
        · replace h := ifn c74 h
          cases h
        · replace h := ifp c74 h
          refine lv_iload hx hb dL_node_661 (lv_at hl 1 rfl) ?_
          refine lv_iload_n hx hb dL_node_663 rfl (lv_at hl 4 rfl) ?_
          refine lv_iload hx hb dL_node_664 (lv_at hl 6 rfl) ?_
          refine lv_iadd hx hb dL_node_666 ?_
          refine lv_iconst (v := iI 1) hx hb dL_node_667 rfl ?_
          refine lv_isub hx hb dL_node_668 ?_
          refine lv_iload_n hx hb dL_node_669 rfl (lv_at hl 5 rfl) ?_
          refine lv_isub hx hb dL_node_670 ?_
          refine lv_icmp_ne (tgt := 688) hx hb dL_node_671 (by decide) (fun c75 => ?_) (fun c75 => ?_)
          · replace h := ifn c75 h
            cases h
          · replace h := ifp c75 h
            refine lv_aload_n hx hb dL_node_674 rfl (lv_at hl 3 rfl) ?_
            refine lv_iload hx hb dL_node_675 (lv_at hl 1 rfl) ?_
            obtain ⟨r76, h_r76, h⟩ := obd h
            refine rcV (rest := []) X hKK hP 1 (zX4_byPostorder l D cI cC q n d lb xd xl wi sl kp ct gd gl ln ch r69 r76 h_r76) gL_node_X4_byPostorder rfl rfl rfl hdX4_byPostorder ⟨Nat.le_of_ble_eq_true rfl, Nat.le_of_ble_eq_true rfl⟩ [0, 1, 2, 3, 4, 5, 6, 7, 8, 9, 10, 11, 12] rfl 0 rfl rfl rfl hl.1 rfl (Nat.le_of_ble_eq_true rfl) dL_node_677 ⟨Nat.zero_le _, Nat.zero_le _⟩ ?_
            refine lv_iload_n hx hb dL_node_680 rfl (lv_at hl 4 rfl) ?_
            refine lv_icmp_ne (tgt := 688) hx hb dL_node_681 (by decide) (fun c77 => ?_) (fun c77 => ?_)
            · replace h := ifn c77 h
              cases h
            · replace h := ifp c77 h
              refine lv_iconst (v := iI 1) hx hb dL_node_684 rfl ?_
              refine lv_goto (tgt := 689) hx hb dL_node_685 (by decide) ?_
              refine lv_istore (lv' := [(21, .int (iI 1)), (20, .int r70), (19, .int r69), (18, .int (iI 1)), (0, .ref (q 0)), (1, .int x1), (3, .int x3), (6, .int x6), (7, .int x7), (16, .int x16), (17, .int x17)]) hx hb dL_node_689 hl (by decide) rfl (fun ls hl => ?_)
              refine lv_iload hx hb dL_node_691 (lv_at hl 9 rfl) ?_
              refine lv_if_eq (tgt := 715) hx hb dL_node_693 (by decide) (fun c78 => ?_) (fun c78 => ?_)
              · replace h := ifp c78 h
                cases h
              · replace h := ifn c78 h
                refine lv_iload hx hb dL_node_696 (lv_at hl 10 rfl) ?_
                refine lv_if_eq (tgt := 715) hx hb dL_node_698 (by decide) (fun c79 => ?_) (fun c79 => ?_)
                · replace h := ifp c79 h
                  cases h
                · replace h := ifn c79 h
                  refine lv_iload hx hb dL_node_701 (lv_at hl 3 rfl) ?_
                  refine lv_if_eq (tgt := 715) hx hb dL_node_703 (by decide) (fun c80 => ?_) (fun c80 => ?_)
                  · replace h := ifp c80 h
                    cases h
                  · replace h := ifn c80 h
                    refine lv_iload hx hb dL_node_706 (lv_at hl 0 rfl) ?_
                    refine lv_if_eq (tgt := 715) hx hb dL_node_708 (by decide) (fun c81 => ?_) (fun c81 => ?_)
                    · replace h := ifp c81 h
                      cases h
                    · replace h := ifn c81 h
                      refine lv_iconst (v := iI 1) hx hb dL_node_711 rfl ?_
                      refine lv_goto (tgt := 716) hx hb dL_node_712 (by decide) ?_
                      exact rd_ret X rfl (Option.some.inj h) dL_node_716
set_option maxHeartbeats 4000000 in
set_option maxRecDepth 100000 in
theorem kL_node_465 {p : Program} {l : Launch} {e : Env} {s : State} {m : MethodId} {args : Array Value} {below : List Frame} {meth : Method} {c : Code} {D : va_G} {cI cC : ClassId} {q : Nat → Nat} {n : Int32} {d : Nat → Int32} {lb : Nat → Int32} {xd : Nat → Int32} {xl : Nat → Int32} {wi : Int32} {sl : Int32} {kp : Int32} {ct : Nat → Int32} {gd : Nat → Int32} {gl : Nat → Int32} {ln : Int32} {ch : Nat → Int32} {r : Int32} (X : CX p s m args meth c wsL_node cL_node 22 (some .boolean) RL) (hKK : KK D cI cC s) (hP : va_P D vwCl (wA cI q n d lb xd xl wi sl kp ct gd gl ln ch) s.heap) : ∀ (x1 : Int32) (x3 : Int32) (x4 : Int32) (x6 : Int32) (x7 : Int32) (x8 : Int32) (x9 : Int32) (x16 : Int32) (y0 : Int32) (ls : Array Slot), lv_has ls 22 [(0, .ref (q 0)), (1, .int x1), (3, .int x3), (4, .int x4), (6, .int x6), (7, .int x7), (8, .int x8), (9, .int x9), (16, .int x16)] → mL_node_465 n d lb x1 x3 x4 x6 x7 x8 x9 x16 y0 = some r → W p l e rmL_node s m args below meth c s.heap [] 0 0 (MQ below (rdQ r) args s 0 0 (fun _ => False)) (F0 m 465 ls [.int y0]) := by
  have hx := X.1
  have hb := X.2.1
  intro x1 x3 x4 x6 x7 x8 x9 x16 y0 ls hl h
  unfold mL_node_465 at h
  refine lv_istore (lv' := [(17, .int y0), (0, .ref (q 0)), (1, .int x1), (3, .int x3), (4, .int x4), (6, .int x6), (7, .int x7), (8, .int x8), (9, .int x9), (16, .int x16)]) hx hb dL_node_465 hl (by decide) rfl (fun ls hl => ?_)
  refine lv_iload hx hb dL_node_467 (lv_at hl 8 rfl) ?_
  refine lv_iload hx hb dL_node_469 (lv_at hl 7 rfl) ?_
  refine lv_isub hx hb dL_node_471 ?_
  refine lv_iconst (v := iI 2) hx hb dL_node_472 rfl ?_
  refine lv_iload hx hb dL_node_473 (lv_at hl 5 rfl) ?_
  refine lv_imul hx hb dL_node_475 ?_
  refine lv_iconst (v := iI 1) hx hb dL_node_476 rfl ?_
  refine lv_isub hx hb dL_node_477 ?_
  refine lv_icmp_ne (tgt := 613) hx hb dL_node_478 (by decide) (fun c43 => ?_) (fun c43 => ?_)
  · replace h := ifn c43 h
    cases h
  · replace h := ifp c43 h
    refine lv_iload hx hb dL_node_481 (lv_at hl 7 rfl) ?_
    refine lv_iconst (v := iI 2) hx hb dL_node_483 rfl ?_
    refine lv_iload_n hx hb dL_node_484 rfl (lv_at hl 2 rfl) ?_
    refine lv_imul hx hb dL_node_485 ?_
    refine lv_iload_n hx hb dL_node_486 rfl (lv_at hl 3 rfl) ?_
    refine lv_isub hx hb dL_node_487 ?_
    refine lv_icmp_ne (tgt := 613) hx hb dL_node_488 (by decide) (fun c44 => ?_) (fun c44 => ?_)
    · replace h := ifn c44 h
      cases h
    · replace h := ifp c44 h
      refine lv_aload_n hx hb dL_node_491 rfl (lv_at hl 1 rfl) ?_
      refine lv_iload hx hb dL_node_492 (lv_at hl 7 rfl) ?_
      refine lv_iconst (v := iI 0) hx hb dL_node_494 rfl ?_
      obtain ⟨r45, h_r45, h⟩ := obd h
      refine rcV (rest := []) X hKK hP 2 (zX4_bracket l D cI cC q n d lb xd xl wi sl kp ct gd gl ln ch x8 (iI 0) r45 h_r45) gL_node_X4_bracket rfl rfl rfl hdX4_bracket ⟨Nat.le_of_ble_eq_true rfl, Nat.le_of_ble_eq_true rfl⟩ [0, 1, 2, 3, 4, 5, 6, 7, 8, 9, 10, 11, 12] rfl 0 rfl rfl rfl hl.1 rfl (Nat.le_of_ble_eq_true rfl) dL_node_495 ⟨Nat.zero_le _, Nat.zero_le _⟩ ?_
      refine lv_iconst (v := iI 1) hx hb dL_node_498 rfl ?_
      refine lv_icmp_ne (tgt := 613) hx hb dL_node_499 (by decide) (fun c46 => ?_) (fun c46 => ?_)
      · replace h := ifn c46 h
        cases h
      · replace h := ifp c46 h
        refine lv_aload_n hx hb dL_node_502 rfl (lv_at hl 1 rfl) ?_
        refine lv_iload hx hb dL_node_503 (lv_at hl 8 rfl) ?_
        refine lv_iconst (v := iI 0) hx hb dL_node_505 rfl ?_
        obtain ⟨r47, h_r47, h⟩ := obd h
        refine rcV (rest := []) X hKK hP 2 (zX4_bracket l D cI cC q n d lb xd xl wi sl kp ct gd gl ln ch x9 (iI 0) r47 h_r47) gL_node_X4_bracket rfl rfl rfl hdX4_bracket ⟨Nat.le_of_ble_eq_true rfl, Nat.le_of_ble_eq_true rfl⟩ [0, 1, 2, 3, 4, 5, 6, 7, 8, 9, 10, 11, 12] rfl 0 rfl rfl rfl hl.1 rfl (Nat.le_of_ble_eq_true rfl) dL_node_506 ⟨Nat.zero_le _, Nat.zero_le _⟩ ?_
        refine lv_if_ne (tgt := 613) hx hb dL_node_509 (by decide) (fun c48 => ?_) (fun c48 => ?_)
        · replace h := ifn c48 h
          cases h
        · replace h := ifp c48 h
          refine lv_aload_n hx hb dL_node_512 rfl (lv_at hl 1 rfl) ?_
          refine lv_iload hx hb dL_node_513 (lv_at hl 7 rfl) ?_
          refine lv_iconst (v := iI 2) hx hb dL_node_515 rfl ?_
          obtain ⟨r49, h_r49, h⟩ := obd h
          refine rcV (rest := []) X hKK hP 2 (zX4_bracket l D cI cC q n d lb xd xl wi sl kp ct gd gl ln ch x8 (iI 2) r49 h_r49) gL_node_X4_bracket rfl rfl rfl hdX4_bracket ⟨Nat.le_of_ble_eq_true rfl, Nat.le_of_ble_eq_true rfl⟩ [0, 1, 2, 3, 4, 5, 6, 7, 8, 9, 10, 11, 12] rfl 0 rfl rfl rfl hl.1 rfl (Nat.le_of_ble_eq_true rfl) dL_node_516 ⟨Nat.zero_le _, Nat.zero_le _⟩ ?_
          refine lv_iload hx hb dL_node_519 (lv_at hl 8 rfl) ?_
          refine lv_icmp_ne (tgt := 613) hx hb dL_node_521 (by decide) (fun c50 => ?_) (fun c50 => ?_)
          · replace h := ifn c50 h
            cases h
          · replace h := ifp c50 h
            refine lv_aload_n hx hb dL_node_524 rfl (lv_at hl 1 rfl) ?_
            refine lv_iload hx hb dL_node_525 (lv_at hl 8 rfl) ?_
            refine lv_iconst (v := iI 2) hx hb dL_node_527 rfl ?_
            obtain ⟨r51, h_r51, h⟩ := obd h
            refine rcV (rest := []) X hKK hP 2 (zX4_bracket l D cI cC q n d lb xd xl wi sl kp ct gd gl ln ch x9 (iI 2) r51 h_r51) gL_node_X4_bracket rfl rfl rfl hdX4_bracket ⟨Nat.le_of_ble_eq_true rfl, Nat.le_of_ble_eq_true rfl⟩ [0, 1, 2, 3, 4, 5, 6, 7, 8, 9, 10, 11, 12] rfl 0 rfl rfl rfl hl.1 rfl (Nat.le_of_ble_eq_true rfl) dL_node_528 ⟨Nat.zero_le _, Nat.zero_le _⟩ ?_
            refine lv_iload hx hb dL_node_531 (lv_at hl 7 rfl) ?_
            refine lv_icmp_ne (tgt := 613) hx hb dL_node_533 (by decide) (fun c52 => ?_) (fun c52 => ?_)
            · replace h := ifn c52 h
              cases h
            · replace h := ifp c52 h
              refine lv_aload_n hx hb dL_node_536 rfl (lv_at hl 1 rfl) ?_
              refine lv_iload hx hb dL_node_537 (lv_at hl 7 rfl) ?_
              refine lv_iconst (v := iI 4) hx hb dL_node_539 rfl ?_
              obtain ⟨r53, h_r53, h⟩ := obd h
              refine rcV (rest := []) X hKK hP 2 (zX4_bracket l D cI cC q n d lb xd xl wi sl kp ct gd gl ln ch x8 (iI 4) r53 h_r53) gL_node_X4_bracket rfl rfl rfl hdX4_bracket ⟨Nat.le_of_ble_eq_true rfl, Nat.le_of_ble_eq_true rfl⟩ [0, 1, 2, 3, 4, 5, 6, 7, 8, 9, 10, 11, 12] rfl 0 rfl rfl rfl hl.1 rfl (Nat.le_of_ble_eq_true rfl) dL_node_540 ⟨Nat.zero_le _, Nat.zero_le _⟩ ?_
              refine lv_iload_n hx hb dL_node_543 rfl (lv_at hl 2 rfl) ?_
              refine lv_icmp_ne (tgt := 613) hx hb dL_node_544 (by decide) (fun c54 => ?_) (fun c54 => ?_)
              · replace h := ifn c54 h
                cases h
              · replace h := ifp c54 h
                refine lv_aload_n hx hb dL_node_547 rfl (lv_at hl 1 rfl) ?_
                refine lv_iload hx hb dL_node_548 (lv_at hl 8 rfl) ?_
                refine lv_iconst (v := iI 4) hx hb dL_node_550 rfl ?_
                obtain ⟨r55, h_r55, h⟩ := obd h
                refine rcV (rest := []) X hKK hP 2 (zX4_bracket l D cI cC q n d lb xd xl wi sl kp ct gd gl ln ch x9 (iI 4) r55 h_r55) gL_node_X4_bracket rfl rfl rfl hdX4_bracket ⟨Nat.le_of_ble_eq_true rfl, Nat.le_of_ble_eq_true rfl⟩ [0, 1, 2, 3, 4, 5, 6, 7, 8, 9, 10, 11, 12] rfl 0 rfl rfl rfl hl.1 rfl (Nat.le_of_ble_eq_true rfl) dL_node_551 ⟨Nat.zero_le _, Nat.zero_le _⟩ ?_
                refine lv_iload_n hx hb dL_node_554 rfl (lv_at hl 2 rfl) ?_
                refine lv_icmp_ne (tgt := 613) hx hb dL_node_555 (by decide) (fun c56 => ?_) (fun c56 => ?_)
                · replace h := ifn c56 h
                  cases h
                · replace h := ifp c56 h
                  refine lv_aload_n hx hb dL_node_558 rfl (lv_at hl 1 rfl) ?_
                  refine lv_iload hx hb dL_node_559 (lv_at hl 7 rfl) ?_
                  refine lv_iconst (v := iI 1) hx hb dL_node_561 rfl ?_
                  obtain ⟨r57, h_r57, h⟩ := obd h
                  refine rcV (rest := []) X hKK hP 2 (zX4_bracket l D cI cC q n d lb xd xl wi sl kp ct gd gl ln ch x8 (iI 1) r57 h_r57) gL_node_X4_bracket rfl rfl rfl hdX4_bracket ⟨Nat.le_of_ble_eq_true rfl, Nat.le_of_ble_eq_true rfl⟩ [0, 1, 2, 3, 4, 5, 6, 7, 8, 9, 10, 11, 12] rfl 0 rfl rfl rfl hl.1 rfl (Nat.le_of_ble_eq_true rfl) dL_node_562 ⟨Nat.zero_le _, Nat.zero_le _⟩ ?_
                  refine lv_iload_n hx hb dL_node_565 rfl (lv_at hl 3 rfl) ?_
                  refine lv_iconst (v := iI 1) hx hb dL_node_566 rfl ?_
                  refine lv_iadd hx hb dL_node_567 ?_
                  refine lv_icmp_ne (tgt := 613) hx hb dL_node_568 (by decide) (fun c58 => ?_) (fun c58 => ?_)
                  · replace h := ifn c58 h
                    cases h
                  · replace h := ifp c58 h
                    refine lv_aload_n hx hb dL_node_571 rfl (lv_at hl 1 rfl) ?_
                    refine lv_iload hx hb dL_node_572 (lv_at hl 8 rfl) ?_
                    refine lv_iconst (v := iI 1) hx hb dL_node_574 rfl ?_
                    obtain ⟨r59, h_r59, h⟩ := obd h
                    refine rcV (rest := []) X hKK hP 2 (zX4_bracket l D cI cC q n d lb xd xl wi sl kp ct gd gl ln ch x9 (iI 1) r59 h_r59) gL_node_X4_bracket rfl rfl rfl hdX4_bracket ⟨Nat.le_of_ble_eq_true rfl, Nat.le_of_ble_eq_true rfl⟩ [0, 1, 2, 3, 4, 5, 6, 7, 8, 9, 10, 11, 12] rfl 0 rfl rfl rfl hl.1 rfl (Nat.le_of_ble_eq_true rfl) dL_node_575 ⟨Nat.zero_le _, Nat.zero_le _⟩ ?_
                    refine lv_iload_n hx hb dL_node_578 rfl (lv_at hl 3 rfl) ?_
                    refine lv_icmp_ne (tgt := 613) hx hb dL_node_579 (by decide) (fun c60 => ?_) (fun c60 => ?_)
                    · replace h := ifn c60 h
                      cases h
                    · replace h := ifp c60 h
                      refine lv_aload_n hx hb dL_node_582 rfl (lv_at hl 1 rfl) ?_
                      refine lv_iload hx hb dL_node_583 (lv_at hl 8 rfl) ?_
                      refine lv_iconst (v := iI 3) hx hb dL_node_585 rfl ?_
                      obtain ⟨r61, h_r61, h⟩ := obd h
                      refine rcV (rest := []) X hKK hP 2 (zX4_bracket l D cI cC q n d lb xd xl wi sl kp ct gd gl ln ch x9 (iI 3) r61 h_r61) gL_node_X4_bracket rfl rfl rfl hdX4_bracket ⟨Nat.le_of_ble_eq_true rfl, Nat.le_of_ble_eq_true rfl⟩ [0, 1, 2, 3, 4, 5, 6, 7, 8, 9, 10, 11, 12] rfl 0 rfl rfl rfl hl.1 rfl (Nat.le_of_ble_eq_true rfl) dL_node_586 ⟨Nat.zero_le _, Nat.zero_le _⟩ ?_
                      refine lv_iload_n hx hb dL_node_589 rfl (lv_at hl 2 rfl) ?_
                      refine lv_if_ne (tgt := 598) hx hb dL_node_590 (by decide) (fun c62 => ?_) (fun c62 => ?_)
                      · replace h := ifn c62 h
                        refine lv_aload_n hx hb dL_node_598 rfl (lv_at hl 1 rfl) ?_
                        refine lv_iload hx hb dL_node_599 (lv_at hl 4 rfl) ?_
                        refine lv_bipush (v := iI 7) hx hb dL_node_601 (by decide) ?_
                        obtain ⟨r63, h_r63, h⟩ := obd h
                        refine rcV (rest := [.int r61]) X hKK hP 2 (zX4_node l D cI cC q n d lb xd xl wi sl kp ct gd gl ln ch x4 (iI 7) r63 h_r63) gL_node_X4_node rfl rfl rfl hdX4_node ⟨Nat.le_of_ble_eq_true rfl, Nat.le_of_ble_eq_true rfl⟩ [0, 1, 2, 3, 4, 5, 6, 7, 8, 9, 10, 11, 12] rfl 0 rfl rfl rfl hl.1 rfl (Nat.le_of_ble_eq_true rfl) dL_node_603 ⟨Nat.zero_le _, Nat.zero_le _⟩ ?_
                        exact kL_node_606 X hKK hP x1 x3 x6 x7 x16 y0 r63 r61 ls (lv_sub hl [1, 2, 3, 5, 6, 9, 0] rfl) h
                      · replace h := ifp c62 h
                        refine lv_bipush (v := iI (-5)) hx hb dL_node_593 (by decide) ?_
                        refine lv_goto (tgt := 606) hx hb dL_node_595 (by decide) ?_
                        exact kL_node_606 X hKK hP x1 x3 x6 x7 x16 y0 (iI (-5)) r61 ls (lv_sub hl [1, 2, 3, 5, 6, 9, 0] rfl) h
set_option maxHeartbeats 4000000 in
set_option maxRecDepth 100000 in
theorem kL_node_95 {p : Program} {l : Launch} {e : Env} {s : State} {m : MethodId} {args : Array Value} {below : List Frame} {meth : Method} {c : Code} {D : va_G} {cI cC : ClassId} {q : Nat → Nat} {n : Int32} {d : Nat → Int32} {lb : Nat → Int32} {xd : Nat → Int32} {xl : Nat → Int32} {wi : Int32} {sl : Int32} {kp : Int32} {ct : Nat → Int32} {gd : Nat → Int32} {gl : Nat → Int32} {ln : Int32} {ch : Nat → Int32} {r : Int32} (X : CX p s m args meth c wsL_node cL_node 22 (some .boolean) RL) (hKK : KK D cI cC s) (hP : va_P D vwCl (wA cI q n d lb xd xl wi sl kp ct gd gl ln ch) s.heap) : ∀ (f : Nat), ∀ (x1 : Int32) (x2 : Int32) (x3 : Int32) (x4 : Int32) (x5 : Int32) (x6 : Int32) (x7 : Int32) (x8 : Int32) (x9 : Int32) (x10 : Int32) (x11 : Int32) (x12 : Int32) (x13 : Int32) (x14 : Int32) (x15 : Int32) (x16 : Int32) (ls : Array Slot), lv_has ls 22 [(0, .ref (q 0)), (1, .int x1), (2, .int x2), (3, .int x3), (4, .int x4), (5, .int x5), (6, .int x6), (7, .int x7), (8, .int x8), (9, .int x9), (10, .int x10), (11, .int x11), (12, .int x12), (13, .int x13), (14, .int x14), (15, .int x15), (16, .int x16)] → mL_node_95 f n d lb x1 x2 x3 x4 x5 x6 x7 x8 x9 x10 x11 x12 x13 x14 x15 x16 = some r → W p l e rmL_node s m args below meth c s.heap [] 0 0 (MQ below (rdQ r) args s 0 0 (fun _ => False)) (F0 m 95 ls []) := by
  have hx := X.1
  have hb := X.2.1
  intro f
  induction f with
  | zero =>
    intro x1 x2 x3 x4 x5 x6 x7 x8 x9 x10 x11 x12 x13 x14 x15 x16 ls hl h
    exact absurd h (by unfold mL_node_95; intro h; cases h)
  | succ f ih =>
    intro x1 x2 x3 x4 x5 x6 x7 x8 x9 x10 x11 x12 x13 x14 x15 x16 ls hl h
    rw [mL_node_95] at h
    refine lv_iload hx hb dL_node_95 (lv_at hl 16 rfl) ?_
    refine lv_iload hx hb dL_node_97 (lv_at hl 5 rfl) ?_
    refine lv_icmp_ge (tgt := 322) hx hb dL_node_99 (by decide) (fun c9 => ?_) (fun c9 => ?_)
    · replace h := ifp c9 h
      refine lv_iload hx hb dL_node_322 (lv_at hl 10 rfl) ?_
      refine lv_iload hx hb dL_node_324 (lv_at hl 6 rfl) ?_
      refine lv_icmp_ne (tgt := 386) hx hb dL_node_326 (by decide) (fun c10 => ?_) (fun c10 => ?_)
      · replace h := ifn c10 h
        cases h
      · replace h := ifp c10 h
        refine lv_iload hx hb dL_node_329 (lv_at hl 11 rfl) ?_
        refine lv_aload_n hx hb dL_node_331 rfl (lv_at hl 0 rfl) ?_
        refine lv_iload_n hx hb dL_node_332 rfl (lv_at hl 1 rfl) ?_
        refine lv_bipush (v := iI 6) hx hb dL_node_333 (by decide) ?_
        obtain ⟨r11, h_r11, h⟩ := obd h
        refine rcV (rest := [.int x11]) X hKK hP 2 (zX4_node l D cI cC q n d lb xd xl wi sl kp ct gd gl ln ch x1 (iI 6) r11 h_r11) gL_node_X4_node rfl rfl rfl hdX4_node ⟨Nat.le_of_ble_eq_true rfl, Nat.le_of_ble_eq_true rfl⟩ [0, 1, 2, 3, 4, 5, 6, 7, 8, 9, 10, 11, 12] rfl 0 rfl rfl rfl hl.1 rfl (Nat.le_of_ble_eq_true rfl) dL_node_335 ⟨Nat.zero_le _, Nat.zero_le _⟩ ?_
        refine lv_icmp_ne (tgt := 386) hx hb dL_node_338 (by decide) (fun c12 => ?_) (fun c12 => ?_)
        · replace h := ifn c12 h
          cases h
        · replace h := ifp c12 h
          refine lv_iload hx hb dL_node_341 (lv_at hl 12 rfl) ?_
          refine lv_iload hx hb dL_node_343 (lv_at hl 7 rfl) ?_
          refine lv_icmp_ne (tgt := 386) hx hb dL_node_345 (by decide) (fun c13 => ?_) (fun c13 => ?_)
          · replace h := ifn c13 h
            cases h
          · replace h := ifp c13 h
            refine lv_iload hx hb dL_node_348 (lv_at hl 14 rfl) ?_
            refine lv_aload_n hx hb dL_node_350 rfl (lv_at hl 0 rfl) ?_
            refine lv_iload_n hx hb dL_node_351 rfl (lv_at hl 1 rfl) ?_
            refine lv_iconst (v := iI 5) hx hb dL_node_352 rfl ?_
            obtain ⟨r14, h_r14, h⟩ := obd h
            refine rcV (rest := [.int x14]) X hKK hP 2 (zX4_neighbour l D cI cC q n d lb xd xl wi sl kp ct gd gl ln ch x1 (iI 5) r14 h_r14) gL_node_X4_neighbour rfl rfl rfl hdX4_neighbour ⟨Nat.le_of_ble_eq_true rfl, Nat.le_of_ble_eq_true rfl⟩ [0, 1, 2, 3, 4, 5, 6, 7, 8, 9, 10, 11, 12] rfl 0 rfl rfl rfl hl.1 rfl (Nat.le_of_ble_eq_true rfl) dL_node_353 ⟨Nat.zero_le _, Nat.zero_le _⟩ ?_
            refine lv_icmp_ne (tgt := 386) hx hb dL_node_356 (by decide) (fun c15 => ?_) (fun c15 => ?_)
            · replace h := ifn c15 h
              cases h
            · replace h := ifp c15 h
              refine lv_aload_n hx hb dL_node_359 rfl (lv_at hl 0 rfl) ?_
              refine lv_iload_n hx hb dL_node_360 rfl (lv_at hl 1 rfl) ?_
              refine lv_iload hx hb dL_node_361 (lv_at hl 5 rfl) ?_
              obtain ⟨r16, h_r16, h⟩ := obd h
              refine rcV (rest := []) X hKK hP 2 (zX4_child l D cI cC q n d lb xd xl wi sl kp ct gd gl ln ch x1 x5 r16 h_r16) gL_node_X4_child rfl rfl rfl hdX4_child ⟨Nat.le_of_ble_eq_true rfl, Nat.le_of_ble_eq_true rfl⟩ [0, 1, 2, 3, 4, 5, 6, 7, 8, 9, 10, 11, 12] rfl 0 rfl rfl rfl hl.1 rfl (Nat.le_of_ble_eq_true rfl) dL_node_363 ⟨Nat.zero_le _, Nat.zero_le _⟩ ?_
              refine lv_bipush (v := iI (-5)) hx hb dL_node_366 (by decide) ?_
              refine lv_icmp_ne (tgt := 386) hx hb dL_node_368 (by decide) (fun c17 => ?_) (fun c17 => ?_)
              · replace h := ifn c17 h
                cases h
              · replace h := ifp c17 h
                refine lv_aload_n hx hb dL_node_371 rfl (lv_at hl 0 rfl) ?_
                refine lv_iload_n hx hb dL_node_372 rfl (lv_at hl 1 rfl) ?_
                refine lv_iconst (v := iI (-1)) hx hb dL_node_373 rfl ?_
                obtain ⟨r18, h_r18, h⟩ := obd h
                refine rcV (rest := []) X hKK hP 2 (zX4_child l D cI cC q n d lb xd xl wi sl kp ct gd gl ln ch x1 (iI (-1)) r18 h_r18) gL_node_X4_child rfl rfl rfl hdX4_child ⟨Nat.le_of_ble_eq_true rfl, Nat.le_of_ble_eq_true rfl⟩ [0, 1, 2, 3, 4, 5, 6, 7, 8, 9, 10, 11, 12] rfl 0 rfl rfl rfl hl.1 rfl (Nat.le_of_ble_eq_true rfl) dL_node_374 ⟨Nat.zero_le _, Nat.zero_le _⟩ ?_
                refine lv_bipush (v := iI (-2)) hx hb dL_node_377 (by decide) ?_
                refine lv_icmp_ne (tgt := 386) hx hb dL_node_379 (by decide) (fun c19 => ?_) (fun c19 => ?_)
                · replace h := ifn c19 h
                  cases h
                · replace h := ifp c19 h
                  refine lv_iconst (v := iI 1) hx hb dL_node_382 rfl ?_
                  refine lv_goto (tgt := 387) hx hb dL_node_383 (by decide) ?_
                  refine lv_istore (lv' := [(16, .int (iI 1)), (0, .ref (q 0)), (1, .int x1), (2, .int x2), (3, .int x3), (4, .int x4), (5, .int x5), (6, .int x6), (7, .int x7), (8, .int x8), (9, .int x9), (10, .int x10), (11, .int x11), (12, .int x12), (13, .int x13), (14, .int x14), (15, .int x15)]) hx hb dL_node_387 hl (by decide) rfl (fun ls hl => ?_)
                  refine lv_iload_n hx hb dL_node_389 rfl (lv_at hl 2 rfl) ?_
                  refine lv_if_ne (tgt := 449) hx hb dL_node_390 (by decide) (fun c20 => ?_) (fun c20 => ?_)
                  · replace h := ifn c20 h
                    refine lv_iload hx hb dL_node_449 (lv_at hl 5 rfl) ?_
                    refine lv_if_lt (tgt := 464) hx hb dL_node_451 (by decide) (fun c21 => ?_) (fun c21 => ?_)
                    · replace h := ifp c21 h
                      cases h
                    · replace h := ifn c21 h
                      refine lv_iload hx hb dL_node_454 (lv_at hl 5 rfl) ?_
                      refine lv_iload_n hx hb dL_node_456 rfl (lv_at hl 2 rfl) ?_
                      refine lv_icmp_ge (tgt := 464) hx hb dL_node_457 (by decide) (fun c22 => ?_) (fun c22 => ?_)
                      · replace h := ifp c22 h
                        cases h
                      · replace h := ifn c22 h
                        refine lv_iconst (v := iI 1) hx hb dL_node_460 rfl ?_
                        refine lv_goto (tgt := 465) hx hb dL_node_461 (by decide) ?_
                        exact kL_node_465 X hKK hP x1 x3 x4 x6 x7 x8 x9 (iI 1) (iI 1) ls (lv_sub hl [1, 2, 4, 5, 7, 8, 9, 10, 0] rfl) h
                  · replace h := ifp c20 h
                    refine lv_iload hx hb dL_node_393 (lv_at hl 5 rfl) ?_
                    refine lv_bipush (v := iI (-5)) hx hb dL_node_395 (by decide) ?_
                    refine lv_icmp_ne (tgt := 445) hx hb dL_node_397 (by decide) (fun c23 => ?_) (fun c23 => ?_)
                    · replace h := ifn c23 h
                      cases h
                    · replace h := ifp c23 h
                      refine lv_iload_n hx hb dL_node_400 rfl (lv_at hl 4 rfl) ?_
                      refine lv_if_ne (tgt := 445) hx hb dL_node_401 (by decide) (fun c24 => ?_) (fun c24 => ?_)
                      · replace h := ifn c24 h
                        cases h
                      · replace h := ifp c24 h
                        refine lv_iload hx hb dL_node_404 (lv_at hl 7 rfl) ?_
                        refine lv_iload_n hx hb dL_node_406 rfl (lv_at hl 3 rfl) ?_
                        refine lv_icmp_ne (tgt := 445) hx hb dL_node_407 (by decide) (fun c25 => ?_) (fun c25 => ?_)
                        · replace h := ifn c25 h
                          cases h
                        · replace h := ifp c25 h
                          refine lv_aload_n hx hb dL_node_410 rfl (lv_at hl 1 rfl) ?_
                          refine lv_iload_n hx hb dL_node_411 rfl (lv_at hl 2 rfl) ?_
                          refine lv_iconst (v := iI 5) hx hb dL_node_412 rfl ?_
                          obtain ⟨r26, h_r26, h⟩ := obd h
                          refine rcV (rest := []) X hKK hP 2 (zX4_node l D cI cC q n d lb xd xl wi sl kp ct gd gl ln ch x1 (iI 5) r26 h_r26) gL_node_X4_node rfl rfl rfl hdX4_node ⟨Nat.le_of_ble_eq_true rfl, Nat.le_of_ble_eq_true rfl⟩ [0, 1, 2, 3, 4, 5, 6, 7, 8, 9, 10, 11, 12] rfl 0 rfl rfl rfl hl.1 rfl (Nat.le_of_ble_eq_true rfl) dL_node_413 ⟨Nat.zero_le _, Nat.zero_le _⟩ ?_
                          refine lv_if_ne (tgt := 445) hx hb dL_node_416 (by decide) (fun c27 => ?_) (fun c27 => ?_)
                          · replace h := ifn c27 h
                            cases h
                          · replace h := ifp c27 h
                            refine lv_aload_n hx hb dL_node_419 rfl (lv_at hl 1 rfl) ?_
                            refine lv_iload_n hx hb dL_node_420 rfl (lv_at hl 2 rfl) ?_
                            refine lv_iconst (v := iI 0) hx hb dL_node_421 rfl ?_
                            obtain ⟨r28, h_r28, h⟩ := obd h
                            refine rcV (rest := []) X hKK hP 2 (zX4_neighbour l D cI cC q n d lb xd xl wi sl kp ct gd gl ln ch x1 (iI 0) r28 h_r28) gL_node_X4_neighbour rfl rfl rfl hdX4_neighbour ⟨Nat.le_of_ble_eq_true rfl, Nat.le_of_ble_eq_true rfl⟩ [0, 1, 2, 3, 4, 5, 6, 7, 8, 9, 10, 11, 12] rfl 0 rfl rfl rfl hl.1 rfl (Nat.le_of_ble_eq_true rfl) dL_node_422 ⟨Nat.zero_le _, Nat.zero_le _⟩ ?_
                            refine lv_bipush (v := iI (-5)) hx hb dL_node_425 (by decide) ?_
                            refine lv_icmp_ne (tgt := 445) hx hb dL_node_427 (by decide) (fun c29 => ?_) (fun c29 => ?_)
                            · replace h := ifn c29 h
                              cases h
                            · replace h := ifp c29 h
                              refine lv_aload_n hx hb dL_node_430 rfl (lv_at hl 1 rfl) ?_
                              refine lv_iload_n hx hb dL_node_431 rfl (lv_at hl 2 rfl) ?_
                              refine lv_iconst (v := iI 1) hx hb dL_node_432 rfl ?_
                              obtain ⟨r30, h_r30, h⟩ := obd h
                              refine rcV (rest := []) X hKK hP 2 (zX4_neighbour l D cI cC q n d lb xd xl wi sl kp ct gd gl ln ch x1 (iI 1) r30 h_r30) gL_node_X4_neighbour rfl rfl rfl hdX4_neighbour ⟨Nat.le_of_ble_eq_true rfl, Nat.le_of_ble_eq_true rfl⟩ [0, 1, 2, 3, 4, 5, 6, 7, 8, 9, 10, 11, 12] rfl 0 rfl rfl rfl hl.1 rfl (Nat.le_of_ble_eq_true rfl) dL_node_433 ⟨Nat.zero_le _, Nat.zero_le _⟩ ?_
                              refine lv_bipush (v := iI (-5)) hx hb dL_node_436 (by decide) ?_
                              refine lv_icmp_ne (tgt := 445) hx hb dL_node_438 (by decide) (fun c31 => ?_) (fun c31 => ?_)
                              · replace h := ifn c31 h
                                cases h
                              · replace h := ifp c31 h
                                refine lv_iconst (v := iI 1) hx hb dL_node_441 rfl ?_
                                refine lv_goto (tgt := 465) hx hb dL_node_442 (by decide) ?_
                                exact kL_node_465 X hKK hP x1 x3 x4 x6 x7 x8 x9 (iI 1) (iI 1) ls (lv_sub hl [1, 2, 4, 5, 7, 8, 9, 10, 0] rfl) h
    · replace h := ifn c9 h
      refine lv_aload_n hx hb dL_node_102 rfl (lv_at hl 0 rfl) ?_
      refine lv_iload_n hx hb dL_node_103 rfl (lv_at hl 1 rfl) ?_
      refine lv_iload hx hb dL_node_104 (lv_at hl 16 rfl) ?_
      obtain ⟨r32, h_r32, h⟩ := obd h
      refine rcV (rest := []) X hKK hP 2 (zX4_child l D cI cC q n d lb xd xl wi sl kp ct gd gl ln ch x1 x16 r32 h_r32) gL_node_X4_child rfl rfl rfl hdX4_child ⟨Nat.le_of_ble_eq_true rfl, Nat.le_of_ble_eq_true rfl⟩ [0, 1, 2, 3, 4, 5, 6, 7, 8, 9, 10, 11, 12] rfl 0 rfl rfl rfl hl.1 rfl (Nat.le_of_ble_eq_true rfl) dL_node_106 ⟨Nat.zero_le _, Nat.zero_le _⟩ ?_
      refine lv_istore (lv' := [(17, .int r32), (0, .ref (q 0)), (1, .int x1), (2, .int x2), (3, .int x3), (4, .int x4), (5, .int x5), (6, .int x6), (7, .int x7), (8, .int x8), (9, .int x9), (10, .int x10), (11, .int x11), (12, .int x12), (13, .int x13), (14, .int x14), (15, .int x15), (16, .int x16)]) hx hb dL_node_109 hl (by decide) rfl (fun ls hl => ?_)
      refine lv_iload hx hb dL_node_111 (lv_at hl 0 rfl) ?_
      refine lv_iload hx hb dL_node_113 (lv_at hl 14 rfl) ?_
      refine lv_icmp_ne (tgt := 216) hx hb dL_node_115 (by decide) (fun c33 => ?_) (fun c33 => ?_)
      · replace h := ifn c33 h
        cases h
      · replace h := ifp c33 h
        refine lv_aload_n hx hb dL_node_118 rfl (lv_at hl 1 rfl) ?_
        refine lv_iload hx hb dL_node_119 (lv_at hl 0 rfl) ?_
        refine lv_iconst (v := iI 1) hx hb dL_node_121 rfl ?_
        obtain ⟨r34, h_r34, h⟩ := obd h
        refine rcV (rest := []) X hKK hP 2 (zX4_node l D cI cC q n d lb xd xl wi sl kp ct gd gl ln ch r32 (iI 1) r34 h_r34) gL_node_X4_node rfl rfl rfl hdX4_node ⟨Nat.le_of_ble_eq_true rfl, Nat.le_of_ble_eq_true rfl⟩ [0, 1, 2, 3, 4, 5, 6, 7, 8, 9, 10, 11, 12] rfl 0 rfl rfl rfl hl.1 rfl (Nat.le_of_ble_eq_true rfl) dL_node_122 ⟨Nat.zero_le _, Nat.zero_le _⟩ ?_
        refine lv_iload_n hx hb dL_node_125 rfl (lv_at hl 2 rfl) ?_
        refine lv_icmp_ne (tgt := 216) hx hb dL_node_126 (by decide) (fun c35 => ?_) (fun c35 => ?_)
        · replace h := ifn c35 h
          cases h
        · replace h := ifp c35 h
          refine lv_aload_n hx hb dL_node_129 rfl (lv_at hl 1 rfl) ?_
          refine lv_iload hx hb dL_node_130 (lv_at hl 0 rfl) ?_
          refine lv_iconst (v := iI 0) hx hb dL_node_132 rfl ?_
          obtain ⟨r36, h_r36, h⟩ := obd h
          refine rcV (rest := []) X hKK hP 2 (zX4_node l D cI cC q n d lb xd xl wi sl kp ct gd gl ln ch r32 (iI 0) r36 h_r36) gL_node_X4_node rfl rfl rfl hdX4_node ⟨Nat.le_of_ble_eq_true rfl, Nat.le_of_ble_eq_true rfl⟩ [0, 1, 2, 3, 4, 5, 6, 7, 8, 9, 10, 11, 12] rfl 0 rfl rfl rfl hl.1 rfl (Nat.le_of_ble_eq_true rfl) dL_node_133 ⟨Nat.zero_le _, Nat.zero_le _⟩ ?_
          refine lv_iload_n hx hb dL_node_136 rfl (lv_at hl 4 rfl) ?_
          refine lv_iconst (v := iI 1) hx hb dL_node_137 rfl ?_
          refine lv_iadd hx hb dL_node_138 ?_
          refine lv_icmp_ne (tgt := 216) hx hb dL_node_139 (by decide) (fun c37 => ?_) (fun c37 => ?_)
          · replace h := ifn c37 h
            cases h
          · replace h := ifp c37 h
            refine lv_aload_n hx hb dL_node_142 rfl (lv_at hl 1 rfl) ?_
            refine lv_iload hx hb dL_node_143 (lv_at hl 0 rfl) ?_
            refine lv_iconst (v := iI 5) hx hb dL_node_145 rfl ?_
            obtain ⟨r38, h_r38, h⟩ := obd h
            refine rcV (rest := []) X hKK hP 2 (zX4_node l D cI cC q n d lb xd xl wi sl kp ct gd gl ln ch r32 (iI 5) r38 h_r38) gL_node_X4_node rfl rfl rfl hdX4_node ⟨Nat.le_of_ble_eq_true rfl, Nat.le_of_ble_eq_true rfl⟩ [0, 1, 2, 3, 4, 5, 6, 7, 8, 9, 10, 11, 12] rfl 0 rfl rfl rfl hl.1 rfl (Nat.le_of_ble_eq_true rfl) dL_node_146 ⟨Nat.zero_le _, Nat.zero_le _⟩ ?_
            refine lv_iload hx hb dL_node_149 (lv_at hl 17 rfl) ?_
            refine lv_icmp_ne (tgt := 216) hx hb dL_node_151 (by decide) (fun c39 => ?_) (fun c39 => ?_)
            · replace h := ifn c39 h
              cases h
            · replace h := ifp c39 h
              refine lv_aload_n hx hb dL_node_154 rfl (lv_at hl 1 rfl) ?_
              refine lv_iload hx hb dL_node_155 (lv_at hl 0 rfl) ?_
              refine lv_iconst (v := iI 1) hx hb dL_node_157 rfl ?_
              obtain ⟨r40, h_r40, h⟩ := obd h
              refine rcV (rest := []) X hKK hP 2 (zX4_neighbour l D cI cC q n d lb xd xl wi sl kp ct gd gl ln ch r32 (iI 1) r40 h_r40) gL_node_X4_neighbour rfl rfl rfl hdX4_neighbour ⟨Nat.le_of_ble_eq_true rfl, Nat.le_of_ble_eq_true rfl⟩ [0, 1, 2, 3, 4, 5, 6, 7, 8, 9, 10, 11, 12] rfl 0 rfl rfl rfl hl.1 rfl (Nat.le_of_ble_eq_true rfl) dL_node_158 ⟨Nat.zero_le _, Nat.zero_le _⟩ ?_
              refine lv_iload hx hb dL_node_161 (lv_at hl 17 rfl) ?_
              refine lv_if_ne (tgt := 171) hx hb dL_node_163 (by decide) (fun c41 => ?_) (fun c41 => ?_)
              · replace h := ifn c41 h
                refine lv_aload_n hx hb dL_node_171 rfl (lv_at hl 1 rfl) ?_
                refine lv_iload_n hx hb dL_node_172 rfl (lv_at hl 2 rfl) ?_
                refine lv_iload hx hb dL_node_173 (lv_at hl 17 rfl) ?_
                refine lv_iconst (v := iI 1) hx hb dL_node_175 rfl ?_
                refine lv_isub hx hb dL_node_176 ?_
                obtain ⟨r42, h_r42, h⟩ := obd h
                refine rcV (rest := [.int r40]) X hKK hP 2 (zX4_child l D cI cC q n d lb xd xl wi sl kp ct gd gl ln ch x1 (x16 - (iI 1)) r42 h_r42) gL_node_X4_child rfl rfl rfl hdX4_child ⟨Nat.le_of_ble_eq_true rfl, Nat.le_of_ble_eq_true rfl⟩ [0, 1, 2, 3, 4, 5, 6, 7, 8, 9, 10, 11, 12] rfl 0 rfl rfl rfl hl.1 rfl (Nat.le_of_ble_eq_true rfl) dL_node_177 ⟨Nat.zero_le _, Nat.zero_le _⟩ ?_
                exact kL_node_180 X hKK hP (mL_node_95 f) ih x1 x2 x3 x4 x5 x6 x7 x8 x9 x10 x11 x12 x13 x14 x15 x16 r32 r42 r40 ls (lv_sub hl [1, 2, 3, 4, 5, 6, 7, 8, 9, 10, 11, 12, 13, 14, 15, 16, 17, 0] rfl) h
              · replace h := ifp c41 h
                refine lv_bipush (v := iI (-5)) hx hb dL_node_166 (by decide) ?_
                refine lv_goto (tgt := 180) hx hb dL_node_168 (by decide) ?_
                exact kL_node_180 X hKK hP (mL_node_95 f) ih x1 x2 x3 x4 x5 x6 x7 x8 x9 x10 x11 x12 x13 x14 x15 x16 r32 (iI (-5)) r40 ls (lv_sub hl [1, 2, 3, 4, 5, 6, 7, 8, 9, 10, 11, 12, 13, 14, 15, 16, 17, 0] rfl) h
set_option maxHeartbeats 4000000 in
set_option maxRecDepth 100000 in
theorem kL_node_75 {p : Program} {l : Launch} {e : Env} {s : State} {m : MethodId} {args : Array Value} {below : List Frame} {meth : Method} {c : Code} {D : va_G} {cI cC : ClassId} {q : Nat → Nat} {n : Int32} {d : Nat → Int32} {lb : Nat → Int32} {xd : Nat → Int32} {xl : Nat → Int32} {wi : Int32} {sl : Int32} {kp : Int32} {ct : Nat → Int32} {gd : Nat → Int32} {gl : Nat → Int32} {ln : Int32} {ch : Nat → Int32} {r : Int32} (X : CX p s m args meth c wsL_node cL_node 22 (some .boolean) RL) (hKK : KK D cI cC s) (hP : va_P D vwCl (wA cI q n d lb xd xl wi sl kp ct gd gl ln ch) s.heap) : ∀ (x1 : Int32) (x2 : Int32) (x3 : Int32) (x4 : Int32) (x5 : Int32) (x6 : Int32) (x7 : Int32) (x8 : Int32) (x9 : Int32) (x10 : Int32) (y0 : Int32) (ls : Array Slot), lv_has ls 22 [(0, .ref (q 0)), (1, .int x1), (2, .int x2), (3, .int x3), (4, .int x4), (5, .int x5), (6, .int x6), (7, .int x7), (8, .int x8), (9, .int x9), (10, .int x10)] → mL_node_75 n d lb x1 x2 x3 x4 x5 x6 x7 x8 x9 x10 y0 = some r → W p l e rmL_node s m args below meth c s.heap [] 0 0 (MQ below (rdQ r) args s 0 0 (fun _ => False)) (F0 m 75 ls [.int y0]) := by
  have hx := X.1
  have hb := X.2.1
  intro x1 x2 x3 x4 x5 x6 x7 x8 x9 x10 y0 ls hl h
  unfold mL_node_75 at h
  refine lv_istore (lv' := [(11, .int y0), (0, .ref (q 0)), (1, .int x1), (2, .int x2), (3, .int x3), (4, .int x4), (5, .int x5), (6, .int x6), (7, .int x7), (8, .int x8), (9, .int x9), (10, .int x10)]) hx hb dL_node_75 hl (by decide) rfl (fun ls hl => ?_)
  refine lv_iconst (v := iI 0) hx hb dL_node_77 rfl ?_
  refine lv_istore (lv' := [(12, .int (iI 0)), (11, .int y0), (0, .ref (q 0)), (1, .int x1), (2, .int x2), (3, .int x3), (4, .int x4), (5, .int x5), (6, .int x6), (7, .int x7), (8, .int x8), (9, .int x9), (10, .int x10)]) hx hb dL_node_78 hl (by decide) rfl (fun ls hl => ?_)
  refine lv_iload_n hx hb dL_node_80 rfl (lv_at hl 3 rfl) ?_
  refine lv_iconst (v := iI 1) hx hb dL_node_81 rfl ?_
  refine lv_iadd hx hb dL_node_82 ?_
  refine lv_istore (lv' := [(13, .int (x1 + (iI 1))), (12, .int (iI 0)), (11, .int y0), (0, .ref (q 0)), (1, .int x1), (2, .int x2), (3, .int x3), (4, .int x4), (5, .int x5), (6, .int x6), (7, .int x7), (8, .int x8), (9, .int x9), (10, .int x10)]) hx hb dL_node_83 hl (by decide) rfl (fun ls hl => ?_)
  refine lv_bipush (v := iI (-5)) hx hb dL_node_85 (by decide) ?_
  refine lv_istore (lv' := [(14, .int (iI (-5))), (13, .int (x1 + (iI 1))), (12, .int (iI 0)), (11, .int y0), (0, .ref (q 0)), (1, .int x1), (2, .int x2), (3, .int x3), (4, .int x4), (5, .int x5), (6, .int x6), (7, .int x7), (8, .int x8), (9, .int x9), (10, .int x10)]) hx hb dL_node_87 hl (by decide) rfl (fun ls hl => ?_)
  refine lv_iconst (v := iI 0) hx hb dL_node_89 rfl ?_
  refine lv_istore (lv' := [(15, .int (iI 0)), (14, .int (iI (-5))), (13, .int (x1 + (iI 1))), (12, .int (iI 0)), (11, .int y0), (0, .ref (q 0)), (1, .int x1), (2, .int x2), (3, .int x3), (4, .int x4), (5, .int x5), (6, .int x6), (7, .int x7), (8, .int x8), (9, .int x9), (10, .int x10)]) hx hb dL_node_90 hl (by decide) rfl (fun ls hl => ?_)
  refine lv_iconst (v := iI 0) hx hb dL_node_92 rfl ?_
  refine lv_istore (lv' := [(16, .int (iI 0)), (15, .int (iI 0)), (14, .int (iI (-5))), (13, .int (x1 + (iI 1))), (12, .int (iI 0)), (11, .int y0), (0, .ref (q 0)), (1, .int x1), (2, .int x2), (3, .int x3), (4, .int x4), (5, .int x5), (6, .int x6), (7, .int x7), (8, .int x8), (9, .int x9), (10, .int x10)]) hx hb dL_node_93 hl (by decide) rfl (fun ls hl => ?_)
  exact kL_node_95 X hKK hP FU x1 x2 x3 x4 x5 x6 x7 x8 x9 x10 y0 (iI 0) (x1 + (iI 1)) (iI (-5)) (iI 0) (iI 0) ls (lv_sub hl [6, 7, 8, 9, 10, 11, 12, 13, 14, 15, 16, 5, 4, 3, 2, 1, 0] rfl) h
set_option maxHeartbeats 4000000 in
set_option maxRecDepth 100000 in
theorem zL_node (l : Launch) (D : va_G) (cI cC : ClassId) (q : Nat → Nat) (n : Int32) (d : Nat → Int32) (lb : Nat → Int32) (xd : Nat → Int32) (xl : Nat → Int32) (wi : Int32) (sl : Int32) (kp : Int32) (ct : Nat → Int32) (gd : Nat → Int32) (gl : Nat → Int32) (ln : Int32) (ch : Nat → Int32) (x1 : Int32) (r : Int32) (h : mL_node n d lb x1 = some r) : Met l yL_node wsL_node rmL_node (va_Pc [.ref (q 0), .int x1] (BW D cI cC (wA cI q n d lb xd xl wi sl kp ct gd gl ln ch))) (rdQ r) 0 0 (fun _ => False) := by
  refine MetI RL (by decide +kernel) rfl rfl (Nat.le_of_ble_eq_true rfl) ?_
  intro p e s m below meth c ls X _ hB hl
  obtain ⟨hP, hKK⟩ := hB
  have hx := X.1
  have hb := X.2.1
  replace hl : lv_has ls 22 [(0, .ref (q 0)), (1, .int x1)] := hl
  unfold mL_node at h
  refine lv_aload_n hx hb dL_node_0 rfl (lv_at hl 0 rfl) ?_
  refine rcV (rest := []) X hKK hP 0 (zX4_size l D cI cC q n d lb xd xl wi sl kp ct gd gl ln ch _ rfl) gL_node_X4_size rfl rfl rfl hdX4_size ⟨Nat.le_of_ble_eq_true rfl, Nat.le_of_ble_eq_true rfl⟩ [0, 1, 2, 3, 4, 5, 6, 7, 8, 9, 10, 11, 12] rfl 0 rfl rfl rfl hl.1 rfl (Nat.le_of_ble_eq_true rfl) dL_node_1 ⟨Nat.zero_le _, Nat.zero_le _⟩ ?_
  refine lv_istore_n (lv' := [(2, .int (mX4_size n)), (0, .ref (q 0)), (1, .int x1)]) hx hb dL_node_4 rfl hl (by decide) rfl (fun ls hl => ?_)
  refine lv_aload_n hx hb dL_node_5 rfl (lv_at hl 1 rfl) ?_
  refine lv_iload_n hx hb dL_node_6 rfl (lv_at hl 2 rfl) ?_
  refine lv_iconst (v := iI 0) hx hb dL_node_7 rfl ?_
  obtain ⟨r1, h_r1, h⟩ := obd h
  refine rcV (rest := []) X hKK hP 2 (zX4_node l D cI cC q n d lb xd xl wi sl kp ct gd gl ln ch x1 (iI 0) r1 h_r1) gL_node_X4_node rfl rfl rfl hdX4_node ⟨Nat.le_of_ble_eq_true rfl, Nat.le_of_ble_eq_true rfl⟩ [0, 1, 2, 3, 4, 5, 6, 7, 8, 9, 10, 11, 12] rfl 0 rfl rfl rfl hl.1 rfl (Nat.le_of_ble_eq_true rfl) dL_node_8 ⟨Nat.zero_le _, Nat.zero_le _⟩ ?_
  refine lv_istore_n (lv' := [(3, .int r1), (2, .int (mX4_size n)), (0, .ref (q 0)), (1, .int x1)]) hx hb dL_node_11 rfl hl (by decide) rfl (fun ls hl => ?_)
  refine lv_aload_n hx hb dL_node_12 rfl (lv_at hl 2 rfl) ?_
  refine lv_iload_n hx hb dL_node_13 rfl (lv_at hl 3 rfl) ?_
  refine lv_iconst (v := iI 1) hx hb dL_node_14 rfl ?_
  obtain ⟨r2, h_r2, h⟩ := obd h
  refine rcV (rest := []) X hKK hP 2 (zX4_node l D cI cC q n d lb xd xl wi sl kp ct gd gl ln ch x1 (iI 1) r2 h_r2) gL_node_X4_node rfl rfl rfl hdX4_node ⟨Nat.le_of_ble_eq_true rfl, Nat.le_of_ble_eq_true rfl⟩ [0, 1, 2, 3, 4, 5, 6, 7, 8, 9, 10, 11, 12] rfl 0 rfl rfl rfl hl.1 rfl (Nat.le_of_ble_eq_true rfl) dL_node_15 ⟨Nat.zero_le _, Nat.zero_le _⟩ ?_
  refine lv_istore (lv' := [(4, .int r2), (3, .int r1), (2, .int (mX4_size n)), (0, .ref (q 0)), (1, .int x1)]) hx hb dL_node_18 hl (by decide) rfl (fun ls hl => ?_)
  refine lv_aload_n hx hb dL_node_20 rfl (lv_at hl 3 rfl) ?_
  refine lv_iload_n hx hb dL_node_21 rfl (lv_at hl 4 rfl) ?_
  refine lv_iconst (v := iI 2) hx hb dL_node_22 rfl ?_
  obtain ⟨r3, h_r3, h⟩ := obd h
  refine rcV (rest := []) X hKK hP 2 (zX4_node l D cI cC q n d lb xd xl wi sl kp ct gd gl ln ch x1 (iI 2) r3 h_r3) gL_node_X4_node rfl rfl rfl hdX4_node ⟨Nat.le_of_ble_eq_true rfl, Nat.le_of_ble_eq_true rfl⟩ [0, 1, 2, 3, 4, 5, 6, 7, 8, 9, 10, 11, 12] rfl 0 rfl rfl rfl hl.1 rfl (Nat.le_of_ble_eq_true rfl) dL_node_23 ⟨Nat.zero_le _, Nat.zero_le _⟩ ?_
  refine lv_istore (lv' := [(5, .int r3), (4, .int r2), (3, .int r1), (2, .int (mX4_size n)), (0, .ref (q 0)), (1, .int x1)]) hx hb dL_node_26 hl (by decide) rfl (fun ls hl => ?_)
  refine lv_aload_n hx hb dL_node_28 rfl (lv_at hl 4 rfl) ?_
  refine lv_iload_n hx hb dL_node_29 rfl (lv_at hl 5 rfl) ?_
  refine lv_iconst (v := iI 3) hx hb dL_node_30 rfl ?_
  obtain ⟨r4, h_r4, h⟩ := obd h
  refine rcV (rest := []) X hKK hP 2 (zX4_node l D cI cC q n d lb xd xl wi sl kp ct gd gl ln ch x1 (iI 3) r4 h_r4) gL_node_X4_node rfl rfl rfl hdX4_node ⟨Nat.le_of_ble_eq_true rfl, Nat.le_of_ble_eq_true rfl⟩ [0, 1, 2, 3, 4, 5, 6, 7, 8, 9, 10, 11, 12] rfl 0 rfl rfl rfl hl.1 rfl (Nat.le_of_ble_eq_true rfl) dL_node_31 ⟨Nat.zero_le _, Nat.zero_le _⟩ ?_
  refine lv_istore (lv' := [(6, .int r4), (5, .int r3), (4, .int r2), (3, .int r1), (2, .int (mX4_size n)), (0, .ref (q 0)), (1, .int x1)]) hx hb dL_node_34 hl (by decide) rfl (fun ls hl => ?_)
  refine lv_aload_n hx hb dL_node_36 rfl (lv_at hl 5 rfl) ?_
  refine lv_iload_n hx hb dL_node_37 rfl (lv_at hl 6 rfl) ?_
  refine lv_iconst (v := iI 4) hx hb dL_node_38 rfl ?_
  obtain ⟨r5, h_r5, h⟩ := obd h
  refine rcV (rest := []) X hKK hP 2 (zX4_node l D cI cC q n d lb xd xl wi sl kp ct gd gl ln ch x1 (iI 4) r5 h_r5) gL_node_X4_node rfl rfl rfl hdX4_node ⟨Nat.le_of_ble_eq_true rfl, Nat.le_of_ble_eq_true rfl⟩ [0, 1, 2, 3, 4, 5, 6, 7, 8, 9, 10, 11, 12] rfl 0 rfl rfl rfl hl.1 rfl (Nat.le_of_ble_eq_true rfl) dL_node_39 ⟨Nat.zero_le _, Nat.zero_le _⟩ ?_
  refine lv_istore (lv' := [(7, .int r5), (6, .int r4), (5, .int r3), (4, .int r2), (3, .int r1), (2, .int (mX4_size n)), (0, .ref (q 0)), (1, .int x1)]) hx hb dL_node_42 hl (by decide) rfl (fun ls hl => ?_)
  refine lv_aload_n hx hb dL_node_44 rfl (lv_at hl 6 rfl) ?_
  refine lv_iload_n hx hb dL_node_45 rfl (lv_at hl 7 rfl) ?_
  refine lv_bipush (v := iI 7) hx hb dL_node_46 (by decide) ?_
  obtain ⟨r6, h_r6, h⟩ := obd h
  refine rcV (rest := []) X hKK hP 2 (zX4_node l D cI cC q n d lb xd xl wi sl kp ct gd gl ln ch x1 (iI 7) r6 h_r6) gL_node_X4_node rfl rfl rfl hdX4_node ⟨Nat.le_of_ble_eq_true rfl, Nat.le_of_ble_eq_true rfl⟩ [0, 1, 2, 3, 4, 5, 6, 7, 8, 9, 10, 11, 12] rfl 0 rfl rfl rfl hl.1 rfl (Nat.le_of_ble_eq_true rfl) dL_node_48 ⟨Nat.zero_le _, Nat.zero_le _⟩ ?_
  refine lv_istore (lv' := [(8, .int r6), (7, .int r5), (6, .int r4), (5, .int r3), (4, .int r2), (3, .int r1), (2, .int (mX4_size n)), (0, .ref (q 0)), (1, .int x1)]) hx hb dL_node_51 hl (by decide) rfl (fun ls hl => ?_)
  refine lv_aload_n hx hb dL_node_53 rfl (lv_at hl 7 rfl) ?_
  refine lv_iload_n hx hb dL_node_54 rfl (lv_at hl 8 rfl) ?_
  refine lv_bipush (v := iI 8) hx hb dL_node_55 (by decide) ?_
  obtain ⟨r7, h_r7, h⟩ := obd h
  refine rcV (rest := []) X hKK hP 2 (zX4_node l D cI cC q n d lb xd xl wi sl kp ct gd gl ln ch x1 (iI 8) r7 h_r7) gL_node_X4_node rfl rfl rfl hdX4_node ⟨Nat.le_of_ble_eq_true rfl, Nat.le_of_ble_eq_true rfl⟩ [0, 1, 2, 3, 4, 5, 6, 7, 8, 9, 10, 11, 12] rfl 0 rfl rfl rfl hl.1 rfl (Nat.le_of_ble_eq_true rfl) dL_node_57 ⟨Nat.zero_le _, Nat.zero_le _⟩ ?_
  refine lv_istore (lv' := [(9, .int r7), (8, .int r6), (7, .int r5), (6, .int r4), (5, .int r3), (4, .int r2), (3, .int r1), (2, .int (mX4_size n)), (0, .ref (q 0)), (1, .int x1)]) hx hb dL_node_60 hl (by decide) rfl (fun ls hl => ?_)
  refine lv_iconst (v := iI 1) hx hb dL_node_62 rfl ?_
  refine lv_istore (lv' := [(10, .int (iI 1)), (9, .int r7), (8, .int r6), (7, .int r5), (6, .int r4), (5, .int r3), (4, .int r2), (3, .int r1), (2, .int (mX4_size n)), (0, .ref (q 0)), (1, .int x1)]) hx hb dL_node_63 hl (by decide) rfl (fun ls hl => ?_)
  refine lv_iload hx hb dL_node_65 (lv_at hl 5 rfl) ?_
  refine lv_if_ne (tgt := 74) hx hb dL_node_67 (by decide) (fun c8 => ?_) (fun c8 => ?_)
  · replace h := ifn c8 h
    refine lv_iconst (v := iI 0) hx hb dL_node_74 rfl ?_
    exact kL_node_75 X hKK hP x1 (mX4_size n) r1 r2 r3 r4 r5 r6 r7 (iI 1) (iI 0) ls (lv_sub hl [9, 10, 8, 7, 6, 5, 4, 3, 2, 1, 0] rfl) h
  · replace h := ifp c8 h
    refine lv_iconst (v := iI 1) hx hb dL_node_70 rfl ?_
    refine lv_goto (tgt := 75) hx hb dL_node_71 (by decide) ?_
    exact kL_node_75 X hKK hP x1 (mX4_size n) r1 r2 r3 r4 r5 r6 r7 (iI 1) (iI 1) ls (lv_sub hl [9, 10, 8, 7, 6, 5, 4, 3, 2, 1, 0] rfl) h
def mL_two_271 (rec : Int32 → (Nat → Int32) → (Nat → Int32) → Int32 → Int32 → Int32 → Int32 → Int32 → Int32 → Option (Int32)) (n : Int32) (d : Nat → Int32) (lb : Nat → Int32) (x1 : Int32) (x2 : Int32) (x3 : Int32) (x5 : Int32) (x6 : Int32) (x7 : Int32) (x9 : Int32) : Option (Int32) := ((mX4_way n d x2 x1 ((x5 + x6) - x7)).bind fun r45 => (if r45 = x9 then rec n d lb x1 x2 x3 x5 x6 (x7 + iI 1) else none))
def mL_two_600 (n : Int32) (d : Nat → Int32) (lb : Nat → Int32) (x1 : Int32) (x3 : Int32) (x8 : Int32) (y0 : Int32) (y1 : Int32) : Option (Int32) := (if y1 = y0 then ((mX4_ancestorAt n d x1 (x8 + (iI 1))).bind fun r79 => (if r79 = (iI (-2)) then ((mX4_level n d (iI (-1)) (iI 0)).bind fun r81 => (if r81 = (iI (-2)) then ((mX4_level n d (iI 0) (iI (-2))).bind fun r83 => (if r83 = (iI (-2)) then ((mX4_level n d x3 (iI (-1))).bind fun r85 => (if r85 = 0 then some (iI 1) else none)) else none)) else none)) else none)) else none)
def mL_two_571 (n : Int32) (d : Nat → Int32) (lb : Nat → Int32) (x1 : Int32) (x3 : Int32) (x8 : Int32) (x10 : Int32) (y0 : Int32) (y1 : Int32) : Option (Int32) := (if y1 = y0 then ((mX4_neighbour n d x1 (iI 3)).bind fun r75 => (if x10 ≤ 0 then mL_two_600 n d lb x1 x3 x8 (iI (-5)) r75 else ((mX4_level n d x8 (x10 - (iI 1))).bind fun r77 => mL_two_600 n d lb x1 x3 x8 r77 r75))) else none)
def mL_two_481 : Nat → Int32 → (Nat → Int32) → (Nat → Int32) → Int32 → Int32 → Int32 → Int32 → Int32 → Int32 → Int32 → Int32 → Option (Int32)
  | 0, _, _, _, _, _, _, _, _, _, _, _ => none
  | f + 1, n, d, lb, x1, x3, x8, x9, x10, x11, x12, x13 => (if x11 ≤ x13 then (if x12 = 0 then none else (if x9 ≤ x10 then none else ((mX4_level n d x8 x9).bind fun r66 => (if r66 = (iI (-5)) then ((mX4_neighbour n d x1 (iI 2)).bind fun r68 => (if x9 ≤ (x10 + (iI 1)) then mL_two_571 n d lb x1 x3 x8 x10 (iI (-5)) r68 else ((mX4_level n d x8 (x10 + (iI 1))).bind fun r70 => mL_two_571 n d lb x1 x3 x8 x10 r70 r68))) else none)))) else (if x12 = 0 then none else ((mX4_node n d lb x13 (iI 2)).bind fun r72 => (if r72 ≤ 0 then none else mL_two_481 f n d lb x1 x3 x8 x9 x10 x11 (iI 1) (x13 + iI 1)))))
def mL_two_474 (n : Int32) (d : Nat → Int32) (lb : Nat → Int32) (x1 : Int32) (x3 : Int32) (x8 : Int32) (x9 : Int32) (x10 : Int32) (x11 : Int32) (y0 : Int32) : Option (Int32) := mL_two_481 FU n d lb x1 x3 x8 x9 x10 x11 y0 (x1 + (iI 1))
def mL_two_469 (n : Int32) (d : Nat → Int32) (lb : Nat → Int32) (x1 : Int32) (x3 : Int32) (x8 : Int32) (x9 : Int32) (x10 : Int32) (x11 : Int32) : Option (Int32) := mL_two_474 n d lb x1 x3 x8 x9 x10 x11 (iI 1)
def mL_two_387 (n : Int32) (d : Nat → Int32) (lb : Nat → Int32) (x1 : Int32) (x3 : Int32) (x8 : Int32) (x9 : Int32) (x10 : Int32) : Option (Int32) := ((mX4_neighbour n d x1 (iI 4)).bind fun r50 => (if r50 = (iI (-5)) then ((mX4_node n d lb x1 (iI 3)).bind fun r59 => (if r59 = (x3 - x1) then ((mX4_node n d lb x1 (iI 2)).bind fun r61 => (if r61 = 0 then mL_two_474 n d lb x1 x3 x8 x9 x10 r50 (iI 1) else none)) else none)) else (if r50 ≤ x1 then none else ((mX4_node n d lb r50 (iI 2)).bind fun r53 => (if r53 = 0 then ((mX4_node n d lb x1 (iI 2)).bind fun r55 => (if r55 = 0 then mL_two_469 n d lb x1 x3 x8 x9 x10 r50 else ((mX4_node n d lb x1 (iI 3)).bind fun r57 => (if (x1 + r57) ≤ r50 then none else mL_two_469 n d lb x1 x3 x8 x9 x10 r50)))) else none)))))
def mL_two_363 : Nat → Int32 → (Nat → Int32) → (Nat → Int32) → Int32 → Int32 → Int32 → Int32 → Int32 → Option (Int32)
  | 0, _, _, _, _, _, _, _, _ => none
  | f + 1, n, d, lb, x1, x3, x8, x9, x10 => ((mX4_level n d x8 x10).bind fun r47 => (if r47 = x1 then mL_two_387 n d lb x1 x3 x8 x9 x10 else (if x3 ≤ x10 then mL_two_387 n d lb x1 x3 x8 x9 x10 else mL_two_363 f n d lb x1 x3 x8 x9 (x10 + iI 1))))
def mL_two_309 : Nat → Int32 → (Nat → Int32) → (Nat → Int32) → Int32 → Int32 → Int32 → Int32 → Option (Int32)
  | 0, _, _, _, _, _, _, _ => none
  | f + 1, n, d, lb, x1, x3, x7, x8 => (if x8 < 0 then ((mX4_node n d lb x1 (iI 0)).bind fun r40 => ((mX4_level n d r40 (iI (-1))).bind fun r41 => mL_two_363 FU n d lb x1 x3 r40 r41 (iI 0))) else ((mX4_ancestorAt n d x1 x8).bind fun r42 => (if r42 = x7 then ((mX4_node n d lb x7 (iI 1)).bind fun r44 => mL_two_309 f n d lb x1 x3 r44 (x8 + iI (-1))) else none)))
def mL_two_215 : Nat → Int32 → (Nat → Int32) → (Nat → Int32) → Int32 → Int32 → Int32 → Int32 → Int32 → Int32 → Option (Int32)
  | 0, _, _, _, _, _, _, _, _, _ => none
  | f + 1, n, d, lb, x1, x2, x3, x5, x6, x7 => (if (x5 + x6) < x7 then ((mX4_node n d lb x1 (iI 0)).bind fun r32 => mL_two_309 FU n d lb x1 x3 x1 r32) else ((mX4_way n d x1 x2 (x7 - (iI 1))).bind fun r33 => ((mX4_way n d x1 x2 x7).bind fun r34 => ((mX4_node n d lb r33 (iI 1)).bind fun r35 => (if r35 = r34 then mL_two_271 (mL_two_215 f) n d lb x1 x2 x3 x5 x6 x7 r34 else ((mX4_node n d lb r34 (iI 1)).bind fun r37 => (if r37 = r33 then mL_two_271 (mL_two_215 f) n d lb x1 x2 x3 x5 x6 x7 r34 else none)))))))
def mL_two_212 (n : Int32) (d : Nat → Int32) (lb : Nat → Int32) (x1 : Int32) (x2 : Int32) (x3 : Int32) (x5 : Int32) (x6 : Int32) : Option (Int32) := mL_two_215 FU n d lb x1 x2 x3 x5 x6 (iI 1)
def mL_two (n : Int32) (d : Nat → Int32) (lb : Nat → Int32) (x1 : Int32) (x2 : Int32) : Option (Int32) := ((mX4_common n d x1 x2).bind fun r1 => ((mX4_node n d lb x1 (iI 0)).bind fun r2 => ((mX4_node n d lb r1 (iI 0)).bind fun r3 => ((mX4_node n d lb x2 (iI 0)).bind fun r4 => ((mX4_node n d lb r1 (iI 0)).bind fun r5 => ((mX4_common n d x2 x1).bind fun r6 => (if r6 = r1 then ((mX4_node n d lb r1 (iI 0)).bind fun r8 => ((mX4_ancestorAt n d x1 r8).bind fun r9 => (if r9 = r1 then ((mX4_node n d lb r1 (iI 0)).bind fun r11 => ((mX4_ancestorAt n d x2 r11).bind fun r12 => (if r12 = r1 then ((mX4_way n d x1 x2 (iI (-1))).bind fun r14 => (if r14 = ((r2 - r3) + (r4 - r5)) then ((mX4_way n d x1 x2 (r2 - r3)).bind fun r16 => (if r16 = r1 then ((mX4_way n d x1 x2 (iI 0)).bind fun r18 => (if r18 = x1 then ((mX4_way n d x1 x2 ((r2 - r3) + (r4 - r5))).bind fun r20 => (if r20 = x2 then ((mX4_way n d x1 x2 (((r2 - r3) + (r4 - r5)) + (iI 1))).bind fun r22 => (if r22 = (iI (-5)) then ((mX4_way n d x1 x2 (iI (-2))).bind fun r24 => (if r24 = (iI (-2)) then (if (r2 - r3) ≤ 0 then mL_two_212 n d lb x1 x2 (mX4_size n) (r2 - r3) (r4 - r5) else (if (r4 - r5) ≤ 0 then mL_two_212 n d lb x1 x2 (mX4_size n) (r2 - r3) (r4 - r5) else ((mX4_way n d x1 x2 ((r2 - r3) - (iI 1))).bind fun r28 => ((mX4_way n d x1 x2 ((r2 - r3) + (iI 1))).bind fun r29 => (if r28 = r29 then none else mL_two_212 n d lb x1 x2 (mX4_size n) (r2 - r3) (r4 - r5)))))) else none)) else none)) else none)) else none)) else none)) else none)) else none))) else none))) else none)))))))
theorem hdL_two : yL_two.cls = RL ∧ yL_two.cls ≠ "java/lang/invoke/MethodHandle" ∧ yL_two.cls ≠ "java/lang/invoke/VarHandle" ∧ (parseMethodDescriptor yL_two.desc).map (fun d => d.parameters.length) = some 3 := by decide +kernel
abbrev rmL_two : Room := { frames := 6, cells := 0, slots := 0, locals := 133 }
set_option maxHeartbeats 4000000 in
set_option maxRecDepth 100000 in
theorem kL_two_271 {p : Program} {l : Launch} {e : Env} {s : State} {m : MethodId} {args : Array Value} {below : List Frame} {meth : Method} {c : Code} {D : va_G} {cI cC : ClassId} {q : Nat → Nat} {n : Int32} {d : Nat → Int32} {lb : Nat → Int32} {xd : Nat → Int32} {xl : Nat → Int32} {wi : Int32} {sl : Int32} {kp : Int32} {ct : Nat → Int32} {gd : Nat → Int32} {gl : Nat → Int32} {ln : Int32} {ch : Nat → Int32} {r : Int32} (X : CX p s m args meth c wsL_two cL_two 14 (some .boolean) RL) (hKK : KK D cI cC s) (hP : va_P D vwCl (wA cI q n d lb xd xl wi sl kp ct gd gl ln ch) s.heap) (rec : Int32 → (Nat → Int32) → (Nat → Int32) → Int32 → Int32 → Int32 → Int32 → Int32 → Int32 → Option (Int32)) (hrec : ∀ (x1 : Int32) (x2 : Int32) (x3 : Int32) (x5 : Int32) (x6 : Int32) (x7 : Int32) (ls : Array Slot), lv_has ls 14 [(0, .ref (q 0)), (1, .int x1), (2, .int x2), (3, .int x3), (5, .int x5), (6, .int x6), (7, .int x7)] → rec n d lb x1 x2 x3 x5 x6 x7 = some r → W p l e rmL_two s m args below meth c s.heap [] 0 0 (MQ below (rdQ r) args s 0 0 (fun _ => False)) (F0 m 215 ls [])) : ∀ (x1 : Int32) (x2 : Int32) (x3 : Int32) (x5 : Int32) (x6 : Int32) (x7 : Int32) (x9 : Int32) (ls : Array Slot), lv_has ls 14 [(0, .ref (q 0)), (1, .int x1), (2, .int x2), (3, .int x3), (5, .int x5), (6, .int x6), (7, .int x7), (9, .int x9)] → mL_two_271 rec n d lb x1 x2 x3 x5 x6 x7 x9 = some r → W p l e rmL_two s m args below meth c s.heap [] 0 0 (MQ below (rdQ r) args s 0 0 (fun _ => False)) (F0 m 271 ls []) := by
  have hx := X.1
  have hb := X.2.1
  intro x1 x2 x3 x5 x6 x7 x9 ls hl h
  unfold mL_two_271 at h
  refine lv_aload_n hx hb dL_two_271 rfl (lv_at hl 0 rfl) ?_
  refine lv_iload_n hx hb dL_two_272 rfl (lv_at hl 2 rfl) ?_
  refine lv_iload_n hx hb dL_two_273 rfl (lv_at hl 1 rfl) ?_
  refine lv_iload hx hb dL_two_274 (lv_at hl 4 rfl) ?_
  refine lv_iload hx hb dL_two_276 (lv_at hl 5 rfl) ?_
  refine lv_iadd hx hb dL_two_278 ?_
  refine lv_iload hx hb dL_two_279 (lv_at hl 6 rfl) ?_
  refine lv_isub hx hb dL_two_281 ?_
  obtain ⟨r45, h_r45, h⟩ := obd h
  refine rcV (rest := []) X hKK hP 3 (zX4_way l D cI cC q n d lb xd xl wi sl kp ct gd gl ln ch x2 x1 ((x5 + x6) - x7) r45 h_r45) gL_two_X4_way rfl rfl rfl hdX4_way ⟨Nat.le_of_ble_eq_true rfl, Nat.le_of_ble_eq_true rfl⟩ [0, 1, 2, 3, 4, 5, 6, 7, 8, 9, 10, 11, 12] rfl 0 rfl rfl rfl hl.1 rfl (Nat.le_of_ble_eq_true rfl) dL_two_282 ⟨Nat.zero_le _, Nat.zero_le _⟩ ?_
  refine lv_iload hx hb dL_two_285 (lv_at hl 7 rfl) ?_
  refine lv_icmp_eq (tgt := 292) hx hb dL_two_287 (by decide) (fun c46 => ?_) (fun c46 => ?_)
  · replace h := ifp c46 h
    refine lv_iinc (v := (x7 + iI 1)) (lv' := [(7, .int (x7 + iI 1)), (0, .ref (q 0)), (1, .int x1), (2, .int x2), (3, .int x3), (5, .int x5), (6, .int x6), (9, .int x9)]) hx hb dL_two_292 hl (k := 6) rfl rfl (by decide) rfl (fun ls hl => ?_)
    refine lv_goto (tgt := 215) hx hb dL_two_295 (by decide) ?_
    exact hrec x1 x2 x3 x5 x6 (x7 + iI 1) ls (lv_sub hl [1, 2, 3, 4, 5, 6, 0] rfl) h
  · replace h := ifn c46 h
    cases h
set_option maxHeartbeats 4000000 in
set_option maxRecDepth 100000 in
theorem kL_two_600 {p : Program} {l : Launch} {e : Env} {s : State} {m : MethodId} {args : Array Value} {below : List Frame} {meth : Method} {c : Code} {D : va_G} {cI cC : ClassId} {q : Nat → Nat} {n : Int32} {d : Nat → Int32} {lb : Nat → Int32} {xd : Nat → Int32} {xl : Nat → Int32} {wi : Int32} {sl : Int32} {kp : Int32} {ct : Nat → Int32} {gd : Nat → Int32} {gl : Nat → Int32} {ln : Int32} {ch : Nat → Int32} {r : Int32} (X : CX p s m args meth c wsL_two cL_two 14 (some .boolean) RL) (hKK : KK D cI cC s) (hP : va_P D vwCl (wA cI q n d lb xd xl wi sl kp ct gd gl ln ch) s.heap) : ∀ (x1 : Int32) (x3 : Int32) (x8 : Int32) (y0 : Int32) (y1 : Int32) (ls : Array Slot), lv_has ls 14 [(0, .ref (q 0)), (1, .int x1), (3, .int x3), (8, .int x8)] → mL_two_600 n d lb x1 x3 x8 y0 y1 = some r → W p l e rmL_two s m args below meth c s.heap [] 0 0 (MQ below (rdQ r) args s 0 0 (fun _ => False)) (F0 m 600 ls [.int y0, .int y1]) := by
  have hx := X.1
  have hb := X.2.1
  intro x1 x3 x8 y0 y1 ls hl h
  unfold mL_two_600 at h
  refine lv_icmp_ne (tgt := 653) hx hb dL_two_600 (by decide) (fun c78 => ?_) (fun c78 => ?_)
  · replace h := ifn c78 h
    cases h
  · replace h := ifp c78 h
    refine lv_aload_n hx hb dL_two_603 rfl (lv_at hl 0 rfl) ?_
    refine lv_iload_n hx hb dL_two_604 rfl (lv_at hl 1 rfl) ?_
    refine lv_iload hx hb dL_two_605 (lv_at hl 3 rfl) ?_
    refine lv_iconst (v := iI 1) hx hb dL_two_607 rfl ?_
    refine lv_iadd hx hb dL_two_608 ?_
    obtain ⟨r79, h_r79, h⟩ := obd h
    refine rcV (rest := []) X hKK hP 2 (zX4_ancestorAt l D cI cC q n d lb xd xl wi sl kp ct gd gl ln ch x1 (x8 + (iI 1)) r79 h_r79) gL_two_X4_ancestorAt rfl rfl rfl hdX4_ancestorAt ⟨Nat.le_of_ble_eq_true rfl, Nat.le_of_ble_eq_true rfl⟩ [0, 1, 2, 3, 4, 5, 6, 7, 8, 9, 10, 11, 12] rfl 0 rfl rfl rfl hl.1 rfl (Nat.le_of_ble_eq_true rfl) dL_two_609 ⟨Nat.zero_le _, Nat.zero_le _⟩ ?_
    refine lv_bipush (v := iI (-2)) hx hb dL_two_612 (by decide) ?_
    refine lv_icmp_ne (tgt := 653) hx hb dL_two_614 (by decide) (fun c80 => ?_) (fun c80 => ?_)
    · replace h := ifn c80 h
      cases h
    · replace h := ifp c80 h
      refine lv_aload_n hx hb dL_two_617 rfl (lv_at hl 0 rfl) ?_
      refine lv_iconst (v := iI (-1)) hx hb dL_two_618 rfl ?_
      refine lv_iconst (v := iI 0) hx hb dL_two_619 rfl ?_
      obtain ⟨r81, h_r81, h⟩ := obd h
      refine rcV (rest := []) X hKK hP 2 (zX4_level l D cI cC q n d lb xd xl wi sl kp ct gd gl ln ch (iI (-1)) (iI 0) r81 h_r81) gL_two_X4_level rfl rfl rfl hdX4_level ⟨Nat.le_of_ble_eq_true rfl, Nat.le_of_ble_eq_true rfl⟩ [0, 1, 2, 3, 4, 5, 6, 7, 8, 9, 10, 11, 12] rfl 0 rfl rfl rfl hl.1 rfl (Nat.le_of_ble_eq_true rfl) dL_two_620 ⟨Nat.zero_le _, Nat.zero_le _⟩ ?_
      refine lv_bipush (v := iI (-2)) hx hb dL_two_623 (by decide) ?_
      refine lv_icmp_ne (tgt := 653) hx hb dL_two_625 (by decide) (fun c82 => ?_) (fun c82 => ?_)
      · replace h := ifn c82 h
        cases h
      · replace h := ifp c82 h
        refine lv_aload_n hx hb dL_two_628 rfl (lv_at hl 0 rfl) ?_
        refine lv_iconst (v := iI 0) hx hb dL_two_629 rfl ?_
        refine lv_bipush (v := iI (-2)) hx hb dL_two_630 (by decide) ?_
        obtain ⟨r83, h_r83, h⟩ := obd h
        refine rcV (rest := []) X hKK hP 2 (zX4_level l D cI cC q n d lb xd xl wi sl kp ct gd gl ln ch (iI 0) (iI (-2)) r83 h_r83) gL_two_X4_level rfl rfl rfl hdX4_level ⟨Nat.le_of_ble_eq_true rfl, Nat.le_of_ble_eq_true rfl⟩ [0, 1, 2, 3, 4, 5, 6, 7, 8, 9, 10, 11, 12] rfl 0 rfl rfl rfl hl.1 rfl (Nat.le_of_ble_eq_true rfl) dL_two_632 ⟨Nat.zero_le _, Nat.zero_le _⟩ ?_
        refine lv_bipush (v := iI (-2)) hx hb dL_two_635 (by decide) ?_
        refine lv_icmp_ne (tgt := 653) hx hb dL_two_637 (by decide) (fun c84 => ?_) (fun c84 => ?_)
        · replace h := ifn c84 h
          cases h
        · replace h := ifp c84 h
          refine lv_aload_n hx hb dL_two_640 rfl (lv_at hl 0 rfl) ?_
          refine lv_iload_n hx hb dL_two_641 rfl (lv_at hl 2 rfl) ?_
          refine lv_iconst (v := iI (-1)) hx hb dL_two_642 rfl ?_
          obtain ⟨r85, h_r85, h⟩ := obd h
          refine rcV (rest := []) X hKK hP 2 (zX4_level l D cI cC q n d lb xd xl wi sl kp ct gd gl ln ch x3 (iI (-1)) r85 h_r85) gL_two_X4_level rfl rfl rfl hdX4_level ⟨Nat.le_of_ble_eq_true rfl, Nat.le_of_ble_eq_true rfl⟩ [0, 1, 2, 3, 4, 5, 6, 7, 8, 9, 10, 11, 12] rfl 0 rfl rfl rfl hl.1 rfl (Nat.le_of_ble_eq_true rfl) dL_two_643 ⟨Nat.zero_le _, Nat.zero_le _⟩ ?_
          refine lv_if_ne (tgt := 653) hx hb dL_two_646 (by decide) (fun c86 => ?_) (fun c86 => ?_)
          · replace h := ifn c86 h
            cases h
          · replace h := ifp c86 h
            refine lv_iconst (v := iI 1) hx hb dL_two_649 rfl ?_
            refine lv_goto (tgt := 654) hx hb dL_two_650 (by decide) ?_
            exact rd_ret X rfl (Option.some.inj h) dL_two_654
set_option maxHeartbeats 4000000 in
set_option maxRecDepth 100000 in
theorem kL_two_571 {p : Program} {l : Launch} {e : Env} {s : State} {m : MethodId} {args : Array Value} {below : List Frame} {meth : Method} {c : Code} {D : va_G} {cI cC : ClassId} {q : Nat → Nat} {n : Int32} {d : Nat → Int32} {lb : Nat → Int32} {xd : Nat → Int32} {xl : Nat → Int32} {wi : Int32} {sl : Int32} {kp : Int32} {ct : Nat → Int32} {gd : Nat → Int32} {gl : Nat → Int32} {ln : Int32} {ch : Nat → Int32} {r : Int32} (X : CX p s m args meth c wsL_two cL_two 14 (some .boolean) RL) (hKK : KK D cI cC s) (hP : va_P D vwCl (wA cI q n d lb xd xl wi sl kp ct gd gl ln ch) s.heap) : ∀ (x1 : Int32) (x3 : Int32) (x8 : Int32) (x10 : Int32) (y0 : Int32) (y1 : Int32) (ls : Array Slot), lv_has ls 14 [(0, .ref (q 0)), (1, .int x1), (3, .int x3), (8, .int x8), (10, .int x10)] → mL_two_571 n d lb x1 x3 x8 x10 y0 y1 = some r → W p l e rmL_two s m args below meth c s.heap [] 0 0 (MQ below (rdQ r) args s 0 0 (fun _ => False)) (F0 m 571 ls [.int y0, .int y1]) := by
  have hx := X.1
  have hb := X.2.1
  intro x1 x3 x8 x10 y0 y1 ls hl h
  unfold mL_two_571 at h
  refine lv_icmp_ne (tgt := 653) hx hb dL_two_571 (by decide) (fun c74 => ?_) (fun c74 => ?_)
  · replace h := ifn c74 h
    cases h
  · replace h := ifp c74 h
    refine lv_aload_n hx hb dL_two_574 rfl (lv_at hl 0 rfl) ?_
    refine lv_iload_n hx hb dL_two_575 rfl (lv_at hl 1 rfl) ?_
    refine lv_iconst (v := iI 3) hx hb dL_two_576 rfl ?_
    obtain ⟨r75, h_r75, h⟩ := obd h
    refine rcV (rest := []) X hKK hP 2 (zX4_neighbour l D cI cC q n d lb xd xl wi sl kp ct gd gl ln ch x1 (iI 3) r75 h_r75) gL_two_X4_neighbour rfl rfl rfl hdX4_neighbour ⟨Nat.le_of_ble_eq_true rfl, Nat.le_of_ble_eq_true rfl⟩ [0, 1, 2, 3, 4, 5, 6, 7, 8, 9, 10, 11, 12] rfl 0 rfl rfl rfl hl.1 rfl (Nat.le_of_ble_eq_true rfl) dL_two_577 ⟨Nat.zero_le _, Nat.zero_le _⟩ ?_
    refine lv_iload hx hb dL_two_580 (lv_at hl 4 rfl) ?_
    refine lv_if_le (tgt := 598) hx hb dL_two_582 (by decide) (fun c76 => ?_) (fun c76 => ?_)
    · replace h := ifp c76 h
      refine lv_bipush (v := iI (-5)) hx hb dL_two_598 (by decide) ?_
      exact kL_two_600 X hKK hP x1 x3 x8 (iI (-5)) r75 ls (lv_sub hl [0, 1, 2, 3] rfl) h
    · replace h := ifn c76 h
      refine lv_aload_n hx hb dL_two_585 rfl (lv_at hl 0 rfl) ?_
      refine lv_iload hx hb dL_two_586 (lv_at hl 3 rfl) ?_
      refine lv_iload hx hb dL_two_588 (lv_at hl 4 rfl) ?_
      refine lv_iconst (v := iI 1) hx hb dL_two_590 rfl ?_
      refine lv_isub hx hb dL_two_591 ?_
      obtain ⟨r77, h_r77, h⟩ := obd h
      refine rcV (rest := [.int r75]) X hKK hP 2 (zX4_level l D cI cC q n d lb xd xl wi sl kp ct gd gl ln ch x8 (x10 - (iI 1)) r77 h_r77) gL_two_X4_level rfl rfl rfl hdX4_level ⟨Nat.le_of_ble_eq_true rfl, Nat.le_of_ble_eq_true rfl⟩ [0, 1, 2, 3, 4, 5, 6, 7, 8, 9, 10, 11, 12] rfl 0 rfl rfl rfl hl.1 rfl (Nat.le_of_ble_eq_true rfl) dL_two_592 ⟨Nat.zero_le _, Nat.zero_le _⟩ ?_
      refine lv_goto (tgt := 600) hx hb dL_two_595 (by decide) ?_
      exact kL_two_600 X hKK hP x1 x3 x8 r77 r75 ls (lv_sub hl [0, 1, 2, 3] rfl) h
set_option maxHeartbeats 4000000 in
set_option maxRecDepth 100000 in
theorem kL_two_481 {p : Program} {l : Launch} {e : Env} {s : State} {m : MethodId} {args : Array Value} {below : List Frame} {meth : Method} {c : Code} {D : va_G} {cI cC : ClassId} {q : Nat → Nat} {n : Int32} {d : Nat → Int32} {lb : Nat → Int32} {xd : Nat → Int32} {xl : Nat → Int32} {wi : Int32} {sl : Int32} {kp : Int32} {ct : Nat → Int32} {gd : Nat → Int32} {gl : Nat → Int32} {ln : Int32} {ch : Nat → Int32} {r : Int32} (X : CX p s m args meth c wsL_two cL_two 14 (some .boolean) RL) (hKK : KK D cI cC s) (hP : va_P D vwCl (wA cI q n d lb xd xl wi sl kp ct gd gl ln ch) s.heap) : ∀ (f : Nat), ∀ (x1 : Int32) (x3 : Int32) (x8 : Int32) (x9 : Int32) (x10 : Int32) (x11 : Int32) (x12 : Int32) (x13 : Int32) (ls : Array Slot), lv_has ls 14 [(0, .ref (q 0)), (1, .int x1), (3, .int x3), (8, .int x8), (9, .int x9), (10, .int x10), (11, .int x11), (12, .int x12), (13, .int x13)] → mL_two_481 f n d lb x1 x3 x8 x9 x10 x11 x12 x13 = some r → W p l e rmL_two s m args below meth c s.heap [] 0 0 (MQ below (rdQ r) args s 0 0 (fun _ => False)) (F0 m 481 ls []) := by
  have hx := X.1
  have hb := X.2.1
  intro f
  induction f with
  | zero =>
    intro x1 x3 x8 x9 x10 x11 x12 x13 ls hl h
    exact absurd h (by unfold mL_two_481; intro h; cases h)
  | succ f ih =>
    intro x1 x3 x8 x9 x10 x11 x12 x13 ls hl h
    rw [mL_two_481] at h
    refine lv_iload hx hb dL_two_481 (lv_at hl 8 rfl) ?_
    refine lv_iload hx hb dL_two_483 (lv_at hl 6 rfl) ?_
    refine lv_icmp_ge (tgt := 516) hx hb dL_two_485 (by decide) (fun c63 => ?_) (fun c63 => ?_)
    · replace h := ifp c63 h
      refine lv_iload hx hb dL_two_516 (lv_at hl 7 rfl) ?_
      refine lv_if_eq (tgt := 653) hx hb dL_two_518 (by decide) (fun c64 => ?_) (fun c64 => ?_)
      · replace h := ifp c64 h
        cases h
      · replace h := ifn c64 h
        refine lv_iload hx hb dL_two_521 (lv_at hl 5 rfl) ?_
        refine lv_iload hx hb dL_two_523 (lv_at hl 4 rfl) ?_
        refine lv_icmp_ge (tgt := 653) hx hb dL_two_525 (by decide) (fun c65 => ?_) (fun c65 => ?_)
        · replace h := ifp c65 h
          cases h
        · replace h := ifn c65 h
          refine lv_aload_n hx hb dL_two_528 rfl (lv_at hl 0 rfl) ?_
          refine lv_iload hx hb dL_two_529 (lv_at hl 3 rfl) ?_
          refine lv_iload hx hb dL_two_531 (lv_at hl 4 rfl) ?_
          obtain ⟨r66, h_r66, h⟩ := obd h
          refine rcV (rest := []) X hKK hP 2 (zX4_level l D cI cC q n d lb xd xl wi sl kp ct gd gl ln ch x8 x9 r66 h_r66) gL_two_X4_level rfl rfl rfl hdX4_level ⟨Nat.le_of_ble_eq_true rfl, Nat.le_of_ble_eq_true rfl⟩ [0, 1, 2, 3, 4, 5, 6, 7, 8, 9, 10, 11, 12] rfl 0 rfl rfl rfl hl.1 rfl (Nat.le_of_ble_eq_true rfl) dL_two_533 ⟨Nat.zero_le _, Nat.zero_le _⟩ ?_
          refine lv_bipush (v := iI (-5)) hx hb dL_two_536 (by decide) ?_
          refine lv_icmp_ne (tgt := 653) hx hb dL_two_538 (by decide) (fun c67 => ?_) (fun c67 => ?_)
          · replace h := ifn c67 h
            cases h
          · replace h := ifp c67 h
            refine lv_aload_n hx hb dL_two_541 rfl (lv_at hl 0 rfl) ?_
            refine lv_iload_n hx hb dL_two_542 rfl (lv_at hl 1 rfl) ?_
            refine lv_iconst (v := iI 2) hx hb dL_two_543 rfl ?_
            obtain ⟨r68, h_r68, h⟩ := obd h
            refine rcV (rest := []) X hKK hP 2 (zX4_neighbour l D cI cC q n d lb xd xl wi sl kp ct gd gl ln ch x1 (iI 2) r68 h_r68) gL_two_X4_neighbour rfl rfl rfl hdX4_neighbour ⟨Nat.le_of_ble_eq_true rfl, Nat.le_of_ble_eq_true rfl⟩ [0, 1, 2, 3, 4, 5, 6, 7, 8, 9, 10, 11, 12] rfl 0 rfl rfl rfl hl.1 rfl (Nat.le_of_ble_eq_true rfl) dL_two_544 ⟨Nat.zero_le _, Nat.zero_le _⟩ ?_
            refine lv_iload hx hb dL_two_547 (lv_at hl 5 rfl) ?_
            refine lv_iconst (v := iI 1) hx hb dL_two_549 rfl ?_
            refine lv_iadd hx hb dL_two_550 ?_
            refine lv_iload hx hb dL_two_551 (lv_at hl 4 rfl) ?_
            refine lv_icmp_ge (tgt := 569) hx hb dL_two_553 (by decide) (fun c69 => ?_) (fun c69 => ?_)
            · replace h := ifp c69 h
              refine lv_bipush (v := iI (-5)) hx hb dL_two_569 (by decide) ?_
              exact kL_two_571 X hKK hP x1 x3 x8 x10 (iI (-5)) r68 ls (lv_sub hl [0, 1, 2, 3, 5] rfl) h
            · replace h := ifn c69 h
              refine lv_aload_n hx hb dL_two_556 rfl (lv_at hl 0 rfl) ?_
              refine lv_iload hx hb dL_two_557 (lv_at hl 3 rfl) ?_
              refine lv_iload hx hb dL_two_559 (lv_at hl 5 rfl) ?_
              refine lv_iconst (v := iI 1) hx hb dL_two_561 rfl ?_
              refine lv_iadd hx hb dL_two_562 ?_
              obtain ⟨r70, h_r70, h⟩ := obd h
              refine rcV (rest := [.int r68]) X hKK hP 2 (zX4_level l D cI cC q n d lb xd xl wi sl kp ct gd gl ln ch x8 (x10 + (iI 1)) r70 h_r70) gL_two_X4_level rfl rfl rfl hdX4_level ⟨Nat.le_of_ble_eq_true rfl, Nat.le_of_ble_eq_true rfl⟩ [0, 1, 2, 3, 4, 5, 6, 7, 8, 9, 10, 11, 12] rfl 0 rfl rfl rfl hl.1 rfl (Nat.le_of_ble_eq_true rfl) dL_two_563 ⟨Nat.zero_le _, Nat.zero_le _⟩ ?_
              refine lv_goto (tgt := 571) hx hb dL_two_566 (by decide) ?_
              exact kL_two_571 X hKK hP x1 x3 x8 x10 r70 r68 ls (lv_sub hl [0, 1, 2, 3, 5] rfl) h
    · replace h := ifn c63 h
      refine lv_iload hx hb dL_two_488 (lv_at hl 7 rfl) ?_
      refine lv_if_eq (tgt := 507) hx hb dL_two_490 (by decide) (fun c71 => ?_) (fun c71 => ?_)
      · replace h := ifp c71 h
        cases h
      · replace h := ifn c71 h
        refine lv_aload_n hx hb dL_two_493 rfl (lv_at hl 0 rfl) ?_
        refine lv_iload hx hb dL_two_494 (lv_at hl 8 rfl) ?_
        refine lv_iconst (v := iI 2) hx hb dL_two_496 rfl ?_
        obtain ⟨r72, h_r72, h⟩ := obd h
        refine rcV (rest := []) X hKK hP 2 (zX4_node l D cI cC q n d lb xd xl wi sl kp ct gd gl ln ch x13 (iI 2) r72 h_r72) gL_two_X4_node rfl rfl rfl hdX4_node ⟨Nat.le_of_ble_eq_true rfl, Nat.le_of_ble_eq_true rfl⟩ [0, 1, 2, 3, 4, 5, 6, 7, 8, 9, 10, 11, 12] rfl 0 rfl rfl rfl hl.1 rfl (Nat.le_of_ble_eq_true rfl) dL_two_497 ⟨Nat.zero_le _, Nat.zero_le _⟩ ?_
        refine lv_if_le (tgt := 507) hx hb dL_two_500 (by decide) (fun c73 => ?_) (fun c73 => ?_)
        · replace h := ifp c73 h
          cases h
        · replace h := ifn c73 h
          refine lv_iconst (v := iI 1) hx hb dL_two_503 rfl ?_
          refine lv_goto (tgt := 508) hx hb dL_two_504 (by decide) ?_
          refine lv_istore (lv' := [(12, .int (iI 1)), (0, .ref (q 0)), (1, .int x1), (3, .int x3), (8, .int x8), (9, .int x9), (10, .int x10), (11, .int x11), (13, .int x13)]) hx hb dL_two_508 hl (by decide) rfl (fun ls hl => ?_)
          refine lv_iinc (v := (x13 + iI 1)) (lv' := [(13, .int (x13 + iI 1)), (12, .int (iI 1)), (0, .ref (q 0)), (1, .int x1), (3, .int x3), (8, .int x8), (9, .int x9), (10, .int x10), (11, .int x11)]) hx hb dL_two_510 hl (k := 8) rfl rfl (by decide) rfl (fun ls hl => ?_)
          refine lv_goto (tgt := 481) hx hb dL_two_513 (by decide) ?_
          exact ih x1 x3 x8 x9 x10 x11 (iI 1) (x13 + iI 1) ls (lv_sub hl [2, 3, 4, 5, 6, 7, 8, 1, 0] rfl) h
set_option maxHeartbeats 4000000 in
set_option maxRecDepth 100000 in
theorem kL_two_474 {p : Program} {l : Launch} {e : Env} {s : State} {m : MethodId} {args : Array Value} {below : List Frame} {meth : Method} {c : Code} {D : va_G} {cI cC : ClassId} {q : Nat → Nat} {n : Int32} {d : Nat → Int32} {lb : Nat → Int32} {xd : Nat → Int32} {xl : Nat → Int32} {wi : Int32} {sl : Int32} {kp : Int32} {ct : Nat → Int32} {gd : Nat → Int32} {gl : Nat → Int32} {ln : Int32} {ch : Nat → Int32} {r : Int32} (X : CX p s m args meth c wsL_two cL_two 14 (some .boolean) RL) (hKK : KK D cI cC s) (hP : va_P D vwCl (wA cI q n d lb xd xl wi sl kp ct gd gl ln ch) s.heap) : ∀ (x1 : Int32) (x3 : Int32) (x8 : Int32) (x9 : Int32) (x10 : Int32) (x11 : Int32) (y0 : Int32) (ls : Array Slot), lv_has ls 14 [(0, .ref (q 0)), (1, .int x1), (3, .int x3), (8, .int x8), (9, .int x9), (10, .int x10), (11, .int x11)] → mL_two_474 n d lb x1 x3 x8 x9 x10 x11 y0 = some r → W p l e rmL_two s m args below meth c s.heap [] 0 0 (MQ below (rdQ r) args s 0 0 (fun _ => False)) (F0 m 474 ls [.int y0]) := by
  have hx := X.1
  have hb := X.2.1
  intro x1 x3 x8 x9 x10 x11 y0 ls hl h
  unfold mL_two_474 at h
  refine lv_istore (lv' := [(12, .int y0), (0, .ref (q 0)), (1, .int x1), (3, .int x3), (8, .int x8), (9, .int x9), (10, .int x10), (11, .int x11)]) hx hb dL_two_474 hl (by decide) rfl (fun ls hl => ?_)
  refine lv_iload_n hx hb dL_two_476 rfl (lv_at hl 2 rfl) ?_
  refine lv_iconst (v := iI 1) hx hb dL_two_477 rfl ?_
  refine lv_iadd hx hb dL_two_478 ?_
  refine lv_istore (lv' := [(13, .int (x1 + (iI 1))), (12, .int y0), (0, .ref (q 0)), (1, .int x1), (3, .int x3), (8, .int x8), (9, .int x9), (10, .int x10), (11, .int x11)]) hx hb dL_two_479 hl (by decide) rfl (fun ls hl => ?_)
  exact kL_two_481 X hKK hP FU x1 x3 x8 x9 x10 x11 y0 (x1 + (iI 1)) ls (lv_sub hl [2, 3, 4, 5, 6, 7, 8, 1, 0] rfl) h
set_option maxHeartbeats 4000000 in
set_option maxRecDepth 100000 in
theorem kL_two_469 {p : Program} {l : Launch} {e : Env} {s : State} {m : MethodId} {args : Array Value} {below : List Frame} {meth : Method} {c : Code} {D : va_G} {cI cC : ClassId} {q : Nat → Nat} {n : Int32} {d : Nat → Int32} {lb : Nat → Int32} {xd : Nat → Int32} {xl : Nat → Int32} {wi : Int32} {sl : Int32} {kp : Int32} {ct : Nat → Int32} {gd : Nat → Int32} {gl : Nat → Int32} {ln : Int32} {ch : Nat → Int32} {r : Int32} (X : CX p s m args meth c wsL_two cL_two 14 (some .boolean) RL) (hKK : KK D cI cC s) (hP : va_P D vwCl (wA cI q n d lb xd xl wi sl kp ct gd gl ln ch) s.heap) : ∀ (x1 : Int32) (x3 : Int32) (x8 : Int32) (x9 : Int32) (x10 : Int32) (x11 : Int32) (ls : Array Slot), lv_has ls 14 [(0, .ref (q 0)), (1, .int x1), (3, .int x3), (8, .int x8), (9, .int x9), (10, .int x10), (11, .int x11)] → mL_two_469 n d lb x1 x3 x8 x9 x10 x11 = some r → W p l e rmL_two s m args below meth c s.heap [] 0 0 (MQ below (rdQ r) args s 0 0 (fun _ => False)) (F0 m 469 ls []) := by
  have hx := X.1
  have hb := X.2.1
  intro x1 x3 x8 x9 x10 x11 ls hl h
  unfold mL_two_469 at h
  refine lv_iconst (v := iI 1) hx hb dL_two_469 rfl ?_
  refine lv_goto (tgt := 474) hx hb dL_two_470 (by decide) ?_
  exact kL_two_474 X hKK hP x1 x3 x8 x9 x10 x11 (iI 1) ls (lv_sub hl [0, 1, 2, 3, 4, 5, 6] rfl) h
set_option maxHeartbeats 4000000 in
set_option maxRecDepth 100000 in
theorem kL_two_387 {p : Program} {l : Launch} {e : Env} {s : State} {m : MethodId} {args : Array Value} {below : List Frame} {meth : Method} {c : Code} {D : va_G} {cI cC : ClassId} {q : Nat → Nat} {n : Int32} {d : Nat → Int32} {lb : Nat → Int32} {xd : Nat → Int32} {xl : Nat → Int32} {wi : Int32} {sl : Int32} {kp : Int32} {ct : Nat → Int32} {gd : Nat → Int32} {gl : Nat → Int32} {ln : Int32} {ch : Nat → Int32} {r : Int32} (X : CX p s m args meth c wsL_two cL_two 14 (some .boolean) RL) (hKK : KK D cI cC s) (hP : va_P D vwCl (wA cI q n d lb xd xl wi sl kp ct gd gl ln ch) s.heap) : ∀ (x1 : Int32) (x3 : Int32) (x8 : Int32) (x9 : Int32) (x10 : Int32) (ls : Array Slot), lv_has ls 14 [(0, .ref (q 0)), (1, .int x1), (3, .int x3), (8, .int x8), (9, .int x9), (10, .int x10)] → mL_two_387 n d lb x1 x3 x8 x9 x10 = some r → W p l e rmL_two s m args below meth c s.heap [] 0 0 (MQ below (rdQ r) args s 0 0 (fun _ => False)) (F0 m 387 ls []) := by
  have hx := X.1
  have hb := X.2.1
  intro x1 x3 x8 x9 x10 ls hl h
  unfold mL_two_387 at h
  refine lv_aload_n hx hb dL_two_387 rfl (lv_at hl 0 rfl) ?_
  refine lv_iload_n hx hb dL_two_388 rfl (lv_at hl 1 rfl) ?_
  refine lv_iconst (v := iI 4) hx hb dL_two_389 rfl ?_
  obtain ⟨r50, h_r50, h⟩ := obd h
  refine rcV (rest := []) X hKK hP 2 (zX4_neighbour l D cI cC q n d lb xd xl wi sl kp ct gd gl ln ch x1 (iI 4) r50 h_r50) gL_two_X4_neighbour rfl rfl rfl hdX4_neighbour ⟨Nat.le_of_ble_eq_true rfl, Nat.le_of_ble_eq_true rfl⟩ [0, 1, 2, 3, 4, 5, 6, 7, 8, 9, 10, 11, 12] rfl 0 rfl rfl rfl hl.1 rfl (Nat.le_of_ble_eq_true rfl) dL_two_390 ⟨Nat.zero_le _, Nat.zero_le _⟩ ?_
  refine lv_istore (lv' := [(11, .int r50), (0, .ref (q 0)), (1, .int x1), (3, .int x3), (8, .int x8), (9, .int x9), (10, .int x10)]) hx hb dL_two_393 hl (by decide) rfl (fun ls hl => ?_)
  refine lv_iload hx hb dL_two_395 (lv_at hl 0 rfl) ?_
  refine lv_bipush (v := iI (-5)) hx hb dL_two_397 (by decide) ?_
  refine lv_icmp_ne (tgt := 431) hx hb dL_two_399 (by decide) (fun c51 => ?_) (fun c51 => ?_)
  · replace h := ifn c51 h
    refine lv_iload hx hb dL_two_431 (lv_at hl 0 rfl) ?_
    refine lv_iload_n hx hb dL_two_433 rfl (lv_at hl 2 rfl) ?_
    refine lv_icmp_le (tgt := 473) hx hb dL_two_434 (by decide) (fun c52 => ?_) (fun c52 => ?_)
    · replace h := ifp c52 h
      cases h
    · replace h := ifn c52 h
      refine lv_aload_n hx hb dL_two_437 rfl (lv_at hl 1 rfl) ?_
      refine lv_iload hx hb dL_two_438 (lv_at hl 0 rfl) ?_
      refine lv_iconst (v := iI 2) hx hb dL_two_440 rfl ?_
      obtain ⟨r53, h_r53, h⟩ := obd h
      refine rcV (rest := []) X hKK hP 2 (zX4_node l D cI cC q n d lb xd xl wi sl kp ct gd gl ln ch r50 (iI 2) r53 h_r53) gL_two_X4_node rfl rfl rfl hdX4_node ⟨Nat.le_of_ble_eq_true rfl, Nat.le_of_ble_eq_true rfl⟩ [0, 1, 2, 3, 4, 5, 6, 7, 8, 9, 10, 11, 12] rfl 0 rfl rfl rfl hl.1 rfl (Nat.le_of_ble_eq_true rfl) dL_two_441 ⟨Nat.zero_le _, Nat.zero_le _⟩ ?_
      refine lv_if_ne (tgt := 473) hx hb dL_two_444 (by decide) (fun c54 => ?_) (fun c54 => ?_)
      · replace h := ifn c54 h
        cases h
      · replace h := ifp c54 h
        refine lv_aload_n hx hb dL_two_447 rfl (lv_at hl 1 rfl) ?_
        refine lv_iload_n hx hb dL_two_448 rfl (lv_at hl 2 rfl) ?_
        refine lv_iconst (v := iI 2) hx hb dL_two_449 rfl ?_
        obtain ⟨r55, h_r55, h⟩ := obd h
        refine rcV (rest := []) X hKK hP 2 (zX4_node l D cI cC q n d lb xd xl wi sl kp ct gd gl ln ch x1 (iI 2) r55 h_r55) gL_two_X4_node rfl rfl rfl hdX4_node ⟨Nat.le_of_ble_eq_true rfl, Nat.le_of_ble_eq_true rfl⟩ [0, 1, 2, 3, 4, 5, 6, 7, 8, 9, 10, 11, 12] rfl 0 rfl rfl rfl hl.1 rfl (Nat.le_of_ble_eq_true rfl) dL_two_450 ⟨Nat.zero_le _, Nat.zero_le _⟩ ?_
        refine lv_if_eq (tgt := 469) hx hb dL_two_453 (by decide) (fun c56 => ?_) (fun c56 => ?_)
        · replace h := ifp c56 h
          exact kL_two_469 X hKK hP x1 x3 x8 x9 x10 r50 ls (lv_sub hl [1, 2, 3, 4, 5, 6, 0] rfl) h
        · replace h := ifn c56 h
          refine lv_iload hx hb dL_two_456 (lv_at hl 0 rfl) ?_
          refine lv_iload_n hx hb dL_two_458 rfl (lv_at hl 2 rfl) ?_
          refine lv_aload_n hx hb dL_two_459 rfl (lv_at hl 1 rfl) ?_
          refine lv_iload_n hx hb dL_two_460 rfl (lv_at hl 2 rfl) ?_
          refine lv_iconst (v := iI 3) hx hb dL_two_461 rfl ?_
          obtain ⟨r57, h_r57, h⟩ := obd h
          refine rcV (rest := [.int x1, .int r50]) X hKK hP 2 (zX4_node l D cI cC q n d lb xd xl wi sl kp ct gd gl ln ch x1 (iI 3) r57 h_r57) gL_two_X4_node rfl rfl rfl hdX4_node ⟨Nat.le_of_ble_eq_true rfl, Nat.le_of_ble_eq_true rfl⟩ [0, 1, 2, 3, 4, 5, 6, 7, 8, 9, 10, 11, 12] rfl 0 rfl rfl rfl hl.1 rfl (Nat.le_of_ble_eq_true rfl) dL_two_462 ⟨Nat.zero_le _, Nat.zero_le _⟩ ?_
          refine lv_iadd hx hb dL_two_465 ?_
          refine lv_icmp_ge (tgt := 473) hx hb dL_two_466 (by decide) (fun c58 => ?_) (fun c58 => ?_)
          · replace h := ifp c58 h
            cases h
          · replace h := ifn c58 h
            exact kL_two_469 X hKK hP x1 x3 x8 x9 x10 r50 ls (lv_sub hl [1, 2, 3, 4, 5, 6, 0] rfl) h
  · replace h := ifp c51 h
    refine lv_aload_n hx hb dL_two_402 rfl (lv_at hl 1 rfl) ?_
    refine lv_iload_n hx hb dL_two_403 rfl (lv_at hl 2 rfl) ?_
    refine lv_iconst (v := iI 3) hx hb dL_two_404 rfl ?_
    obtain ⟨r59, h_r59, h⟩ := obd h
    refine rcV (rest := []) X hKK hP 2 (zX4_node l D cI cC q n d lb xd xl wi sl kp ct gd gl ln ch x1 (iI 3) r59 h_r59) gL_two_X4_node rfl rfl rfl hdX4_node ⟨Nat.le_of_ble_eq_true rfl, Nat.le_of_ble_eq_true rfl⟩ [0, 1, 2, 3, 4, 5, 6, 7, 8, 9, 10, 11, 12] rfl 0 rfl rfl rfl hl.1 rfl (Nat.le_of_ble_eq_true rfl) dL_two_405 ⟨Nat.zero_le _, Nat.zero_le _⟩ ?_
    refine lv_iload_n hx hb dL_two_408 rfl (lv_at hl 3 rfl) ?_
    refine lv_iload_n hx hb dL_two_409 rfl (lv_at hl 2 rfl) ?_
    refine lv_isub hx hb dL_two_410 ?_
    refine lv_icmp_ne (tgt := 427) hx hb dL_two_411 (by decide) (fun c60 => ?_) (fun c60 => ?_)
    · replace h := ifn c60 h
      cases h
    · replace h := ifp c60 h
      refine lv_aload_n hx hb dL_two_414 rfl (lv_at hl 1 rfl) ?_
      refine lv_iload_n hx hb dL_two_415 rfl (lv_at hl 2 rfl) ?_
      refine lv_iconst (v := iI 2) hx hb dL_two_416 rfl ?_
      obtain ⟨r61, h_r61, h⟩ := obd h
      refine rcV (rest := []) X hKK hP 2 (zX4_node l D cI cC q n d lb xd xl wi sl kp ct gd gl ln ch x1 (iI 2) r61 h_r61) gL_two_X4_node rfl rfl rfl hdX4_node ⟨Nat.le_of_ble_eq_true rfl, Nat.le_of_ble_eq_true rfl⟩ [0, 1, 2, 3, 4, 5, 6, 7, 8, 9, 10, 11, 12] rfl 0 rfl rfl rfl hl.1 rfl (Nat.le_of_ble_eq_true rfl) dL_two_417 ⟨Nat.zero_le _, Nat.zero_le _⟩ ?_
      refine lv_if_ne (tgt := 427) hx hb dL_two_420 (by decide) (fun c62 => ?_) (fun c62 => ?_)
      · replace h := ifn c62 h
        cases h
      · replace h := ifp c62 h
        refine lv_iconst (v := iI 1) hx hb dL_two_423 rfl ?_
        refine lv_goto (tgt := 474) hx hb dL_two_424 (by decide) ?_
        exact kL_two_474 X hKK hP x1 x3 x8 x9 x10 r50 (iI 1) ls (lv_sub hl [1, 2, 3, 4, 5, 6, 0] rfl) h
set_option maxHeartbeats 4000000 in
set_option maxRecDepth 100000 in
theorem kL_two_363 {p : Program} {l : Launch} {e : Env} {s : State} {m : MethodId} {args : Array Value} {below : List Frame} {meth : Method} {c : Code} {D : va_G} {cI cC : ClassId} {q : Nat → Nat} {n : Int32} {d : Nat → Int32} {lb : Nat → Int32} {xd : Nat → Int32} {xl : Nat → Int32} {wi : Int32} {sl : Int32} {kp : Int32} {ct : Nat → Int32} {gd : Nat → Int32} {gl : Nat → Int32} {ln : Int32} {ch : Nat → Int32} {r : Int32} (X : CX p s m args meth c wsL_two cL_two 14 (some .boolean) RL) (hKK : KK D cI cC s) (hP : va_P D vwCl (wA cI q n d lb xd xl wi sl kp ct gd gl ln ch) s.heap) : ∀ (f : Nat), ∀ (x1 : Int32) (x3 : Int32) (x8 : Int32) (x9 : Int32) (x10 : Int32) (ls : Array Slot), lv_has ls 14 [(0, .ref (q 0)), (1, .int x1), (3, .int x3), (8, .int x8), (9, .int x9), (10, .int x10)] → mL_two_363 f n d lb x1 x3 x8 x9 x10 = some r → W p l e rmL_two s m args below meth c s.heap [] 0 0 (MQ below (rdQ r) args s 0 0 (fun _ => False)) (F0 m 363 ls []) := by
  have hx := X.1
  have hb := X.2.1
  intro f
  induction f with
  | zero =>
    intro x1 x3 x8 x9 x10 ls hl h
    exact absurd h (by unfold mL_two_363; intro h; cases h)
  | succ f ih =>
    intro x1 x3 x8 x9 x10 ls hl h
    rw [mL_two_363] at h
    refine lv_aload_n hx hb dL_two_363 rfl (lv_at hl 0 rfl) ?_
    refine lv_iload hx hb dL_two_364 (lv_at hl 3 rfl) ?_
    refine lv_iload hx hb dL_two_366 (lv_at hl 5 rfl) ?_
    obtain ⟨r47, h_r47, h⟩ := obd h
    refine rcV (rest := []) X hKK hP 2 (zX4_level l D cI cC q n d lb xd xl wi sl kp ct gd gl ln ch x8 x10 r47 h_r47) gL_two_X4_level rfl rfl rfl hdX4_level ⟨Nat.le_of_ble_eq_true rfl, Nat.le_of_ble_eq_true rfl⟩ [0, 1, 2, 3, 4, 5, 6, 7, 8, 9, 10, 11, 12] rfl 0 rfl rfl rfl hl.1 rfl (Nat.le_of_ble_eq_true rfl) dL_two_368 ⟨Nat.zero_le _, Nat.zero_le _⟩ ?_
    refine lv_iload_n hx hb dL_two_371 rfl (lv_at hl 1 rfl) ?_
    refine lv_icmp_eq (tgt := 387) hx hb dL_two_372 (by decide) (fun c48 => ?_) (fun c48 => ?_)
    · replace h := ifp c48 h
      exact kL_two_387 X hKK hP x1 x3 x8 x9 x10 ls (lv_sub hl [0, 1, 2, 3, 4, 5] rfl) h
    · replace h := ifn c48 h
      refine lv_iload hx hb dL_two_375 (lv_at hl 5 rfl) ?_
      refine lv_iload_n hx hb dL_two_377 rfl (lv_at hl 2 rfl) ?_
      refine lv_icmp_ge (tgt := 387) hx hb dL_two_378 (by decide) (fun c49 => ?_) (fun c49 => ?_)
      · replace h := ifp c49 h
        exact kL_two_387 X hKK hP x1 x3 x8 x9 x10 ls (lv_sub hl [0, 1, 2, 3, 4, 5] rfl) h
      · replace h := ifn c49 h
        refine lv_iinc (v := (x10 + iI 1)) (lv' := [(10, .int (x10 + iI 1)), (0, .ref (q 0)), (1, .int x1), (3, .int x3), (8, .int x8), (9, .int x9)]) hx hb dL_two_381 hl (k := 5) rfl rfl (by decide) rfl (fun ls hl => ?_)
        refine lv_goto (tgt := 363) hx hb dL_two_384 (by decide) ?_
        exact ih x1 x3 x8 x9 (x10 + iI 1) ls (lv_sub hl [1, 2, 3, 4, 5, 0] rfl) h
set_option maxHeartbeats 4000000 in
set_option maxRecDepth 100000 in
theorem kL_two_309 {p : Program} {l : Launch} {e : Env} {s : State} {m : MethodId} {args : Array Value} {below : List Frame} {meth : Method} {c : Code} {D : va_G} {cI cC : ClassId} {q : Nat → Nat} {n : Int32} {d : Nat → Int32} {lb : Nat → Int32} {xd : Nat → Int32} {xl : Nat → Int32} {wi : Int32} {sl : Int32} {kp : Int32} {ct : Nat → Int32} {gd : Nat → Int32} {gl : Nat → Int32} {ln : Int32} {ch : Nat → Int32} {r : Int32} (X : CX p s m args meth c wsL_two cL_two 14 (some .boolean) RL) (hKK : KK D cI cC s) (hP : va_P D vwCl (wA cI q n d lb xd xl wi sl kp ct gd gl ln ch) s.heap) : ∀ (f : Nat), ∀ (x1 : Int32) (x3 : Int32) (x7 : Int32) (x8 : Int32) (ls : Array Slot), lv_has ls 14 [(0, .ref (q 0)), (1, .int x1), (3, .int x3), (7, .int x7), (8, .int x8)] → mL_two_309 f n d lb x1 x3 x7 x8 = some r → W p l e rmL_two s m args below meth c s.heap [] 0 0 (MQ below (rdQ r) args s 0 0 (fun _ => False)) (F0 m 309 ls []) := by
  have hx := X.1
  have hb := X.2.1
  intro f
  induction f with
  | zero =>
    intro x1 x3 x7 x8 ls hl h
    exact absurd h (by unfold mL_two_309; intro h; cases h)
  | succ f ih =>
    intro x1 x3 x7 x8 ls hl h
    rw [mL_two_309] at h
    refine lv_iload hx hb dL_two_309 (lv_at hl 4 rfl) ?_
    refine lv_if_lt (tgt := 343) hx hb dL_two_311 (by decide) (fun c39 => ?_) (fun c39 => ?_)
    · replace h := ifp c39 h
      refine lv_aload_n hx hb dL_two_343 rfl (lv_at hl 0 rfl) ?_
      refine lv_iload_n hx hb dL_two_344 rfl (lv_at hl 1 rfl) ?_
      refine lv_iconst (v := iI 0) hx hb dL_two_345 rfl ?_
      obtain ⟨r40, h_r40, h⟩ := obd h
      refine rcV (rest := []) X hKK hP 2 (zX4_node l D cI cC q n d lb xd xl wi sl kp ct gd gl ln ch x1 (iI 0) r40 h_r40) gL_two_X4_node rfl rfl rfl hdX4_node ⟨Nat.le_of_ble_eq_true rfl, Nat.le_of_ble_eq_true rfl⟩ [0, 1, 2, 3, 4, 5, 6, 7, 8, 9, 10, 11, 12] rfl 0 rfl rfl rfl hl.1 rfl (Nat.le_of_ble_eq_true rfl) dL_two_346 ⟨Nat.zero_le _, Nat.zero_le _⟩ ?_
      refine lv_istore (lv' := [(8, .int r40), (0, .ref (q 0)), (1, .int x1), (3, .int x3), (7, .int x7)]) hx hb dL_two_349 hl (by decide) rfl (fun ls hl => ?_)
      refine lv_aload_n hx hb dL_two_351 rfl (lv_at hl 1 rfl) ?_
      refine lv_iload hx hb dL_two_352 (lv_at hl 0 rfl) ?_
      refine lv_iconst (v := iI (-1)) hx hb dL_two_354 rfl ?_
      obtain ⟨r41, h_r41, h⟩ := obd h
      refine rcV (rest := []) X hKK hP 2 (zX4_level l D cI cC q n d lb xd xl wi sl kp ct gd gl ln ch r40 (iI (-1)) r41 h_r41) gL_two_X4_level rfl rfl rfl hdX4_level ⟨Nat.le_of_ble_eq_true rfl, Nat.le_of_ble_eq_true rfl⟩ [0, 1, 2, 3, 4, 5, 6, 7, 8, 9, 10, 11, 12] rfl 0 rfl rfl rfl hl.1 rfl (Nat.le_of_ble_eq_true rfl) dL_two_355 ⟨Nat.zero_le _, Nat.zero_le _⟩ ?_
      refine lv_istore (lv' := [(9, .int r41), (8, .int r40), (0, .ref (q 0)), (1, .int x1), (3, .int x3), (7, .int x7)]) hx hb dL_two_358 hl (by decide) rfl (fun ls hl => ?_)
      refine lv_iconst (v := iI 0) hx hb dL_two_360 rfl ?_
      refine lv_istore (lv' := [(10, .int (iI 0)), (9, .int r41), (8, .int r40), (0, .ref (q 0)), (1, .int x1), (3, .int x3), (7, .int x7)]) hx hb dL_two_361 hl (by decide) rfl (fun ls hl => ?_)
      exact kL_two_363 X hKK hP FU x1 x3 r40 r41 (iI 0) ls (lv_sub hl [3, 4, 5, 2, 1, 0] rfl) h
    · replace h := ifn c39 h
      refine lv_aload_n hx hb dL_two_314 rfl (lv_at hl 0 rfl) ?_
      refine lv_iload_n hx hb dL_two_315 rfl (lv_at hl 1 rfl) ?_
      refine lv_iload hx hb dL_two_316 (lv_at hl 4 rfl) ?_
      obtain ⟨r42, h_r42, h⟩ := obd h
      refine rcV (rest := []) X hKK hP 2 (zX4_ancestorAt l D cI cC q n d lb xd xl wi sl kp ct gd gl ln ch x1 x8 r42 h_r42) gL_two_X4_ancestorAt rfl rfl rfl hdX4_ancestorAt ⟨Nat.le_of_ble_eq_true rfl, Nat.le_of_ble_eq_true rfl⟩ [0, 1, 2, 3, 4, 5, 6, 7, 8, 9, 10, 11, 12] rfl 0 rfl rfl rfl hl.1 rfl (Nat.le_of_ble_eq_true rfl) dL_two_318 ⟨Nat.zero_le _, Nat.zero_le _⟩ ?_
      refine lv_iload hx hb dL_two_321 (lv_at hl 3 rfl) ?_
      refine lv_icmp_eq (tgt := 328) hx hb dL_two_323 (by decide) (fun c43 => ?_) (fun c43 => ?_)
      · replace h := ifp c43 h
        refine lv_aload_n hx hb dL_two_328 rfl (lv_at hl 0 rfl) ?_
        refine lv_iload hx hb dL_two_329 (lv_at hl 3 rfl) ?_
        refine lv_iconst (v := iI 1) hx hb dL_two_331 rfl ?_
        obtain ⟨r44, h_r44, h⟩ := obd h
        refine rcV (rest := []) X hKK hP 2 (zX4_node l D cI cC q n d lb xd xl wi sl kp ct gd gl ln ch x7 (iI 1) r44 h_r44) gL_two_X4_node rfl rfl rfl hdX4_node ⟨Nat.le_of_ble_eq_true rfl, Nat.le_of_ble_eq_true rfl⟩ [0, 1, 2, 3, 4, 5, 6, 7, 8, 9, 10, 11, 12] rfl 0 rfl rfl rfl hl.1 rfl (Nat.le_of_ble_eq_true rfl) dL_two_332 ⟨Nat.zero_le _, Nat.zero_le _⟩ ?_
        refine lv_istore (lv' := [(7, .int r44), (0, .ref (q 0)), (1, .int x1), (3, .int x3), (8, .int x8)]) hx hb dL_two_335 hl (by decide) rfl (fun ls hl => ?_)
        refine lv_iinc (v := (x8 + iI (-1))) (lv' := [(8, .int (x8 + iI (-1))), (7, .int r44), (0, .ref (q 0)), (1, .int x1), (3, .int x3)]) hx hb dL_two_337 hl (k := 4) rfl rfl (by decide) rfl (fun ls hl => ?_)
        refine lv_goto (tgt := 309) hx hb dL_two_340 (by decide) ?_
        exact ih x1 x3 r44 (x8 + iI (-1)) ls (lv_sub hl [2, 3, 4, 1, 0] rfl) h
      · replace h := ifn c43 h
        cases h
set_option maxHeartbeats 4000000 in
set_option maxRecDepth 100000 in
theorem kL_two_215 {p : Program} {l : Launch} {e : Env} {s : State} {m : MethodId} {args : Array Value} {below : List Frame} {meth : Method} {c : Code} {D : va_G} {cI cC : ClassId} {q : Nat → Nat} {n : Int32} {d : Nat → Int32} {lb : Nat → Int32} {xd : Nat → Int32} {xl : Nat → Int32} {wi : Int32} {sl : Int32} {kp : Int32} {ct : Nat → Int32} {gd : Nat → Int32} {gl : Nat → Int32} {ln : Int32} {ch : Nat → Int32} {r : Int32} (X : CX p s m args meth c wsL_two cL_two 14 (some .boolean) RL) (hKK : KK D cI cC s) (hP : va_P D vwCl (wA cI q n d lb xd xl wi sl kp ct gd gl ln ch) s.heap) : ∀ (f : Nat), ∀ (x1 : Int32) (x2 : Int32) (x3 : Int32) (x5 : Int32) (x6 : Int32) (x7 : Int32) (ls : Array Slot), lv_has ls 14 [(0, .ref (q 0)), (1, .int x1), (2, .int x2), (3, .int x3), (5, .int x5), (6, .int x6), (7, .int x7)] → mL_two_215 f n d lb x1 x2 x3 x5 x6 x7 = some r → W p l e rmL_two s m args below meth c s.heap [] 0 0 (MQ below (rdQ r) args s 0 0 (fun _ => False)) (F0 m 215 ls []) := by
  have hx := X.1
  have hb := X.2.1
  intro f
  induction f with
  | zero =>
    intro x1 x2 x3 x5 x6 x7 ls hl h
    exact absurd h (by unfold mL_two_215; intro h; cases h)
  | succ f ih =>
    intro x1 x2 x3 x5 x6 x7 ls hl h
    rw [mL_two_215] at h
    refine lv_iload hx hb dL_two_215 (lv_at hl 6 rfl) ?_
    refine lv_iload hx hb dL_two_217 (lv_at hl 4 rfl) ?_
    refine lv_iload hx hb dL_two_219 (lv_at hl 5 rfl) ?_
    refine lv_iadd hx hb dL_two_221 ?_
    refine lv_icmp_gt (tgt := 298) hx hb dL_two_222 (by decide) (fun c31 => ?_) (fun c31 => ?_)
    · replace h := ifp c31 h
      refine lv_iload_n hx hb dL_two_298 rfl (lv_at hl 1 rfl) ?_
      refine lv_istore (lv' := [(7, .int x1), (0, .ref (q 0)), (1, .int x1), (2, .int x2), (3, .int x3), (5, .int x5), (6, .int x6)]) hx hb dL_two_299 hl (by decide) rfl (fun ls hl => ?_)
      refine lv_aload_n hx hb dL_two_301 rfl (lv_at hl 1 rfl) ?_
      refine lv_iload_n hx hb dL_two_302 rfl (lv_at hl 2 rfl) ?_
      refine lv_iconst (v := iI 0) hx hb dL_two_303 rfl ?_
      obtain ⟨r32, h_r32, h⟩ := obd h
      refine rcV (rest := []) X hKK hP 2 (zX4_node l D cI cC q n d lb xd xl wi sl kp ct gd gl ln ch x1 (iI 0) r32 h_r32) gL_two_X4_node rfl rfl rfl hdX4_node ⟨Nat.le_of_ble_eq_true rfl, Nat.le_of_ble_eq_true rfl⟩ [0, 1, 2, 3, 4, 5, 6, 7, 8, 9, 10, 11, 12] rfl 0 rfl rfl rfl hl.1 rfl (Nat.le_of_ble_eq_true rfl) dL_two_304 ⟨Nat.zero_le _, Nat.zero_le _⟩ ?_
      refine lv_istore (lv' := [(8, .int r32), (7, .int x1), (0, .ref (q 0)), (1, .int x1), (2, .int x2), (3, .int x3), (5, .int x5), (6, .int x6)]) hx hb dL_two_307 hl (by decide) rfl (fun ls hl => ?_)
      exact kL_two_309 X hKK hP FU x1 x3 x1 r32 ls (lv_sub hl [2, 3, 5, 1, 0] rfl) h
    · replace h := ifn c31 h
      refine lv_aload_n hx hb dL_two_225 rfl (lv_at hl 0 rfl) ?_
      refine lv_iload_n hx hb dL_two_226 rfl (lv_at hl 1 rfl) ?_
      refine lv_iload_n hx hb dL_two_227 rfl (lv_at hl 2 rfl) ?_
      refine lv_iload hx hb dL_two_228 (lv_at hl 6 rfl) ?_
      refine lv_iconst (v := iI 1) hx hb dL_two_230 rfl ?_
      refine lv_isub hx hb dL_two_231 ?_
      obtain ⟨r33, h_r33, h⟩ := obd h
      refine rcV (rest := []) X hKK hP 3 (zX4_way l D cI cC q n d lb xd xl wi sl kp ct gd gl ln ch x1 x2 (x7 - (iI 1)) r33 h_r33) gL_two_X4_way rfl rfl rfl hdX4_way ⟨Nat.le_of_ble_eq_true rfl, Nat.le_of_ble_eq_true rfl⟩ [0, 1, 2, 3, 4, 5, 6, 7, 8, 9, 10, 11, 12] rfl 0 rfl rfl rfl hl.1 rfl (Nat.le_of_ble_eq_true rfl) dL_two_232 ⟨Nat.zero_le _, Nat.zero_le _⟩ ?_
      refine lv_istore (lv' := [(8, .int r33), (0, .ref (q 0)), (1, .int x1), (2, .int x2), (3, .int x3), (5, .int x5), (6, .int x6), (7, .int x7)]) hx hb dL_two_235 hl (by decide) rfl (fun ls hl => ?_)
      refine lv_aload_n hx hb dL_two_237 rfl (lv_at hl 1 rfl) ?_
      refine lv_iload_n hx hb dL_two_238 rfl (lv_at hl 2 rfl) ?_
      refine lv_iload_n hx hb dL_two_239 rfl (lv_at hl 3 rfl) ?_
      refine lv_iload hx hb dL_two_240 (lv_at hl 7 rfl) ?_
      obtain ⟨r34, h_r34, h⟩ := obd h
      refine rcV (rest := []) X hKK hP 3 (zX4_way l D cI cC q n d lb xd xl wi sl kp ct gd gl ln ch x1 x2 x7 r34 h_r34) gL_two_X4_way rfl rfl rfl hdX4_way ⟨Nat.le_of_ble_eq_true rfl, Nat.le_of_ble_eq_true rfl⟩ [0, 1, 2, 3, 4, 5, 6, 7, 8, 9, 10, 11, 12] rfl 0 rfl rfl rfl hl.1 rfl (Nat.le_of_ble_eq_true rfl) dL_two_242 ⟨Nat.zero_le _, Nat.zero_le _⟩ ?_
      refine lv_istore (lv' := [(9, .int r34), (8, .int r33), (0, .ref (q 0)), (1, .int x1), (2, .int x2), (3, .int x3), (5, .int x5), (6, .int x6), (7, .int x7)]) hx hb dL_two_245 hl (by decide) rfl (fun ls hl => ?_)
      refine lv_aload_n hx hb dL_two_247 rfl (lv_at hl 2 rfl) ?_
      refine lv_iload hx hb dL_two_248 (lv_at hl 1 rfl) ?_
      refine lv_iconst (v := iI 1) hx hb dL_two_250 rfl ?_
      obtain ⟨r35, h_r35, h⟩ := obd h
      refine rcV (rest := []) X hKK hP 2 (zX4_node l D cI cC q n d lb xd xl wi sl kp ct gd gl ln ch r33 (iI 1) r35 h_r35) gL_two_X4_node rfl rfl rfl hdX4_node ⟨Nat.le_of_ble_eq_true rfl, Nat.le_of_ble_eq_true rfl⟩ [0, 1, 2, 3, 4, 5, 6, 7, 8, 9, 10, 11, 12] rfl 0 rfl rfl rfl hl.1 rfl (Nat.le_of_ble_eq_true rfl) dL_two_251 ⟨Nat.zero_le _, Nat.zero_le _⟩ ?_
      refine lv_iload hx hb dL_two_254 (lv_at hl 0 rfl) ?_
      refine lv_icmp_eq (tgt := 271) hx hb dL_two_256 (by decide) (fun c36 => ?_) (fun c36 => ?_)
      · replace h := ifp c36 h
        exact kL_two_271 X hKK hP (mL_two_215 f) ih x1 x2 x3 x5 x6 x7 r34 ls (lv_sub hl [2, 3, 4, 5, 6, 7, 8, 0] rfl) h
      · replace h := ifn c36 h
        refine lv_aload_n hx hb dL_two_259 rfl (lv_at hl 2 rfl) ?_
        refine lv_iload hx hb dL_two_260 (lv_at hl 0 rfl) ?_
        refine lv_iconst (v := iI 1) hx hb dL_two_262 rfl ?_
        obtain ⟨r37, h_r37, h⟩ := obd h
        refine rcV (rest := []) X hKK hP 2 (zX4_node l D cI cC q n d lb xd xl wi sl kp ct gd gl ln ch r34 (iI 1) r37 h_r37) gL_two_X4_node rfl rfl rfl hdX4_node ⟨Nat.le_of_ble_eq_true rfl, Nat.le_of_ble_eq_true rfl⟩ [0, 1, 2, 3, 4, 5, 6, 7, 8, 9, 10, 11, 12] rfl 0 rfl rfl rfl hl.1 rfl (Nat.le_of_ble_eq_true rfl) dL_two_263 ⟨Nat.zero_le _, Nat.zero_le _⟩ ?_
        refine lv_iload hx hb dL_two_266 (lv_at hl 1 rfl) ?_
        refine lv_icmp_ne (tgt := 290) hx hb dL_two_268 (by decide) (fun c38 => ?_) (fun c38 => ?_)
        · replace h := ifn c38 h
          cases h
        · replace h := ifp c38 h
          exact kL_two_271 X hKK hP (mL_two_215 f) ih x1 x2 x3 x5 x6 x7 r34 ls (lv_sub hl [2, 3, 4, 5, 6, 7, 8, 0] rfl) h
set_option maxHeartbeats 4000000 in
set_option maxRecDepth 100000 in
theorem kL_two_212 {p : Program} {l : Launch} {e : Env} {s : State} {m : MethodId} {args : Array Value} {below : List Frame} {meth : Method} {c : Code} {D : va_G} {cI cC : ClassId} {q : Nat → Nat} {n : Int32} {d : Nat → Int32} {lb : Nat → Int32} {xd : Nat → Int32} {xl : Nat → Int32} {wi : Int32} {sl : Int32} {kp : Int32} {ct : Nat → Int32} {gd : Nat → Int32} {gl : Nat → Int32} {ln : Int32} {ch : Nat → Int32} {r : Int32} (X : CX p s m args meth c wsL_two cL_two 14 (some .boolean) RL) (hKK : KK D cI cC s) (hP : va_P D vwCl (wA cI q n d lb xd xl wi sl kp ct gd gl ln ch) s.heap) : ∀ (x1 : Int32) (x2 : Int32) (x3 : Int32) (x5 : Int32) (x6 : Int32) (ls : Array Slot), lv_has ls 14 [(0, .ref (q 0)), (1, .int x1), (2, .int x2), (3, .int x3), (5, .int x5), (6, .int x6)] → mL_two_212 n d lb x1 x2 x3 x5 x6 = some r → W p l e rmL_two s m args below meth c s.heap [] 0 0 (MQ below (rdQ r) args s 0 0 (fun _ => False)) (F0 m 212 ls []) := by
  have hx := X.1
  have hb := X.2.1
  intro x1 x2 x3 x5 x6 ls hl h
  unfold mL_two_212 at h
  refine lv_iconst (v := iI 1) hx hb dL_two_212 rfl ?_
  refine lv_istore (lv' := [(7, .int (iI 1)), (0, .ref (q 0)), (1, .int x1), (2, .int x2), (3, .int x3), (5, .int x5), (6, .int x6)]) hx hb dL_two_213 hl (by decide) rfl (fun ls hl => ?_)
  exact kL_two_215 X hKK hP FU x1 x2 x3 x5 x6 (iI 1) ls (lv_sub hl [1, 2, 3, 4, 5, 6, 0] rfl) h
set_option maxHeartbeats 4000000 in
set_option maxRecDepth 100000 in
theorem zL_two (l : Launch) (D : va_G) (cI cC : ClassId) (q : Nat → Nat) (n : Int32) (d : Nat → Int32) (lb : Nat → Int32) (xd : Nat → Int32) (xl : Nat → Int32) (wi : Int32) (sl : Int32) (kp : Int32) (ct : Nat → Int32) (gd : Nat → Int32) (gl : Nat → Int32) (ln : Int32) (ch : Nat → Int32) (x1 : Int32) (x2 : Int32) (r : Int32) (h : mL_two n d lb x1 x2 = some r) : Met l yL_two wsL_two rmL_two (va_Pc [.ref (q 0), .int x1, .int x2] (BW D cI cC (wA cI q n d lb xd xl wi sl kp ct gd gl ln ch))) (rdQ r) 0 0 (fun _ => False) := by
  refine MetI RL (by decide +kernel) rfl rfl (Nat.le_of_ble_eq_true rfl) ?_
  intro p e s m below meth c ls X _ hB hl
  obtain ⟨hP, hKK⟩ := hB
  have hx := X.1
  have hb := X.2.1
  replace hl : lv_has ls 14 [(0, .ref (q 0)), (1, .int x1), (2, .int x2)] := hl
  unfold mL_two at h
  refine lv_aload_n hx hb dL_two_0 rfl (lv_at hl 0 rfl) ?_
  refine rcV (rest := []) X hKK hP 0 (zX4_size l D cI cC q n d lb xd xl wi sl kp ct gd gl ln ch _ rfl) gL_two_X4_size rfl rfl rfl hdX4_size ⟨Nat.le_of_ble_eq_true rfl, Nat.le_of_ble_eq_true rfl⟩ [0, 1, 2, 3, 4, 5, 6, 7, 8, 9, 10, 11, 12] rfl 0 rfl rfl rfl hl.1 rfl (Nat.le_of_ble_eq_true rfl) dL_two_1 ⟨Nat.zero_le _, Nat.zero_le _⟩ ?_
  refine lv_istore_n (lv' := [(3, .int (mX4_size n)), (0, .ref (q 0)), (1, .int x1), (2, .int x2)]) hx hb dL_two_4 rfl hl (by decide) rfl (fun ls hl => ?_)
  refine lv_aload_n hx hb dL_two_5 rfl (lv_at hl 1 rfl) ?_
  refine lv_iload_n hx hb dL_two_6 rfl (lv_at hl 2 rfl) ?_
  refine lv_iload_n hx hb dL_two_7 rfl (lv_at hl 3 rfl) ?_
  obtain ⟨r1, h_r1, h⟩ := obd h
  refine rcV (rest := []) X hKK hP 2 (zX4_common l D cI cC q n d lb xd xl wi sl kp ct gd gl ln ch x1 x2 r1 h_r1) gL_two_X4_common rfl rfl rfl hdX4_common ⟨Nat.le_of_ble_eq_true rfl, Nat.le_of_ble_eq_true rfl⟩ [0, 1, 2, 3, 4, 5, 6, 7, 8, 9, 10, 11, 12] rfl 0 rfl rfl rfl hl.1 rfl (Nat.le_of_ble_eq_true rfl) dL_two_8 ⟨Nat.zero_le _, Nat.zero_le _⟩ ?_
  refine lv_istore (lv' := [(4, .int r1), (3, .int (mX4_size n)), (0, .ref (q 0)), (1, .int x1), (2, .int x2)]) hx hb dL_two_11 hl (by decide) rfl (fun ls hl => ?_)
  refine lv_aload_n hx hb dL_two_13 rfl (lv_at hl 2 rfl) ?_
  refine lv_iload_n hx hb dL_two_14 rfl (lv_at hl 3 rfl) ?_
  refine lv_iconst (v := iI 0) hx hb dL_two_15 rfl ?_
  obtain ⟨r2, h_r2, h⟩ := obd h
  refine rcV (rest := []) X hKK hP 2 (zX4_node l D cI cC q n d lb xd xl wi sl kp ct gd gl ln ch x1 (iI 0) r2 h_r2) gL_two_X4_node rfl rfl rfl hdX4_node ⟨Nat.le_of_ble_eq_true rfl, Nat.le_of_ble_eq_true rfl⟩ [0, 1, 2, 3, 4, 5, 6, 7, 8, 9, 10, 11, 12] rfl 0 rfl rfl rfl hl.1 rfl (Nat.le_of_ble_eq_true rfl) dL_two_16 ⟨Nat.zero_le _, Nat.zero_le _⟩ ?_
  refine lv_aload_n hx hb dL_two_19 rfl (lv_at hl 2 rfl) ?_
  refine lv_iload hx hb dL_two_20 (lv_at hl 0 rfl) ?_
  refine lv_iconst (v := iI 0) hx hb dL_two_22 rfl ?_
  obtain ⟨r3, h_r3, h⟩ := obd h
  refine rcV (rest := [.int r2]) X hKK hP 2 (zX4_node l D cI cC q n d lb xd xl wi sl kp ct gd gl ln ch r1 (iI 0) r3 h_r3) gL_two_X4_node rfl rfl rfl hdX4_node ⟨Nat.le_of_ble_eq_true rfl, Nat.le_of_ble_eq_true rfl⟩ [0, 1, 2, 3, 4, 5, 6, 7, 8, 9, 10, 11, 12] rfl 0 rfl rfl rfl hl.1 rfl (Nat.le_of_ble_eq_true rfl) dL_two_23 ⟨Nat.zero_le _, Nat.zero_le _⟩ ?_
  refine lv_isub hx hb dL_two_26 ?_
  refine lv_istore (lv' := [(5, .int (r2 - r3)), (4, .int r1), (3, .int (mX4_size n)), (0, .ref (q 0)), (1, .int x1), (2, .int x2)]) hx hb dL_two_27 hl (by decide) rfl (fun ls hl => ?_)
  refine lv_aload_n hx hb dL_two_29 rfl (lv_at hl 3 rfl) ?_
  refine lv_iload_n hx hb dL_two_30 rfl (lv_at hl 5 rfl) ?_
  refine lv_iconst (v := iI 0) hx hb dL_two_31 rfl ?_
  obtain ⟨r4, h_r4, h⟩ := obd h
  refine rcV (rest := []) X hKK hP 2 (zX4_node l D cI cC q n d lb xd xl wi sl kp ct gd gl ln ch x2 (iI 0) r4 h_r4) gL_two_X4_node rfl rfl rfl hdX4_node ⟨Nat.le_of_ble_eq_true rfl, Nat.le_of_ble_eq_true rfl⟩ [0, 1, 2, 3, 4, 5, 6, 7, 8, 9, 10, 11, 12] rfl 0 rfl rfl rfl hl.1 rfl (Nat.le_of_ble_eq_true rfl) dL_two_32 ⟨Nat.zero_le _, Nat.zero_le _⟩ ?_
  refine lv_aload_n hx hb dL_two_35 rfl (lv_at hl 3 rfl) ?_
  refine lv_iload hx hb dL_two_36 (lv_at hl 1 rfl) ?_
  refine lv_iconst (v := iI 0) hx hb dL_two_38 rfl ?_
  obtain ⟨r5, h_r5, h⟩ := obd h
  refine rcV (rest := [.int r4]) X hKK hP 2 (zX4_node l D cI cC q n d lb xd xl wi sl kp ct gd gl ln ch r1 (iI 0) r5 h_r5) gL_two_X4_node rfl rfl rfl hdX4_node ⟨Nat.le_of_ble_eq_true rfl, Nat.le_of_ble_eq_true rfl⟩ [0, 1, 2, 3, 4, 5, 6, 7, 8, 9, 10, 11, 12] rfl 0 rfl rfl rfl hl.1 rfl (Nat.le_of_ble_eq_true rfl) dL_two_39 ⟨Nat.zero_le _, Nat.zero_le _⟩ ?_
  refine lv_isub hx hb dL_two_42 ?_
  refine lv_istore (lv' := [(6, .int (r4 - r5)), (5, .int (r2 - r3)), (4, .int r1), (3, .int (mX4_size n)), (0, .ref (q 0)), (1, .int x1), (2, .int x2)]) hx hb dL_two_43 hl (by decide) rfl (fun ls hl => ?_)
  refine lv_aload_n hx hb dL_two_45 rfl (lv_at hl 4 rfl) ?_
  refine lv_iload_n hx hb dL_two_46 rfl (lv_at hl 6 rfl) ?_
  refine lv_iload_n hx hb dL_two_47 rfl (lv_at hl 5 rfl) ?_
  obtain ⟨r6, h_r6, h⟩ := obd h
  refine rcV (rest := []) X hKK hP 2 (zX4_common l D cI cC q n d lb xd xl wi sl kp ct gd gl ln ch x2 x1 r6 h_r6) gL_two_X4_common rfl rfl rfl hdX4_common ⟨Nat.le_of_ble_eq_true rfl, Nat.le_of_ble_eq_true rfl⟩ [0, 1, 2, 3, 4, 5, 6, 7, 8, 9, 10, 11, 12] rfl 0 rfl rfl rfl hl.1 rfl (Nat.le_of_ble_eq_true rfl) dL_two_48 ⟨Nat.zero_le _, Nat.zero_le _⟩ ?_
  refine lv_iload hx hb dL_two_51 (lv_at hl 2 rfl) ?_
  refine lv_icmp_ne (tgt := 175) hx hb dL_two_53 (by decide) (fun c7 => ?_) (fun c7 => ?_)
  · replace h := ifn c7 h
    cases h
  · replace h := ifp c7 h
    refine lv_aload_n hx hb dL_two_56 rfl (lv_at hl 4 rfl) ?_
    refine lv_iload_n hx hb dL_two_57 rfl (lv_at hl 5 rfl) ?_
    refine lv_aload_n hx hb dL_two_58 rfl (lv_at hl 4 rfl) ?_
    refine lv_iload hx hb dL_two_59 (lv_at hl 2 rfl) ?_
    refine lv_iconst (v := iI 0) hx hb dL_two_61 rfl ?_
    obtain ⟨r8, h_r8, h⟩ := obd h
    refine rcV (rest := [.int x1, .ref (q 0)]) X hKK hP 2 (zX4_node l D cI cC q n d lb xd xl wi sl kp ct gd gl ln ch r1 (iI 0) r8 h_r8) gL_two_X4_node rfl rfl rfl hdX4_node ⟨Nat.le_of_ble_eq_true rfl, Nat.le_of_ble_eq_true rfl⟩ [0, 1, 2, 3, 4, 5, 6, 7, 8, 9, 10, 11, 12] rfl 0 rfl rfl rfl hl.1 rfl (Nat.le_of_ble_eq_true rfl) dL_two_62 ⟨Nat.zero_le _, Nat.zero_le _⟩ ?_
    obtain ⟨r9, h_r9, h⟩ := obd h
    refine rcV (rest := []) X hKK hP 2 (zX4_ancestorAt l D cI cC q n d lb xd xl wi sl kp ct gd gl ln ch x1 r8 r9 h_r9) gL_two_X4_ancestorAt rfl rfl rfl hdX4_ancestorAt ⟨Nat.le_of_ble_eq_true rfl, Nat.le_of_ble_eq_true rfl⟩ [0, 1, 2, 3, 4, 5, 6, 7, 8, 9, 10, 11, 12] rfl 0 rfl rfl rfl hl.1 rfl (Nat.le_of_ble_eq_true rfl) dL_two_65 ⟨Nat.zero_le _, Nat.zero_le _⟩ ?_
    refine lv_iload hx hb dL_two_68 (lv_at hl 2 rfl) ?_
    refine lv_icmp_ne (tgt := 175) hx hb dL_two_70 (by decide) (fun c10 => ?_) (fun c10 => ?_)
    · replace h := ifn c10 h
      cases h
    · replace h := ifp c10 h
      refine lv_aload_n hx hb dL_two_73 rfl (lv_at hl 4 rfl) ?_
      refine lv_iload_n hx hb dL_two_74 rfl (lv_at hl 6 rfl) ?_
      refine lv_aload_n hx hb dL_two_75 rfl (lv_at hl 4 rfl) ?_
      refine lv_iload hx hb dL_two_76 (lv_at hl 2 rfl) ?_
      refine lv_iconst (v := iI 0) hx hb dL_two_78 rfl ?_
      obtain ⟨r11, h_r11, h⟩ := obd h
      refine rcV (rest := [.int x2, .ref (q 0)]) X hKK hP 2 (zX4_node l D cI cC q n d lb xd xl wi sl kp ct gd gl ln ch r1 (iI 0) r11 h_r11) gL_two_X4_node rfl rfl rfl hdX4_node ⟨Nat.le_of_ble_eq_true rfl, Nat.le_of_ble_eq_true rfl⟩ [0, 1, 2, 3, 4, 5, 6, 7, 8, 9, 10, 11, 12] rfl 0 rfl rfl rfl hl.1 rfl (Nat.le_of_ble_eq_true rfl) dL_two_79 ⟨Nat.zero_le _, Nat.zero_le _⟩ ?_
      obtain ⟨r12, h_r12, h⟩ := obd h
      refine rcV (rest := []) X hKK hP 2 (zX4_ancestorAt l D cI cC q n d lb xd xl wi sl kp ct gd gl ln ch x2 r11 r12 h_r12) gL_two_X4_ancestorAt rfl rfl rfl hdX4_ancestorAt ⟨Nat.le_of_ble_eq_true rfl, Nat.le_of_ble_eq_true rfl⟩ [0, 1, 2, 3, 4, 5, 6, 7, 8, 9, 10, 11, 12] rfl 0 rfl rfl rfl hl.1 rfl (Nat.le_of_ble_eq_true rfl) dL_two_82 ⟨Nat.zero_le _, Nat.zero_le _⟩ ?_
      refine lv_iload hx hb dL_two_85 (lv_at hl 2 rfl) ?_
      refine lv_icmp_ne (tgt := 175) hx hb dL_two_87 (by decide) (fun c13 => ?_) (fun c13 => ?_)
      · replace h := ifn c13 h
        cases h
      · replace h := ifp c13 h
        refine lv_aload_n hx hb dL_two_90 rfl (lv_at hl 4 rfl) ?_
        refine lv_iload_n hx hb dL_two_91 rfl (lv_at hl 5 rfl) ?_
        refine lv_iload_n hx hb dL_two_92 rfl (lv_at hl 6 rfl) ?_
        refine lv_iconst (v := iI (-1)) hx hb dL_two_93 rfl ?_
        obtain ⟨r14, h_r14, h⟩ := obd h
        refine rcV (rest := []) X hKK hP 3 (zX4_way l D cI cC q n d lb xd xl wi sl kp ct gd gl ln ch x1 x2 (iI (-1)) r14 h_r14) gL_two_X4_way rfl rfl rfl hdX4_way ⟨Nat.le_of_ble_eq_true rfl, Nat.le_of_ble_eq_true rfl⟩ [0, 1, 2, 3, 4, 5, 6, 7, 8, 9, 10, 11, 12] rfl 0 rfl rfl rfl hl.1 rfl (Nat.le_of_ble_eq_true rfl) dL_two_94 ⟨Nat.zero_le _, Nat.zero_le _⟩ ?_
        refine lv_iload hx hb dL_two_97 (lv_at hl 1 rfl) ?_
        refine lv_iload hx hb dL_two_99 (lv_at hl 0 rfl) ?_
        refine lv_iadd hx hb dL_two_101 ?_
        refine lv_icmp_ne (tgt := 175) hx hb dL_two_102 (by decide) (fun c15 => ?_) (fun c15 => ?_)
        · replace h := ifn c15 h
          cases h
        · replace h := ifp c15 h
          refine lv_aload_n hx hb dL_two_105 rfl (lv_at hl 4 rfl) ?_
          refine lv_iload_n hx hb dL_two_106 rfl (lv_at hl 5 rfl) ?_
          refine lv_iload_n hx hb dL_two_107 rfl (lv_at hl 6 rfl) ?_
          refine lv_iload hx hb dL_two_108 (lv_at hl 1 rfl) ?_
          obtain ⟨r16, h_r16, h⟩ := obd h
          refine rcV (rest := []) X hKK hP 3 (zX4_way l D cI cC q n d lb xd xl wi sl kp ct gd gl ln ch x1 x2 (r2 - r3) r16 h_r16) gL_two_X4_way rfl rfl rfl hdX4_way ⟨Nat.le_of_ble_eq_true rfl, Nat.le_of_ble_eq_true rfl⟩ [0, 1, 2, 3, 4, 5, 6, 7, 8, 9, 10, 11, 12] rfl 0 rfl rfl rfl hl.1 rfl (Nat.le_of_ble_eq_true rfl) dL_two_110 ⟨Nat.zero_le _, Nat.zero_le _⟩ ?_
          refine lv_iload hx hb dL_two_113 (lv_at hl 2 rfl) ?_
          refine lv_icmp_ne (tgt := 175) hx hb dL_two_115 (by decide) (fun c17 => ?_) (fun c17 => ?_)
          · replace h := ifn c17 h
            cases h
          · replace h := ifp c17 h
            refine lv_aload_n hx hb dL_two_118 rfl (lv_at hl 4 rfl) ?_
            refine lv_iload_n hx hb dL_two_119 rfl (lv_at hl 5 rfl) ?_
            refine lv_iload_n hx hb dL_two_120 rfl (lv_at hl 6 rfl) ?_
            refine lv_iconst (v := iI 0) hx hb dL_two_121 rfl ?_
            obtain ⟨r18, h_r18, h⟩ := obd h
            refine rcV (rest := []) X hKK hP 3 (zX4_way l D cI cC q n d lb xd xl wi sl kp ct gd gl ln ch x1 x2 (iI 0) r18 h_r18) gL_two_X4_way rfl rfl rfl hdX4_way ⟨Nat.le_of_ble_eq_true rfl, Nat.le_of_ble_eq_true rfl⟩ [0, 1, 2, 3, 4, 5, 6, 7, 8, 9, 10, 11, 12] rfl 0 rfl rfl rfl hl.1 rfl (Nat.le_of_ble_eq_true rfl) dL_two_122 ⟨Nat.zero_le _, Nat.zero_le _⟩ ?_
            refine lv_iload_n hx hb dL_two_125 rfl (lv_at hl 5 rfl) ?_
            refine lv_icmp_ne (tgt := 175) hx hb dL_two_126 (by decide) (fun c19 => ?_) (fun c19 => ?_)
            · replace h := ifn c19 h
              cases h
            · replace h := ifp c19 h
              refine lv_aload_n hx hb dL_two_129 rfl (lv_at hl 4 rfl) ?_
              refine lv_iload_n hx hb dL_two_130 rfl (lv_at hl 5 rfl) ?_
              refine lv_iload_n hx hb dL_two_131 rfl (lv_at hl 6 rfl) ?_
              refine lv_iload hx hb dL_two_132 (lv_at hl 1 rfl) ?_
              refine lv_iload hx hb dL_two_134 (lv_at hl 0 rfl) ?_
              refine lv_iadd hx hb dL_two_136 ?_
              obtain ⟨r20, h_r20, h⟩ := obd h
              refine rcV (rest := []) X hKK hP 3 (zX4_way l D cI cC q n d lb xd xl wi sl kp ct gd gl ln ch x1 x2 ((r2 - r3) + (r4 - r5)) r20 h_r20) gL_two_X4_way rfl rfl rfl hdX4_way ⟨Nat.le_of_ble_eq_true rfl, Nat.le_of_ble_eq_true rfl⟩ [0, 1, 2, 3, 4, 5, 6, 7, 8, 9, 10, 11, 12] rfl 0 rfl rfl rfl hl.1 rfl (Nat.le_of_ble_eq_true rfl) dL_two_137 ⟨Nat.zero_le _, Nat.zero_le _⟩ ?_
              refine lv_iload_n hx hb dL_two_140 rfl (lv_at hl 6 rfl) ?_
              refine lv_icmp_ne (tgt := 175) hx hb dL_two_141 (by decide) (fun c21 => ?_) (fun c21 => ?_)
              · replace h := ifn c21 h
                cases h
              · replace h := ifp c21 h
                refine lv_aload_n hx hb dL_two_144 rfl (lv_at hl 4 rfl) ?_
                refine lv_iload_n hx hb dL_two_145 rfl (lv_at hl 5 rfl) ?_
                refine lv_iload_n hx hb dL_two_146 rfl (lv_at hl 6 rfl) ?_
                refine lv_iload hx hb dL_two_147 (lv_at hl 1 rfl) ?_
                refine lv_iload hx hb dL_two_149 (lv_at hl 0 rfl) ?_
                refine lv_iadd hx hb dL_two_151 ?_
                refine lv_iconst (v := iI 1) hx hb dL_two_152 rfl ?_
                refine lv_iadd hx hb dL_two_153 ?_
                obtain ⟨r22, h_r22, h⟩ := obd h
                refine rcV (rest := []) X hKK hP 3 (zX4_way l D cI cC q n d lb xd xl wi sl kp ct gd gl ln ch x1 x2 (((r2 - r3) + (r4 - r5)) + (iI 1)) r22 h_r22) gL_two_X4_way rfl rfl rfl hdX4_way ⟨Nat.le_of_ble_eq_true rfl, Nat.le_of_ble_eq_true rfl⟩ [0, 1, 2, 3, 4, 5, 6, 7, 8, 9, 10, 11, 12] rfl 0 rfl rfl rfl hl.1 rfl (Nat.le_of_ble_eq_true rfl) dL_two_154 ⟨Nat.zero_le _, Nat.zero_le _⟩ ?_
                refine lv_bipush (v := iI (-5)) hx hb dL_two_157 (by decide) ?_
                refine lv_icmp_ne (tgt := 175) hx hb dL_two_159 (by decide) (fun c23 => ?_) (fun c23 => ?_)
                · replace h := ifn c23 h
                  cases h
                · replace h := ifp c23 h
                  refine lv_aload_n hx hb dL_two_162 rfl (lv_at hl 4 rfl) ?_
                  refine lv_iload_n hx hb dL_two_163 rfl (lv_at hl 5 rfl) ?_
                  refine lv_iload_n hx hb dL_two_164 rfl (lv_at hl 6 rfl) ?_
                  refine lv_bipush (v := iI (-2)) hx hb dL_two_165 (by decide) ?_
                  obtain ⟨r24, h_r24, h⟩ := obd h
                  refine rcV (rest := []) X hKK hP 3 (zX4_way l D cI cC q n d lb xd xl wi sl kp ct gd gl ln ch x1 x2 (iI (-2)) r24 h_r24) gL_two_X4_way rfl rfl rfl hdX4_way ⟨Nat.le_of_ble_eq_true rfl, Nat.le_of_ble_eq_true rfl⟩ [0, 1, 2, 3, 4, 5, 6, 7, 8, 9, 10, 11, 12] rfl 0 rfl rfl rfl hl.1 rfl (Nat.le_of_ble_eq_true rfl) dL_two_167 ⟨Nat.zero_le _, Nat.zero_le _⟩ ?_
                  refine lv_bipush (v := iI (-2)) hx hb dL_two_170 (by decide) ?_
                  refine lv_icmp_eq (tgt := 177) hx hb dL_two_172 (by decide) (fun c25 => ?_) (fun c25 => ?_)
                  · replace h := ifp c25 h
                    refine lv_iload hx hb dL_two_177 (lv_at hl 1 rfl) ?_
                    refine lv_if_le (tgt := 212) hx hb dL_two_179 (by decide) (fun c26 => ?_) (fun c26 => ?_)
                    · replace h := ifp c26 h
                      exact kL_two_212 X hKK hP x1 x2 (mX4_size n) (r2 - r3) (r4 - r5) ls (lv_sub hl [4, 5, 6, 3, 1, 0] rfl) h
                    · replace h := ifn c26 h
                      refine lv_iload hx hb dL_two_182 (lv_at hl 0 rfl) ?_
                      refine lv_if_le (tgt := 212) hx hb dL_two_184 (by decide) (fun c27 => ?_) (fun c27 => ?_)
                      · replace h := ifp c27 h
                        exact kL_two_212 X hKK hP x1 x2 (mX4_size n) (r2 - r3) (r4 - r5) ls (lv_sub hl [4, 5, 6, 3, 1, 0] rfl) h
                      · replace h := ifn c27 h
                        refine lv_aload_n hx hb dL_two_187 rfl (lv_at hl 4 rfl) ?_
                        refine lv_iload_n hx hb dL_two_188 rfl (lv_at hl 5 rfl) ?_
                        refine lv_iload_n hx hb dL_two_189 rfl (lv_at hl 6 rfl) ?_
                        refine lv_iload hx hb dL_two_190 (lv_at hl 1 rfl) ?_
                        refine lv_iconst (v := iI 1) hx hb dL_two_192 rfl ?_
                        refine lv_isub hx hb dL_two_193 ?_
                        obtain ⟨r28, h_r28, h⟩ := obd h
                        refine rcV (rest := []) X hKK hP 3 (zX4_way l D cI cC q n d lb xd xl wi sl kp ct gd gl ln ch x1 x2 ((r2 - r3) - (iI 1)) r28 h_r28) gL_two_X4_way rfl rfl rfl hdX4_way ⟨Nat.le_of_ble_eq_true rfl, Nat.le_of_ble_eq_true rfl⟩ [0, 1, 2, 3, 4, 5, 6, 7, 8, 9, 10, 11, 12] rfl 0 rfl rfl rfl hl.1 rfl (Nat.le_of_ble_eq_true rfl) dL_two_194 ⟨Nat.zero_le _, Nat.zero_le _⟩ ?_
                        refine lv_aload_n hx hb dL_two_197 rfl (lv_at hl 4 rfl) ?_
                        refine lv_iload_n hx hb dL_two_198 rfl (lv_at hl 5 rfl) ?_
                        refine lv_iload_n hx hb dL_two_199 rfl (lv_at hl 6 rfl) ?_
                        refine lv_iload hx hb dL_two_200 (lv_at hl 1 rfl) ?_
                        refine lv_iconst (v := iI 1) hx hb dL_two_202 rfl ?_
                        refine lv_iadd hx hb dL_two_203 ?_
                        obtain ⟨r29, h_r29, h⟩ := obd h
                        refine rcV (rest := [.int r28]) X hKK hP 3 (zX4_way l D cI cC q n d lb xd xl wi sl kp ct gd gl ln ch x1 x2 ((r2 - r3) + (iI 1)) r29 h_r29) gL_two_X4_way rfl rfl rfl hdX4_way ⟨Nat.le_of_ble_eq_true rfl, Nat.le_of_ble_eq_true rfl⟩ [0, 1, 2, 3, 4, 5, 6, 7, 8, 9, 10, 11, 12] rfl 0 rfl rfl rfl hl.1 rfl (Nat.le_of_ble_eq_true rfl) dL_two_204 ⟨Nat.zero_le _, Nat.zero_le _⟩ ?_
                        refine lv_icmp_ne (tgt := 212) hx hb dL_two_207 (by decide) (fun c30 => ?_) (fun c30 => ?_)
                        · replace h := ifn c30 h
                          exact kL_two_212 X hKK hP x1 x2 (mX4_size n) (r2 - r3) (r4 - r5) ls (lv_sub hl [4, 5, 6, 3, 1, 0] rfl) h
                        · replace h := ifp c30 h
                          cases h
                  · replace h := ifn c25 h
                    cases h
def mL_labels_142 (rec : Int32 → (Nat → Int32) → (Nat → Int32) → Int32 → Int32 → Int32 → Int32 → Int32 → Int32 → Int32 → Option (Int32)) (n : Int32) (d : Nat → Int32) (lb : Nat → Int32) (x1 : Int32) (x2 : Int32) (x3 : Int32) (x4 : Int32) (x7 : Int32) (x8 : Int32) (y0 : Int32) (y1 : Int32) : Option (Int32) := ((mX4_areEqual n d lb x1 x8).bind fun r21 => rec n d lb x1 x2 x3 x4 (y1 + y0) (x7 + r21) (x8 + iI 1))
def mL_labels_141 (rec : Int32 → (Nat → Int32) → (Nat → Int32) → Int32 → Int32 → Int32 → Int32 → Int32 → Int32 → Int32 → Option (Int32)) (n : Int32) (d : Nat → Int32) (lb : Nat → Int32) (x1 : Int32) (x2 : Int32) (x3 : Int32) (x4 : Int32) (x7 : Int32) (x8 : Int32) (y0 : Int32) : Option (Int32) := mL_labels_142 rec n d lb x1 x2 x3 x4 x7 x8 (iI 0) y0
def mL_labels_285 (rec : Int32 → (Nat → Int32) → (Nat → Int32) → Int32 → Int32 → Int32 → Int32 → Int32 → Int32 → Int32 → Int32 → Int32 → Option (Int32)) (n : Int32) (d : Nat → Int32) (lb : Nat → Int32) (x1 : Int32) (x2 : Int32) (x3 : Int32) (x4 : Int32) (x6 : Int32) (x7 : Int32) (x8 : Int32) (x10 : Int32) (y0 : Int32) : Option (Int32) := rec n d lb x1 x2 x3 x4 x6 x7 x8 y0 (x10 + iI 1)
def mL_labels_385 (n : Int32) (d : Nat → Int32) (lb : Nat → Int32) (y0 : Int32) (y1 : Int32) : Option (Int32) := (if y1 = y0 then some (iI 1) else none)
def mL_labels_293 (n : Int32) (d : Nat → Int32) (lb : Nat → Int32) (x1 : Int32) (x2 : Int32) (x3 : Int32) (x4 : Int32) (x6 : Int32) (x7 : Int32) (x8 : Int32) (x9 : Int32) : Option (Int32) := (if x6 = x4 then ((mX4_select n d lb x1 x3 x4).bind fun r36 => (if r36 = (iI (-5)) then ((mX4_select n d lb x1 x3 (iI (-1))).bind fun r38 => (if r38 = (iI (-2)) then ((mX4_select n d lb x1 (iI 65) (iI 0)).bind fun r40 => (if r40 = (iI (-2)) then ((mX4_copies n d lb x1).bind fun r42 => (if r42 = x7 then ((mX4_areEqual n d lb x1 x1).bind fun r44 => (if r44 = (iI 1) then ((mX4_ancestorWith n d lb x1 x3).bind fun r46 => (if r46 = x8 then ((mX4_areEqual n d lb x1 x2).bind fun r48 => (if x9 = 0 then mL_labels_385 n d lb (iI 0) r48 else mL_labels_385 n d lb (iI 1) r48)) else none)) else none)) else none)) else none)) else none)) else none)) else none)
def mL_labels_242 : Nat → Int32 → (Nat → Int32) → (Nat → Int32) → Int32 → Int32 → Int32 → Int32 → Int32 → Int32 → Int32 → Int32 → Int32 → Option (Int32)
  | 0, _, _, _, _, _, _, _, _, _, _, _, _ => none
  | f + 1, n, d, lb, x1, x2, x3, x4, x6, x7, x8, x9, x10 => ((mX4_node n d lb x1 (iI 2)).bind fun r28 => (if r28 ≤ x10 then mL_labels_293 n d lb x1 x2 x3 x4 x6 x7 x8 x9 else (if x9 = 0 then mL_labels_293 n d lb x1 x2 x3 x4 x6 x7 x8 x9 else ((mX4_child n d x1 x10).bind fun r31 => ((mX4_child n d x2 x10).bind fun r32 => ((mX4_areEqual n d lb r31 r32).bind fun r33 => (if r33 = (iI 1) then mL_labels_285 (mL_labels_242 f) n d lb x1 x2 x3 x4 x6 x7 x8 x10 (iI 1) else mL_labels_285 (mL_labels_242 f) n d lb x1 x2 x3 x4 x6 x7 x8 x10 (iI 0))))))))
def mL_labels_237 (n : Int32) (d : Nat → Int32) (lb : Nat → Int32) (x1 : Int32) (x2 : Int32) (x3 : Int32) (x4 : Int32) (x6 : Int32) (x7 : Int32) (x8 : Int32) (y0 : Int32) : Option (Int32) := mL_labels_242 FU n d lb x1 x2 x3 x4 x6 x7 x8 y0 (iI 0)
def mL_labels_236 (n : Int32) (d : Nat → Int32) (lb : Nat → Int32) (x1 : Int32) (x2 : Int32) (x3 : Int32) (x4 : Int32) (x6 : Int32) (x7 : Int32) (x8 : Int32) : Option (Int32) := mL_labels_237 n d lb x1 x2 x3 x4 x6 x7 x8 (iI 0)
def mL_labels_200 (n : Int32) (d : Nat → Int32) (lb : Nat → Int32) (x1 : Int32) (x2 : Int32) (x3 : Int32) (x4 : Int32) (x6 : Int32) (x7 : Int32) (x8 : Int32) : Option (Int32) := ((mX4_node n d lb x1 (iI 10)).bind fun r22 => ((mX4_node n d lb x2 (iI 10)).bind fun r23 => (if r22 = r23 then ((mX4_node n d lb x1 (iI 2)).bind fun r25 => ((mX4_node n d lb x2 (iI 2)).bind fun r26 => (if r25 = r26 then mL_labels_237 n d lb x1 x2 x3 x4 x6 x7 x8 (iI 1) else mL_labels_236 n d lb x1 x2 x3 x4 x6 x7 x8))) else mL_labels_236 n d lb x1 x2 x3 x4 x6 x7 x8)))
def mL_labels_171 : Nat → Int32 → (Nat → Int32) → (Nat → Int32) → Int32 → Int32 → Int32 → Int32 → Int32 → Int32 → Int32 → Option (Int32)
  | 0, _, _, _, _, _, _, _, _, _, _ => none
  | f + 1, n, d, lb, x1, x2, x3, x4, x6, x7, x8 => (if x8 < 0 then mL_labels_200 n d lb x1 x2 x3 x4 x6 x7 x8 else ((mX4_node n d lb x8 (iI 10)).bind fun r18 => (if r18 = x3 then mL_labels_200 n d lb x1 x2 x3 x4 x6 x7 x8 else ((mX4_node n d lb x8 (iI 1)).bind fun r20 => mL_labels_171 f n d lb x1 x2 x3 x4 x6 x7 r20))))
def mL_labels_95 : Nat → Int32 → (Nat → Int32) → (Nat → Int32) → Int32 → Int32 → Int32 → Int32 → Int32 → Int32 → Int32 → Option (Int32)
  | 0, _, _, _, _, _, _, _, _, _, _ => none
  | f + 1, n, d, lb, x1, x2, x3, x4, x6, x7, x8 => (if (mX4_size n) ≤ x8 then ((mX4_node n d lb x1 (iI 1)).bind fun r11 => mL_labels_171 FU n d lb x1 x2 x3 x4 x6 x7 r11) else (if x8 < x1 then mL_labels_141 (mL_labels_95 f) n d lb x1 x2 x3 x4 x7 x8 x6 else ((mX4_node n d lb x1 (iI 3)).bind fun r13 => (if (x1 + r13) ≤ x8 then mL_labels_141 (mL_labels_95 f) n d lb x1 x2 x3 x4 x7 x8 x6 else ((mX4_node n d lb x8 (iI 10)).bind fun r15 => (if r15 = x3 then mL_labels_142 (mL_labels_95 f) n d lb x1 x2 x3 x4 x7 x8 (iI 1) x6 else mL_labels_141 (mL_labels_95 f) n d lb x1 x2 x3 x4 x7 x8 x6))))))
def mL_labels_25 : Nat → Int32 → (Nat → Int32) → (Nat → Int32) → Int32 → Int32 → Int32 → Int32 → Int32 → Int32 → Option (Int32)
  | 0, _, _, _, _, _, _, _, _, _ => none
  | f + 1, n, d, lb, x1, x2, x3, x4, x5, x6 => (if x4 ≤ x6 then mL_labels_95 FU n d lb x1 x2 x3 x4 (iI 0) (iI 0) (iI 0) else ((mX4_select n d lb x1 x3 x6).bind fun r4 => (if r4 ≤ x5 then none else ((mX4_node n d lb x1 (iI 3)).bind fun r6 => (if (x1 + r6) ≤ r4 then none else ((mX4_node n d lb r4 (iI 10)).bind fun r8 => (if r8 = x3 then mL_labels_25 f n d lb x1 x2 x3 x4 r4 (x6 + iI 1) else none)))))))
def mL_labels (n : Int32) (d : Nat → Int32) (lb : Nat → Int32) (x1 : Int32) (x2 : Int32) : Option (Int32) := ((mX4_node n d lb x2 (iI 10)).bind fun r1 => ((mX4_labelled n d lb x1 (c16 r1)).bind fun r2 => mL_labels_25 FU n d lb x1 x2 (c16 r1) r2 (x1 - (iI 1)) (iI 0)))
theorem hdL_labels : yL_labels.cls = RL ∧ yL_labels.cls ≠ "java/lang/invoke/MethodHandle" ∧ yL_labels.cls ≠ "java/lang/invoke/VarHandle" ∧ (parseMethodDescriptor yL_labels.desc).map (fun d => d.parameters.length) = some 3 := by decide +kernel
abbrev rmL_labels : Room := { frames := 7, cells := 0, slots := 0, locals := 155 }
set_option maxHeartbeats 4000000 in
set_option maxRecDepth 100000 in
theorem kL_labels_142 {p : Program} {l : Launch} {e : Env} {s : State} {m : MethodId} {args : Array Value} {below : List Frame} {meth : Method} {c : Code} {D : va_G} {cI cC : ClassId} {q : Nat → Nat} {n : Int32} {d : Nat → Int32} {lb : Nat → Int32} {xd : Nat → Int32} {xl : Nat → Int32} {wi : Int32} {sl : Int32} {kp : Int32} {ct : Nat → Int32} {gd : Nat → Int32} {gl : Nat → Int32} {ln : Int32} {ch : Nat → Int32} {r : Int32} (X : CX p s m args meth c wsL_labels cL_labels 11 (some .boolean) RL) (hKK : KK D cI cC s) (hP : va_P D vwCl (wA cI q n d lb xd xl wi sl kp ct gd gl ln ch) s.heap) (rec : Int32 → (Nat → Int32) → (Nat → Int32) → Int32 → Int32 → Int32 → Int32 → Int32 → Int32 → Int32 → Option (Int32)) (hrec : ∀ (x1 : Int32) (x2 : Int32) (x3 : Int32) (x4 : Int32) (x6 : Int32) (x7 : Int32) (x8 : Int32) (ls : Array Slot), lv_has ls 11 [(0, .ref (q 0)), (1, .int x1), (2, .int x2), (3, .int x3), (4, .int x4), (6, .int x6), (7, .int x7), (8, .int x8)] → rec n d lb x1 x2 x3 x4 x6 x7 x8 = some r → W p l e rmL_labels s m args below meth c s.heap [] 0 0 (MQ below (rdQ r) args s 0 0 (fun _ => False)) (F0 m 95 ls [])) : ∀ (x1 : Int32) (x2 : Int32) (x3 : Int32) (x4 : Int32) (x7 : Int32) (x8 : Int32) (y0 : Int32) (y1 : Int32) (ls : Array Slot), lv_has ls 11 [(0, .ref (q 0)), (1, .int x1), (2, .int x2), (3, .int x3), (4, .int x4), (7, .int x7), (8, .int x8)] → mL_labels_142 rec n d lb x1 x2 x3 x4 x7 x8 y0 y1 = some r → W p l e rmL_labels s m args below meth c s.heap [] 0 0 (MQ below (rdQ r) args s 0 0 (fun _ => False)) (F0 m 142 ls [.int y0, .int y1]) := by
  have hx := X.1
  have hb := X.2.1
  intro x1 x2 x3 x4 x7 x8 y0 y1 ls hl h
  unfold mL_labels_142 at h
  refine lv_iadd hx hb dL_labels_142 ?_
  refine lv_istore (lv' := [(6, .int (y1 + y0)), (0, .ref (q 0)), (1, .int x1), (2, .int x2), (3, .int x3), (4, .int x4), (7, .int x7), (8, .int x8)]) hx hb dL_labels_143 hl (by decide) rfl (fun ls hl => ?_)
  refine lv_iload hx hb dL_labels_145 (lv_at hl 6 rfl) ?_
  refine lv_aload_n hx hb dL_labels_147 rfl (lv_at hl 1 rfl) ?_
  refine lv_iload_n hx hb dL_labels_148 rfl (lv_at hl 2 rfl) ?_
  refine lv_iload hx hb dL_labels_149 (lv_at hl 7 rfl) ?_
  obtain ⟨r21, h_r21, h⟩ := obd h
  refine rcV (rest := [.int x7]) X hKK hP 2 (zX4_areEqual l D cI cC q n d lb xd xl wi sl kp ct gd gl ln ch x1 x8 r21 h_r21) gL_labels_X4_areEqual rfl rfl rfl hdX4_areEqual ⟨Nat.le_of_ble_eq_true rfl, Nat.le_of_ble_eq_true rfl⟩ [0, 1, 2, 3, 4, 5, 6, 7, 8, 9, 10, 11, 12] rfl 0 rfl rfl rfl hl.1 rfl (Nat.le_of_ble_eq_true rfl) dL_labels_151 ⟨Nat.zero_le _, Nat.zero_le _⟩ ?_
  refine lv_iadd hx hb dL_labels_154 ?_
  refine lv_istore (lv' := [(7, .int (x7 + r21)), (6, .int (y1 + y0)), (0, .ref (q 0)), (1, .int x1), (2, .int x2), (3, .int x3), (4, .int x4), (8, .int x8)]) hx hb dL_labels_155 hl (by decide) rfl (fun ls hl => ?_)
  refine lv_iinc (v := (x8 + iI 1)) (lv' := [(8, .int (x8 + iI 1)), (7, .int (x7 + r21)), (6, .int (y1 + y0)), (0, .ref (q 0)), (1, .int x1), (2, .int x2), (3, .int x3), (4, .int x4)]) hx hb dL_labels_157 hl (k := 7) rfl rfl (by decide) rfl (fun ls hl => ?_)
  refine lv_goto (tgt := 95) hx hb dL_labels_160 (by decide) ?_
  exact hrec x1 x2 x3 x4 (y1 + y0) (x7 + r21) (x8 + iI 1) ls (lv_sub hl [3, 4, 5, 6, 7, 2, 1, 0] rfl) h
set_option maxHeartbeats 4000000 in
set_option maxRecDepth 100000 in
theorem kL_labels_141 {p : Program} {l : Launch} {e : Env} {s : State} {m : MethodId} {args : Array Value} {below : List Frame} {meth : Method} {c : Code} {D : va_G} {cI cC : ClassId} {q : Nat → Nat} {n : Int32} {d : Nat → Int32} {lb : Nat → Int32} {xd : Nat → Int32} {xl : Nat → Int32} {wi : Int32} {sl : Int32} {kp : Int32} {ct : Nat → Int32} {gd : Nat → Int32} {gl : Nat → Int32} {ln : Int32} {ch : Nat → Int32} {r : Int32} (X : CX p s m args meth c wsL_labels cL_labels 11 (some .boolean) RL) (hKK : KK D cI cC s) (hP : va_P D vwCl (wA cI q n d lb xd xl wi sl kp ct gd gl ln ch) s.heap) (rec : Int32 → (Nat → Int32) → (Nat → Int32) → Int32 → Int32 → Int32 → Int32 → Int32 → Int32 → Int32 → Option (Int32)) (hrec : ∀ (x1 : Int32) (x2 : Int32) (x3 : Int32) (x4 : Int32) (x6 : Int32) (x7 : Int32) (x8 : Int32) (ls : Array Slot), lv_has ls 11 [(0, .ref (q 0)), (1, .int x1), (2, .int x2), (3, .int x3), (4, .int x4), (6, .int x6), (7, .int x7), (8, .int x8)] → rec n d lb x1 x2 x3 x4 x6 x7 x8 = some r → W p l e rmL_labels s m args below meth c s.heap [] 0 0 (MQ below (rdQ r) args s 0 0 (fun _ => False)) (F0 m 95 ls [])) : ∀ (x1 : Int32) (x2 : Int32) (x3 : Int32) (x4 : Int32) (x7 : Int32) (x8 : Int32) (y0 : Int32) (ls : Array Slot), lv_has ls 11 [(0, .ref (q 0)), (1, .int x1), (2, .int x2), (3, .int x3), (4, .int x4), (7, .int x7), (8, .int x8)] → mL_labels_141 rec n d lb x1 x2 x3 x4 x7 x8 y0 = some r → W p l e rmL_labels s m args below meth c s.heap [] 0 0 (MQ below (rdQ r) args s 0 0 (fun _ => False)) (F0 m 141 ls [.int y0]) := by
  have hx := X.1
  have hb := X.2.1
  intro x1 x2 x3 x4 x7 x8 y0 ls hl h
  unfold mL_labels_141 at h
  refine lv_iconst (v := iI 0) hx hb dL_labels_141 rfl ?_
  exact kL_labels_142 X hKK hP rec hrec x1 x2 x3 x4 x7 x8 (iI 0) y0 ls (lv_sub hl [0, 1, 2, 3, 4, 5, 6] rfl) h
set_option maxHeartbeats 4000000 in
set_option maxRecDepth 100000 in
theorem kL_labels_285 {p : Program} {l : Launch} {e : Env} {s : State} {m : MethodId} {args : Array Value} {below : List Frame} {meth : Method} {c : Code} {D : va_G} {cI cC : ClassId} {q : Nat → Nat} {n : Int32} {d : Nat → Int32} {lb : Nat → Int32} {xd : Nat → Int32} {xl : Nat → Int32} {wi : Int32} {sl : Int32} {kp : Int32} {ct : Nat → Int32} {gd : Nat → Int32} {gl : Nat → Int32} {ln : Int32} {ch : Nat → Int32} {r : Int32} (X : CX p s m args meth c wsL_labels cL_labels 11 (some .boolean) RL) (hKK : KK D cI cC s) (hP : va_P D vwCl (wA cI q n d lb xd xl wi sl kp ct gd gl ln ch) s.heap) (rec : Int32 → (Nat → Int32) → (Nat → Int32) → Int32 → Int32 → Int32 → Int32 → Int32 → Int32 → Int32 → Int32 → Int32 → Option (Int32)) (hrec : ∀ (x1 : Int32) (x2 : Int32) (x3 : Int32) (x4 : Int32) (x6 : Int32) (x7 : Int32) (x8 : Int32) (x9 : Int32) (x10 : Int32) (ls : Array Slot), lv_has ls 11 [(0, .ref (q 0)), (1, .int x1), (2, .int x2), (3, .int x3), (4, .int x4), (6, .int x6), (7, .int x7), (8, .int x8), (9, .int x9), (10, .int x10)] → rec n d lb x1 x2 x3 x4 x6 x7 x8 x9 x10 = some r → W p l e rmL_labels s m args below meth c s.heap [] 0 0 (MQ below (rdQ r) args s 0 0 (fun _ => False)) (F0 m 242 ls [])) : ∀ (x1 : Int32) (x2 : Int32) (x3 : Int32) (x4 : Int32) (x6 : Int32) (x7 : Int32) (x8 : Int32) (x10 : Int32) (y0 : Int32) (ls : Array Slot), lv_has ls 11 [(0, .ref (q 0)), (1, .int x1), (2, .int x2), (3, .int x3), (4, .int x4), (6, .int x6), (7, .int x7), (8, .int x8), (10, .int x10)] → mL_labels_285 rec n d lb x1 x2 x3 x4 x6 x7 x8 x10 y0 = some r → W p l e rmL_labels s m args below meth c s.heap [] 0 0 (MQ below (rdQ r) args s 0 0 (fun _ => False)) (F0 m 285 ls [.int y0]) := by
  have hx := X.1
  have hb := X.2.1
  intro x1 x2 x3 x4 x6 x7 x8 x10 y0 ls hl h
  unfold mL_labels_285 at h
  refine lv_istore (lv' := [(9, .int y0), (0, .ref (q 0)), (1, .int x1), (2, .int x2), (3, .int x3), (4, .int x4), (6, .int x6), (7, .int x7), (8, .int x8), (10, .int x10)]) hx hb dL_labels_285 hl (by decide) rfl (fun ls hl => ?_)
  refine lv_iinc (v := (x10 + iI 1)) (lv' := [(10, .int (x10 + iI 1)), (9, .int y0), (0, .ref (q 0)), (1, .int x1), (2, .int x2), (3, .int x3), (4, .int x4), (6, .int x6), (7, .int x7), (8, .int x8)]) hx hb dL_labels_287 hl (k := 9) rfl rfl (by decide) rfl (fun ls hl => ?_)
  refine lv_goto (tgt := 242) hx hb dL_labels_290 (by decide) ?_
  exact hrec x1 x2 x3 x4 x6 x7 x8 y0 (x10 + iI 1) ls (lv_sub hl [2, 3, 4, 5, 6, 7, 8, 9, 1, 0] rfl) h
set_option maxHeartbeats 4000000 in
set_option maxRecDepth 100000 in
theorem kL_labels_385 {p : Program} {l : Launch} {e : Env} {s : State} {m : MethodId} {args : Array Value} {below : List Frame} {meth : Method} {c : Code} {D : va_G} {cI cC : ClassId} {q : Nat → Nat} {n : Int32} {d : Nat → Int32} {lb : Nat → Int32} {xd : Nat → Int32} {xl : Nat → Int32} {wi : Int32} {sl : Int32} {kp : Int32} {ct : Nat → Int32} {gd : Nat → Int32} {gl : Nat → Int32} {ln : Int32} {ch : Nat → Int32} {r : Int32} (X : CX p s m args meth c wsL_labels cL_labels 11 (some .boolean) RL) (hKK : KK D cI cC s) (hP : va_P D vwCl (wA cI q n d lb xd xl wi sl kp ct gd gl ln ch) s.heap) : ∀ (y0 : Int32) (y1 : Int32) (ls : Array Slot), lv_has ls 11 [] → mL_labels_385 n d lb y0 y1 = some r → W p l e rmL_labels s m args below meth c s.heap [] 0 0 (MQ below (rdQ r) args s 0 0 (fun _ => False)) (F0 m 385 ls [.int y0, .int y1]) := by
  have hx := X.1
  have hb := X.2.1
  intro y0 y1 ls hl h
  unfold mL_labels_385 at h
  refine lv_icmp_ne (tgt := 392) hx hb dL_labels_385 (by decide) (fun c50 => ?_) (fun c50 => ?_)
  · replace h := ifn c50 h
    cases h
  · replace h := ifp c50 h
    refine lv_iconst (v := iI 1) hx hb dL_labels_388 rfl ?_
    refine lv_goto (tgt := 393) hx hb dL_labels_389 (by decide) ?_
    exact rd_ret X rfl (Option.some.inj h) dL_labels_393
set_option maxHeartbeats 4000000 in
set_option maxRecDepth 100000 in
theorem kL_labels_293 {p : Program} {l : Launch} {e : Env} {s : State} {m : MethodId} {args : Array Value} {below : List Frame} {meth : Method} {c : Code} {D : va_G} {cI cC : ClassId} {q : Nat → Nat} {n : Int32} {d : Nat → Int32} {lb : Nat → Int32} {xd : Nat → Int32} {xl : Nat → Int32} {wi : Int32} {sl : Int32} {kp : Int32} {ct : Nat → Int32} {gd : Nat → Int32} {gl : Nat → Int32} {ln : Int32} {ch : Nat → Int32} {r : Int32} (X : CX p s m args meth c wsL_labels cL_labels 11 (some .boolean) RL) (hKK : KK D cI cC s) (hP : va_P D vwCl (wA cI q n d lb xd xl wi sl kp ct gd gl ln ch) s.heap) : ∀ (x1 : Int32) (x2 : Int32) (x3 : Int32) (x4 : Int32) (x6 : Int32) (x7 : Int32) (x8 : Int32) (x9 : Int32) (ls : Array Slot), lv_has ls 11 [(0, .ref (q 0)), (1, .int x1), (2, .int x2), (3, .int x3), (4, .int x4), (6, .int x6), (7, .int x7), (8, .int x8), (9, .int x9)] → mL_labels_293 n d lb x1 x2 x3 x4 x6 x7 x8 x9 = some r → W p l e rmL_labels s m args below meth c s.heap [] 0 0 (MQ below (rdQ r) args s 0 0 (fun _ => False)) (F0 m 293 ls []) := by
  have hx := X.1
  have hb := X.2.1
  intro x1 x2 x3 x4 x6 x7 x8 x9 ls hl h
  unfold mL_labels_293 at h
  refine lv_iload hx hb dL_labels_293 (lv_at hl 5 rfl) ?_
  refine lv_iload hx hb dL_labels_295 (lv_at hl 4 rfl) ?_
  refine lv_icmp_ne (tgt := 392) hx hb dL_labels_297 (by decide) (fun c35 => ?_) (fun c35 => ?_)
  · replace h := ifn c35 h
    cases h
  · replace h := ifp c35 h
    refine lv_aload_n hx hb dL_labels_300 rfl (lv_at hl 0 rfl) ?_
    refine lv_iload_n hx hb dL_labels_301 rfl (lv_at hl 1 rfl) ?_
    refine lv_iload_n hx hb dL_labels_302 rfl (lv_at hl 3 rfl) ?_
    refine lv_iload hx hb dL_labels_303 (lv_at hl 4 rfl) ?_
    obtain ⟨r36, h_r36, h⟩ := obd h
    refine rcV (rest := []) X hKK hP 3 (zX4_select l D cI cC q n d lb xd xl wi sl kp ct gd gl ln ch x1 x3 x4 r36 h_r36) gL_labels_X4_select rfl rfl rfl hdX4_select ⟨Nat.le_of_ble_eq_true rfl, Nat.le_of_ble_eq_true rfl⟩ [0, 1, 2, 3, 4, 5, 6, 7, 8, 9, 10, 11, 12] rfl 0 rfl rfl rfl hl.1 rfl (Nat.le_of_ble_eq_true rfl) dL_labels_305 ⟨Nat.zero_le _, Nat.zero_le _⟩ ?_
    refine lv_bipush (v := iI (-5)) hx hb dL_labels_308 (by decide) ?_
    refine lv_icmp_ne (tgt := 392) hx hb dL_labels_310 (by decide) (fun c37 => ?_) (fun c37 => ?_)
    · replace h := ifn c37 h
      cases h
    · replace h := ifp c37 h
      refine lv_aload_n hx hb dL_labels_313 rfl (lv_at hl 0 rfl) ?_
      refine lv_iload_n hx hb dL_labels_314 rfl (lv_at hl 1 rfl) ?_
      refine lv_iload_n hx hb dL_labels_315 rfl (lv_at hl 3 rfl) ?_
      refine lv_iconst (v := iI (-1)) hx hb dL_labels_316 rfl ?_
      obtain ⟨r38, h_r38, h⟩ := obd h
      refine rcV (rest := []) X hKK hP 3 (zX4_select l D cI cC q n d lb xd xl wi sl kp ct gd gl ln ch x1 x3 (iI (-1)) r38 h_r38) gL_labels_X4_select rfl rfl rfl hdX4_select ⟨Nat.le_of_ble_eq_true rfl, Nat.le_of_ble_eq_true rfl⟩ [0, 1, 2, 3, 4, 5, 6, 7, 8, 9, 10, 11, 12] rfl 0 rfl rfl rfl hl.1 rfl (Nat.le_of_ble_eq_true rfl) dL_labels_317 ⟨Nat.zero_le _, Nat.zero_le _⟩ ?_
      refine lv_bipush (v := iI (-2)) hx hb dL_labels_320 (by decide) ?_
      refine lv_icmp_ne (tgt := 392) hx hb dL_labels_322 (by decide) (fun c39 => ?_) (fun c39 => ?_)
      · replace h := ifn c39 h
        cases h
      · replace h := ifp c39 h
        refine lv_aload_n hx hb dL_labels_325 rfl (lv_at hl 0 rfl) ?_
        refine lv_iload_n hx hb dL_labels_326 rfl (lv_at hl 1 rfl) ?_
        refine lv_bipush (v := iI 65) hx hb dL_labels_327 (by decide) ?_
        refine lv_iconst (v := iI 0) hx hb dL_labels_329 rfl ?_
        obtain ⟨r40, h_r40, h⟩ := obd h
        refine rcV (rest := []) X hKK hP 3 (zX4_select l D cI cC q n d lb xd xl wi sl kp ct gd gl ln ch x1 (iI 65) (iI 0) r40 h_r40) gL_labels_X4_select rfl rfl rfl hdX4_select ⟨Nat.le_of_ble_eq_true rfl, Nat.le_of_ble_eq_true rfl⟩ [0, 1, 2, 3, 4, 5, 6, 7, 8, 9, 10, 11, 12] rfl 0 rfl rfl rfl hl.1 rfl (Nat.le_of_ble_eq_true rfl) dL_labels_330 ⟨Nat.zero_le _, Nat.zero_le _⟩ ?_
        refine lv_bipush (v := iI (-2)) hx hb dL_labels_333 (by decide) ?_
        refine lv_icmp_ne (tgt := 392) hx hb dL_labels_335 (by decide) (fun c41 => ?_) (fun c41 => ?_)
        · replace h := ifn c41 h
          cases h
        · replace h := ifp c41 h
          refine lv_aload_n hx hb dL_labels_338 rfl (lv_at hl 0 rfl) ?_
          refine lv_iload_n hx hb dL_labels_339 rfl (lv_at hl 1 rfl) ?_
          obtain ⟨r42, h_r42, h⟩ := obd h
          refine rcV (rest := []) X hKK hP 1 (zX4_copies l D cI cC q n d lb xd xl wi sl kp ct gd gl ln ch x1 r42 h_r42) gL_labels_X4_copies rfl rfl rfl hdX4_copies ⟨Nat.le_of_ble_eq_true rfl, Nat.le_of_ble_eq_true rfl⟩ [0, 1, 2, 3, 4, 5, 6, 7, 8, 9, 10, 11, 12] rfl 0 rfl rfl rfl hl.1 rfl (Nat.le_of_ble_eq_true rfl) dL_labels_340 ⟨Nat.zero_le _, Nat.zero_le _⟩ ?_
          refine lv_iload hx hb dL_labels_343 (lv_at hl 6 rfl) ?_
          refine lv_icmp_ne (tgt := 392) hx hb dL_labels_345 (by decide) (fun c43 => ?_) (fun c43 => ?_)
          · replace h := ifn c43 h
            cases h
          · replace h := ifp c43 h
            refine lv_aload_n hx hb dL_labels_348 rfl (lv_at hl 0 rfl) ?_
            refine lv_iload_n hx hb dL_labels_349 rfl (lv_at hl 1 rfl) ?_
            refine lv_iload_n hx hb dL_labels_350 rfl (lv_at hl 1 rfl) ?_
            obtain ⟨r44, h_r44, h⟩ := obd h
            refine rcV (rest := []) X hKK hP 2 (zX4_areEqual l D cI cC q n d lb xd xl wi sl kp ct gd gl ln ch x1 x1 r44 h_r44) gL_labels_X4_areEqual rfl rfl rfl hdX4_areEqual ⟨Nat.le_of_ble_eq_true rfl, Nat.le_of_ble_eq_true rfl⟩ [0, 1, 2, 3, 4, 5, 6, 7, 8, 9, 10, 11, 12] rfl 0 rfl rfl rfl hl.1 rfl (Nat.le_of_ble_eq_true rfl) dL_labels_351 ⟨Nat.zero_le _, Nat.zero_le _⟩ ?_
            refine lv_iconst (v := iI 1) hx hb dL_labels_354 rfl ?_
            refine lv_icmp_ne (tgt := 392) hx hb dL_labels_355 (by decide) (fun c45 => ?_) (fun c45 => ?_)
            · replace h := ifn c45 h
              cases h
            · replace h := ifp c45 h
              refine lv_aload_n hx hb dL_labels_358 rfl (lv_at hl 0 rfl) ?_
              refine lv_iload_n hx hb dL_labels_359 rfl (lv_at hl 1 rfl) ?_
              refine lv_iload_n hx hb dL_labels_360 rfl (lv_at hl 3 rfl) ?_
              obtain ⟨r46, h_r46, h⟩ := obd h
              refine rcV (rest := []) X hKK hP 2 (zX4_ancestorWith l D cI cC q n d lb xd xl wi sl kp ct gd gl ln ch x1 x3 r46 h_r46) gL_labels_X4_ancestorWith rfl rfl rfl hdX4_ancestorWith ⟨Nat.le_of_ble_eq_true rfl, Nat.le_of_ble_eq_true rfl⟩ [0, 1, 2, 3, 4, 5, 6, 7, 8, 9, 10, 11, 12] rfl 0 rfl rfl rfl hl.1 rfl (Nat.le_of_ble_eq_true rfl) dL_labels_361 ⟨Nat.zero_le _, Nat.zero_le _⟩ ?_
              refine lv_iload hx hb dL_labels_364 (lv_at hl 7 rfl) ?_
              refine lv_icmp_ne (tgt := 392) hx hb dL_labels_366 (by decide) (fun c47 => ?_) (fun c47 => ?_)
              · replace h := ifn c47 h
                cases h
              · replace h := ifp c47 h
                refine lv_aload_n hx hb dL_labels_369 rfl (lv_at hl 0 rfl) ?_
                refine lv_iload_n hx hb dL_labels_370 rfl (lv_at hl 1 rfl) ?_
                refine lv_iload_n hx hb dL_labels_371 rfl (lv_at hl 2 rfl) ?_
                obtain ⟨r48, h_r48, h⟩ := obd h
                refine rcV (rest := []) X hKK hP 2 (zX4_areEqual l D cI cC q n d lb xd xl wi sl kp ct gd gl ln ch x1 x2 r48 h_r48) gL_labels_X4_areEqual rfl rfl rfl hdX4_areEqual ⟨Nat.le_of_ble_eq_true rfl, Nat.le_of_ble_eq_true rfl⟩ [0, 1, 2, 3, 4, 5, 6, 7, 8, 9, 10, 11, 12] rfl 0 rfl rfl rfl hl.1 rfl (Nat.le_of_ble_eq_true rfl) dL_labels_372 ⟨Nat.zero_le _, Nat.zero_le _⟩ ?_
                refine lv_iload hx hb dL_labels_375 (lv_at hl 8 rfl) ?_
                refine lv_if_eq (tgt := 384) hx hb dL_labels_377 (by decide) (fun c49 => ?_) (fun c49 => ?_)
                · replace h := ifp c49 h
                  refine lv_iconst (v := iI 0) hx hb dL_labels_384 rfl ?_
                  exact kL_labels_385 X hKK hP (iI 0) r48 ls (lv_sub hl [] rfl) h
                · replace h := ifn c49 h
                  refine lv_iconst (v := iI 1) hx hb dL_labels_380 rfl ?_
                  refine lv_goto (tgt := 385) hx hb dL_labels_381 (by decide) ?_
                  exact kL_labels_385 X hKK hP (iI 1) r48 ls (lv_sub hl [] rfl) h
set_option maxHeartbeats 4000000 in
set_option maxRecDepth 100000 in
theorem kL_labels_242 {p : Program} {l : Launch} {e : Env} {s : State} {m : MethodId} {args : Array Value} {below : List Frame} {meth : Method} {c : Code} {D : va_G} {cI cC : ClassId} {q : Nat → Nat} {n : Int32} {d : Nat → Int32} {lb : Nat → Int32} {xd : Nat → Int32} {xl : Nat → Int32} {wi : Int32} {sl : Int32} {kp : Int32} {ct : Nat → Int32} {gd : Nat → Int32} {gl : Nat → Int32} {ln : Int32} {ch : Nat → Int32} {r : Int32} (X : CX p s m args meth c wsL_labels cL_labels 11 (some .boolean) RL) (hKK : KK D cI cC s) (hP : va_P D vwCl (wA cI q n d lb xd xl wi sl kp ct gd gl ln ch) s.heap) : ∀ (f : Nat), ∀ (x1 : Int32) (x2 : Int32) (x3 : Int32) (x4 : Int32) (x6 : Int32) (x7 : Int32) (x8 : Int32) (x9 : Int32) (x10 : Int32) (ls : Array Slot), lv_has ls 11 [(0, .ref (q 0)), (1, .int x1), (2, .int x2), (3, .int x3), (4, .int x4), (6, .int x6), (7, .int x7), (8, .int x8), (9, .int x9), (10, .int x10)] → mL_labels_242 f n d lb x1 x2 x3 x4 x6 x7 x8 x9 x10 = some r → W p l e rmL_labels s m args below meth c s.heap [] 0 0 (MQ below (rdQ r) args s 0 0 (fun _ => False)) (F0 m 242 ls []) := by
  have hx := X.1
  have hb := X.2.1
  intro f
  induction f with
  | zero =>
    intro x1 x2 x3 x4 x6 x7 x8 x9 x10 ls hl h
    exact absurd h (by unfold mL_labels_242; intro h; cases h)
  | succ f ih =>
    intro x1 x2 x3 x4 x6 x7 x8 x9 x10 ls hl h
    rw [mL_labels_242] at h
    refine lv_iload hx hb dL_labels_242 (lv_at hl 9 rfl) ?_
    refine lv_aload_n hx hb dL_labels_244 rfl (lv_at hl 0 rfl) ?_
    refine lv_iload_n hx hb dL_labels_245 rfl (lv_at hl 1 rfl) ?_
    refine lv_iconst (v := iI 2) hx hb dL_labels_246 rfl ?_
    obtain ⟨r28, h_r28, h⟩ := obd h
    refine rcV (rest := [.int x10]) X hKK hP 2 (zX4_node l D cI cC q n d lb xd xl wi sl kp ct gd gl ln ch x1 (iI 2) r28 h_r28) gL_labels_X4_node rfl rfl rfl hdX4_node ⟨Nat.le_of_ble_eq_true rfl, Nat.le_of_ble_eq_true rfl⟩ [0, 1, 2, 3, 4, 5, 6, 7, 8, 9, 10, 11, 12] rfl 0 rfl rfl rfl hl.1 rfl (Nat.le_of_ble_eq_true rfl) dL_labels_247 ⟨Nat.zero_le _, Nat.zero_le _⟩ ?_
    refine lv_icmp_ge (tgt := 293) hx hb dL_labels_250 (by decide) (fun c29 => ?_) (fun c29 => ?_)
    · replace h := ifp c29 h
      exact kL_labels_293 X hKK hP x1 x2 x3 x4 x6 x7 x8 x9 ls (lv_sub hl [0, 1, 2, 3, 4, 5, 6, 7, 8] rfl) h
    · replace h := ifn c29 h
      refine lv_iload hx hb dL_labels_253 (lv_at hl 8 rfl) ?_
      refine lv_if_eq (tgt := 293) hx hb dL_labels_255 (by decide) (fun c30 => ?_) (fun c30 => ?_)
      · replace h := ifp c30 h
        exact kL_labels_293 X hKK hP x1 x2 x3 x4 x6 x7 x8 x9 ls (lv_sub hl [0, 1, 2, 3, 4, 5, 6, 7, 8] rfl) h
      · replace h := ifn c30 h
        refine lv_aload_n hx hb dL_labels_258 rfl (lv_at hl 0 rfl) ?_
        refine lv_aload_n hx hb dL_labels_259 rfl (lv_at hl 0 rfl) ?_
        refine lv_iload_n hx hb dL_labels_260 rfl (lv_at hl 1 rfl) ?_
        refine lv_iload hx hb dL_labels_261 (lv_at hl 9 rfl) ?_
        obtain ⟨r31, h_r31, h⟩ := obd h
        refine rcV (rest := [.ref (q 0)]) X hKK hP 2 (zX4_child l D cI cC q n d lb xd xl wi sl kp ct gd gl ln ch x1 x10 r31 h_r31) gL_labels_X4_child rfl rfl rfl hdX4_child ⟨Nat.le_of_ble_eq_true rfl, Nat.le_of_ble_eq_true rfl⟩ [0, 1, 2, 3, 4, 5, 6, 7, 8, 9, 10, 11, 12] rfl 0 rfl rfl rfl hl.1 rfl (Nat.le_of_ble_eq_true rfl) dL_labels_263 ⟨Nat.zero_le _, Nat.zero_le _⟩ ?_
        refine lv_aload_n hx hb dL_labels_266 rfl (lv_at hl 0 rfl) ?_
        refine lv_iload_n hx hb dL_labels_267 rfl (lv_at hl 2 rfl) ?_
        refine lv_iload hx hb dL_labels_268 (lv_at hl 9 rfl) ?_
        obtain ⟨r32, h_r32, h⟩ := obd h
        refine rcV (rest := [.int r31, .ref (q 0)]) X hKK hP 2 (zX4_child l D cI cC q n d lb xd xl wi sl kp ct gd gl ln ch x2 x10 r32 h_r32) gL_labels_X4_child rfl rfl rfl hdX4_child ⟨Nat.le_of_ble_eq_true rfl, Nat.le_of_ble_eq_true rfl⟩ [0, 1, 2, 3, 4, 5, 6, 7, 8, 9, 10, 11, 12] rfl 0 rfl rfl rfl hl.1 rfl (Nat.le_of_ble_eq_true rfl) dL_labels_270 ⟨Nat.zero_le _, Nat.zero_le _⟩ ?_
        obtain ⟨r33, h_r33, h⟩ := obd h
        refine rcV (rest := []) X hKK hP 2 (zX4_areEqual l D cI cC q n d lb xd xl wi sl kp ct gd gl ln ch r31 r32 r33 h_r33) gL_labels_X4_areEqual rfl rfl rfl hdX4_areEqual ⟨Nat.le_of_ble_eq_true rfl, Nat.le_of_ble_eq_true rfl⟩ [0, 1, 2, 3, 4, 5, 6, 7, 8, 9, 10, 11, 12] rfl 0 rfl rfl rfl hl.1 rfl (Nat.le_of_ble_eq_true rfl) dL_labels_273 ⟨Nat.zero_le _, Nat.zero_le _⟩ ?_
        refine lv_iconst (v := iI 1) hx hb dL_labels_276 rfl ?_
        refine lv_icmp_ne (tgt := 284) hx hb dL_labels_277 (by decide) (fun c34 => ?_) (fun c34 => ?_)
        · replace h := ifn c34 h
          refine lv_iconst (v := iI 0) hx hb dL_labels_284 rfl ?_
          exact kL_labels_285 X hKK hP (mL_labels_242 f) ih x1 x2 x3 x4 x6 x7 x8 x10 (iI 0) ls (lv_sub hl [0, 1, 2, 3, 4, 5, 6, 7, 9] rfl) h
        · replace h := ifp c34 h
          refine lv_iconst (v := iI 1) hx hb dL_labels_280 rfl ?_
          refine lv_goto (tgt := 285) hx hb dL_labels_281 (by decide) ?_
          exact kL_labels_285 X hKK hP (mL_labels_242 f) ih x1 x2 x3 x4 x6 x7 x8 x10 (iI 1) ls (lv_sub hl [0, 1, 2, 3, 4, 5, 6, 7, 9] rfl) h
set_option maxHeartbeats 4000000 in
set_option maxRecDepth 100000 in
theorem kL_labels_237 {p : Program} {l : Launch} {e : Env} {s : State} {m : MethodId} {args : Array Value} {below : List Frame} {meth : Method} {c : Code} {D : va_G} {cI cC : ClassId} {q : Nat → Nat} {n : Int32} {d : Nat → Int32} {lb : Nat → Int32} {xd : Nat → Int32} {xl : Nat → Int32} {wi : Int32} {sl : Int32} {kp : Int32} {ct : Nat → Int32} {gd : Nat → Int32} {gl : Nat → Int32} {ln : Int32} {ch : Nat → Int32} {r : Int32} (X : CX p s m args meth c wsL_labels cL_labels 11 (some .boolean) RL) (hKK : KK D cI cC s) (hP : va_P D vwCl (wA cI q n d lb xd xl wi sl kp ct gd gl ln ch) s.heap) : ∀ (x1 : Int32) (x2 : Int32) (x3 : Int32) (x4 : Int32) (x6 : Int32) (x7 : Int32) (x8 : Int32) (y0 : Int32) (ls : Array Slot), lv_has ls 11 [(0, .ref (q 0)), (1, .int x1), (2, .int x2), (3, .int x3), (4, .int x4), (6, .int x6), (7, .int x7), (8, .int x8)] → mL_labels_237 n d lb x1 x2 x3 x4 x6 x7 x8 y0 = some r → W p l e rmL_labels s m args below meth c s.heap [] 0 0 (MQ below (rdQ r) args s 0 0 (fun _ => False)) (F0 m 237 ls [.int y0]) := by
  have hx := X.1
  have hb := X.2.1
  intro x1 x2 x3 x4 x6 x7 x8 y0 ls hl h
  unfold mL_labels_237 at h
  refine lv_istore (lv' := [(9, .int y0), (0, .ref (q 0)), (1, .int x1), (2, .int x2), (3, .int x3), (4, .int x4), (6, .int x6), (7, .int x7), (8, .int x8)]) hx hb dL_labels_237 hl (by decide) rfl (fun ls hl => ?_)
  refine lv_iconst (v := iI 0) hx hb dL_labels_239 rfl ?_
  refine lv_istore (lv' := [(10, .int (iI 0)), (9, .int y0), (0, .ref (q 0)), (1, .int x1), (2, .int x2), (3, .int x3), (4, .int x4), (6, .int x6), (7, .int x7), (8, .int x8)]) hx hb dL_labels_240 hl (by decide) rfl (fun ls hl => ?_)
  exact kL_labels_242 X hKK hP FU x1 x2 x3 x4 x6 x7 x8 y0 (iI 0) ls (lv_sub hl [2, 3, 4, 5, 6, 7, 8, 9, 1, 0] rfl) h
set_option maxHeartbeats 4000000 in
set_option maxRecDepth 100000 in
theorem kL_labels_236 {p : Program} {l : Launch} {e : Env} {s : State} {m : MethodId} {args : Array Value} {below : List Frame} {meth : Method} {c : Code} {D : va_G} {cI cC : ClassId} {q : Nat → Nat} {n : Int32} {d : Nat → Int32} {lb : Nat → Int32} {xd : Nat → Int32} {xl : Nat → Int32} {wi : Int32} {sl : Int32} {kp : Int32} {ct : Nat → Int32} {gd : Nat → Int32} {gl : Nat → Int32} {ln : Int32} {ch : Nat → Int32} {r : Int32} (X : CX p s m args meth c wsL_labels cL_labels 11 (some .boolean) RL) (hKK : KK D cI cC s) (hP : va_P D vwCl (wA cI q n d lb xd xl wi sl kp ct gd gl ln ch) s.heap) : ∀ (x1 : Int32) (x2 : Int32) (x3 : Int32) (x4 : Int32) (x6 : Int32) (x7 : Int32) (x8 : Int32) (ls : Array Slot), lv_has ls 11 [(0, .ref (q 0)), (1, .int x1), (2, .int x2), (3, .int x3), (4, .int x4), (6, .int x6), (7, .int x7), (8, .int x8)] → mL_labels_236 n d lb x1 x2 x3 x4 x6 x7 x8 = some r → W p l e rmL_labels s m args below meth c s.heap [] 0 0 (MQ below (rdQ r) args s 0 0 (fun _ => False)) (F0 m 236 ls []) := by
  have hx := X.1
  have hb := X.2.1
  intro x1 x2 x3 x4 x6 x7 x8 ls hl h
  unfold mL_labels_236 at h
  refine lv_iconst (v := iI 0) hx hb dL_labels_236 rfl ?_
  exact kL_labels_237 X hKK hP x1 x2 x3 x4 x6 x7 x8 (iI 0) ls (lv_sub hl [0, 1, 2, 3, 4, 5, 6, 7] rfl) h
set_option maxHeartbeats 4000000 in
set_option maxRecDepth 100000 in
theorem kL_labels_200 {p : Program} {l : Launch} {e : Env} {s : State} {m : MethodId} {args : Array Value} {below : List Frame} {meth : Method} {c : Code} {D : va_G} {cI cC : ClassId} {q : Nat → Nat} {n : Int32} {d : Nat → Int32} {lb : Nat → Int32} {xd : Nat → Int32} {xl : Nat → Int32} {wi : Int32} {sl : Int32} {kp : Int32} {ct : Nat → Int32} {gd : Nat → Int32} {gl : Nat → Int32} {ln : Int32} {ch : Nat → Int32} {r : Int32} (X : CX p s m args meth c wsL_labels cL_labels 11 (some .boolean) RL) (hKK : KK D cI cC s) (hP : va_P D vwCl (wA cI q n d lb xd xl wi sl kp ct gd gl ln ch) s.heap) : ∀ (x1 : Int32) (x2 : Int32) (x3 : Int32) (x4 : Int32) (x6 : Int32) (x7 : Int32) (x8 : Int32) (ls : Array Slot), lv_has ls 11 [(0, .ref (q 0)), (1, .int x1), (2, .int x2), (3, .int x3), (4, .int x4), (6, .int x6), (7, .int x7), (8, .int x8)] → mL_labels_200 n d lb x1 x2 x3 x4 x6 x7 x8 = some r → W p l e rmL_labels s m args below meth c s.heap [] 0 0 (MQ below (rdQ r) args s 0 0 (fun _ => False)) (F0 m 200 ls []) := by
  have hx := X.1
  have hb := X.2.1
  intro x1 x2 x3 x4 x6 x7 x8 ls hl h
  unfold mL_labels_200 at h
  refine lv_aload_n hx hb dL_labels_200 rfl (lv_at hl 0 rfl) ?_
  refine lv_iload_n hx hb dL_labels_201 rfl (lv_at hl 1 rfl) ?_
  refine lv_bipush (v := iI 10) hx hb dL_labels_202 (by decide) ?_
  obtain ⟨r22, h_r22, h⟩ := obd h
  refine rcV (rest := []) X hKK hP 2 (zX4_node l D cI cC q n d lb xd xl wi sl kp ct gd gl ln ch x1 (iI 10) r22 h_r22) gL_labels_X4_node rfl rfl rfl hdX4_node ⟨Nat.le_of_ble_eq_true rfl, Nat.le_of_ble_eq_true rfl⟩ [0, 1, 2, 3, 4, 5, 6, 7, 8, 9, 10, 11, 12] rfl 0 rfl rfl rfl hl.1 rfl (Nat.le_of_ble_eq_true rfl) dL_labels_204 ⟨Nat.zero_le _, Nat.zero_le _⟩ ?_
  refine lv_aload_n hx hb dL_labels_207 rfl (lv_at hl 0 rfl) ?_
  refine lv_iload_n hx hb dL_labels_208 rfl (lv_at hl 2 rfl) ?_
  refine lv_bipush (v := iI 10) hx hb dL_labels_209 (by decide) ?_
  obtain ⟨r23, h_r23, h⟩ := obd h
  refine rcV (rest := [.int r22]) X hKK hP 2 (zX4_node l D cI cC q n d lb xd xl wi sl kp ct gd gl ln ch x2 (iI 10) r23 h_r23) gL_labels_X4_node rfl rfl rfl hdX4_node ⟨Nat.le_of_ble_eq_true rfl, Nat.le_of_ble_eq_true rfl⟩ [0, 1, 2, 3, 4, 5, 6, 7, 8, 9, 10, 11, 12] rfl 0 rfl rfl rfl hl.1 rfl (Nat.le_of_ble_eq_true rfl) dL_labels_211 ⟨Nat.zero_le _, Nat.zero_le _⟩ ?_
  refine lv_icmp_ne (tgt := 236) hx hb dL_labels_214 (by decide) (fun c24 => ?_) (fun c24 => ?_)
  · replace h := ifn c24 h
    exact kL_labels_236 X hKK hP x1 x2 x3 x4 x6 x7 x8 ls (lv_sub hl [0, 1, 2, 3, 4, 5, 6, 7] rfl) h
  · replace h := ifp c24 h
    refine lv_aload_n hx hb dL_labels_217 rfl (lv_at hl 0 rfl) ?_
    refine lv_iload_n hx hb dL_labels_218 rfl (lv_at hl 1 rfl) ?_
    refine lv_iconst (v := iI 2) hx hb dL_labels_219 rfl ?_
    obtain ⟨r25, h_r25, h⟩ := obd h
    refine rcV (rest := []) X hKK hP 2 (zX4_node l D cI cC q n d lb xd xl wi sl kp ct gd gl ln ch x1 (iI 2) r25 h_r25) gL_labels_X4_node rfl rfl rfl hdX4_node ⟨Nat.le_of_ble_eq_true rfl, Nat.le_of_ble_eq_true rfl⟩ [0, 1, 2, 3, 4, 5, 6, 7, 8, 9, 10, 11, 12] rfl 0 rfl rfl rfl hl.1 rfl (Nat.le_of_ble_eq_true rfl) dL_labels_220 ⟨Nat.zero_le _, Nat.zero_le _⟩ ?_
    refine lv_aload_n hx hb dL_labels_223 rfl (lv_at hl 0 rfl) ?_
    refine lv_iload_n hx hb dL_labels_224 rfl (lv_at hl 2 rfl) ?_
    refine lv_iconst (v := iI 2) hx hb dL_labels_225 rfl ?_
    obtain ⟨r26, h_r26, h⟩ := obd h
    refine rcV (rest := [.int r25]) X hKK hP 2 (zX4_node l D cI cC q n d lb xd xl wi sl kp ct gd gl ln ch x2 (iI 2) r26 h_r26) gL_labels_X4_node rfl rfl rfl hdX4_node ⟨Nat.le_of_ble_eq_true rfl, Nat.le_of_ble_eq_true rfl⟩ [0, 1, 2, 3, 4, 5, 6, 7, 8, 9, 10, 11, 12] rfl 0 rfl rfl rfl hl.1 rfl (Nat.le_of_ble_eq_true rfl) dL_labels_226 ⟨Nat.zero_le _, Nat.zero_le _⟩ ?_
    refine lv_icmp_ne (tgt := 236) hx hb dL_labels_229 (by decide) (fun c27 => ?_) (fun c27 => ?_)
    · replace h := ifn c27 h
      exact kL_labels_236 X hKK hP x1 x2 x3 x4 x6 x7 x8 ls (lv_sub hl [0, 1, 2, 3, 4, 5, 6, 7] rfl) h
    · replace h := ifp c27 h
      refine lv_iconst (v := iI 1) hx hb dL_labels_232 rfl ?_
      refine lv_goto (tgt := 237) hx hb dL_labels_233 (by decide) ?_
      exact kL_labels_237 X hKK hP x1 x2 x3 x4 x6 x7 x8 (iI 1) ls (lv_sub hl [0, 1, 2, 3, 4, 5, 6, 7] rfl) h
set_option maxHeartbeats 4000000 in
set_option maxRecDepth 100000 in
theorem kL_labels_171 {p : Program} {l : Launch} {e : Env} {s : State} {m : MethodId} {args : Array Value} {below : List Frame} {meth : Method} {c : Code} {D : va_G} {cI cC : ClassId} {q : Nat → Nat} {n : Int32} {d : Nat → Int32} {lb : Nat → Int32} {xd : Nat → Int32} {xl : Nat → Int32} {wi : Int32} {sl : Int32} {kp : Int32} {ct : Nat → Int32} {gd : Nat → Int32} {gl : Nat → Int32} {ln : Int32} {ch : Nat → Int32} {r : Int32} (X : CX p s m args meth c wsL_labels cL_labels 11 (some .boolean) RL) (hKK : KK D cI cC s) (hP : va_P D vwCl (wA cI q n d lb xd xl wi sl kp ct gd gl ln ch) s.heap) : ∀ (f : Nat), ∀ (x1 : Int32) (x2 : Int32) (x3 : Int32) (x4 : Int32) (x6 : Int32) (x7 : Int32) (x8 : Int32) (ls : Array Slot), lv_has ls 11 [(0, .ref (q 0)), (1, .int x1), (2, .int x2), (3, .int x3), (4, .int x4), (6, .int x6), (7, .int x7), (8, .int x8)] → mL_labels_171 f n d lb x1 x2 x3 x4 x6 x7 x8 = some r → W p l e rmL_labels s m args below meth c s.heap [] 0 0 (MQ below (rdQ r) args s 0 0 (fun _ => False)) (F0 m 171 ls []) := by
  have hx := X.1
  have hb := X.2.1
  intro f
  induction f with
  | zero =>
    intro x1 x2 x3 x4 x6 x7 x8 ls hl h
    exact absurd h (by unfold mL_labels_171; intro h; cases h)
  | succ f ih =>
    intro x1 x2 x3 x4 x6 x7 x8 ls hl h
    rw [mL_labels_171] at h
    refine lv_iload hx hb dL_labels_171 (lv_at hl 7 rfl) ?_
    refine lv_if_lt (tgt := 200) hx hb dL_labels_173 (by decide) (fun c17 => ?_) (fun c17 => ?_)
    · replace h := ifp c17 h
      exact kL_labels_200 X hKK hP x1 x2 x3 x4 x6 x7 x8 ls (lv_sub hl [0, 1, 2, 3, 4, 5, 6, 7] rfl) h
    · replace h := ifn c17 h
      refine lv_aload_n hx hb dL_labels_176 rfl (lv_at hl 0 rfl) ?_
      refine lv_iload hx hb dL_labels_177 (lv_at hl 7 rfl) ?_
      refine lv_bipush (v := iI 10) hx hb dL_labels_179 (by decide) ?_
      obtain ⟨r18, h_r18, h⟩ := obd h
      refine rcV (rest := []) X hKK hP 2 (zX4_node l D cI cC q n d lb xd xl wi sl kp ct gd gl ln ch x8 (iI 10) r18 h_r18) gL_labels_X4_node rfl rfl rfl hdX4_node ⟨Nat.le_of_ble_eq_true rfl, Nat.le_of_ble_eq_true rfl⟩ [0, 1, 2, 3, 4, 5, 6, 7, 8, 9, 10, 11, 12] rfl 0 rfl rfl rfl hl.1 rfl (Nat.le_of_ble_eq_true rfl) dL_labels_181 ⟨Nat.zero_le _, Nat.zero_le _⟩ ?_
      refine lv_iload_n hx hb dL_labels_184 rfl (lv_at hl 3 rfl) ?_
      refine lv_icmp_eq (tgt := 200) hx hb dL_labels_185 (by decide) (fun c19 => ?_) (fun c19 => ?_)
      · replace h := ifp c19 h
        exact kL_labels_200 X hKK hP x1 x2 x3 x4 x6 x7 x8 ls (lv_sub hl [0, 1, 2, 3, 4, 5, 6, 7] rfl) h
      · replace h := ifn c19 h
        refine lv_aload_n hx hb dL_labels_188 rfl (lv_at hl 0 rfl) ?_
        refine lv_iload hx hb dL_labels_189 (lv_at hl 7 rfl) ?_
        refine lv_iconst (v := iI 1) hx hb dL_labels_191 rfl ?_
        obtain ⟨r20, h_r20, h⟩ := obd h
        refine rcV (rest := []) X hKK hP 2 (zX4_node l D cI cC q n d lb xd xl wi sl kp ct gd gl ln ch x8 (iI 1) r20 h_r20) gL_labels_X4_node rfl rfl rfl hdX4_node ⟨Nat.le_of_ble_eq_true rfl, Nat.le_of_ble_eq_true rfl⟩ [0, 1, 2, 3, 4, 5, 6, 7, 8, 9, 10, 11, 12] rfl 0 rfl rfl rfl hl.1 rfl (Nat.le_of_ble_eq_true rfl) dL_labels_192 ⟨Nat.zero_le _, Nat.zero_le _⟩ ?_
        refine lv_istore (lv' := [(8, .int r20), (0, .ref (q 0)), (1, .int x1), (2, .int x2), (3, .int x3), (4, .int x4), (6, .int x6), (7, .int x7)]) hx hb dL_labels_195 hl (by decide) rfl (fun ls hl => ?_)
        refine lv_goto (tgt := 171) hx hb dL_labels_197 (by decide) ?_
        exact ih x1 x2 x3 x4 x6 x7 r20 ls (lv_sub hl [1, 2, 3, 4, 5, 6, 7, 0] rfl) h
set_option maxHeartbeats 4000000 in
set_option maxRecDepth 100000 in
theorem kL_labels_95 {p : Program} {l : Launch} {e : Env} {s : State} {m : MethodId} {args : Array Value} {below : List Frame} {meth : Method} {c : Code} {D : va_G} {cI cC : ClassId} {q : Nat → Nat} {n : Int32} {d : Nat → Int32} {lb : Nat → Int32} {xd : Nat → Int32} {xl : Nat → Int32} {wi : Int32} {sl : Int32} {kp : Int32} {ct : Nat → Int32} {gd : Nat → Int32} {gl : Nat → Int32} {ln : Int32} {ch : Nat → Int32} {r : Int32} (X : CX p s m args meth c wsL_labels cL_labels 11 (some .boolean) RL) (hKK : KK D cI cC s) (hP : va_P D vwCl (wA cI q n d lb xd xl wi sl kp ct gd gl ln ch) s.heap) : ∀ (f : Nat), ∀ (x1 : Int32) (x2 : Int32) (x3 : Int32) (x4 : Int32) (x6 : Int32) (x7 : Int32) (x8 : Int32) (ls : Array Slot), lv_has ls 11 [(0, .ref (q 0)), (1, .int x1), (2, .int x2), (3, .int x3), (4, .int x4), (6, .int x6), (7, .int x7), (8, .int x8)] → mL_labels_95 f n d lb x1 x2 x3 x4 x6 x7 x8 = some r → W p l e rmL_labels s m args below meth c s.heap [] 0 0 (MQ below (rdQ r) args s 0 0 (fun _ => False)) (F0 m 95 ls []) := by
  have hx := X.1
  have hb := X.2.1
  intro f
  induction f with
  | zero =>
    intro x1 x2 x3 x4 x6 x7 x8 ls hl h
    exact absurd h (by unfold mL_labels_95; intro h; cases h)
  | succ f ih =>
    intro x1 x2 x3 x4 x6 x7 x8 ls hl h
    rw [mL_labels_95] at h
    refine lv_iload hx hb dL_labels_95 (lv_at hl 7 rfl) ?_
    refine lv_aload_n hx hb dL_labels_97 rfl (lv_at hl 0 rfl) ?_
    refine rcV (rest := [.int x8]) X hKK hP 0 (zX4_size l D cI cC q n d lb xd xl wi sl kp ct gd gl ln ch _ rfl) gL_labels_X4_size rfl rfl rfl hdX4_size ⟨Nat.le_of_ble_eq_true rfl, Nat.le_of_ble_eq_true rfl⟩ [0, 1, 2, 3, 4, 5, 6, 7, 8, 9, 10, 11, 12] rfl 0 rfl rfl rfl hl.1 rfl (Nat.le_of_ble_eq_true rfl) dL_labels_98 ⟨Nat.zero_le _, Nat.zero_le _⟩ ?_
    refine lv_icmp_ge (tgt := 163) hx hb dL_labels_101 (by decide) (fun c10 => ?_) (fun c10 => ?_)
    · replace h := ifp c10 h
      refine lv_aload_n hx hb dL_labels_163 rfl (lv_at hl 0 rfl) ?_
      refine lv_iload_n hx hb dL_labels_164 rfl (lv_at hl 1 rfl) ?_
      refine lv_iconst (v := iI 1) hx hb dL_labels_165 rfl ?_
      obtain ⟨r11, h_r11, h⟩ := obd h
      refine rcV (rest := []) X hKK hP 2 (zX4_node l D cI cC q n d lb xd xl wi sl kp ct gd gl ln ch x1 (iI 1) r11 h_r11) gL_labels_X4_node rfl rfl rfl hdX4_node ⟨Nat.le_of_ble_eq_true rfl, Nat.le_of_ble_eq_true rfl⟩ [0, 1, 2, 3, 4, 5, 6, 7, 8, 9, 10, 11, 12] rfl 0 rfl rfl rfl hl.1 rfl (Nat.le_of_ble_eq_true rfl) dL_labels_166 ⟨Nat.zero_le _, Nat.zero_le _⟩ ?_
      refine lv_istore (lv' := [(8, .int r11), (0, .ref (q 0)), (1, .int x1), (2, .int x2), (3, .int x3), (4, .int x4), (6, .int x6), (7, .int x7)]) hx hb dL_labels_169 hl (by decide) rfl (fun ls hl => ?_)
      exact kL_labels_171 X hKK hP FU x1 x2 x3 x4 x6 x7 r11 ls (lv_sub hl [1, 2, 3, 4, 5, 6, 7, 0] rfl) h
    · replace h := ifn c10 h
      refine lv_iload hx hb dL_labels_104 (lv_at hl 5 rfl) ?_
      refine lv_iload hx hb dL_labels_106 (lv_at hl 7 rfl) ?_
      refine lv_iload_n hx hb dL_labels_108 rfl (lv_at hl 1 rfl) ?_
      refine lv_icmp_lt (tgt := 141) hx hb dL_labels_109 (by decide) (fun c12 => ?_) (fun c12 => ?_)
      · replace h := ifp c12 h
        exact kL_labels_141 X hKK hP (mL_labels_95 f) ih x1 x2 x3 x4 x7 x8 x6 ls (lv_sub hl [0, 1, 2, 3, 4, 6, 7] rfl) h
      · replace h := ifn c12 h
        refine lv_iload hx hb dL_labels_112 (lv_at hl 7 rfl) ?_
        refine lv_iload_n hx hb dL_labels_114 rfl (lv_at hl 1 rfl) ?_
        refine lv_aload_n hx hb dL_labels_115 rfl (lv_at hl 0 rfl) ?_
        refine lv_iload_n hx hb dL_labels_116 rfl (lv_at hl 1 rfl) ?_
        refine lv_iconst (v := iI 3) hx hb dL_labels_117 rfl ?_
        obtain ⟨r13, h_r13, h⟩ := obd h
        refine rcV (rest := [.int x1, .int x8, .int x6]) X hKK hP 2 (zX4_node l D cI cC q n d lb xd xl wi sl kp ct gd gl ln ch x1 (iI 3) r13 h_r13) gL_labels_X4_node rfl rfl rfl hdX4_node ⟨Nat.le_of_ble_eq_true rfl, Nat.le_of_ble_eq_true rfl⟩ [0, 1, 2, 3, 4, 5, 6, 7, 8, 9, 10, 11, 12] rfl 0 rfl rfl rfl hl.1 rfl (Nat.le_of_ble_eq_true rfl) dL_labels_118 ⟨Nat.zero_le _, Nat.zero_le _⟩ ?_
        refine lv_iadd hx hb dL_labels_121 ?_
        refine lv_icmp_ge (tgt := 141) hx hb dL_labels_122 (by decide) (fun c14 => ?_) (fun c14 => ?_)
        · replace h := ifp c14 h
          exact kL_labels_141 X hKK hP (mL_labels_95 f) ih x1 x2 x3 x4 x7 x8 x6 ls (lv_sub hl [0, 1, 2, 3, 4, 6, 7] rfl) h
        · replace h := ifn c14 h
          refine lv_aload_n hx hb dL_labels_125 rfl (lv_at hl 0 rfl) ?_
          refine lv_iload hx hb dL_labels_126 (lv_at hl 7 rfl) ?_
          refine lv_bipush (v := iI 10) hx hb dL_labels_128 (by decide) ?_
          obtain ⟨r15, h_r15, h⟩ := obd h
          refine rcV (rest := [.int x6]) X hKK hP 2 (zX4_node l D cI cC q n d lb xd xl wi sl kp ct gd gl ln ch x8 (iI 10) r15 h_r15) gL_labels_X4_node rfl rfl rfl hdX4_node ⟨Nat.le_of_ble_eq_true rfl, Nat.le_of_ble_eq_true rfl⟩ [0, 1, 2, 3, 4, 5, 6, 7, 8, 9, 10, 11, 12] rfl 0 rfl rfl rfl hl.1 rfl (Nat.le_of_ble_eq_true rfl) dL_labels_130 ⟨Nat.zero_le _, Nat.zero_le _⟩ ?_
          refine lv_iload_n hx hb dL_labels_133 rfl (lv_at hl 3 rfl) ?_
          refine lv_icmp_ne (tgt := 141) hx hb dL_labels_134 (by decide) (fun c16 => ?_) (fun c16 => ?_)
          · replace h := ifn c16 h
            exact kL_labels_141 X hKK hP (mL_labels_95 f) ih x1 x2 x3 x4 x7 x8 x6 ls (lv_sub hl [0, 1, 2, 3, 4, 6, 7] rfl) h
          · replace h := ifp c16 h
            refine lv_iconst (v := iI 1) hx hb dL_labels_137 rfl ?_
            refine lv_goto (tgt := 142) hx hb dL_labels_138 (by decide) ?_
            exact kL_labels_142 X hKK hP (mL_labels_95 f) ih x1 x2 x3 x4 x7 x8 (iI 1) x6 ls (lv_sub hl [0, 1, 2, 3, 4, 6, 7] rfl) h
set_option maxHeartbeats 4000000 in
set_option maxRecDepth 100000 in
theorem kL_labels_25 {p : Program} {l : Launch} {e : Env} {s : State} {m : MethodId} {args : Array Value} {below : List Frame} {meth : Method} {c : Code} {D : va_G} {cI cC : ClassId} {q : Nat → Nat} {n : Int32} {d : Nat → Int32} {lb : Nat → Int32} {xd : Nat → Int32} {xl : Nat → Int32} {wi : Int32} {sl : Int32} {kp : Int32} {ct : Nat → Int32} {gd : Nat → Int32} {gl : Nat → Int32} {ln : Int32} {ch : Nat → Int32} {r : Int32} (X : CX p s m args meth c wsL_labels cL_labels 11 (some .boolean) RL) (hKK : KK D cI cC s) (hP : va_P D vwCl (wA cI q n d lb xd xl wi sl kp ct gd gl ln ch) s.heap) : ∀ (f : Nat), ∀ (x1 : Int32) (x2 : Int32) (x3 : Int32) (x4 : Int32) (x5 : Int32) (x6 : Int32) (ls : Array Slot), lv_has ls 11 [(0, .ref (q 0)), (1, .int x1), (2, .int x2), (3, .int x3), (4, .int x4), (5, .int x5), (6, .int x6)] → mL_labels_25 f n d lb x1 x2 x3 x4 x5 x6 = some r → W p l e rmL_labels s m args below meth c s.heap [] 0 0 (MQ below (rdQ r) args s 0 0 (fun _ => False)) (F0 m 25 ls []) := by
  have hx := X.1
  have hb := X.2.1
  intro f
  induction f with
  | zero =>
    intro x1 x2 x3 x4 x5 x6 ls hl h
    exact absurd h (by unfold mL_labels_25; intro h; cases h)
  | succ f ih =>
    intro x1 x2 x3 x4 x5 x6 ls hl h
    rw [mL_labels_25] at h
    refine lv_iload hx hb dL_labels_25 (lv_at hl 6 rfl) ?_
    refine lv_iload hx hb dL_labels_27 (lv_at hl 4 rfl) ?_
    refine lv_icmp_ge (tgt := 86) hx hb dL_labels_29 (by decide) (fun c3 => ?_) (fun c3 => ?_)
    · replace h := ifp c3 h
      refine lv_iconst (v := iI 0) hx hb dL_labels_86 rfl ?_
      refine lv_istore (lv' := [(6, .int (iI 0)), (0, .ref (q 0)), (1, .int x1), (2, .int x2), (3, .int x3), (4, .int x4), (5, .int x5)]) hx hb dL_labels_87 hl (by decide) rfl (fun ls hl => ?_)
      refine lv_iconst (v := iI 0) hx hb dL_labels_89 rfl ?_
      refine lv_istore (lv' := [(7, .int (iI 0)), (6, .int (iI 0)), (0, .ref (q 0)), (1, .int x1), (2, .int x2), (3, .int x3), (4, .int x4), (5, .int x5)]) hx hb dL_labels_90 hl (by decide) rfl (fun ls hl => ?_)
      refine lv_iconst (v := iI 0) hx hb dL_labels_92 rfl ?_
      refine lv_istore (lv' := [(8, .int (iI 0)), (7, .int (iI 0)), (6, .int (iI 0)), (0, .ref (q 0)), (1, .int x1), (2, .int x2), (3, .int x3), (4, .int x4), (5, .int x5)]) hx hb dL_labels_93 hl (by decide) rfl (fun ls hl => ?_)
      exact kL_labels_95 X hKK hP FU x1 x2 x3 x4 (iI 0) (iI 0) (iI 0) ls (lv_sub hl [3, 4, 5, 6, 7, 2, 1, 0] rfl) h
    · replace h := ifn c3 h
      refine lv_aload_n hx hb dL_labels_32 rfl (lv_at hl 0 rfl) ?_
      refine lv_iload_n hx hb dL_labels_33 rfl (lv_at hl 1 rfl) ?_
      refine lv_iload_n hx hb dL_labels_34 rfl (lv_at hl 3 rfl) ?_
      refine lv_iload hx hb dL_labels_35 (lv_at hl 6 rfl) ?_
      obtain ⟨r4, h_r4, h⟩ := obd h
      refine rcV (rest := []) X hKK hP 3 (zX4_select l D cI cC q n d lb xd xl wi sl kp ct gd gl ln ch x1 x3 x6 r4 h_r4) gL_labels_X4_select rfl rfl rfl hdX4_select ⟨Nat.le_of_ble_eq_true rfl, Nat.le_of_ble_eq_true rfl⟩ [0, 1, 2, 3, 4, 5, 6, 7, 8, 9, 10, 11, 12] rfl 0 rfl rfl rfl hl.1 rfl (Nat.le_of_ble_eq_true rfl) dL_labels_37 ⟨Nat.zero_le _, Nat.zero_le _⟩ ?_
      refine lv_istore (lv' := [(7, .int r4), (0, .ref (q 0)), (1, .int x1), (2, .int x2), (3, .int x3), (4, .int x4), (5, .int x5), (6, .int x6)]) hx hb dL_labels_40 hl (by decide) rfl (fun ls hl => ?_)
      refine lv_iload hx hb dL_labels_42 (lv_at hl 0 rfl) ?_
      refine lv_iload hx hb dL_labels_44 (lv_at hl 6 rfl) ?_
      refine lv_icmp_le (tgt := 74) hx hb dL_labels_46 (by decide) (fun c5 => ?_) (fun c5 => ?_)
      · replace h := ifp c5 h
        cases h
      · replace h := ifn c5 h
        refine lv_iload hx hb dL_labels_49 (lv_at hl 0 rfl) ?_
        refine lv_iload_n hx hb dL_labels_51 rfl (lv_at hl 2 rfl) ?_
        refine lv_aload_n hx hb dL_labels_52 rfl (lv_at hl 1 rfl) ?_
        refine lv_iload_n hx hb dL_labels_53 rfl (lv_at hl 2 rfl) ?_
        refine lv_iconst (v := iI 3) hx hb dL_labels_54 rfl ?_
        obtain ⟨r6, h_r6, h⟩ := obd h
        refine rcV (rest := [.int x1, .int r4]) X hKK hP 2 (zX4_node l D cI cC q n d lb xd xl wi sl kp ct gd gl ln ch x1 (iI 3) r6 h_r6) gL_labels_X4_node rfl rfl rfl hdX4_node ⟨Nat.le_of_ble_eq_true rfl, Nat.le_of_ble_eq_true rfl⟩ [0, 1, 2, 3, 4, 5, 6, 7, 8, 9, 10, 11, 12] rfl 0 rfl rfl rfl hl.1 rfl (Nat.le_of_ble_eq_true rfl) dL_labels_55 ⟨Nat.zero_le _, Nat.zero_le _⟩ ?_
        refine lv_iadd hx hb dL_labels_58 ?_
        refine lv_icmp_ge (tgt := 74) hx hb dL_labels_59 (by decide) (fun c7 => ?_) (fun c7 => ?_)
        · replace h := ifp c7 h
          cases h
        · replace h := ifn c7 h
          refine lv_aload_n hx hb dL_labels_62 rfl (lv_at hl 1 rfl) ?_
          refine lv_iload hx hb dL_labels_63 (lv_at hl 0 rfl) ?_
          refine lv_bipush (v := iI 10) hx hb dL_labels_65 (by decide) ?_
          obtain ⟨r8, h_r8, h⟩ := obd h
          refine rcV (rest := []) X hKK hP 2 (zX4_node l D cI cC q n d lb xd xl wi sl kp ct gd gl ln ch r4 (iI 10) r8 h_r8) gL_labels_X4_node rfl rfl rfl hdX4_node ⟨Nat.le_of_ble_eq_true rfl, Nat.le_of_ble_eq_true rfl⟩ [0, 1, 2, 3, 4, 5, 6, 7, 8, 9, 10, 11, 12] rfl 0 rfl rfl rfl hl.1 rfl (Nat.le_of_ble_eq_true rfl) dL_labels_67 ⟨Nat.zero_le _, Nat.zero_le _⟩ ?_
          refine lv_iload_n hx hb dL_labels_70 rfl (lv_at hl 4 rfl) ?_
          refine lv_icmp_eq (tgt := 76) hx hb dL_labels_71 (by decide) (fun c9 => ?_) (fun c9 => ?_)
          · replace h := ifp c9 h
            refine lv_iload hx hb dL_labels_76 (lv_at hl 0 rfl) ?_
            refine lv_istore (lv' := [(5, .int r4), (7, .int r4), (0, .ref (q 0)), (1, .int x1), (2, .int x2), (3, .int x3), (4, .int x4), (6, .int x6)]) hx hb dL_labels_78 hl (by decide) rfl (fun ls hl => ?_)
            refine lv_iinc (v := (x6 + iI 1)) (lv' := [(6, .int (x6 + iI 1)), (5, .int r4), (7, .int r4), (0, .ref (q 0)), (1, .int x1), (2, .int x2), (3, .int x3), (4, .int x4)]) hx hb dL_labels_80 hl (k := 7) rfl rfl (by decide) rfl (fun ls hl => ?_)
            refine lv_goto (tgt := 25) hx hb dL_labels_83 (by decide) ?_
            exact ih x1 x2 x3 x4 r4 (x6 + iI 1) ls (lv_sub hl [3, 4, 5, 6, 7, 1, 0] rfl) h
          · replace h := ifn c9 h
            cases h
set_option maxHeartbeats 4000000 in
set_option maxRecDepth 100000 in
theorem zL_labels (l : Launch) (D : va_G) (cI cC : ClassId) (q : Nat → Nat) (n : Int32) (d : Nat → Int32) (lb : Nat → Int32) (xd : Nat → Int32) (xl : Nat → Int32) (wi : Int32) (sl : Int32) (kp : Int32) (ct : Nat → Int32) (gd : Nat → Int32) (gl : Nat → Int32) (ln : Int32) (ch : Nat → Int32) (x1 : Int32) (x2 : Int32) (r : Int32) (h : mL_labels n d lb x1 x2 = some r) : Met l yL_labels wsL_labels rmL_labels (va_Pc [.ref (q 0), .int x1, .int x2] (BW D cI cC (wA cI q n d lb xd xl wi sl kp ct gd gl ln ch))) (rdQ r) 0 0 (fun _ => False) := by
  refine MetI RL (by decide +kernel) rfl rfl (Nat.le_of_ble_eq_true rfl) ?_
  intro p e s m below meth c ls X _ hB hl
  obtain ⟨hP, hKK⟩ := hB
  have hx := X.1
  have hb := X.2.1
  replace hl : lv_has ls 11 [(0, .ref (q 0)), (1, .int x1), (2, .int x2)] := hl
  unfold mL_labels at h
  refine lv_aload_n hx hb dL_labels_0 rfl (lv_at hl 0 rfl) ?_
  refine lv_iload_n hx hb dL_labels_1 rfl (lv_at hl 2 rfl) ?_
  refine lv_bipush (v := iI 10) hx hb dL_labels_2 (by decide) ?_
  obtain ⟨r1, h_r1, h⟩ := obd h
  refine rcV (rest := []) X hKK hP 2 (zX4_node l D cI cC q n d lb xd xl wi sl kp ct gd gl ln ch x2 (iI 10) r1 h_r1) gL_labels_X4_node rfl rfl rfl hdX4_node ⟨Nat.le_of_ble_eq_true rfl, Nat.le_of_ble_eq_true rfl⟩ [0, 1, 2, 3, 4, 5, 6, 7, 8, 9, 10, 11, 12] rfl 0 rfl rfl rfl hl.1 rfl (Nat.le_of_ble_eq_true rfl) dL_labels_4 ⟨Nat.zero_le _, Nat.zero_le _⟩ ?_
  refine lv_i2c (v := c16 r1) hx hb dL_labels_7 rfl ?_
  refine lv_istore_n (lv' := [(3, .int (c16 r1)), (0, .ref (q 0)), (1, .int x1), (2, .int x2)]) hx hb dL_labels_8 rfl hl (by decide) rfl (fun ls hl => ?_)
  refine lv_aload_n hx hb dL_labels_9 rfl (lv_at hl 1 rfl) ?_
  refine lv_iload_n hx hb dL_labels_10 rfl (lv_at hl 2 rfl) ?_
  refine lv_iload_n hx hb dL_labels_11 rfl (lv_at hl 0 rfl) ?_
  obtain ⟨r2, h_r2, h⟩ := obd h
  refine rcV (rest := []) X hKK hP 2 (zX4_labelled l D cI cC q n d lb xd xl wi sl kp ct gd gl ln ch x1 (c16 r1) r2 h_r2) gL_labels_X4_labelled rfl rfl rfl hdX4_labelled ⟨Nat.le_of_ble_eq_true rfl, Nat.le_of_ble_eq_true rfl⟩ [0, 1, 2, 3, 4, 5, 6, 7, 8, 9, 10, 11, 12] rfl 0 rfl rfl rfl hl.1 rfl (Nat.le_of_ble_eq_true rfl) dL_labels_12 ⟨Nat.zero_le _, Nat.zero_le _⟩ ?_
  refine lv_istore (lv' := [(4, .int r2), (3, .int (c16 r1)), (0, .ref (q 0)), (1, .int x1), (2, .int x2)]) hx hb dL_labels_15 hl (by decide) rfl (fun ls hl => ?_)
  refine lv_iload_n hx hb dL_labels_17 rfl (lv_at hl 3 rfl) ?_
  refine lv_iconst (v := iI 1) hx hb dL_labels_18 rfl ?_
  refine lv_isub hx hb dL_labels_19 ?_
  refine lv_istore (lv' := [(5, .int (x1 - (iI 1))), (4, .int r2), (3, .int (c16 r1)), (0, .ref (q 0)), (1, .int x1), (2, .int x2)]) hx hb dL_labels_20 hl (by decide) rfl (fun ls hl => ?_)
  refine lv_iconst (v := iI 0) hx hb dL_labels_22 rfl ?_
  refine lv_istore (lv' := [(6, .int (iI 0)), (5, .int (x1 - (iI 1))), (4, .int r2), (3, .int (c16 r1)), (0, .ref (q 0)), (1, .int x1), (2, .int x2)]) hx hb dL_labels_23 hl (by decide) rfl (fun ls hl => ?_)
  exact kL_labels_25 X hKK hP FU x1 x2 (c16 r1) r2 (x1 - (iI 1)) (iI 0) ls (lv_sub hl [4, 5, 6, 3, 2, 1, 0] rfl) h
def mL_blocks_157 (rec : Int32 → (Nat → Int32) → Int32 → Int32 → Int32 → Int32 → Int32 → Int32 → Int32 → Option (Int32)) (rec2 : Int32 → (Nat → Int32) → Int32 → Int32 → Int32 → Int32 → Int32 → Int32 → Int32 → Int32 → Int32 → Int32 → Int32 → Option (Int32)) (n : Int32) (d : Nat → Int32) (wi : Int32) (x1 : Int32) (x2 : Int32) (x3 : Int32) (x4 : Int32) (x5 : Int32) (x6 : Int32) (x7 : Int32) (x9 : Int32) (x10 : Int32) (y0 : Int32) : Option (Int32) := rec2 n d wi x1 x2 x3 (x4 + iI 1) x5 x6 x7 y0 x9 (x10 + iI 1)
def mL_blocks_141 (rec : Int32 → (Nat → Int32) → Int32 → Int32 → Int32 → Int32 → Int32 → Int32 → Int32 → Option (Int32)) (rec2 : Int32 → (Nat → Int32) → Int32 → Int32 → Int32 → Int32 → Int32 → Int32 → Int32 → Int32 → Int32 → Int32 → Int32 → Option (Int32)) (n : Int32) (d : Nat → Int32) (wi : Int32) (x1 : Int32) (x2 : Int32) (x3 : Int32) (x4 : Int32) (x5 : Int32) (x6 : Int32) (x8 : Int32) (x9 : Int32) (x10 : Int32) (y0 : Int32) : Option (Int32) := (if x5 ≤ x8 then mL_blocks_157 rec rec2 n d wi x1 x2 x3 x4 x5 x6 y0 x9 x10 x8 else mL_blocks_157 rec rec2 n d wi x1 x2 x3 x4 x5 x6 y0 x9 x10 x5)
def mL_blocks_110 (rec : Int32 → (Nat → Int32) → Int32 → Int32 → Int32 → Int32 → Int32 → Int32 → Int32 → Option (Int32)) (rec2 : Int32 → (Nat → Int32) → Int32 → Int32 → Int32 → Int32 → Int32 → Int32 → Int32 → Int32 → Int32 → Int32 → Int32 → Option (Int32)) (n : Int32) (d : Nat → Int32) (wi : Int32) (x1 : Int32) (x2 : Int32) (x3 : Int32) (x4 : Int32) (x6 : Int32) (x7 : Int32) (x8 : Int32) (x9 : Int32) (x10 : Int32) (y0 : Int32) (y1 : Int32) : Option (Int32) := ((mX4_bracket n d x4 (iI 1)).bind fun r33 => (if r33 = (y1 + y0) then (if x7 ≤ (y1 + y0) then mL_blocks_141 rec rec2 n d wi x1 x2 x3 x4 (y1 + y0) x6 x8 x9 x10 x7 else mL_blocks_141 rec rec2 n d wi x1 x2 x3 x4 (y1 + y0) x6 x8 x9 x10 (y1 + y0)) else none))
def mL_blocks_85 (rec : Int32 → (Nat → Int32) → Int32 → Int32 → Int32 → Int32 → Int32 → Int32 → Int32 → Option (Int32)) : Nat → Int32 → (Nat → Int32) → Int32 → Int32 → Int32 → Int32 → Int32 → Int32 → Int32 → Int32 → Int32 → Int32 → Int32 → Option (Int32)
  | 0, _, _, _, _, _, _, _, _, _, _, _, _, _ => none
  | f + 1, n, d, wi, x1, x2, x3, x4, x5, x6, x7, x8, x9, x10 => (if x9 ≤ x10 then ((mX4_block n d wi x6 (iI 1)).bind fun r25 => (if r25 = x7 then ((mX4_block n d wi x6 (iI 2)).bind fun r27 => (if r27 = x8 then ((mX4_block n d wi x6 (iI 4)).bind fun r29 => (if r29 = (iI (-2)) then rec n d wi x1 x2 x3 x4 x5 (x6 + iI 1) else none)) else none)) else none)) else ((mX4_bracket n d x4 (iI 0)).bind fun r31 => (if r31 = (iI 1) then mL_blocks_110 rec (mL_blocks_85 rec f) n d wi x1 x2 x3 x4 x6 x7 x8 x9 x10 (iI 1) x5 else mL_blocks_110 rec (mL_blocks_85 rec f) n d wi x1 x2 x3 x4 x6 x7 x8 x9 x10 (iI (-1)) x5)))
def mL_blocks_77 (rec : Int32 → (Nat → Int32) → Int32 → Int32 → Int32 → Int32 → Int32 → Int32 → Int32 → Option (Int32)) (n : Int32) (d : Nat → Int32) (wi : Int32) (x1 : Int32) (x2 : Int32) (x3 : Int32) (x4 : Int32) (x5 : Int32) (x6 : Int32) (x7 : Int32) (x8 : Int32) (x9 : Int32) (y0 : Int32) (y1 : Int32) : Option (Int32) := (if y1 = y0 then mL_blocks_85 rec FU n d wi x1 x2 x3 x4 x5 x6 x7 x8 x9 (iI 0) else none)
def mL_blocks_215 : Nat → Int32 → (Nat → Int32) → Int32 → Int32 → Int32 → Int32 → Int32 → Int32 → Option (Int32)
  | 0, _, _, _, _, _, _, _, _ => none
  | f + 1, n, d, wi, x2, x3, x4, x5, x6 => (if (x2 >>> (x6 &&& 31)) ≤ 0 then (if x5 = 0 then (if x4 = ((iI 2) * x2) then ((mX4_block n d wi x3 (iI 0)).bind fun r10 => (if r10 = (iI (-1)) then ((mX4_space n wi (iI 0)).bind fun r12 => (if r12 = ((iI 2) * x2) then ((mX4_space n wi (iI 1)).bind fun r14 => (if r14 = ((iI 5) * x2) then ((mX4_space n wi (iI 2)).bind fun r16 => (if r16 = (((iI 3) * x6) * x3) then ((mX4_space n wi (iI 3)).bind fun r18 => ((mX4_space n wi (iI 2)).bind fun r19 => (if r18 = (((iI 7) * x2) + r19) then ((mX4_space n wi (iI 5)).bind fun r21 => (if r21 = (iI (-2)) then some (iI 1) else none)) else none))) else none)) else none)) else none)) else none)) else none) else none) else mL_blocks_215 f n d wi x2 x3 x4 x5 (x6 + iI 1))
def mL_blocks_20 : Nat → Int32 → (Nat → Int32) → Int32 → Int32 → Int32 → Int32 → Int32 → Int32 → Int32 → Option (Int32)
  | 0, _, _, _, _, _, _, _, _, _ => none
  | f + 1, n, d, wi, x1, x2, x3, x4, x5, x6 => (if x3 ≤ x6 then mL_blocks_215 FU n d wi x2 x3 x4 x5 (iI 1) else ((mX4_block n d wi x6 (iI 3)).bind fun r3 => ((mX4_block n d wi x6 (iI 0)).bind fun r4 => (if r4 = x5 then (if x3 ≤ (x6 + (iI 1)) then mL_blocks_77 (mL_blocks_20 f) n d wi x1 x2 x3 x4 x5 x6 (iI 1000) (iI (-1000)) r3 (((iI 2) * x2) - x4) r3 else mL_blocks_77 (mL_blocks_20 f) n d wi x1 x2 x3 x4 x5 x6 (iI 1000) (iI (-1000)) r3 x1 r3) else none))))
def mL_blocks (n : Int32) (d : Nat → Int32) (wi : Int32) (x1 : Int32) : Option (Int32) := ((mX4_space n wi (iI 4)).bind fun r1 => mL_blocks_20 FU n d wi x1 (mX4_size n) r1 (iI 0) (iI 0) (iI 0))
theorem hdL_blocks : yL_blocks.cls = RL ∧ yL_blocks.cls ≠ "java/lang/invoke/MethodHandle" ∧ yL_blocks.cls ≠ "java/lang/invoke/VarHandle" ∧ (parseMethodDescriptor yL_blocks.desc).map (fun d => d.parameters.length) = some 2 := by decide +kernel
abbrev rmL_blocks : Room := { frames := 7, cells := 0, slots := 0, locals := 152 }
set_option maxHeartbeats 4000000 in
set_option maxRecDepth 100000 in
theorem kL_blocks_157 {p : Program} {l : Launch} {e : Env} {s : State} {m : MethodId} {args : Array Value} {below : List Frame} {meth : Method} {c : Code} {D : va_G} {cI cC : ClassId} {q : Nat → Nat} {n : Int32} {d : Nat → Int32} {lb : Nat → Int32} {xd : Nat → Int32} {xl : Nat → Int32} {wi : Int32} {sl : Int32} {kp : Int32} {ct : Nat → Int32} {gd : Nat → Int32} {gl : Nat → Int32} {ln : Int32} {ch : Nat → Int32} {r : Int32} (X : CX p s m args meth c wsL_blocks cL_blocks 11 (some .boolean) RL) (hKK : KK D cI cC s) (hP : va_P D vwCl (wA cI q n d lb xd xl wi sl kp ct gd gl ln ch) s.heap) (rec : Int32 → (Nat → Int32) → Int32 → Int32 → Int32 → Int32 → Int32 → Int32 → Int32 → Option (Int32)) (hrec : ∀ (x1 : Int32) (x2 : Int32) (x3 : Int32) (x4 : Int32) (x5 : Int32) (x6 : Int32) (ls : Array Slot), lv_has ls 11 [(0, .ref (q 0)), (1, .int x1), (2, .int x2), (3, .int x3), (4, .int x4), (5, .int x5), (6, .int x6)] → rec n d wi x1 x2 x3 x4 x5 x6 = some r → W p l e rmL_blocks s m args below meth c s.heap [] 0 0 (MQ below (rdQ r) args s 0 0 (fun _ => False)) (F0 m 20 ls [])) (rec2 : Int32 → (Nat → Int32) → Int32 → Int32 → Int32 → Int32 → Int32 → Int32 → Int32 → Int32 → Int32 → Int32 → Int32 → Option (Int32)) (hrec2 : ∀ (x1 : Int32) (x2 : Int32) (x3 : Int32) (x4 : Int32) (x5 : Int32) (x6 : Int32) (x7 : Int32) (x8 : Int32) (x9 : Int32) (x10 : Int32) (ls : Array Slot), lv_has ls 11 [(0, .ref (q 0)), (1, .int x1), (2, .int x2), (3, .int x3), (4, .int x4), (5, .int x5), (6, .int x6), (7, .int x7), (8, .int x8), (9, .int x9), (10, .int x10)] → rec2 n d wi x1 x2 x3 x4 x5 x6 x7 x8 x9 x10 = some r → W p l e rmL_blocks s m args below meth c s.heap [] 0 0 (MQ below (rdQ r) args s 0 0 (fun _ => False)) (F0 m 85 ls [])) : ∀ (x1 : Int32) (x2 : Int32) (x3 : Int32) (x4 : Int32) (x5 : Int32) (x6 : Int32) (x7 : Int32) (x9 : Int32) (x10 : Int32) (y0 : Int32) (ls : Array Slot), lv_has ls 11 [(0, .ref (q 0)), (1, .int x1), (2, .int x2), (3, .int x3), (4, .int x4), (5, .int x5), (6, .int x6), (7, .int x7), (9, .int x9), (10, .int x10)] → mL_blocks_157 rec rec2 n d wi x1 x2 x3 x4 x5 x6 x7 x9 x10 y0 = some r → W p l e rmL_blocks s m args below meth c s.heap [] 0 0 (MQ below (rdQ r) args s 0 0 (fun _ => False)) (F0 m 157 ls [.int y0]) := by
  have hx := X.1
  have hb := X.2.1
  intro x1 x2 x3 x4 x5 x6 x7 x9 x10 y0 ls hl h
  unfold mL_blocks_157 at h
  refine lv_istore (lv' := [(8, .int y0), (0, .ref (q 0)), (1, .int x1), (2, .int x2), (3, .int x3), (4, .int x4), (5, .int x5), (6, .int x6), (7, .int x7), (9, .int x9), (10, .int x10)]) hx hb dL_blocks_157 hl (by decide) rfl (fun ls hl => ?_)
  refine lv_iinc (v := (x4 + iI 1)) (lv' := [(4, .int (x4 + iI 1)), (8, .int y0), (0, .ref (q 0)), (1, .int x1), (2, .int x2), (3, .int x3), (5, .int x5), (6, .int x6), (7, .int x7), (9, .int x9), (10, .int x10)]) hx hb dL_blocks_159 hl (k := 5) rfl rfl (by decide) rfl (fun ls hl => ?_)
  refine lv_iinc (v := (x10 + iI 1)) (lv' := [(10, .int (x10 + iI 1)), (4, .int (x4 + iI 1)), (8, .int y0), (0, .ref (q 0)), (1, .int x1), (2, .int x2), (3, .int x3), (5, .int x5), (6, .int x6), (7, .int x7), (9, .int x9)]) hx hb dL_blocks_162 hl (k := 10) rfl rfl (by decide) rfl (fun ls hl => ?_)
  refine lv_goto (tgt := 85) hx hb dL_blocks_165 (by decide) ?_
  exact hrec2 x1 x2 x3 (x4 + iI 1) x5 x6 x7 y0 x9 (x10 + iI 1) ls (lv_sub hl [3, 4, 5, 6, 1, 7, 8, 9, 2, 10, 0] rfl) h
set_option maxHeartbeats 4000000 in
set_option maxRecDepth 100000 in
theorem kL_blocks_141 {p : Program} {l : Launch} {e : Env} {s : State} {m : MethodId} {args : Array Value} {below : List Frame} {meth : Method} {c : Code} {D : va_G} {cI cC : ClassId} {q : Nat → Nat} {n : Int32} {d : Nat → Int32} {lb : Nat → Int32} {xd : Nat → Int32} {xl : Nat → Int32} {wi : Int32} {sl : Int32} {kp : Int32} {ct : Nat → Int32} {gd : Nat → Int32} {gl : Nat → Int32} {ln : Int32} {ch : Nat → Int32} {r : Int32} (X : CX p s m args meth c wsL_blocks cL_blocks 11 (some .boolean) RL) (hKK : KK D cI cC s) (hP : va_P D vwCl (wA cI q n d lb xd xl wi sl kp ct gd gl ln ch) s.heap) (rec : Int32 → (Nat → Int32) → Int32 → Int32 → Int32 → Int32 → Int32 → Int32 → Int32 → Option (Int32)) (hrec : ∀ (x1 : Int32) (x2 : Int32) (x3 : Int32) (x4 : Int32) (x5 : Int32) (x6 : Int32) (ls : Array Slot), lv_has ls 11 [(0, .ref (q 0)), (1, .int x1), (2, .int x2), (3, .int x3), (4, .int x4), (5, .int x5), (6, .int x6)] → rec n d wi x1 x2 x3 x4 x5 x6 = some r → W p l e rmL_blocks s m args below meth c s.heap [] 0 0 (MQ below (rdQ r) args s 0 0 (fun _ => False)) (F0 m 20 ls [])) (rec2 : Int32 → (Nat → Int32) → Int32 → Int32 → Int32 → Int32 → Int32 → Int32 → Int32 → Int32 → Int32 → Int32 → Int32 → Option (Int32)) (hrec2 : ∀ (x1 : Int32) (x2 : Int32) (x3 : Int32) (x4 : Int32) (x5 : Int32) (x6 : Int32) (x7 : Int32) (x8 : Int32) (x9 : Int32) (x10 : Int32) (ls : Array Slot), lv_has ls 11 [(0, .ref (q 0)), (1, .int x1), (2, .int x2), (3, .int x3), (4, .int x4), (5, .int x5), (6, .int x6), (7, .int x7), (8, .int x8), (9, .int x9), (10, .int x10)] → rec2 n d wi x1 x2 x3 x4 x5 x6 x7 x8 x9 x10 = some r → W p l e rmL_blocks s m args below meth c s.heap [] 0 0 (MQ below (rdQ r) args s 0 0 (fun _ => False)) (F0 m 85 ls [])) : ∀ (x1 : Int32) (x2 : Int32) (x3 : Int32) (x4 : Int32) (x5 : Int32) (x6 : Int32) (x8 : Int32) (x9 : Int32) (x10 : Int32) (y0 : Int32) (ls : Array Slot), lv_has ls 11 [(0, .ref (q 0)), (1, .int x1), (2, .int x2), (3, .int x3), (4, .int x4), (5, .int x5), (6, .int x6), (8, .int x8), (9, .int x9), (10, .int x10)] → mL_blocks_141 rec rec2 n d wi x1 x2 x3 x4 x5 x6 x8 x9 x10 y0 = some r → W p l e rmL_blocks s m args below meth c s.heap [] 0 0 (MQ below (rdQ r) args s 0 0 (fun _ => False)) (F0 m 141 ls [.int y0]) := by
  have hx := X.1
  have hb := X.2.1
  intro x1 x2 x3 x4 x5 x6 x8 x9 x10 y0 ls hl h
  unfold mL_blocks_141 at h
  refine lv_istore (lv' := [(7, .int y0), (0, .ref (q 0)), (1, .int x1), (2, .int x2), (3, .int x3), (4, .int x4), (5, .int x5), (6, .int x6), (8, .int x8), (9, .int x9), (10, .int x10)]) hx hb dL_blocks_141 hl (by decide) rfl (fun ls hl => ?_)
  refine lv_iload hx hb dL_blocks_143 (lv_at hl 6 rfl) ?_
  refine lv_iload hx hb dL_blocks_145 (lv_at hl 8 rfl) ?_
  refine lv_icmp_le (tgt := 155) hx hb dL_blocks_147 (by decide) (fun c36 => ?_) (fun c36 => ?_)
  · replace h := ifp c36 h
    refine lv_iload hx hb dL_blocks_155 (lv_at hl 8 rfl) ?_
    exact kL_blocks_157 X hKK hP rec hrec rec2 hrec2 x1 x2 x3 x4 x5 x6 y0 x9 x10 x8 ls (lv_sub hl [1, 2, 3, 4, 5, 6, 7, 0, 9, 10] rfl) h
  · replace h := ifn c36 h
    refine lv_iload hx hb dL_blocks_150 (lv_at hl 6 rfl) ?_
    refine lv_goto (tgt := 157) hx hb dL_blocks_152 (by decide) ?_
    exact kL_blocks_157 X hKK hP rec hrec rec2 hrec2 x1 x2 x3 x4 x5 x6 y0 x9 x10 x5 ls (lv_sub hl [1, 2, 3, 4, 5, 6, 7, 0, 9, 10] rfl) h
set_option maxHeartbeats 4000000 in
set_option maxRecDepth 100000 in
theorem kL_blocks_110 {p : Program} {l : Launch} {e : Env} {s : State} {m : MethodId} {args : Array Value} {below : List Frame} {meth : Method} {c : Code} {D : va_G} {cI cC : ClassId} {q : Nat → Nat} {n : Int32} {d : Nat → Int32} {lb : Nat → Int32} {xd : Nat → Int32} {xl : Nat → Int32} {wi : Int32} {sl : Int32} {kp : Int32} {ct : Nat → Int32} {gd : Nat → Int32} {gl : Nat → Int32} {ln : Int32} {ch : Nat → Int32} {r : Int32} (X : CX p s m args meth c wsL_blocks cL_blocks 11 (some .boolean) RL) (hKK : KK D cI cC s) (hP : va_P D vwCl (wA cI q n d lb xd xl wi sl kp ct gd gl ln ch) s.heap) (rec : Int32 → (Nat → Int32) → Int32 → Int32 → Int32 → Int32 → Int32 → Int32 → Int32 → Option (Int32)) (hrec : ∀ (x1 : Int32) (x2 : Int32) (x3 : Int32) (x4 : Int32) (x5 : Int32) (x6 : Int32) (ls : Array Slot), lv_has ls 11 [(0, .ref (q 0)), (1, .int x1), (2, .int x2), (3, .int x3), (4, .int x4), (5, .int x5), (6, .int x6)] → rec n d wi x1 x2 x3 x4 x5 x6 = some r → W p l e rmL_blocks s m args below meth c s.heap [] 0 0 (MQ below (rdQ r) args s 0 0 (fun _ => False)) (F0 m 20 ls [])) (rec2 : Int32 → (Nat → Int32) → Int32 → Int32 → Int32 → Int32 → Int32 → Int32 → Int32 → Int32 → Int32 → Int32 → Int32 → Option (Int32)) (hrec2 : ∀ (x1 : Int32) (x2 : Int32) (x3 : Int32) (x4 : Int32) (x5 : Int32) (x6 : Int32) (x7 : Int32) (x8 : Int32) (x9 : Int32) (x10 : Int32) (ls : Array Slot), lv_has ls 11 [(0, .ref (q 0)), (1, .int x1), (2, .int x2), (3, .int x3), (4, .int x4), (5, .int x5), (6, .int x6), (7, .int x7), (8, .int x8), (9, .int x9), (10, .int x10)] → rec2 n d wi x1 x2 x3 x4 x5 x6 x7 x8 x9 x10 = some r → W p l e rmL_blocks s m args below meth c s.heap [] 0 0 (MQ below (rdQ r) args s 0 0 (fun _ => False)) (F0 m 85 ls [])) : ∀ (x1 : Int32) (x2 : Int32) (x3 : Int32) (x4 : Int32) (x6 : Int32) (x7 : Int32) (x8 : Int32) (x9 : Int32) (x10 : Int32) (y0 : Int32) (y1 : Int32) (ls : Array Slot), lv_has ls 11 [(0, .ref (q 0)), (1, .int x1), (2, .int x2), (3, .int x3), (4, .int x4), (6, .int x6), (7, .int x7), (8, .int x8), (9, .int x9), (10, .int x10)] → mL_blocks_110 rec rec2 n d wi x1 x2 x3 x4 x6 x7 x8 x9 x10 y0 y1 = some r → W p l e rmL_blocks s m args below meth c s.heap [] 0 0 (MQ below (rdQ r) args s 0 0 (fun _ => False)) (F0 m 110 ls [.int y0, .int y1]) := by
  have hx := X.1
  have hb := X.2.1
  intro x1 x2 x3 x4 x6 x7 x8 x9 x10 y0 y1 ls hl h
  unfold mL_blocks_110 at h
  refine lv_iadd hx hb dL_blocks_110 ?_
  refine lv_istore (lv' := [(5, .int (y1 + y0)), (0, .ref (q 0)), (1, .int x1), (2, .int x2), (3, .int x3), (4, .int x4), (6, .int x6), (7, .int x7), (8, .int x8), (9, .int x9), (10, .int x10)]) hx hb dL_blocks_111 hl (by decide) rfl (fun ls hl => ?_)
  refine lv_aload_n hx hb dL_blocks_113 rfl (lv_at hl 1 rfl) ?_
  refine lv_iload hx hb dL_blocks_114 (lv_at hl 5 rfl) ?_
  refine lv_iconst (v := iI 1) hx hb dL_blocks_116 rfl ?_
  obtain ⟨r33, h_r33, h⟩ := obd h
  refine rcV (rest := []) X hKK hP 2 (zX4_bracket l D cI cC q n d lb xd xl wi sl kp ct gd gl ln ch x4 (iI 1) r33 h_r33) gL_blocks_X4_bracket rfl rfl rfl hdX4_bracket ⟨Nat.le_of_ble_eq_true rfl, Nat.le_of_ble_eq_true rfl⟩ [0, 1, 2, 3, 4, 5, 6, 7, 8, 9, 10, 11, 12] rfl 0 rfl rfl rfl hl.1 rfl (Nat.le_of_ble_eq_true rfl) dL_blocks_117 ⟨Nat.zero_le _, Nat.zero_le _⟩ ?_
  refine lv_iload hx hb dL_blocks_120 (lv_at hl 0 rfl) ?_
  refine lv_icmp_eq (tgt := 127) hx hb dL_blocks_122 (by decide) (fun c34 => ?_) (fun c34 => ?_)
  · replace h := ifp c34 h
    refine lv_iload hx hb dL_blocks_127 (lv_at hl 0 rfl) ?_
    refine lv_iload hx hb dL_blocks_129 (lv_at hl 7 rfl) ?_
    refine lv_icmp_ge (tgt := 139) hx hb dL_blocks_131 (by decide) (fun c35 => ?_) (fun c35 => ?_)
    · replace h := ifp c35 h
      refine lv_iload hx hb dL_blocks_139 (lv_at hl 7 rfl) ?_
      exact kL_blocks_141 X hKK hP rec hrec rec2 hrec2 x1 x2 x3 x4 (y1 + y0) x6 x8 x9 x10 x7 ls (lv_sub hl [1, 2, 3, 4, 5, 0, 6, 8, 9, 10] rfl) h
    · replace h := ifn c35 h
      refine lv_iload hx hb dL_blocks_134 (lv_at hl 0 rfl) ?_
      refine lv_goto (tgt := 141) hx hb dL_blocks_136 (by decide) ?_
      exact kL_blocks_141 X hKK hP rec hrec rec2 hrec2 x1 x2 x3 x4 (y1 + y0) x6 x8 x9 x10 (y1 + y0) ls (lv_sub hl [1, 2, 3, 4, 5, 0, 6, 8, 9, 10] rfl) h
  · replace h := ifn c34 h
    cases h
set_option maxHeartbeats 4000000 in
set_option maxRecDepth 100000 in
theorem kL_blocks_85 {p : Program} {l : Launch} {e : Env} {s : State} {m : MethodId} {args : Array Value} {below : List Frame} {meth : Method} {c : Code} {D : va_G} {cI cC : ClassId} {q : Nat → Nat} {n : Int32} {d : Nat → Int32} {lb : Nat → Int32} {xd : Nat → Int32} {xl : Nat → Int32} {wi : Int32} {sl : Int32} {kp : Int32} {ct : Nat → Int32} {gd : Nat → Int32} {gl : Nat → Int32} {ln : Int32} {ch : Nat → Int32} {r : Int32} (X : CX p s m args meth c wsL_blocks cL_blocks 11 (some .boolean) RL) (hKK : KK D cI cC s) (hP : va_P D vwCl (wA cI q n d lb xd xl wi sl kp ct gd gl ln ch) s.heap) (rec : Int32 → (Nat → Int32) → Int32 → Int32 → Int32 → Int32 → Int32 → Int32 → Int32 → Option (Int32)) (hrec : ∀ (x1 : Int32) (x2 : Int32) (x3 : Int32) (x4 : Int32) (x5 : Int32) (x6 : Int32) (ls : Array Slot), lv_has ls 11 [(0, .ref (q 0)), (1, .int x1), (2, .int x2), (3, .int x3), (4, .int x4), (5, .int x5), (6, .int x6)] → rec n d wi x1 x2 x3 x4 x5 x6 = some r → W p l e rmL_blocks s m args below meth c s.heap [] 0 0 (MQ below (rdQ r) args s 0 0 (fun _ => False)) (F0 m 20 ls [])) : ∀ (f : Nat), ∀ (x1 : Int32) (x2 : Int32) (x3 : Int32) (x4 : Int32) (x5 : Int32) (x6 : Int32) (x7 : Int32) (x8 : Int32) (x9 : Int32) (x10 : Int32) (ls : Array Slot), lv_has ls 11 [(0, .ref (q 0)), (1, .int x1), (2, .int x2), (3, .int x3), (4, .int x4), (5, .int x5), (6, .int x6), (7, .int x7), (8, .int x8), (9, .int x9), (10, .int x10)] → mL_blocks_85 rec f n d wi x1 x2 x3 x4 x5 x6 x7 x8 x9 x10 = some r → W p l e rmL_blocks s m args below meth c s.heap [] 0 0 (MQ below (rdQ r) args s 0 0 (fun _ => False)) (F0 m 85 ls []) := by
  have hx := X.1
  have hb := X.2.1
  intro f
  induction f with
  | zero =>
    intro x1 x2 x3 x4 x5 x6 x7 x8 x9 x10 ls hl h
    exact absurd h (by unfold mL_blocks_85; intro h; cases h)
  | succ f ih =>
    intro x1 x2 x3 x4 x5 x6 x7 x8 x9 x10 ls hl h
    rw [mL_blocks_85] at h
    refine lv_iload hx hb dL_blocks_85 (lv_at hl 10 rfl) ?_
    refine lv_iload hx hb dL_blocks_87 (lv_at hl 9 rfl) ?_
    refine lv_icmp_ge (tgt := 168) hx hb dL_blocks_89 (by decide) (fun c24 => ?_) (fun c24 => ?_)
    · replace h := ifp c24 h
      refine lv_aload_n hx hb dL_blocks_168 rfl (lv_at hl 0 rfl) ?_
      refine lv_iload hx hb dL_blocks_169 (lv_at hl 6 rfl) ?_
      refine lv_iconst (v := iI 1) hx hb dL_blocks_171 rfl ?_
      obtain ⟨r25, h_r25, h⟩ := obd h
      refine rcV (rest := []) X hKK hP 2 (zX4_block l D cI cC q n d lb xd xl wi sl kp ct gd gl ln ch x6 (iI 1) r25 h_r25) gL_blocks_X4_block rfl rfl rfl hdX4_block ⟨Nat.le_of_ble_eq_true rfl, Nat.le_of_ble_eq_true rfl⟩ [0, 1, 2, 3, 4, 5, 6, 7, 8, 9, 10, 11, 12] rfl 0 rfl rfl rfl hl.1 rfl (Nat.le_of_ble_eq_true rfl) dL_blocks_172 ⟨Nat.zero_le _, Nat.zero_le _⟩ ?_
      refine lv_iload hx hb dL_blocks_175 (lv_at hl 7 rfl) ?_
      refine lv_icmp_ne (tgt := 204) hx hb dL_blocks_177 (by decide) (fun c26 => ?_) (fun c26 => ?_)
      · replace h := ifn c26 h
        cases h
      · replace h := ifp c26 h
        refine lv_aload_n hx hb dL_blocks_180 rfl (lv_at hl 0 rfl) ?_
        refine lv_iload hx hb dL_blocks_181 (lv_at hl 6 rfl) ?_
        refine lv_iconst (v := iI 2) hx hb dL_blocks_183 rfl ?_
        obtain ⟨r27, h_r27, h⟩ := obd h
        refine rcV (rest := []) X hKK hP 2 (zX4_block l D cI cC q n d lb xd xl wi sl kp ct gd gl ln ch x6 (iI 2) r27 h_r27) gL_blocks_X4_block rfl rfl rfl hdX4_block ⟨Nat.le_of_ble_eq_true rfl, Nat.le_of_ble_eq_true rfl⟩ [0, 1, 2, 3, 4, 5, 6, 7, 8, 9, 10, 11, 12] rfl 0 rfl rfl rfl hl.1 rfl (Nat.le_of_ble_eq_true rfl) dL_blocks_184 ⟨Nat.zero_le _, Nat.zero_le _⟩ ?_
        refine lv_iload hx hb dL_blocks_187 (lv_at hl 8 rfl) ?_
        refine lv_icmp_ne (tgt := 204) hx hb dL_blocks_189 (by decide) (fun c28 => ?_) (fun c28 => ?_)
        · replace h := ifn c28 h
          cases h
        · replace h := ifp c28 h
          refine lv_aload_n hx hb dL_blocks_192 rfl (lv_at hl 0 rfl) ?_
          refine lv_iload hx hb dL_blocks_193 (lv_at hl 6 rfl) ?_
          refine lv_iconst (v := iI 4) hx hb dL_blocks_195 rfl ?_
          obtain ⟨r29, h_r29, h⟩ := obd h
          refine rcV (rest := []) X hKK hP 2 (zX4_block l D cI cC q n d lb xd xl wi sl kp ct gd gl ln ch x6 (iI 4) r29 h_r29) gL_blocks_X4_block rfl rfl rfl hdX4_block ⟨Nat.le_of_ble_eq_true rfl, Nat.le_of_ble_eq_true rfl⟩ [0, 1, 2, 3, 4, 5, 6, 7, 8, 9, 10, 11, 12] rfl 0 rfl rfl rfl hl.1 rfl (Nat.le_of_ble_eq_true rfl) dL_blocks_196 ⟨Nat.zero_le _, Nat.zero_le _⟩ ?_
          refine lv_bipush (v := iI (-2)) hx hb dL_blocks_199 (by decide) ?_
          refine lv_icmp_eq (tgt := 206) hx hb dL_blocks_201 (by decide) (fun c30 => ?_) (fun c30 => ?_)
          · replace h := ifp c30 h
            refine lv_iinc (v := (x6 + iI 1)) (lv' := [(6, .int (x6 + iI 1)), (0, .ref (q 0)), (1, .int x1), (2, .int x2), (3, .int x3), (4, .int x4), (5, .int x5), (7, .int x7), (8, .int x8), (9, .int x9), (10, .int x10)]) hx hb dL_blocks_206 hl (k := 6) rfl rfl (by decide) rfl (fun ls hl => ?_)
            refine lv_goto (tgt := 20) hx hb dL_blocks_209 (by decide) ?_
            exact hrec x1 x2 x3 x4 x5 (x6 + iI 1) ls (lv_sub hl [1, 2, 3, 4, 5, 6, 0] rfl) h
          · replace h := ifn c30 h
            cases h
    · replace h := ifn c24 h
      refine lv_iload hx hb dL_blocks_92 (lv_at hl 5 rfl) ?_
      refine lv_aload_n hx hb dL_blocks_94 rfl (lv_at hl 0 rfl) ?_
      refine lv_iload hx hb dL_blocks_95 (lv_at hl 4 rfl) ?_
      refine lv_iconst (v := iI 0) hx hb dL_blocks_97 rfl ?_
      obtain ⟨r31, h_r31, h⟩ := obd h
      refine rcV (rest := [.int x5]) X hKK hP 2 (zX4_bracket l D cI cC q n d lb xd xl wi sl kp ct gd gl ln ch x4 (iI 0) r31 h_r31) gL_blocks_X4_bracket rfl rfl rfl hdX4_bracket ⟨Nat.le_of_ble_eq_true rfl, Nat.le_of_ble_eq_true rfl⟩ [0, 1, 2, 3, 4, 5, 6, 7, 8, 9, 10, 11, 12] rfl 0 rfl rfl rfl hl.1 rfl (Nat.le_of_ble_eq_true rfl) dL_blocks_98 ⟨Nat.zero_le _, Nat.zero_le _⟩ ?_
      refine lv_iconst (v := iI 1) hx hb dL_blocks_101 rfl ?_
      refine lv_icmp_ne (tgt := 109) hx hb dL_blocks_102 (by decide) (fun c32 => ?_) (fun c32 => ?_)
      · replace h := ifn c32 h
        refine lv_iconst (v := iI (-1)) hx hb dL_blocks_109 rfl ?_
        exact kL_blocks_110 X hKK hP rec hrec (mL_blocks_85 rec f) ih x1 x2 x3 x4 x6 x7 x8 x9 x10 (iI (-1)) x5 ls (lv_sub hl [0, 1, 2, 3, 4, 6, 7, 8, 9, 10] rfl) h
      · replace h := ifp c32 h
        refine lv_iconst (v := iI 1) hx hb dL_blocks_105 rfl ?_
        refine lv_goto (tgt := 110) hx hb dL_blocks_106 (by decide) ?_
        exact kL_blocks_110 X hKK hP rec hrec (mL_blocks_85 rec f) ih x1 x2 x3 x4 x6 x7 x8 x9 x10 (iI 1) x5 ls (lv_sub hl [0, 1, 2, 3, 4, 6, 7, 8, 9, 10] rfl) h
set_option maxHeartbeats 4000000 in
set_option maxRecDepth 100000 in
theorem kL_blocks_77 {p : Program} {l : Launch} {e : Env} {s : State} {m : MethodId} {args : Array Value} {below : List Frame} {meth : Method} {c : Code} {D : va_G} {cI cC : ClassId} {q : Nat → Nat} {n : Int32} {d : Nat → Int32} {lb : Nat → Int32} {xd : Nat → Int32} {xl : Nat → Int32} {wi : Int32} {sl : Int32} {kp : Int32} {ct : Nat → Int32} {gd : Nat → Int32} {gl : Nat → Int32} {ln : Int32} {ch : Nat → Int32} {r : Int32} (X : CX p s m args meth c wsL_blocks cL_blocks 11 (some .boolean) RL) (hKK : KK D cI cC s) (hP : va_P D vwCl (wA cI q n d lb xd xl wi sl kp ct gd gl ln ch) s.heap) (rec : Int32 → (Nat → Int32) → Int32 → Int32 → Int32 → Int32 → Int32 → Int32 → Int32 → Option (Int32)) (hrec : ∀ (x1 : Int32) (x2 : Int32) (x3 : Int32) (x4 : Int32) (x5 : Int32) (x6 : Int32) (ls : Array Slot), lv_has ls 11 [(0, .ref (q 0)), (1, .int x1), (2, .int x2), (3, .int x3), (4, .int x4), (5, .int x5), (6, .int x6)] → rec n d wi x1 x2 x3 x4 x5 x6 = some r → W p l e rmL_blocks s m args below meth c s.heap [] 0 0 (MQ below (rdQ r) args s 0 0 (fun _ => False)) (F0 m 20 ls [])) : ∀ (x1 : Int32) (x2 : Int32) (x3 : Int32) (x4 : Int32) (x5 : Int32) (x6 : Int32) (x7 : Int32) (x8 : Int32) (x9 : Int32) (y0 : Int32) (y1 : Int32) (ls : Array Slot), lv_has ls 11 [(0, .ref (q 0)), (1, .int x1), (2, .int x2), (3, .int x3), (4, .int x4), (5, .int x5), (6, .int x6), (7, .int x7), (8, .int x8), (9, .int x9)] → mL_blocks_77 rec n d wi x1 x2 x3 x4 x5 x6 x7 x8 x9 y0 y1 = some r → W p l e rmL_blocks s m args below meth c s.heap [] 0 0 (MQ below (rdQ r) args s 0 0 (fun _ => False)) (F0 m 77 ls [.int y0, .int y1]) := by
  have hx := X.1
  have hb := X.2.1
  intro x1 x2 x3 x4 x5 x6 x7 x8 x9 y0 y1 ls hl h
  unfold mL_blocks_77 at h
  refine lv_icmp_eq (tgt := 82) hx hb dL_blocks_77 (by decide) (fun c23 => ?_) (fun c23 => ?_)
  · replace h := ifp c23 h
    refine lv_iconst (v := iI 0) hx hb dL_blocks_82 rfl ?_
    refine lv_istore (lv' := [(10, .int (iI 0)), (0, .ref (q 0)), (1, .int x1), (2, .int x2), (3, .int x3), (4, .int x4), (5, .int x5), (6, .int x6), (7, .int x7), (8, .int x8), (9, .int x9)]) hx hb dL_blocks_83 hl (by decide) rfl (fun ls hl => ?_)
    exact kL_blocks_85 X hKK hP rec hrec FU x1 x2 x3 x4 x5 x6 x7 x8 x9 (iI 0) ls (lv_sub hl [1, 2, 3, 4, 5, 6, 7, 8, 9, 10, 0] rfl) h
  · replace h := ifn c23 h
    cases h
set_option maxHeartbeats 4000000 in
set_option maxRecDepth 100000 in
theorem kL_blocks_215 {p : Program} {l : Launch} {e : Env} {s : State} {m : MethodId} {args : Array Value} {below : List Frame} {meth : Method} {c : Code} {D : va_G} {cI cC : ClassId} {q : Nat → Nat} {n : Int32} {d : Nat → Int32} {lb : Nat → Int32} {xd : Nat → Int32} {xl : Nat → Int32} {wi : Int32} {sl : Int32} {kp : Int32} {ct : Nat → Int32} {gd : Nat → Int32} {gl : Nat → Int32} {ln : Int32} {ch : Nat → Int32} {r : Int32} (X : CX p s m args meth c wsL_blocks cL_blocks 11 (some .boolean) RL) (hKK : KK D cI cC s) (hP : va_P D vwCl (wA cI q n d lb xd xl wi sl kp ct gd gl ln ch) s.heap) : ∀ (f : Nat), ∀ (x2 : Int32) (x3 : Int32) (x4 : Int32) (x5 : Int32) (x6 : Int32) (ls : Array Slot), lv_has ls 11 [(0, .ref (q 0)), (2, .int x2), (3, .int x3), (4, .int x4), (5, .int x5), (6, .int x6)] → mL_blocks_215 f n d wi x2 x3 x4 x5 x6 = some r → W p l e rmL_blocks s m args below meth c s.heap [] 0 0 (MQ below (rdQ r) args s 0 0 (fun _ => False)) (F0 m 215 ls []) := by
  have hx := X.1
  have hb := X.2.1
  intro f
  induction f with
  | zero =>
    intro x2 x3 x4 x5 x6 ls hl h
    exact absurd h (by unfold mL_blocks_215; intro h; cases h)
  | succ f ih =>
    intro x2 x3 x4 x5 x6 ls hl h
    rw [mL_blocks_215] at h
    refine lv_iload_n hx hb dL_blocks_215 rfl (lv_at hl 1 rfl) ?_
    refine lv_iload hx hb dL_blocks_216 (lv_at hl 5 rfl) ?_
    refine lv_ishr hx hb dL_blocks_218 ?_
    refine lv_if_le (tgt := 228) hx hb dL_blocks_219 (by decide) (fun c7 => ?_) (fun c7 => ?_)
    · replace h := ifp c7 h
      refine lv_iload hx hb dL_blocks_228 (lv_at hl 4 rfl) ?_
      refine lv_if_ne (tgt := 319) hx hb dL_blocks_230 (by decide) (fun c8 => ?_) (fun c8 => ?_)
      · replace h := ifn c8 h
        cases h
      · replace h := ifp c8 h
        refine lv_iload hx hb dL_blocks_233 (lv_at hl 3 rfl) ?_
        refine lv_iconst (v := iI 2) hx hb dL_blocks_235 rfl ?_
        refine lv_iload_n hx hb dL_blocks_236 rfl (lv_at hl 1 rfl) ?_
        refine lv_imul hx hb dL_blocks_237 ?_
        refine lv_icmp_ne (tgt := 319) hx hb dL_blocks_238 (by decide) (fun c9 => ?_) (fun c9 => ?_)
        · replace h := ifn c9 h
          cases h
        · replace h := ifp c9 h
          refine lv_aload_n hx hb dL_blocks_241 rfl (lv_at hl 0 rfl) ?_
          refine lv_iload_n hx hb dL_blocks_242 rfl (lv_at hl 2 rfl) ?_
          refine lv_iconst (v := iI 0) hx hb dL_blocks_243 rfl ?_
          obtain ⟨r10, h_r10, h⟩ := obd h
          refine rcV (rest := []) X hKK hP 2 (zX4_block l D cI cC q n d lb xd xl wi sl kp ct gd gl ln ch x3 (iI 0) r10 h_r10) gL_blocks_X4_block rfl rfl rfl hdX4_block ⟨Nat.le_of_ble_eq_true rfl, Nat.le_of_ble_eq_true rfl⟩ [0, 1, 2, 3, 4, 5, 6, 7, 8, 9, 10, 11, 12] rfl 0 rfl rfl rfl hl.1 rfl (Nat.le_of_ble_eq_true rfl) dL_blocks_244 ⟨Nat.zero_le _, Nat.zero_le _⟩ ?_
          refine lv_iconst (v := iI (-1)) hx hb dL_blocks_247 rfl ?_
          refine lv_icmp_ne (tgt := 319) hx hb dL_blocks_248 (by decide) (fun c11 => ?_) (fun c11 => ?_)
          · replace h := ifn c11 h
            cases h
          · replace h := ifp c11 h
            refine lv_aload_n hx hb dL_blocks_251 rfl (lv_at hl 0 rfl) ?_
            refine lv_iconst (v := iI 0) hx hb dL_blocks_252 rfl ?_
            obtain ⟨r12, h_r12, h⟩ := obd h
            refine rcV (rest := []) X hKK hP 1 (zX4_space l D cI cC q n d lb xd xl wi sl kp ct gd gl ln ch (iI 0) r12 h_r12) gL_blocks_X4_space rfl rfl rfl hdX4_space ⟨Nat.le_of_ble_eq_true rfl, Nat.le_of_ble_eq_true rfl⟩ [0, 1, 2, 3, 4, 5, 6, 7, 8, 9, 10, 11, 12] rfl 0 rfl rfl rfl hl.1 rfl (Nat.le_of_ble_eq_true rfl) dL_blocks_253 ⟨Nat.zero_le _, Nat.zero_le _⟩ ?_
            refine lv_iconst (v := iI 2) hx hb dL_blocks_256 rfl ?_
            refine lv_iload_n hx hb dL_blocks_257 rfl (lv_at hl 1 rfl) ?_
            refine lv_imul hx hb dL_blocks_258 ?_
            refine lv_icmp_ne (tgt := 319) hx hb dL_blocks_259 (by decide) (fun c13 => ?_) (fun c13 => ?_)
            · replace h := ifn c13 h
              cases h
            · replace h := ifp c13 h
              refine lv_aload_n hx hb dL_blocks_262 rfl (lv_at hl 0 rfl) ?_
              refine lv_iconst (v := iI 1) hx hb dL_blocks_263 rfl ?_
              obtain ⟨r14, h_r14, h⟩ := obd h
              refine rcV (rest := []) X hKK hP 1 (zX4_space l D cI cC q n d lb xd xl wi sl kp ct gd gl ln ch (iI 1) r14 h_r14) gL_blocks_X4_space rfl rfl rfl hdX4_space ⟨Nat.le_of_ble_eq_true rfl, Nat.le_of_ble_eq_true rfl⟩ [0, 1, 2, 3, 4, 5, 6, 7, 8, 9, 10, 11, 12] rfl 0 rfl rfl rfl hl.1 rfl (Nat.le_of_ble_eq_true rfl) dL_blocks_264 ⟨Nat.zero_le _, Nat.zero_le _⟩ ?_
              refine lv_iconst (v := iI 5) hx hb dL_blocks_267 rfl ?_
              refine lv_iload_n hx hb dL_blocks_268 rfl (lv_at hl 1 rfl) ?_
              refine lv_imul hx hb dL_blocks_269 ?_
              refine lv_icmp_ne (tgt := 319) hx hb dL_blocks_270 (by decide) (fun c15 => ?_) (fun c15 => ?_)
              · replace h := ifn c15 h
                cases h
              · replace h := ifp c15 h
                refine lv_aload_n hx hb dL_blocks_273 rfl (lv_at hl 0 rfl) ?_
                refine lv_iconst (v := iI 2) hx hb dL_blocks_274 rfl ?_
                obtain ⟨r16, h_r16, h⟩ := obd h
                refine rcV (rest := []) X hKK hP 1 (zX4_space l D cI cC q n d lb xd xl wi sl kp ct gd gl ln ch (iI 2) r16 h_r16) gL_blocks_X4_space rfl rfl rfl hdX4_space ⟨Nat.le_of_ble_eq_true rfl, Nat.le_of_ble_eq_true rfl⟩ [0, 1, 2, 3, 4, 5, 6, 7, 8, 9, 10, 11, 12] rfl 0 rfl rfl rfl hl.1 rfl (Nat.le_of_ble_eq_true rfl) dL_blocks_275 ⟨Nat.zero_le _, Nat.zero_le _⟩ ?_
                refine lv_iconst (v := iI 3) hx hb dL_blocks_278 rfl ?_
                refine lv_iload hx hb dL_blocks_279 (lv_at hl 5 rfl) ?_
                refine lv_imul hx hb dL_blocks_281 ?_
                refine lv_iload_n hx hb dL_blocks_282 rfl (lv_at hl 2 rfl) ?_
                refine lv_imul hx hb dL_blocks_283 ?_
                refine lv_icmp_ne (tgt := 319) hx hb dL_blocks_284 (by decide) (fun c17 => ?_) (fun c17 => ?_)
                · replace h := ifn c17 h
                  cases h
                · replace h := ifp c17 h
                  refine lv_aload_n hx hb dL_blocks_287 rfl (lv_at hl 0 rfl) ?_
                  refine lv_iconst (v := iI 3) hx hb dL_blocks_288 rfl ?_
                  obtain ⟨r18, h_r18, h⟩ := obd h
                  refine rcV (rest := []) X hKK hP 1 (zX4_space l D cI cC q n d lb xd xl wi sl kp ct gd gl ln ch (iI 3) r18 h_r18) gL_blocks_X4_space rfl rfl rfl hdX4_space ⟨Nat.le_of_ble_eq_true rfl, Nat.le_of_ble_eq_true rfl⟩ [0, 1, 2, 3, 4, 5, 6, 7, 8, 9, 10, 11, 12] rfl 0 rfl rfl rfl hl.1 rfl (Nat.le_of_ble_eq_true rfl) dL_blocks_289 ⟨Nat.zero_le _, Nat.zero_le _⟩ ?_
                  refine lv_bipush (v := iI 7) hx hb dL_blocks_292 (by decide) ?_
                  refine lv_iload_n hx hb dL_blocks_294 rfl (lv_at hl 1 rfl) ?_
                  refine lv_imul hx hb dL_blocks_295 ?_
                  refine lv_aload_n hx hb dL_blocks_296 rfl (lv_at hl 0 rfl) ?_
                  refine lv_iconst (v := iI 2) hx hb dL_blocks_297 rfl ?_
                  obtain ⟨r19, h_r19, h⟩ := obd h
                  refine rcV (rest := [.int ((iI 7) * x2), .int r18]) X hKK hP 1 (zX4_space l D cI cC q n d lb xd xl wi sl kp ct gd gl ln ch (iI 2) r19 h_r19) gL_blocks_X4_space rfl rfl rfl hdX4_space ⟨Nat.le_of_ble_eq_true rfl, Nat.le_of_ble_eq_true rfl⟩ [0, 1, 2, 3, 4, 5, 6, 7, 8, 9, 10, 11, 12] rfl 0 rfl rfl rfl hl.1 rfl (Nat.le_of_ble_eq_true rfl) dL_blocks_298 ⟨Nat.zero_le _, Nat.zero_le _⟩ ?_
                  refine lv_iadd hx hb dL_blocks_301 ?_
                  refine lv_icmp_ne (tgt := 319) hx hb dL_blocks_302 (by decide) (fun c20 => ?_) (fun c20 => ?_)
                  · replace h := ifn c20 h
                    cases h
                  · replace h := ifp c20 h
                    refine lv_aload_n hx hb dL_blocks_305 rfl (lv_at hl 0 rfl) ?_
                    refine lv_iconst (v := iI 5) hx hb dL_blocks_306 rfl ?_
                    obtain ⟨r21, h_r21, h⟩ := obd h
                    refine rcV (rest := []) X hKK hP 1 (zX4_space l D cI cC q n d lb xd xl wi sl kp ct gd gl ln ch (iI 5) r21 h_r21) gL_blocks_X4_space rfl rfl rfl hdX4_space ⟨Nat.le_of_ble_eq_true rfl, Nat.le_of_ble_eq_true rfl⟩ [0, 1, 2, 3, 4, 5, 6, 7, 8, 9, 10, 11, 12] rfl 0 rfl rfl rfl hl.1 rfl (Nat.le_of_ble_eq_true rfl) dL_blocks_307 ⟨Nat.zero_le _, Nat.zero_le _⟩ ?_
                    refine lv_bipush (v := iI (-2)) hx hb dL_blocks_310 (by decide) ?_
                    refine lv_icmp_ne (tgt := 319) hx hb dL_blocks_312 (by decide) (fun c22 => ?_) (fun c22 => ?_)
                    · replace h := ifn c22 h
                      cases h
                    · replace h := ifp c22 h
                      refine lv_iconst (v := iI 1) hx hb dL_blocks_315 rfl ?_
                      refine lv_goto (tgt := 320) hx hb dL_blocks_316 (by decide) ?_
                      exact rd_ret X rfl (Option.some.inj h) dL_blocks_320
    · replace h := ifn c7 h
      refine lv_iinc (v := (x6 + iI 1)) (lv' := [(6, .int (x6 + iI 1)), (0, .ref (q 0)), (2, .int x2), (3, .int x3), (4, .int x4), (5, .int x5)]) hx hb dL_blocks_222 hl (k := 5) rfl rfl (by decide) rfl (fun ls hl => ?_)
      refine lv_goto (tgt := 215) hx hb dL_blocks_225 (by decide) ?_
      exact ih x2 x3 x4 x5 (x6 + iI 1) ls (lv_sub hl [1, 2, 3, 4, 5, 0] rfl) h
set_option maxHeartbeats 4000000 in
set_option maxRecDepth 100000 in
theorem kL_blocks_20 {p : Program} {l : Launch} {e : Env} {s : State} {m : MethodId} {args : Array Value} {below : List Frame} {meth : Method} {c : Code} {D : va_G} {cI cC : ClassId} {q : Nat → Nat} {n : Int32} {d : Nat → Int32} {lb : Nat → Int32} {xd : Nat → Int32} {xl : Nat → Int32} {wi : Int32} {sl : Int32} {kp : Int32} {ct : Nat → Int32} {gd : Nat → Int32} {gl : Nat → Int32} {ln : Int32} {ch : Nat → Int32} {r : Int32} (X : CX p s m args meth c wsL_blocks cL_blocks 11 (some .boolean) RL) (hKK : KK D cI cC s) (hP : va_P D vwCl (wA cI q n d lb xd xl wi sl kp ct gd gl ln ch) s.heap) : ∀ (f : Nat), ∀ (x1 : Int32) (x2 : Int32) (x3 : Int32) (x4 : Int32) (x5 : Int32) (x6 : Int32) (ls : Array Slot), lv_has ls 11 [(0, .ref (q 0)), (1, .int x1), (2, .int x2), (3, .int x3), (4, .int x4), (5, .int x5), (6, .int x6)] → mL_blocks_20 f n d wi x1 x2 x3 x4 x5 x6 = some r → W p l e rmL_blocks s m args below meth c s.heap [] 0 0 (MQ below (rdQ r) args s 0 0 (fun _ => False)) (F0 m 20 ls []) := by
  have hx := X.1
  have hb := X.2.1
  intro f
  induction f with
  | zero =>
    intro x1 x2 x3 x4 x5 x6 ls hl h
    exact absurd h (by unfold mL_blocks_20; intro h; cases h)
  | succ f ih =>
    intro x1 x2 x3 x4 x5 x6 ls hl h
    rw [mL_blocks_20] at h
    refine lv_iload hx hb dL_blocks_20 (lv_at hl 6 rfl) ?_
    refine lv_iload_n hx hb dL_blocks_22 rfl (lv_at hl 3 rfl) ?_
    refine lv_icmp_ge (tgt := 212) hx hb dL_blocks_23 (by decide) (fun c2 => ?_) (fun c2 => ?_)
    · replace h := ifp c2 h
      refine lv_iconst (v := iI 1) hx hb dL_blocks_212 rfl ?_
      refine lv_istore (lv' := [(6, .int (iI 1)), (0, .ref (q 0)), (1, .int x1), (2, .int x2), (3, .int x3), (4, .int x4), (5, .int x5)]) hx hb dL_blocks_213 hl (by decide) rfl (fun ls hl => ?_)
      exact kL_blocks_215 X hKK hP FU x2 x3 x4 x5 (iI 1) ls (lv_sub hl [1, 3, 4, 5, 6, 0] rfl) h
    · replace h := ifn c2 h
      refine lv_sipush (v := iI 1000) hx hb dL_blocks_26 (by decide) ?_
      refine lv_istore (lv' := [(7, .int (iI 1000)), (0, .ref (q 0)), (1, .int x1), (2, .int x2), (3, .int x3), (4, .int x4), (5, .int x5), (6, .int x6)]) hx hb dL_blocks_29 hl (by decide) rfl (fun ls hl => ?_)
      refine lv_sipush (v := iI (-1000)) hx hb dL_blocks_31 (by decide) ?_
      refine lv_istore (lv' := [(8, .int (iI (-1000))), (7, .int (iI 1000)), (0, .ref (q 0)), (1, .int x1), (2, .int x2), (3, .int x3), (4, .int x4), (5, .int x5), (6, .int x6)]) hx hb dL_blocks_34 hl (by decide) rfl (fun ls hl => ?_)
      refine lv_aload_n hx hb dL_blocks_36 rfl (lv_at hl 2 rfl) ?_
      refine lv_iload hx hb dL_blocks_37 (lv_at hl 8 rfl) ?_
      refine lv_iconst (v := iI 3) hx hb dL_blocks_39 rfl ?_
      obtain ⟨r3, h_r3, h⟩ := obd h
      refine rcV (rest := []) X hKK hP 2 (zX4_block l D cI cC q n d lb xd xl wi sl kp ct gd gl ln ch x6 (iI 3) r3 h_r3) gL_blocks_X4_block rfl rfl rfl hdX4_block ⟨Nat.le_of_ble_eq_true rfl, Nat.le_of_ble_eq_true rfl⟩ [0, 1, 2, 3, 4, 5, 6, 7, 8, 9, 10, 11, 12] rfl 0 rfl rfl rfl hl.1 rfl (Nat.le_of_ble_eq_true rfl) dL_blocks_40 ⟨Nat.zero_le _, Nat.zero_le _⟩ ?_
      refine lv_istore (lv' := [(9, .int r3), (8, .int (iI (-1000))), (7, .int (iI 1000)), (0, .ref (q 0)), (1, .int x1), (2, .int x2), (3, .int x3), (4, .int x4), (5, .int x5), (6, .int x6)]) hx hb dL_blocks_43 hl (by decide) rfl (fun ls hl => ?_)
      refine lv_aload_n hx hb dL_blocks_45 rfl (lv_at hl 3 rfl) ?_
      refine lv_iload hx hb dL_blocks_46 (lv_at hl 9 rfl) ?_
      refine lv_iconst (v := iI 0) hx hb dL_blocks_48 rfl ?_
      obtain ⟨r4, h_r4, h⟩ := obd h
      refine rcV (rest := []) X hKK hP 2 (zX4_block l D cI cC q n d lb xd xl wi sl kp ct gd gl ln ch x6 (iI 0) r4 h_r4) gL_blocks_X4_block rfl rfl rfl hdX4_block ⟨Nat.le_of_ble_eq_true rfl, Nat.le_of_ble_eq_true rfl⟩ [0, 1, 2, 3, 4, 5, 6, 7, 8, 9, 10, 11, 12] rfl 0 rfl rfl rfl hl.1 rfl (Nat.le_of_ble_eq_true rfl) dL_blocks_49 ⟨Nat.zero_le _, Nat.zero_le _⟩ ?_
      refine lv_iload hx hb dL_blocks_52 (lv_at hl 8 rfl) ?_
      refine lv_icmp_ne (tgt := 80) hx hb dL_blocks_54 (by decide) (fun c5 => ?_) (fun c5 => ?_)
      · replace h := ifn c5 h
        cases h
      · replace h := ifp c5 h
        refine lv_iload hx hb dL_blocks_57 (lv_at hl 0 rfl) ?_
        refine lv_iload hx hb dL_blocks_59 (lv_at hl 9 rfl) ?_
        refine lv_iconst (v := iI 1) hx hb dL_blocks_61 rfl ?_
        refine lv_iadd hx hb dL_blocks_62 ?_
        refine lv_iload_n hx hb dL_blocks_63 rfl (lv_at hl 6 rfl) ?_
        refine lv_icmp_ge (tgt := 71) hx hb dL_blocks_64 (by decide) (fun c6 => ?_) (fun c6 => ?_)
        · replace h := ifp c6 h
          refine lv_iconst (v := iI 2) hx hb dL_blocks_71 rfl ?_
          refine lv_iload_n hx hb dL_blocks_72 rfl (lv_at hl 5 rfl) ?_
          refine lv_imul hx hb dL_blocks_73 ?_
          refine lv_iload hx hb dL_blocks_74 (lv_at hl 7 rfl) ?_
          refine lv_isub hx hb dL_blocks_76 ?_
          exact kL_blocks_77 X hKK hP (mL_blocks_20 f) ih x1 x2 x3 x4 x5 x6 (iI 1000) (iI (-1000)) r3 (((iI 2) * x2) - x4) r3 ls (lv_sub hl [3, 4, 5, 6, 7, 8, 9, 2, 1, 0] rfl) h
        · replace h := ifn c6 h
          refine lv_iload_n hx hb dL_blocks_67 rfl (lv_at hl 4 rfl) ?_
          refine lv_goto (tgt := 77) hx hb dL_blocks_68 (by decide) ?_
          exact kL_blocks_77 X hKK hP (mL_blocks_20 f) ih x1 x2 x3 x4 x5 x6 (iI 1000) (iI (-1000)) r3 x1 r3 ls (lv_sub hl [3, 4, 5, 6, 7, 8, 9, 2, 1, 0] rfl) h
set_option maxHeartbeats 4000000 in
set_option maxRecDepth 100000 in
theorem zL_blocks (l : Launch) (D : va_G) (cI cC : ClassId) (q : Nat → Nat) (n : Int32) (d : Nat → Int32) (lb : Nat → Int32) (xd : Nat → Int32) (xl : Nat → Int32) (wi : Int32) (sl : Int32) (kp : Int32) (ct : Nat → Int32) (gd : Nat → Int32) (gl : Nat → Int32) (ln : Int32) (ch : Nat → Int32) (x1 : Int32) (r : Int32) (h : mL_blocks n d wi x1 = some r) : Met l yL_blocks wsL_blocks rmL_blocks (va_Pc [.ref (q 0), .int x1] (BW D cI cC (wA cI q n d lb xd xl wi sl kp ct gd gl ln ch))) (rdQ r) 0 0 (fun _ => False) := by
  refine MetI RL (by decide +kernel) rfl rfl (Nat.le_of_ble_eq_true rfl) ?_
  intro p e s m below meth c ls X _ hB hl
  obtain ⟨hP, hKK⟩ := hB
  have hx := X.1
  have hb := X.2.1
  replace hl : lv_has ls 11 [(0, .ref (q 0)), (1, .int x1)] := hl
  unfold mL_blocks at h
  refine lv_aload_n hx hb dL_blocks_0 rfl (lv_at hl 0 rfl) ?_
  refine rcV (rest := []) X hKK hP 0 (zX4_size l D cI cC q n d lb xd xl wi sl kp ct gd gl ln ch _ rfl) gL_blocks_X4_size rfl rfl rfl hdX4_size ⟨Nat.le_of_ble_eq_true rfl, Nat.le_of_ble_eq_true rfl⟩ [0, 1, 2, 3, 4, 5, 6, 7, 8, 9, 10, 11, 12] rfl 0 rfl rfl rfl hl.1 rfl (Nat.le_of_ble_eq_true rfl) dL_blocks_1 ⟨Nat.zero_le _, Nat.zero_le _⟩ ?_
  refine lv_istore_n (lv' := [(2, .int (mX4_size n)), (0, .ref (q 0)), (1, .int x1)]) hx hb dL_blocks_4 rfl hl (by decide) rfl (fun ls hl => ?_)
  refine lv_aload_n hx hb dL_blocks_5 rfl (lv_at hl 1 rfl) ?_
  refine lv_iconst (v := iI 4) hx hb dL_blocks_6 rfl ?_
  obtain ⟨r1, h_r1, h⟩ := obd h
  refine rcV (rest := []) X hKK hP 1 (zX4_space l D cI cC q n d lb xd xl wi sl kp ct gd gl ln ch (iI 4) r1 h_r1) gL_blocks_X4_space rfl rfl rfl hdX4_space ⟨Nat.le_of_ble_eq_true rfl, Nat.le_of_ble_eq_true rfl⟩ [0, 1, 2, 3, 4, 5, 6, 7, 8, 9, 10, 11, 12] rfl 0 rfl rfl rfl hl.1 rfl (Nat.le_of_ble_eq_true rfl) dL_blocks_7 ⟨Nat.zero_le _, Nat.zero_le _⟩ ?_
  refine lv_istore_n (lv' := [(3, .int r1), (2, .int (mX4_size n)), (0, .ref (q 0)), (1, .int x1)]) hx hb dL_blocks_10 rfl hl (by decide) rfl (fun ls hl => ?_)
  refine lv_iconst (v := iI 0) hx hb dL_blocks_11 rfl ?_
  refine lv_istore (lv' := [(4, .int (iI 0)), (3, .int r1), (2, .int (mX4_size n)), (0, .ref (q 0)), (1, .int x1)]) hx hb dL_blocks_12 hl (by decide) rfl (fun ls hl => ?_)
  refine lv_iconst (v := iI 0) hx hb dL_blocks_14 rfl ?_
  refine lv_istore (lv' := [(5, .int (iI 0)), (4, .int (iI 0)), (3, .int r1), (2, .int (mX4_size n)), (0, .ref (q 0)), (1, .int x1)]) hx hb dL_blocks_15 hl (by decide) rfl (fun ls hl => ?_)
  refine lv_iconst (v := iI 0) hx hb dL_blocks_17 rfl ?_
  refine lv_istore (lv' := [(6, .int (iI 0)), (5, .int (iI 0)), (4, .int (iI 0)), (3, .int r1), (2, .int (mX4_size n)), (0, .ref (q 0)), (1, .int x1)]) hx hb dL_blocks_18 hl (by decide) rfl (fun ls hl => ?_)
  exact kL_blocks_20 X hKK hP FU x1 (mX4_size n) r1 (iI 0) (iI 0) (iI 0) ls (lv_sub hl [5, 6, 4, 3, 2, 1, 0] rfl) h
def mL_print_8 : Nat → Int32 → (Nat → Int32) → (Nat → Int32) → Int64 → Int32 → Option (Int64)
  | 0, _, _, _, _, _ => none
  | f + 1, n, d, lb, x1, x3 => (if (mX4_size n) ≤ x3 then some x1 else ((mX4_node n d lb x3 (iI 0)).bind fun r2 => ((mX4_node n d lb x3 (iI 10)).bind fun r3 => mL_print_8 f n d lb ((((1000003 : Int64) * x1) + ((31 : Int64) * (r2).toInt64)) + (r3).toInt64) (x3 + iI 1))))
def mL_print (n : Int32) (d : Nat → Int32) (lb : Nat → Int32)  : Option (Int64) := mL_print_8 FU n d lb (((mX4_size n)).toInt64) (iI 0)
theorem hdL_print : yL_print.cls = RL ∧ yL_print.cls ≠ "java/lang/invoke/MethodHandle" ∧ yL_print.cls ≠ "java/lang/invoke/VarHandle" ∧ (parseMethodDescriptor yL_print.desc).map (fun d => d.parameters.length) = some 1 := by decide +kernel
theorem lcL_print_71 : Cond.constantLong RL 71 (1000003) ∈ wsL_print := by decide +kernel
theorem lcL_print_73 : Cond.constantLong RL 73 (31) ∈ wsL_print := by decide +kernel
abbrev rmL_print : Room := { frames := 6, cells := 0, slots := 0, locals := 129 }
set_option maxHeartbeats 4000000 in
set_option maxRecDepth 100000 in
theorem kL_print_8 {p : Program} {l : Launch} {e : Env} {s : State} {m : MethodId} {args : Array Value} {below : List Frame} {meth : Method} {c : Code} {D : va_G} {cI cC : ClassId} {q : Nat → Nat} {n : Int32} {d : Nat → Int32} {lb : Nat → Int32} {xd : Nat → Int32} {xl : Nat → Int32} {wi : Int32} {sl : Int32} {kp : Int32} {ct : Nat → Int32} {gd : Nat → Int32} {gl : Nat → Int32} {ln : Int32} {ch : Nat → Int32} {r : Int64} (X : CX p s m args meth c wsL_print cL_print 4 (some .long) RL) (hKK : KK D cI cC s) (hP : va_P D vwCl (wA cI q n d lb xd xl wi sl kp ct gd gl ln ch) s.heap) : ∀ (f : Nat), ∀ (x1 : Int64) (x3 : Int32) (ls : Array Slot), lv_has ls 4 [(0, .ref (q 0)), (1, .long x1), (3, .int x3)] → mL_print_8 f n d lb x1 x3 = some r → W p l e rmL_print s m args below meth c s.heap [] 0 0 (MQ below (rdQL r) args s 0 0 (fun _ => False)) (F0 m 8 ls []) := by
  have hx := X.1
  have hb := X.2.1
  intro f
  induction f with
  | zero =>
    intro x1 x3 ls hl h
    exact absurd h (by unfold mL_print_8; intro h; cases h)
  | succ f ih =>
    intro x1 x3 ls hl h
    rw [mL_print_8] at h
    refine lv_iload_n hx hb dL_print_8 rfl (lv_at hl 2 rfl) ?_
    refine lv_aload_n hx hb dL_print_9 rfl (lv_at hl 0 rfl) ?_
    refine rcV (rest := [.int x3]) X hKK hP 0 (zX4_size l D cI cC q n d lb xd xl wi sl kp ct gd gl ln ch _ rfl) gL_print_X4_size rfl rfl rfl hdX4_size ⟨Nat.le_of_ble_eq_true rfl, Nat.le_of_ble_eq_true rfl⟩ [0, 1, 2, 3, 4, 5, 6, 7, 8, 9, 10, 11, 12] rfl 0 rfl rfl rfl hl.1 rfl (Nat.le_of_ble_eq_true rfl) dL_print_10 ⟨Nat.zero_le _, Nat.zero_le _⟩ ?_
    refine lv_icmp_ge (tgt := 49) hx hb dL_print_13 (by decide) (fun c1 => ?_) (fun c1 => ?_)
    · replace h := ifp c1 h
      refine lv_lload_n hx hb dL_print_49 rfl (lv_at hl 1 rfl) ?_
      exact rd_retL X (Option.some.inj h) dL_print_50
    · replace h := ifn c1 h
      refine lv_ldc2 (v := 1000003) hx hb X.2.2.2.1 (X.2.2.2.2.1 _ lcL_print_71) dL_print_16 ?_
      refine lv_lload_n hx hb dL_print_19 rfl (lv_at hl 1 rfl) ?_
      refine lv_lmul hx hb dL_print_20 ?_
      refine lv_ldc2 (v := 31) hx hb X.2.2.2.1 (X.2.2.2.2.1 _ lcL_print_73) dL_print_21 ?_
      refine lv_aload_n hx hb dL_print_24 rfl (lv_at hl 0 rfl) ?_
      refine lv_iload_n hx hb dL_print_25 rfl (lv_at hl 2 rfl) ?_
      refine lv_iconst (v := iI 0) hx hb dL_print_26 rfl ?_
      obtain ⟨r2, h_r2, h⟩ := obd h
      refine rcV (rest := [.long (31 : Int64), .long ((1000003 : Int64) * x1)]) X hKK hP 2 (zX4_node l D cI cC q n d lb xd xl wi sl kp ct gd gl ln ch x3 (iI 0) r2 h_r2) gL_print_X4_node rfl rfl rfl hdX4_node ⟨Nat.le_of_ble_eq_true rfl, Nat.le_of_ble_eq_true rfl⟩ [0, 1, 2, 3, 4, 5, 6, 7, 8, 9, 10, 11, 12] rfl 0 rfl rfl rfl hl.1 rfl (Nat.le_of_ble_eq_true rfl) dL_print_27 ⟨Nat.zero_le _, Nat.zero_le _⟩ ?_
      refine lv_i2l hx hb dL_print_30 rfl ?_
      refine lv_lmul hx hb dL_print_31 ?_
      refine lv_ladd hx hb dL_print_32 ?_
      refine lv_aload_n hx hb dL_print_33 rfl (lv_at hl 0 rfl) ?_
      refine lv_iload_n hx hb dL_print_34 rfl (lv_at hl 2 rfl) ?_
      refine lv_bipush (v := iI 10) hx hb dL_print_35 (by decide) ?_
      obtain ⟨r3, h_r3, h⟩ := obd h
      refine rcV (rest := [.long (((1000003 : Int64) * x1) + ((31 : Int64) * (r2).toInt64))]) X hKK hP 2 (zX4_node l D cI cC q n d lb xd xl wi sl kp ct gd gl ln ch x3 (iI 10) r3 h_r3) gL_print_X4_node rfl rfl rfl hdX4_node ⟨Nat.le_of_ble_eq_true rfl, Nat.le_of_ble_eq_true rfl⟩ [0, 1, 2, 3, 4, 5, 6, 7, 8, 9, 10, 11, 12] rfl 0 rfl rfl rfl hl.1 rfl (Nat.le_of_ble_eq_true rfl) dL_print_37 ⟨Nat.zero_le _, Nat.zero_le _⟩ ?_
      refine lv_i2l hx hb dL_print_40 rfl ?_
      refine lv_ladd hx hb dL_print_41 ?_
      refine lv_lstore_n (lv' := [(1, .long ((((1000003 : Int64) * x1) + ((31 : Int64) * (r2).toInt64)) + (r3).toInt64)), (0, .ref (q 0)), (3, .int x3)]) hx hb dL_print_42 rfl hl (by decide) rfl (fun ls hl => ?_)
      refine lv_iinc (v := (x3 + iI 1)) (lv' := [(3, .int (x3 + iI 1)), (1, .long ((((1000003 : Int64) * x1) + ((31 : Int64) * (r2).toInt64)) + (r3).toInt64)), (0, .ref (q 0))]) hx hb dL_print_43 hl (k := 2) rfl rfl (by decide) rfl (fun ls hl => ?_)
      refine lv_goto (tgt := 8) hx hb dL_print_46 (by decide) ?_
      exact ih ((((1000003 : Int64) * x1) + ((31 : Int64) * (r2).toInt64)) + (r3).toInt64) (x3 + iI 1) ls (lv_sub hl [2, 1, 0] rfl) h
set_option maxHeartbeats 4000000 in
set_option maxRecDepth 100000 in
theorem zL_print (l : Launch) (D : va_G) (cI cC : ClassId) (q : Nat → Nat) (n : Int32) (d : Nat → Int32) (lb : Nat → Int32) (xd : Nat → Int32) (xl : Nat → Int32) (wi : Int32) (sl : Int32) (kp : Int32) (ct : Nat → Int32) (gd : Nat → Int32) (gl : Nat → Int32) (ln : Int32) (ch : Nat → Int32)  (r : Int64) (h : mL_print n d lb = some r) : Met l yL_print wsL_print rmL_print (va_Pc [.ref (q 0)] (BW D cI cC (wA cI q n d lb xd xl wi sl kp ct gd gl ln ch))) (rdQL r) 0 0 (fun _ => False) := by
  refine MetI RL (by decide +kernel) rfl rfl (Nat.le_of_ble_eq_true rfl) ?_
  intro p e s m below meth c ls X _ hB hl
  obtain ⟨hP, hKK⟩ := hB
  have hx := X.1
  have hb := X.2.1
  replace hl : lv_has ls 4 [(0, .ref (q 0))] := hl
  unfold mL_print at h
  refine lv_aload_n hx hb dL_print_0 rfl (lv_at hl 0 rfl) ?_
  refine rcV (rest := []) X hKK hP 0 (zX4_size l D cI cC q n d lb xd xl wi sl kp ct gd gl ln ch _ rfl) gL_print_X4_size rfl rfl rfl hdX4_size ⟨Nat.le_of_ble_eq_true rfl, Nat.le_of_ble_eq_true rfl⟩ [0, 1, 2, 3, 4, 5, 6, 7, 8, 9, 10, 11, 12] rfl 0 rfl rfl rfl hl.1 rfl (Nat.le_of_ble_eq_true rfl) dL_print_1 ⟨Nat.zero_le _, Nat.zero_le _⟩ ?_
  refine lv_i2l hx hb dL_print_4 rfl ?_
  refine lv_lstore_n (lv' := [(1, .long (((mX4_size n)).toInt64)), (0, .ref (q 0))]) hx hb dL_print_5 rfl hl (by decide) rfl (fun ls hl => ?_)
  refine lv_iconst (v := iI 0) hx hb dL_print_6 rfl ?_
  refine lv_istore_n (lv' := [(3, .int (iI 0)), (1, .long (((mX4_size n)).toInt64)), (0, .ref (q 0))]) hx hb dL_print_7 rfl hl (by decide) rfl (fun ls hl => ?_)
  exact kL_print_8 X hKK hP FU (((mX4_size n)).toInt64) (iI 0) ls (lv_sub hl [2, 1, 0] rfl) h
def mL_texts_115 (n : Int32) (d : Nat → Int32) (lb : Nat → Int32) (sl : Int32) (kp : Int32) (ct : Nat → Int32) (gd : Nat → Int32) (gl : Nat → Int32) (ln : Int32) (ch : Nat → Int32) (x2 : Int32) (x3 : Int64) (y0 : Int32) (y1 : Int32) : Option (Int32 × Int32 × (Nat → Int32) × (Nat → Int32) × Int32 × Int32 × (Nat → Int32) × (Nat → Int32) × (Nat → Int32) × Int32 × (Nat → Int32)) := (if y1 = y0 then ((mL_print n d lb).bind fun r17 => (if (lg_cmp r17 x3) = 0 then ((mX4_read n d lb sl kp ct gd gl ((mX4_type ln ch (iI 98)).2.1) ((mX4_type ln ch (iI 98)).2.2)).bind fun r19 => (if r19.1 = ((iI (-100)) - x2) then ((mX4_read r19.2.1 r19.2.2.1 r19.2.2.2.1 r19.2.2.2.2.1 r19.2.2.2.2.2.1 r19.2.2.2.2.2.2.1 r19.2.2.2.2.2.2.2.1 r19.2.2.2.2.2.2.2.2 ((mX4_clearText ((mX4_type ln ch (iI 98)).2.1)).2) ((mX4_type ln ch (iI 98)).2.2)).bind fun r21 => (if r21.1 = (iI (-100)) then ((mX4_read r21.2.1 r21.2.2.1 r21.2.2.2.1 r21.2.2.2.2.1 r21.2.2.2.2.2.1 r21.2.2.2.2.2.2.1 r21.2.2.2.2.2.2.2.1 r21.2.2.2.2.2.2.2.2 ((mX4_type ((mX4_type ((mX4_clearText ((mX4_type ln ch (iI 98)).2.1)).2) ((mX4_type ln ch (iI 98)).2.2) (iI 113)).2.1) ((mX4_type ((mX4_clearText ((mX4_type ln ch (iI 98)).2.1)).2) ((mX4_type ln ch (iI 98)).2.2) (iI 113)).2.2) (iI 40)).2.1) ((mX4_type ((mX4_type ((mX4_clearText ((mX4_type ln ch (iI 98)).2.1)).2) ((mX4_type ln ch (iI 98)).2.2) (iI 113)).2.1) ((mX4_type ((mX4_clearText ((mX4_type ln ch (iI 98)).2.1)).2) ((mX4_type ln ch (iI 98)).2.2) (iI 113)).2.2) (iI 40)).2.2)).bind fun r23 => (if r23.1 = (iI (-102)) then (if (iI 1) = 0 then none else (if (iI 1) = 0 then none else (if (iI 1) = 0 then none else ((mX4_read r23.2.1 r23.2.2.1 r23.2.2.2.1 r23.2.2.2.2.1 r23.2.2.2.2.2.1 r23.2.2.2.2.2.2.1 r23.2.2.2.2.2.2.2.1 r23.2.2.2.2.2.2.2.2 ((mX4_type ((mX4_type ((mX4_type ((mX4_clearText ((mX4_type ln ch (iI 98)).2.1)).2) ((mX4_type ln ch (iI 98)).2.2) (iI 113)).2.1) ((mX4_type ((mX4_clearText ((mX4_type ln ch (iI 98)).2.1)).2) ((mX4_type ln ch (iI 98)).2.2) (iI 113)).2.2) (iI 40)).2.1) ((mX4_type ((mX4_type ((mX4_clearText ((mX4_type ln ch (iI 98)).2.1)).2) ((mX4_type ln ch (iI 98)).2.2) (iI 113)).2.1) ((mX4_type ((mX4_clearText ((mX4_type ln ch (iI 98)).2.1)).2) ((mX4_type ln ch (iI 98)).2.2) (iI 113)).2.2) (iI 40)).2.2) (iI 41)).2.1) ((mX4_type ((mX4_type ((mX4_type ((mX4_clearText ((mX4_type ln ch (iI 98)).2.1)).2) ((mX4_type ln ch (iI 98)).2.2) (iI 113)).2.1) ((mX4_type ((mX4_clearText ((mX4_type ln ch (iI 98)).2.1)).2) ((mX4_type ln ch (iI 98)).2.2) (iI 113)).2.2) (iI 40)).2.1) ((mX4_type ((mX4_type ((mX4_clearText ((mX4_type ln ch (iI 98)).2.1)).2) ((mX4_type ln ch (iI 98)).2.2) (iI 113)).2.1) ((mX4_type ((mX4_clearText ((mX4_type ln ch (iI 98)).2.1)).2) ((mX4_type ln ch (iI 98)).2.2) (iI 113)).2.2) (iI 40)).2.2) (iI 41)).2.2)).bind fun r28 => (if r28.1 = (iI (-102)) then ((mL_print r28.2.1 r28.2.2.1 r28.2.2.2.1).bind fun r30 => (if (lg_cmp r30 x3) = 0 then some ((iI 1), r28.2.1, r28.2.2.1, r28.2.2.2.1, r28.2.2.2.2.1, r28.2.2.2.2.2.1, r28.2.2.2.2.2.2.1, r28.2.2.2.2.2.2.2.1, r28.2.2.2.2.2.2.2.2, (mX4_type ((mX4_type ((mX4_type ((mX4_clearText ((mX4_type ln ch (iI 98)).2.1)).2) ((mX4_type ln ch (iI 98)).2.2) (iI 113)).2.1) ((mX4_type ((mX4_clearText ((mX4_type ln ch (iI 98)).2.1)).2) ((mX4_type ln ch (iI 98)).2.2) (iI 113)).2.2) (iI 40)).2.1) ((mX4_type ((mX4_type ((mX4_clearText ((mX4_type ln ch (iI 98)).2.1)).2) ((mX4_type ln ch (iI 98)).2.2) (iI 113)).2.1) ((mX4_type ((mX4_clearText ((mX4_type ln ch (iI 98)).2.1)).2) ((mX4_type ln ch (iI 98)).2.2) (iI 113)).2.2) (iI 40)).2.2) (iI 41)).2.1, (mX4_type ((mX4_type ((mX4_type ((mX4_clearText ((mX4_type ln ch (iI 98)).2.1)).2) ((mX4_type ln ch (iI 98)).2.2) (iI 113)).2.1) ((mX4_type ((mX4_clearText ((mX4_type ln ch (iI 98)).2.1)).2) ((mX4_type ln ch (iI 98)).2.2) (iI 113)).2.2) (iI 40)).2.1) ((mX4_type ((mX4_type ((mX4_clearText ((mX4_type ln ch (iI 98)).2.1)).2) ((mX4_type ln ch (iI 98)).2.2) (iI 113)).2.1) ((mX4_type ((mX4_clearText ((mX4_type ln ch (iI 98)).2.1)).2) ((mX4_type ln ch (iI 98)).2.2) (iI 113)).2.2) (iI 40)).2.2) (iI 41)).2.2) else none)) else none))))) else none)) else none)) else none)) else none)) else none)
def mL_texts_57 : Nat → Int32 → (Nat → Int32) → (Nat → Int32) → Int32 → Int32 → (Nat → Int32) → (Nat → Int32) → (Nat → Int32) → Int32 → (Nat → Int32) → Int32 → Int32 → Int64 → Int32 → Int32 → Option (Int32 × Int32 × (Nat → Int32) × (Nat → Int32) × Int32 × Int32 × (Nat → Int32) × (Nat → Int32) × (Nat → Int32) × Int32 × (Nat → Int32))
  | 0, _, _, _, _, _, _, _, _, _, _, _, _, _, _, _ => none
  | f + 1, n, d, lb, sl, kp, ct, gd, gl, ln, ch, x1, x2, x3, x5, x6 => (if x2 ≤ x6 then ((mX4_read n d lb sl kp ct gd gl ln ch).bind fun r9 => (if r9.1 = x5 then ((mL_print r9.2.1 r9.2.2.1 r9.2.2.2.1).bind fun r11 => (if (lg_cmp r11 x3) = 0 then ((mX4_undo r9.2.1 r9.2.2.1 r9.2.2.2.1 r9.2.2.2.2.1 r9.2.2.2.2.2.1 r9.2.2.2.2.2.2.1 r9.2.2.2.2.2.2.2.1 r9.2.2.2.2.2.2.2.2).bind fun r13 => (if (iI 15) ≤ x1 then mL_texts_115 r13.2.1 r13.2.2.1 r13.2.2.2.1 r13.2.2.2.2.1 r13.2.2.2.2.2 r9.2.2.2.2.2.2.1 r9.2.2.2.2.2.2.2.1 r9.2.2.2.2.2.2.2.2 ln ch x2 x3 (iI 14) r13.1 else mL_texts_115 r13.2.1 r13.2.2.1 r13.2.2.2.1 r13.2.2.2.2.1 r13.2.2.2.2.2 r9.2.2.2.2.2.2.1 r9.2.2.2.2.2.2.2.1 r9.2.2.2.2.2.2.2.2 ln ch x2 x3 x1 r13.1)) else none)) else none)) else ((mX4_written n d lb x6).bind fun r15 => mL_texts_57 f n d lb sl kp ct gd gl ((mX4_type ln ch (c16 r15)).2.1) ((mX4_type ln ch (c16 r15)).2.2) x1 x2 x3 x5 (x6 + iI 1)))
def mL_texts (n : Int32) (d : Nat → Int32) (lb : Nat → Int32) (sl : Int32) (kp : Int32) (ct : Nat → Int32) (gd : Nat → Int32) (gl : Nat → Int32) (ln : Int32) (ch : Nat → Int32) (x1 : Int32) : Option (Int32 × Int32 × (Nat → Int32) × (Nat → Int32) × Int32 × Int32 × (Nat → Int32) × (Nat → Int32) × (Nat → Int32) × Int32 × (Nat → Int32)) := ((mX4_written n d lb (iI (-1))).bind fun r1 => ((mL_print n d lb).bind fun r2 => ((mX4_written n d lb r1).bind fun r3 => (if r3 = (iI (-5)) then ((mX4_written n d lb (iI (-2))).bind fun r5 => (if r5 = (iI (-2)) then (if r1 ≤ (iI 299) then mL_texts_57 FU n d lb sl kp ct gd gl ((mX4_clearText ln).2) ch x1 r1 r2 (mX4_size n) (iI 0) else none) else none)) else none))))
theorem hdL_texts : yL_texts.cls = RL ∧ yL_texts.cls ≠ "java/lang/invoke/MethodHandle" ∧ yL_texts.cls ≠ "java/lang/invoke/VarHandle" ∧ (parseMethodDescriptor yL_texts.desc).map (fun d => d.parameters.length) = some 2 := by decide +kernel
abbrev rmL_texts : Room := { frames := 7, cells := 0, slots := 0, locals := 152 }
set_option maxHeartbeats 4000000 in
set_option maxRecDepth 100000 in
theorem kL_texts_115 {p : Program} {l : Launch} {e : Env} {s : State} {m : MethodId} {args : Array Value} {below : List Frame} {meth : Method} {c : Code} {D : va_G} {cI cC : ClassId} {q : Nat → Nat} {xd : Nat → Int32} {xl : Nat → Int32} {wi : Int32} {r : Int32 × Int32 × (Nat → Int32) × (Nat → Int32) × Int32 × Int32 × (Nat → Int32) × (Nat → Int32) × (Nat → Int32) × Int32 × (Nat → Int32)} {A : Nat → Prop} (X : CX p s m args meth c wsL_texts cL_texts 9 (some .boolean) RL) (hKK : KK D cI cC s) (hA : ∀ z, s.heap.size ≤ z → A z) : ∀ (n : Int32) (d : Nat → Int32) (lb : Nat → Int32) (sl : Int32) (kp : Int32) (ct : Nat → Int32) (gd : Nat → Int32) (gl : Nat → Int32) (ln : Int32) (ch : Nat → Int32) (x2 : Int32) (x3 : Int64) (y0 : Int32) (y1 : Int32) (H : Heap) (locs : List Loc) (ls : Array Slot), va_P D vwCl (wA cI q n d lb xd xl wi sl kp ct gd gl ln ch) H → va_D A (wA cI q n d lb xd xl wi sl kp ct gd gl ln ch) → va_S A s.heap H locs → lv_has ls 9 [(0, .ref (q 0)), (2, .int x2), (3, .long x3)] → mL_texts_115 n d lb sl kp ct gd gl ln ch x2 x3 y0 y1 = some r → W p l e rmL_texts s m args below meth c H locs 0 0 (MQ below (muQ D (some (.int r.1)) (wA cI q r.2.1 r.2.2.1 r.2.2.2.1 xd xl wi r.2.2.2.2.1 r.2.2.2.2.2.1 r.2.2.2.2.2.2.1 r.2.2.2.2.2.2.2.1 r.2.2.2.2.2.2.2.2.1 r.2.2.2.2.2.2.2.2.2.1 r.2.2.2.2.2.2.2.2.2.2) A) args s 0 0 A) (F0 m 115 ls [.int y0, .int y1]) := by
  have hx := X.1
  have hb := X.2.1
  intro n d lb sl kp ct gd gl ln ch x2 x3 y0 y1 H locs ls hP hD hS hl h
  unfold mL_texts_115 at h
  refine lv_icmp_ne (tgt := 127) hx hb dL_texts_115 (by decide) (fun c16 => ?_) (fun c16 => ?_)
  · replace h := ifn c16 h
    cases h
  · replace h := ifp c16 h
    refine lv_aload_n hx hb dL_texts_118 rfl (lv_at hl 0 rfl) ?_
    obtain ⟨r17, h_r17, h⟩ := obd h
    refine rcL2 (rest := []) X hKK hP 1 (zL_print l D cI cC q n d lb xd xl wi sl kp ct gd gl ln ch r17 h_r17) gL_texts_L_print rfl rfl rfl hdL_print.2 ⟨Nat.le_of_ble_eq_true rfl, Nat.le_of_ble_eq_true rfl⟩ [0, 1, 2, 3, 4, 5, 6, 7, 8, 9, 10, 11, 12] rfl rfl hl.1 rfl (Nat.le_of_ble_eq_true rfl) dL_texts_119 ⟨Nat.zero_le _, Nat.zero_le _⟩ ?_
    refine lv_lload_n hx hb dL_texts_122 rfl (lv_at hl 2 rfl) ?_
    refine W.lcmp hx hb dL_texts_123 ?_
    refine lv_if_eq (tgt := 129) hx hb dL_texts_124 (by decide) (fun c18 => ?_) (fun c18 => ?_)
    · replace h := ifp c18 h
      refine lv_aload_n hx hb dL_texts_129 rfl (lv_at hl 0 rfl) ?_
      refine lv_bipush (v := iI 98) hx hb dL_texts_130 (by decide) ?_
      refine mcV (rest := []) (wld2 := (wA cI q n d lb xd xl wi sl kp ct gd gl (mX4_type ln ch (iI 98)).2.1 (mX4_type ln ch (iI 98)).2.2)) (wr := pickAt [] (wA cI q n d lb xd xl wi sl kp ct gd gl ln ch)) X hKK hP hD hS hA 1 (zX4_type l D cI cC q _ n d lb xd xl wi sl kp ct gd gl ln ch (iI 98) _ rfl) gL_texts_X4_type rfl rfl rfl hdX4_type ⟨Nat.le_of_ble_eq_true rfl, Nat.le_of_ble_eq_true rfl⟩ [0, 1, 2, 3, 4, 5, 6, 7, 8, 9, 10, 11, 12] [] rfl rfl rfl rfl rfl (by decide) rfl [0, 1, 2, 3, 4, 5, 6, 7, 8, 9, 10, 11, 12] rfl rfl rfl 0 rfl rfl rfl hl.1 rfl (Nat.le_of_ble_eq_true rfl) dL_texts_132 ⟨Nat.zero_le _, Nat.zero_le _⟩ (fun H locs hP hD hS => ?_)
      refine lv_pop hx hb dL_texts_135 rfl ?_
      refine lv_aload_n hx hb dL_texts_136 rfl (lv_at hl 0 rfl) ?_
      obtain ⟨r19, h_r19, h⟩ := obd h
      refine mcV (rest := []) (wld2 := (wA cI q r19.2.1 r19.2.2.1 r19.2.2.2.1 xd xl wi r19.2.2.2.2.1 r19.2.2.2.2.2.1 r19.2.2.2.2.2.2.1 r19.2.2.2.2.2.2.2.1 r19.2.2.2.2.2.2.2.2 (mX4_type ln ch (iI 98)).2.1 (mX4_type ln ch (iI 98)).2.2)) (wr := pickAt [] (wA cI q n d lb xd xl wi sl kp ct gd gl (mX4_type ln ch (iI 98)).2.1 (mX4_type ln ch (iI 98)).2.2)) X hKK hP hD hS hA 0 (zX4_read l D cI cC q _ n d lb xd xl wi sl kp ct gd gl ((mX4_type ln ch (iI 98)).2.1) ((mX4_type ln ch (iI 98)).2.2) r19 h_r19) gL_texts_X4_read rfl rfl rfl hdX4_read ⟨Nat.le_of_ble_eq_true rfl, Nat.le_of_ble_eq_true rfl⟩ [0, 1, 2, 3, 4, 5, 6, 7, 8, 9, 10, 11, 12] [] rfl rfl rfl rfl rfl (by decide) rfl [0, 1, 2, 3, 4, 5, 6, 7, 8, 9, 10, 11, 12] rfl rfl rfl 0 rfl rfl rfl hl.1 rfl (Nat.le_of_ble_eq_true rfl) dL_texts_137 ⟨Nat.zero_le _, Nat.zero_le _⟩ (fun H locs hP hD hS => ?_)
      refine lv_bipush (v := iI (-100)) hx hb dL_texts_140 (by decide) ?_
      refine lv_iload_n hx hb dL_texts_142 rfl (lv_at hl 1 rfl) ?_
      refine lv_isub hx hb dL_texts_143 ?_
      refine lv_icmp_ne (tgt := 151) hx hb dL_texts_144 (by decide) (fun c20 => ?_) (fun c20 => ?_)
      · replace h := ifn c20 h
        cases h
      · replace h := ifp c20 h
        refine lv_iconst (v := iI 1) hx hb dL_texts_147 rfl ?_
        refine lv_goto (tgt := 152) hx hb dL_texts_148 (by decide) ?_
        refine lv_istore (lv' := [(6, .int (iI 1)), (0, .ref (q 0)), (2, .int x2), (3, .long x3)]) hx hb dL_texts_152 hl (by decide) rfl (fun ls hl => ?_)
        refine lv_aload_n hx hb dL_texts_154 rfl (lv_at hl 1 rfl) ?_
        refine mcV (rest := []) (wld2 := (wA cI q r19.2.1 r19.2.2.1 r19.2.2.2.1 xd xl wi r19.2.2.2.2.1 r19.2.2.2.2.2.1 r19.2.2.2.2.2.2.1 r19.2.2.2.2.2.2.2.1 r19.2.2.2.2.2.2.2.2 (mX4_clearText ((mX4_type ln ch (iI 98)).2.1)).2 (mX4_type ln ch (iI 98)).2.2)) (wr := pickAt [] (wA cI q r19.2.1 r19.2.2.1 r19.2.2.2.1 xd xl wi r19.2.2.2.2.1 r19.2.2.2.2.2.1 r19.2.2.2.2.2.2.1 r19.2.2.2.2.2.2.2.1 r19.2.2.2.2.2.2.2.2 (mX4_type ln ch (iI 98)).2.1 (mX4_type ln ch (iI 98)).2.2)) X hKK hP hD hS hA 0 (zX4_clearText l D cI cC q _ r19.2.1 r19.2.2.1 r19.2.2.2.1 xd xl wi r19.2.2.2.2.1 r19.2.2.2.2.2.1 r19.2.2.2.2.2.2.1 r19.2.2.2.2.2.2.2.1 r19.2.2.2.2.2.2.2.2 ((mX4_type ln ch (iI 98)).2.1) ((mX4_type ln ch (iI 98)).2.2) _ rfl) gL_texts_X4_clearText rfl rfl rfl hdX4_clearText ⟨Nat.le_of_ble_eq_true rfl, Nat.le_of_ble_eq_true rfl⟩ [0, 1, 2, 3, 4, 5, 6, 7, 8, 9, 10, 11, 12] [] rfl rfl rfl rfl rfl (by decide) rfl [0, 1, 2, 3, 4, 5, 6, 7, 8, 9, 10, 11, 12] rfl rfl rfl 0 rfl rfl rfl hl.1 rfl (Nat.le_of_ble_eq_true rfl) dL_texts_155 ⟨Nat.zero_le _, Nat.zero_le _⟩ (fun H locs hP hD hS => ?_)
        refine lv_pop hx hb dL_texts_158 rfl ?_
        refine lv_aload_n hx hb dL_texts_159 rfl (lv_at hl 1 rfl) ?_
        obtain ⟨r21, h_r21, h⟩ := obd h
        refine mcV (rest := []) (wld2 := (wA cI q r21.2.1 r21.2.2.1 r21.2.2.2.1 xd xl wi r21.2.2.2.2.1 r21.2.2.2.2.2.1 r21.2.2.2.2.2.2.1 r21.2.2.2.2.2.2.2.1 r21.2.2.2.2.2.2.2.2 (mX4_clearText ((mX4_type ln ch (iI 98)).2.1)).2 (mX4_type ln ch (iI 98)).2.2)) (wr := pickAt [] (wA cI q r19.2.1 r19.2.2.1 r19.2.2.2.1 xd xl wi r19.2.2.2.2.1 r19.2.2.2.2.2.1 r19.2.2.2.2.2.2.1 r19.2.2.2.2.2.2.2.1 r19.2.2.2.2.2.2.2.2 (mX4_clearText ((mX4_type ln ch (iI 98)).2.1)).2 (mX4_type ln ch (iI 98)).2.2)) X hKK hP hD hS hA 0 (zX4_read l D cI cC q _ r19.2.1 r19.2.2.1 r19.2.2.2.1 xd xl wi r19.2.2.2.2.1 r19.2.2.2.2.2.1 r19.2.2.2.2.2.2.1 r19.2.2.2.2.2.2.2.1 r19.2.2.2.2.2.2.2.2 ((mX4_clearText ((mX4_type ln ch (iI 98)).2.1)).2) ((mX4_type ln ch (iI 98)).2.2) r21 h_r21) gL_texts_X4_read rfl rfl rfl hdX4_read ⟨Nat.le_of_ble_eq_true rfl, Nat.le_of_ble_eq_true rfl⟩ [0, 1, 2, 3, 4, 5, 6, 7, 8, 9, 10, 11, 12] [] rfl rfl rfl rfl rfl (by decide) rfl [0, 1, 2, 3, 4, 5, 6, 7, 8, 9, 10, 11, 12] rfl rfl rfl 0 rfl rfl rfl hl.1 rfl (Nat.le_of_ble_eq_true rfl) dL_texts_160 ⟨Nat.zero_le _, Nat.zero_le _⟩ (fun H locs hP hD hS => ?_)
        refine lv_bipush (v := iI (-100)) hx hb dL_texts_163 (by decide) ?_
        refine lv_icmp_ne (tgt := 172) hx hb dL_texts_165 (by decide) (fun c22 => ?_) (fun c22 => ?_)
        · replace h := ifn c22 h
          cases h
        · replace h := ifp c22 h
          refine lv_iconst (v := iI 1) hx hb dL_texts_168 rfl ?_
          refine lv_goto (tgt := 173) hx hb dL_texts_169 (by decide) ?_
          refine lv_istore (lv' := [(7, .int (iI 1)), (6, .int (iI 1)), (0, .ref (q 0)), (2, .int x2), (3, .long x3)]) hx hb dL_texts_173 hl (by decide) rfl (fun ls hl => ?_)
          refine lv_aload_n hx hb dL_texts_175 rfl (lv_at hl 2 rfl) ?_
          refine lv_bipush (v := iI 113) hx hb dL_texts_176 (by decide) ?_
          refine mcV (rest := []) (wld2 := (wA cI q r21.2.1 r21.2.2.1 r21.2.2.2.1 xd xl wi r21.2.2.2.2.1 r21.2.2.2.2.2.1 r21.2.2.2.2.2.2.1 r21.2.2.2.2.2.2.2.1 r21.2.2.2.2.2.2.2.2 (mX4_type ((mX4_clearText ((mX4_type ln ch (iI 98)).2.1)).2) ((mX4_type ln ch (iI 98)).2.2) (iI 113)).2.1 (mX4_type ((mX4_clearText ((mX4_type ln ch (iI 98)).2.1)).2) ((mX4_type ln ch (iI 98)).2.2) (iI 113)).2.2)) (wr := pickAt [] (wA cI q r21.2.1 r21.2.2.1 r21.2.2.2.1 xd xl wi r21.2.2.2.2.1 r21.2.2.2.2.2.1 r21.2.2.2.2.2.2.1 r21.2.2.2.2.2.2.2.1 r21.2.2.2.2.2.2.2.2 (mX4_clearText ((mX4_type ln ch (iI 98)).2.1)).2 (mX4_type ln ch (iI 98)).2.2)) X hKK hP hD hS hA 1 (zX4_type l D cI cC q _ r21.2.1 r21.2.2.1 r21.2.2.2.1 xd xl wi r21.2.2.2.2.1 r21.2.2.2.2.2.1 r21.2.2.2.2.2.2.1 r21.2.2.2.2.2.2.2.1 r21.2.2.2.2.2.2.2.2 ((mX4_clearText ((mX4_type ln ch (iI 98)).2.1)).2) ((mX4_type ln ch (iI 98)).2.2) (iI 113) _ rfl) gL_texts_X4_type rfl rfl rfl hdX4_type ⟨Nat.le_of_ble_eq_true rfl, Nat.le_of_ble_eq_true rfl⟩ [0, 1, 2, 3, 4, 5, 6, 7, 8, 9, 10, 11, 12] [] rfl rfl rfl rfl rfl (by decide) rfl [0, 1, 2, 3, 4, 5, 6, 7, 8, 9, 10, 11, 12] rfl rfl rfl 0 rfl rfl rfl hl.1 rfl (Nat.le_of_ble_eq_true rfl) dL_texts_178 ⟨Nat.zero_le _, Nat.zero_le _⟩ (fun H locs hP hD hS => ?_)
          refine lv_pop hx hb dL_texts_181 rfl ?_
          refine lv_aload_n hx hb dL_texts_182 rfl (lv_at hl 2 rfl) ?_
          refine lv_bipush (v := iI 40) hx hb dL_texts_183 (by decide) ?_
          refine mcV (rest := []) (wld2 := (wA cI q r21.2.1 r21.2.2.1 r21.2.2.2.1 xd xl wi r21.2.2.2.2.1 r21.2.2.2.2.2.1 r21.2.2.2.2.2.2.1 r21.2.2.2.2.2.2.2.1 r21.2.2.2.2.2.2.2.2 (mX4_type ((mX4_type ((mX4_clearText ((mX4_type ln ch (iI 98)).2.1)).2) ((mX4_type ln ch (iI 98)).2.2) (iI 113)).2.1) ((mX4_type ((mX4_clearText ((mX4_type ln ch (iI 98)).2.1)).2) ((mX4_type ln ch (iI 98)).2.2) (iI 113)).2.2) (iI 40)).2.1 (mX4_type ((mX4_type ((mX4_clearText ((mX4_type ln ch (iI 98)).2.1)).2) ((mX4_type ln ch (iI 98)).2.2) (iI 113)).2.1) ((mX4_type ((mX4_clearText ((mX4_type ln ch (iI 98)).2.1)).2) ((mX4_type ln ch (iI 98)).2.2) (iI 113)).2.2) (iI 40)).2.2)) (wr := pickAt [] (wA cI q r21.2.1 r21.2.2.1 r21.2.2.2.1 xd xl wi r21.2.2.2.2.1 r21.2.2.2.2.2.1 r21.2.2.2.2.2.2.1 r21.2.2.2.2.2.2.2.1 r21.2.2.2.2.2.2.2.2 (mX4_type ((mX4_clearText ((mX4_type ln ch (iI 98)).2.1)).2) ((mX4_type ln ch (iI 98)).2.2) (iI 113)).2.1 (mX4_type ((mX4_clearText ((mX4_type ln ch (iI 98)).2.1)).2) ((mX4_type ln ch (iI 98)).2.2) (iI 113)).2.2)) X hKK hP hD hS hA 1 (zX4_type l D cI cC q _ r21.2.1 r21.2.2.1 r21.2.2.2.1 xd xl wi r21.2.2.2.2.1 r21.2.2.2.2.2.1 r21.2.2.2.2.2.2.1 r21.2.2.2.2.2.2.2.1 r21.2.2.2.2.2.2.2.2 ((mX4_type ((mX4_clearText ((mX4_type ln ch (iI 98)).2.1)).2) ((mX4_type ln ch (iI 98)).2.2) (iI 113)).2.1) ((mX4_type ((mX4_clearText ((mX4_type ln ch (iI 98)).2.1)).2) ((mX4_type ln ch (iI 98)).2.2) (iI 113)).2.2) (iI 40) _ rfl) gL_texts_X4_type rfl rfl rfl hdX4_type ⟨Nat.le_of_ble_eq_true rfl, Nat.le_of_ble_eq_true rfl⟩ [0, 1, 2, 3, 4, 5, 6, 7, 8, 9, 10, 11, 12] [] rfl rfl rfl rfl rfl (by decide) rfl [0, 1, 2, 3, 4, 5, 6, 7, 8, 9, 10, 11, 12] rfl rfl rfl 0 rfl rfl rfl hl.1 rfl (Nat.le_of_ble_eq_true rfl) dL_texts_185 ⟨Nat.zero_le _, Nat.zero_le _⟩ (fun H locs hP hD hS => ?_)
          refine lv_pop hx hb dL_texts_188 rfl ?_
          refine lv_aload_n hx hb dL_texts_189 rfl (lv_at hl 2 rfl) ?_
          obtain ⟨r23, h_r23, h⟩ := obd h
          refine mcV (rest := []) (wld2 := (wA cI q r23.2.1 r23.2.2.1 r23.2.2.2.1 xd xl wi r23.2.2.2.2.1 r23.2.2.2.2.2.1 r23.2.2.2.2.2.2.1 r23.2.2.2.2.2.2.2.1 r23.2.2.2.2.2.2.2.2 (mX4_type ((mX4_type ((mX4_clearText ((mX4_type ln ch (iI 98)).2.1)).2) ((mX4_type ln ch (iI 98)).2.2) (iI 113)).2.1) ((mX4_type ((mX4_clearText ((mX4_type ln ch (iI 98)).2.1)).2) ((mX4_type ln ch (iI 98)).2.2) (iI 113)).2.2) (iI 40)).2.1 (mX4_type ((mX4_type ((mX4_clearText ((mX4_type ln ch (iI 98)).2.1)).2) ((mX4_type ln ch (iI 98)).2.2) (iI 113)).2.1) ((mX4_type ((mX4_clearText ((mX4_type ln ch (iI 98)).2.1)).2) ((mX4_type ln ch (iI 98)).2.2) (iI 113)).2.2) (iI 40)).2.2)) (wr := pickAt [] (wA cI q r21.2.1 r21.2.2.1 r21.2.2.2.1 xd xl wi r21.2.2.2.2.1 r21.2.2.2.2.2.1 r21.2.2.2.2.2.2.1 r21.2.2.2.2.2.2.2.1 r21.2.2.2.2.2.2.2.2 (mX4_type ((mX4_type ((mX4_clearText ((mX4_type ln ch (iI 98)).2.1)).2) ((mX4_type ln ch (iI 98)).2.2) (iI 113)).2.1) ((mX4_type ((mX4_clearText ((mX4_type ln ch (iI 98)).2.1)).2) ((mX4_type ln ch (iI 98)).2.2) (iI 113)).2.2) (iI 40)).2.1 (mX4_type ((mX4_type ((mX4_clearText ((mX4_type ln ch (iI 98)).2.1)).2) ((mX4_type ln ch (iI 98)).2.2) (iI 113)).2.1) ((mX4_type ((mX4_clearText ((mX4_type ln ch (iI 98)).2.1)).2) ((mX4_type ln ch (iI 98)).2.2) (iI 113)).2.2) (iI 40)).2.2)) X hKK hP hD hS hA 0 (zX4_read l D cI cC q _ r21.2.1 r21.2.2.1 r21.2.2.2.1 xd xl wi r21.2.2.2.2.1 r21.2.2.2.2.2.1 r21.2.2.2.2.2.2.1 r21.2.2.2.2.2.2.2.1 r21.2.2.2.2.2.2.2.2 ((mX4_type ((mX4_type ((mX4_clearText ((mX4_type ln ch (iI 98)).2.1)).2) ((mX4_type ln ch (iI 98)).2.2) (iI 113)).2.1) ((mX4_type ((mX4_clearText ((mX4_type ln ch (iI 98)).2.1)).2) ((mX4_type ln ch (iI 98)).2.2) (iI 113)).2.2) (iI 40)).2.1) ((mX4_type ((mX4_type ((mX4_clearText ((mX4_type ln ch (iI 98)).2.1)).2) ((mX4_type ln ch (iI 98)).2.2) (iI 113)).2.1) ((mX4_type ((mX4_clearText ((mX4_type ln ch (iI 98)).2.1)).2) ((mX4_type ln ch (iI 98)).2.2) (iI 113)).2.2) (iI 40)).2.2) r23 h_r23) gL_texts_X4_read rfl rfl rfl hdX4_read ⟨Nat.le_of_ble_eq_true rfl, Nat.le_of_ble_eq_true rfl⟩ [0, 1, 2, 3, 4, 5, 6, 7, 8, 9, 10, 11, 12] [] rfl rfl rfl rfl rfl (by decide) rfl [0, 1, 2, 3, 4, 5, 6, 7, 8, 9, 10, 11, 12] rfl rfl rfl 0 rfl rfl rfl hl.1 rfl (Nat.le_of_ble_eq_true rfl) dL_texts_190 ⟨Nat.zero_le _, Nat.zero_le _⟩ (fun H locs hP hD hS => ?_)
          refine lv_bipush (v := iI (-102)) hx hb dL_texts_193 (by decide) ?_
          refine lv_icmp_ne (tgt := 202) hx hb dL_texts_195 (by decide) (fun c24 => ?_) (fun c24 => ?_)
          · replace h := ifn c24 h
            cases h
          · replace h := ifp c24 h
            refine lv_iconst (v := iI 1) hx hb dL_texts_198 rfl ?_
            refine lv_goto (tgt := 203) hx hb dL_texts_199 (by decide) ?_
            refine lv_istore (lv' := [(8, .int (iI 1)), (7, .int (iI 1)), (6, .int (iI 1)), (0, .ref (q 0)), (2, .int x2), (3, .long x3)]) hx hb dL_texts_203 hl (by decide) rfl (fun ls hl => ?_)
            refine lv_aload_n hx hb dL_texts_205 rfl (lv_at hl 3 rfl) ?_
            refine lv_bipush (v := iI 41) hx hb dL_texts_206 (by decide) ?_
            refine mcV (rest := []) (wld2 := (wA cI q r23.2.1 r23.2.2.1 r23.2.2.2.1 xd xl wi r23.2.2.2.2.1 r23.2.2.2.2.2.1 r23.2.2.2.2.2.2.1 r23.2.2.2.2.2.2.2.1 r23.2.2.2.2.2.2.2.2 (mX4_type ((mX4_type ((mX4_type ((mX4_clearText ((mX4_type ln ch (iI 98)).2.1)).2) ((mX4_type ln ch (iI 98)).2.2) (iI 113)).2.1) ((mX4_type ((mX4_clearText ((mX4_type ln ch (iI 98)).2.1)).2) ((mX4_type ln ch (iI 98)).2.2) (iI 113)).2.2) (iI 40)).2.1) ((mX4_type ((mX4_type ((mX4_clearText ((mX4_type ln ch (iI 98)).2.1)).2) ((mX4_type ln ch (iI 98)).2.2) (iI 113)).2.1) ((mX4_type ((mX4_clearText ((mX4_type ln ch (iI 98)).2.1)).2) ((mX4_type ln ch (iI 98)).2.2) (iI 113)).2.2) (iI 40)).2.2) (iI 41)).2.1 (mX4_type ((mX4_type ((mX4_type ((mX4_clearText ((mX4_type ln ch (iI 98)).2.1)).2) ((mX4_type ln ch (iI 98)).2.2) (iI 113)).2.1) ((mX4_type ((mX4_clearText ((mX4_type ln ch (iI 98)).2.1)).2) ((mX4_type ln ch (iI 98)).2.2) (iI 113)).2.2) (iI 40)).2.1) ((mX4_type ((mX4_type ((mX4_clearText ((mX4_type ln ch (iI 98)).2.1)).2) ((mX4_type ln ch (iI 98)).2.2) (iI 113)).2.1) ((mX4_type ((mX4_clearText ((mX4_type ln ch (iI 98)).2.1)).2) ((mX4_type ln ch (iI 98)).2.2) (iI 113)).2.2) (iI 40)).2.2) (iI 41)).2.2)) (wr := pickAt [] (wA cI q r23.2.1 r23.2.2.1 r23.2.2.2.1 xd xl wi r23.2.2.2.2.1 r23.2.2.2.2.2.1 r23.2.2.2.2.2.2.1 r23.2.2.2.2.2.2.2.1 r23.2.2.2.2.2.2.2.2 (mX4_type ((mX4_type ((mX4_clearText ((mX4_type ln ch (iI 98)).2.1)).2) ((mX4_type ln ch (iI 98)).2.2) (iI 113)).2.1) ((mX4_type ((mX4_clearText ((mX4_type ln ch (iI 98)).2.1)).2) ((mX4_type ln ch (iI 98)).2.2) (iI 113)).2.2) (iI 40)).2.1 (mX4_type ((mX4_type ((mX4_clearText ((mX4_type ln ch (iI 98)).2.1)).2) ((mX4_type ln ch (iI 98)).2.2) (iI 113)).2.1) ((mX4_type ((mX4_clearText ((mX4_type ln ch (iI 98)).2.1)).2) ((mX4_type ln ch (iI 98)).2.2) (iI 113)).2.2) (iI 40)).2.2)) X hKK hP hD hS hA 1 (zX4_type l D cI cC q _ r23.2.1 r23.2.2.1 r23.2.2.2.1 xd xl wi r23.2.2.2.2.1 r23.2.2.2.2.2.1 r23.2.2.2.2.2.2.1 r23.2.2.2.2.2.2.2.1 r23.2.2.2.2.2.2.2.2 ((mX4_type ((mX4_type ((mX4_clearText ((mX4_type ln ch (iI 98)).2.1)).2) ((mX4_type ln ch (iI 98)).2.2) (iI 113)).2.1) ((mX4_type ((mX4_clearText ((mX4_type ln ch (iI 98)).2.1)).2) ((mX4_type ln ch (iI 98)).2.2) (iI 113)).2.2) (iI 40)).2.1) ((mX4_type ((mX4_type ((mX4_clearText ((mX4_type ln ch (iI 98)).2.1)).2) ((mX4_type ln ch (iI 98)).2.2) (iI 113)).2.1) ((mX4_type ((mX4_clearText ((mX4_type ln ch (iI 98)).2.1)).2) ((mX4_type ln ch (iI 98)).2.2) (iI 113)).2.2) (iI 40)).2.2) (iI 41) _ rfl) gL_texts_X4_type rfl rfl rfl hdX4_type ⟨Nat.le_of_ble_eq_true rfl, Nat.le_of_ble_eq_true rfl⟩ [0, 1, 2, 3, 4, 5, 6, 7, 8, 9, 10, 11, 12] [] rfl rfl rfl rfl rfl (by decide) rfl [0, 1, 2, 3, 4, 5, 6, 7, 8, 9, 10, 11, 12] rfl rfl rfl 0 rfl rfl rfl hl.1 rfl (Nat.le_of_ble_eq_true rfl) dL_texts_208 ⟨Nat.zero_le _, Nat.zero_le _⟩ (fun H locs hP hD hS => ?_)
            refine lv_pop hx hb dL_texts_211 rfl ?_
            refine lv_iload hx hb dL_texts_212 (lv_at hl 2 rfl) ?_
            refine lv_if_eq (tgt := 249) hx hb dL_texts_214 (by decide) (fun c25 => ?_) (fun c25 => ?_)
            · replace h := ifp c25 h
              cases h
            · replace h := ifn c25 h
              refine lv_iload hx hb dL_texts_217 (lv_at hl 1 rfl) ?_
              refine lv_if_eq (tgt := 249) hx hb dL_texts_219 (by decide) (fun c26 => ?_) (fun c26 => ?_)
              · replace h := ifp c26 h
                cases h
              · replace h := ifn c26 h
                refine lv_iload hx hb dL_texts_222 (lv_at hl 0 rfl) ?_
                refine lv_if_eq (tgt := 249) hx hb dL_texts_224 (by decide) (fun c27 => ?_) (fun c27 => ?_)
                · replace h := ifp c27 h
                  cases h
                · replace h := ifn c27 h
                  refine lv_aload_n hx hb dL_texts_227 rfl (lv_at hl 3 rfl) ?_
                  obtain ⟨r28, h_r28, h⟩ := obd h
                  refine mcV (rest := []) (wld2 := (wA cI q r28.2.1 r28.2.2.1 r28.2.2.2.1 xd xl wi r28.2.2.2.2.1 r28.2.2.2.2.2.1 r28.2.2.2.2.2.2.1 r28.2.2.2.2.2.2.2.1 r28.2.2.2.2.2.2.2.2 (mX4_type ((mX4_type ((mX4_type ((mX4_clearText ((mX4_type ln ch (iI 98)).2.1)).2) ((mX4_type ln ch (iI 98)).2.2) (iI 113)).2.1) ((mX4_type ((mX4_clearText ((mX4_type ln ch (iI 98)).2.1)).2) ((mX4_type ln ch (iI 98)).2.2) (iI 113)).2.2) (iI 40)).2.1) ((mX4_type ((mX4_type ((mX4_clearText ((mX4_type ln ch (iI 98)).2.1)).2) ((mX4_type ln ch (iI 98)).2.2) (iI 113)).2.1) ((mX4_type ((mX4_clearText ((mX4_type ln ch (iI 98)).2.1)).2) ((mX4_type ln ch (iI 98)).2.2) (iI 113)).2.2) (iI 40)).2.2) (iI 41)).2.1 (mX4_type ((mX4_type ((mX4_type ((mX4_clearText ((mX4_type ln ch (iI 98)).2.1)).2) ((mX4_type ln ch (iI 98)).2.2) (iI 113)).2.1) ((mX4_type ((mX4_clearText ((mX4_type ln ch (iI 98)).2.1)).2) ((mX4_type ln ch (iI 98)).2.2) (iI 113)).2.2) (iI 40)).2.1) ((mX4_type ((mX4_type ((mX4_clearText ((mX4_type ln ch (iI 98)).2.1)).2) ((mX4_type ln ch (iI 98)).2.2) (iI 113)).2.1) ((mX4_type ((mX4_clearText ((mX4_type ln ch (iI 98)).2.1)).2) ((mX4_type ln ch (iI 98)).2.2) (iI 113)).2.2) (iI 40)).2.2) (iI 41)).2.2)) (wr := pickAt [] (wA cI q r23.2.1 r23.2.2.1 r23.2.2.2.1 xd xl wi r23.2.2.2.2.1 r23.2.2.2.2.2.1 r23.2.2.2.2.2.2.1 r23.2.2.2.2.2.2.2.1 r23.2.2.2.2.2.2.2.2 (mX4_type ((mX4_type ((mX4_type ((mX4_clearText ((mX4_type ln ch (iI 98)).2.1)).2) ((mX4_type ln ch (iI 98)).2.2) (iI 113)).2.1) ((mX4_type ((mX4_clearText ((mX4_type ln ch (iI 98)).2.1)).2) ((mX4_type ln ch (iI 98)).2.2) (iI 113)).2.2) (iI 40)).2.1) ((mX4_type ((mX4_type ((mX4_clearText ((mX4_type ln ch (iI 98)).2.1)).2) ((mX4_type ln ch (iI 98)).2.2) (iI 113)).2.1) ((mX4_type ((mX4_clearText ((mX4_type ln ch (iI 98)).2.1)).2) ((mX4_type ln ch (iI 98)).2.2) (iI 113)).2.2) (iI 40)).2.2) (iI 41)).2.1 (mX4_type ((mX4_type ((mX4_type ((mX4_clearText ((mX4_type ln ch (iI 98)).2.1)).2) ((mX4_type ln ch (iI 98)).2.2) (iI 113)).2.1) ((mX4_type ((mX4_clearText ((mX4_type ln ch (iI 98)).2.1)).2) ((mX4_type ln ch (iI 98)).2.2) (iI 113)).2.2) (iI 40)).2.1) ((mX4_type ((mX4_type ((mX4_clearText ((mX4_type ln ch (iI 98)).2.1)).2) ((mX4_type ln ch (iI 98)).2.2) (iI 113)).2.1) ((mX4_type ((mX4_clearText ((mX4_type ln ch (iI 98)).2.1)).2) ((mX4_type ln ch (iI 98)).2.2) (iI 113)).2.2) (iI 40)).2.2) (iI 41)).2.2)) X hKK hP hD hS hA 0 (zX4_read l D cI cC q _ r23.2.1 r23.2.2.1 r23.2.2.2.1 xd xl wi r23.2.2.2.2.1 r23.2.2.2.2.2.1 r23.2.2.2.2.2.2.1 r23.2.2.2.2.2.2.2.1 r23.2.2.2.2.2.2.2.2 ((mX4_type ((mX4_type ((mX4_type ((mX4_clearText ((mX4_type ln ch (iI 98)).2.1)).2) ((mX4_type ln ch (iI 98)).2.2) (iI 113)).2.1) ((mX4_type ((mX4_clearText ((mX4_type ln ch (iI 98)).2.1)).2) ((mX4_type ln ch (iI 98)).2.2) (iI 113)).2.2) (iI 40)).2.1) ((mX4_type ((mX4_type ((mX4_clearText ((mX4_type ln ch (iI 98)).2.1)).2) ((mX4_type ln ch (iI 98)).2.2) (iI 113)).2.1) ((mX4_type ((mX4_clearText ((mX4_type ln ch (iI 98)).2.1)).2) ((mX4_type ln ch (iI 98)).2.2) (iI 113)).2.2) (iI 40)).2.2) (iI 41)).2.1) ((mX4_type ((mX4_type ((mX4_type ((mX4_clearText ((mX4_type ln ch (iI 98)).2.1)).2) ((mX4_type ln ch (iI 98)).2.2) (iI 113)).2.1) ((mX4_type ((mX4_clearText ((mX4_type ln ch (iI 98)).2.1)).2) ((mX4_type ln ch (iI 98)).2.2) (iI 113)).2.2) (iI 40)).2.1) ((mX4_type ((mX4_type ((mX4_clearText ((mX4_type ln ch (iI 98)).2.1)).2) ((mX4_type ln ch (iI 98)).2.2) (iI 113)).2.1) ((mX4_type ((mX4_clearText ((mX4_type ln ch (iI 98)).2.1)).2) ((mX4_type ln ch (iI 98)).2.2) (iI 113)).2.2) (iI 40)).2.2) (iI 41)).2.2) r28 h_r28) gL_texts_X4_read rfl rfl rfl hdX4_read ⟨Nat.le_of_ble_eq_true rfl, Nat.le_of_ble_eq_true rfl⟩ [0, 1, 2, 3, 4, 5, 6, 7, 8, 9, 10, 11, 12] [] rfl rfl rfl rfl rfl (by decide) rfl [0, 1, 2, 3, 4, 5, 6, 7, 8, 9, 10, 11, 12] rfl rfl rfl 0 rfl rfl rfl hl.1 rfl (Nat.le_of_ble_eq_true rfl) dL_texts_228 ⟨Nat.zero_le _, Nat.zero_le _⟩ (fun H locs hP hD hS => ?_)
                  refine lv_bipush (v := iI (-102)) hx hb dL_texts_231 (by decide) ?_
                  refine lv_icmp_ne (tgt := 249) hx hb dL_texts_233 (by decide) (fun c29 => ?_) (fun c29 => ?_)
                  · replace h := ifn c29 h
                    cases h
                  · replace h := ifp c29 h
                    refine lv_aload_n hx hb dL_texts_236 rfl (lv_at hl 3 rfl) ?_
                    obtain ⟨r30, h_r30, h⟩ := obd h
                    refine rcL2 (rest := []) X hKK hP 1 (zL_print l D cI cC q r28.2.1 r28.2.2.1 r28.2.2.2.1 xd xl wi r28.2.2.2.2.1 r28.2.2.2.2.2.1 r28.2.2.2.2.2.2.1 r28.2.2.2.2.2.2.2.1 r28.2.2.2.2.2.2.2.2 ((mX4_type ((mX4_type ((mX4_type ((mX4_clearText ((mX4_type ln ch (iI 98)).2.1)).2) ((mX4_type ln ch (iI 98)).2.2) (iI 113)).2.1) ((mX4_type ((mX4_clearText ((mX4_type ln ch (iI 98)).2.1)).2) ((mX4_type ln ch (iI 98)).2.2) (iI 113)).2.2) (iI 40)).2.1) ((mX4_type ((mX4_type ((mX4_clearText ((mX4_type ln ch (iI 98)).2.1)).2) ((mX4_type ln ch (iI 98)).2.2) (iI 113)).2.1) ((mX4_type ((mX4_clearText ((mX4_type ln ch (iI 98)).2.1)).2) ((mX4_type ln ch (iI 98)).2.2) (iI 113)).2.2) (iI 40)).2.2) (iI 41)).2.1) ((mX4_type ((mX4_type ((mX4_type ((mX4_clearText ((mX4_type ln ch (iI 98)).2.1)).2) ((mX4_type ln ch (iI 98)).2.2) (iI 113)).2.1) ((mX4_type ((mX4_clearText ((mX4_type ln ch (iI 98)).2.1)).2) ((mX4_type ln ch (iI 98)).2.2) (iI 113)).2.2) (iI 40)).2.1) ((mX4_type ((mX4_type ((mX4_clearText ((mX4_type ln ch (iI 98)).2.1)).2) ((mX4_type ln ch (iI 98)).2.2) (iI 113)).2.1) ((mX4_type ((mX4_clearText ((mX4_type ln ch (iI 98)).2.1)).2) ((mX4_type ln ch (iI 98)).2.2) (iI 113)).2.2) (iI 40)).2.2) (iI 41)).2.2) r30 h_r30) gL_texts_L_print rfl rfl rfl hdL_print.2 ⟨Nat.le_of_ble_eq_true rfl, Nat.le_of_ble_eq_true rfl⟩ [0, 1, 2, 3, 4, 5, 6, 7, 8, 9, 10, 11, 12] rfl rfl hl.1 rfl (Nat.le_of_ble_eq_true rfl) dL_texts_237 ⟨Nat.zero_le _, Nat.zero_le _⟩ ?_
                    refine lv_lload_n hx hb dL_texts_240 rfl (lv_at hl 5 rfl) ?_
                    refine W.lcmp hx hb dL_texts_241 ?_
                    refine lv_if_ne (tgt := 249) hx hb dL_texts_242 (by decide) (fun c31 => ?_) (fun c31 => ?_)
                    · replace h := ifn c31 h
                      cases h
                    · replace h := ifp c31 h
                      refine lv_iconst (v := iI 1) hx hb dL_texts_245 rfl ?_
                      refine lv_goto (tgt := 250) hx hb dL_texts_246 (by decide) ?_
                      replace h := Option.some.inj h
                      subst h
                      exact mu_ret X rfl rfl hP rfl hS dL_texts_250
    · replace h := ifn c18 h
      cases h
set_option maxHeartbeats 4000000 in
set_option maxRecDepth 100000 in
theorem kL_texts_57 {p : Program} {l : Launch} {e : Env} {s : State} {m : MethodId} {args : Array Value} {below : List Frame} {meth : Method} {c : Code} {D : va_G} {cI cC : ClassId} {q : Nat → Nat} {xd : Nat → Int32} {xl : Nat → Int32} {wi : Int32} {r : Int32 × Int32 × (Nat → Int32) × (Nat → Int32) × Int32 × Int32 × (Nat → Int32) × (Nat → Int32) × (Nat → Int32) × Int32 × (Nat → Int32)} {A : Nat → Prop} (X : CX p s m args meth c wsL_texts cL_texts 9 (some .boolean) RL) (hKK : KK D cI cC s) (hA : ∀ z, s.heap.size ≤ z → A z) : ∀ (f : Nat), ∀ (n : Int32) (d : Nat → Int32) (lb : Nat → Int32) (sl : Int32) (kp : Int32) (ct : Nat → Int32) (gd : Nat → Int32) (gl : Nat → Int32) (ln : Int32) (ch : Nat → Int32) (x1 : Int32) (x2 : Int32) (x3 : Int64) (x5 : Int32) (x6 : Int32) (H : Heap) (locs : List Loc) (ls : Array Slot), va_P D vwCl (wA cI q n d lb xd xl wi sl kp ct gd gl ln ch) H → va_D A (wA cI q n d lb xd xl wi sl kp ct gd gl ln ch) → va_S A s.heap H locs → lv_has ls 9 [(0, .ref (q 0)), (1, .int x1), (2, .int x2), (3, .long x3), (5, .int x5), (6, .int x6)] → mL_texts_57 f n d lb sl kp ct gd gl ln ch x1 x2 x3 x5 x6 = some r → W p l e rmL_texts s m args below meth c H locs 0 0 (MQ below (muQ D (some (.int r.1)) (wA cI q r.2.1 r.2.2.1 r.2.2.2.1 xd xl wi r.2.2.2.2.1 r.2.2.2.2.2.1 r.2.2.2.2.2.2.1 r.2.2.2.2.2.2.2.1 r.2.2.2.2.2.2.2.2.1 r.2.2.2.2.2.2.2.2.2.1 r.2.2.2.2.2.2.2.2.2.2) A) args s 0 0 A) (F0 m 57 ls []) := by
  have hx := X.1
  have hb := X.2.1
  intro f
  induction f with
  | zero =>
    intro n d lb sl kp ct gd gl ln ch x1 x2 x3 x5 x6 H locs ls hP hD hS hl h
    exact absurd h (by unfold mL_texts_57; intro h; cases h)
  | succ f ih =>
    intro n d lb sl kp ct gd gl ln ch x1 x2 x3 x5 x6 H locs ls hP hD hS hl h
    rw [mL_texts_57] at h
    refine lv_iload hx hb dL_texts_57 (lv_at hl 5 rfl) ?_
    refine lv_iload_n hx hb dL_texts_59 rfl (lv_at hl 2 rfl) ?_
    refine lv_icmp_ge (tgt := 81) hx hb dL_texts_60 (by decide) (fun c8 => ?_) (fun c8 => ?_)
    · replace h := ifp c8 h
      refine lv_aload_n hx hb dL_texts_81 rfl (lv_at hl 0 rfl) ?_
      obtain ⟨r9, h_r9, h⟩ := obd h
      refine mcV (rest := []) (wld2 := (wA cI q r9.2.1 r9.2.2.1 r9.2.2.2.1 xd xl wi r9.2.2.2.2.1 r9.2.2.2.2.2.1 r9.2.2.2.2.2.2.1 r9.2.2.2.2.2.2.2.1 r9.2.2.2.2.2.2.2.2 ln ch)) (wr := pickAt [] (wA cI q n d lb xd xl wi sl kp ct gd gl ln ch)) X hKK hP hD hS hA 0 (zX4_read l D cI cC q _ n d lb xd xl wi sl kp ct gd gl ln ch r9 h_r9) gL_texts_X4_read rfl rfl rfl hdX4_read ⟨Nat.le_of_ble_eq_true rfl, Nat.le_of_ble_eq_true rfl⟩ [0, 1, 2, 3, 4, 5, 6, 7, 8, 9, 10, 11, 12] [] rfl rfl rfl rfl rfl (by decide) rfl [0, 1, 2, 3, 4, 5, 6, 7, 8, 9, 10, 11, 12] rfl rfl rfl 0 rfl rfl rfl hl.1 rfl (Nat.le_of_ble_eq_true rfl) dL_texts_82 ⟨Nat.zero_le _, Nat.zero_le _⟩ (fun H locs hP hD hS => ?_)
      refine lv_iload hx hb dL_texts_85 (lv_at hl 4 rfl) ?_
      refine lv_icmp_ne (tgt := 127) hx hb dL_texts_87 (by decide) (fun c10 => ?_) (fun c10 => ?_)
      · replace h := ifn c10 h
        cases h
      · replace h := ifp c10 h
        refine lv_aload_n hx hb dL_texts_90 rfl (lv_at hl 0 rfl) ?_
        obtain ⟨r11, h_r11, h⟩ := obd h
        refine rcL2 (rest := []) X hKK hP 1 (zL_print l D cI cC q r9.2.1 r9.2.2.1 r9.2.2.2.1 xd xl wi r9.2.2.2.2.1 r9.2.2.2.2.2.1 r9.2.2.2.2.2.2.1 r9.2.2.2.2.2.2.2.1 r9.2.2.2.2.2.2.2.2 ln ch r11 h_r11) gL_texts_L_print rfl rfl rfl hdL_print.2 ⟨Nat.le_of_ble_eq_true rfl, Nat.le_of_ble_eq_true rfl⟩ [0, 1, 2, 3, 4, 5, 6, 7, 8, 9, 10, 11, 12] rfl rfl hl.1 rfl (Nat.le_of_ble_eq_true rfl) dL_texts_91 ⟨Nat.zero_le _, Nat.zero_le _⟩ ?_
        refine lv_lload_n hx hb dL_texts_94 rfl (lv_at hl 3 rfl) ?_
        refine W.lcmp hx hb dL_texts_95 ?_
        refine lv_if_ne (tgt := 127) hx hb dL_texts_96 (by decide) (fun c12 => ?_) (fun c12 => ?_)
        · replace h := ifn c12 h
          cases h
        · replace h := ifp c12 h
          refine lv_aload_n hx hb dL_texts_99 rfl (lv_at hl 0 rfl) ?_
          obtain ⟨r13, h_r13, h⟩ := obd h
          refine mcV (rest := []) (wld2 := (wA cI q r13.2.1 r13.2.2.1 r13.2.2.2.1 xd xl wi r13.2.2.2.2.1 r13.2.2.2.2.2 r9.2.2.2.2.2.2.1 r9.2.2.2.2.2.2.2.1 r9.2.2.2.2.2.2.2.2 ln ch)) (wr := pickAt [] (wA cI q r9.2.1 r9.2.2.1 r9.2.2.2.1 xd xl wi r9.2.2.2.2.1 r9.2.2.2.2.2.1 r9.2.2.2.2.2.2.1 r9.2.2.2.2.2.2.2.1 r9.2.2.2.2.2.2.2.2 ln ch)) X hKK hP hD hS hA 0 (zX4_undo l D cI cC q _ r9.2.1 r9.2.2.1 r9.2.2.2.1 xd xl wi r9.2.2.2.2.1 r9.2.2.2.2.2.1 r9.2.2.2.2.2.2.1 r9.2.2.2.2.2.2.2.1 r9.2.2.2.2.2.2.2.2 ln ch r13 h_r13) gL_texts_X4_undo rfl rfl rfl hdX4_undo ⟨Nat.le_of_ble_eq_true rfl, Nat.le_of_ble_eq_true rfl⟩ [0, 1, 2, 3, 4, 5, 6, 7, 8, 9, 10, 11, 12] [] rfl rfl rfl rfl rfl (by decide) rfl [0, 1, 2, 3, 4, 5, 6, 7, 8, 9, 10, 11, 12] rfl rfl rfl 0 rfl rfl rfl hl.1 rfl (Nat.le_of_ble_eq_true rfl) dL_texts_100 ⟨Nat.zero_le _, Nat.zero_le _⟩ (fun H locs hP hD hS => ?_)
          refine lv_iload_n hx hb dL_texts_103 rfl (lv_at hl 1 rfl) ?_
          refine lv_bipush (v := iI 15) hx hb dL_texts_104 (by decide) ?_
          refine lv_icmp_ge (tgt := 113) hx hb dL_texts_106 (by decide) (fun c14 => ?_) (fun c14 => ?_)
          · replace h := ifp c14 h
            refine lv_bipush (v := iI 14) hx hb dL_texts_113 (by decide) ?_
            exact kL_texts_115 X hKK hA r13.2.1 r13.2.2.1 r13.2.2.2.1 r13.2.2.2.2.1 r13.2.2.2.2.2 r9.2.2.2.2.2.2.1 r9.2.2.2.2.2.2.2.1 r9.2.2.2.2.2.2.2.2 ln ch x2 x3 (iI 14) r13.1 _ _ ls hP hD hS (lv_sub hl [0, 2, 3] rfl) h
          · replace h := ifn c14 h
            refine lv_iload_n hx hb dL_texts_109 rfl (lv_at hl 1 rfl) ?_
            refine lv_goto (tgt := 115) hx hb dL_texts_110 (by decide) ?_
            exact kL_texts_115 X hKK hA r13.2.1 r13.2.2.1 r13.2.2.2.1 r13.2.2.2.2.1 r13.2.2.2.2.2 r9.2.2.2.2.2.2.1 r9.2.2.2.2.2.2.2.1 r9.2.2.2.2.2.2.2.2 ln ch x2 x3 x1 r13.1 _ _ ls hP hD hS (lv_sub hl [0, 2, 3] rfl) h
    · replace h := ifn c8 h
      refine lv_aload_n hx hb dL_texts_63 rfl (lv_at hl 0 rfl) ?_
      refine lv_aload_n hx hb dL_texts_64 rfl (lv_at hl 0 rfl) ?_
      refine lv_iload hx hb dL_texts_65 (lv_at hl 5 rfl) ?_
      obtain ⟨r15, h_r15, h⟩ := obd h
      refine rcV (rest := [.ref (q 0)]) X hKK hP 1 (zX4_written l D cI cC q n d lb xd xl wi sl kp ct gd gl ln ch x6 r15 h_r15) gL_texts_X4_written rfl rfl rfl hdX4_written ⟨Nat.le_of_ble_eq_true rfl, Nat.le_of_ble_eq_true rfl⟩ [0, 1, 2, 3, 4, 5, 6, 7, 8, 9, 10, 11, 12] rfl 0 rfl rfl rfl hl.1 rfl (Nat.le_of_ble_eq_true rfl) dL_texts_67 ⟨Nat.zero_le _, Nat.zero_le _⟩ ?_
      refine lv_i2c (v := c16 r15) hx hb dL_texts_70 rfl ?_
      refine mcV (rest := []) (wld2 := (wA cI q n d lb xd xl wi sl kp ct gd gl (mX4_type ln ch (c16 r15)).2.1 (mX4_type ln ch (c16 r15)).2.2)) (wr := pickAt [] (wA cI q n d lb xd xl wi sl kp ct gd gl ln ch)) X hKK hP hD hS hA 1 (zX4_type l D cI cC q _ n d lb xd xl wi sl kp ct gd gl ln ch (c16 r15) _ rfl) gL_texts_X4_type rfl rfl rfl hdX4_type ⟨Nat.le_of_ble_eq_true rfl, Nat.le_of_ble_eq_true rfl⟩ [0, 1, 2, 3, 4, 5, 6, 7, 8, 9, 10, 11, 12] [] rfl rfl rfl rfl rfl (by decide) rfl [0, 1, 2, 3, 4, 5, 6, 7, 8, 9, 10, 11, 12] rfl rfl rfl 0 rfl rfl rfl hl.1 rfl (Nat.le_of_ble_eq_true rfl) dL_texts_71 ⟨Nat.zero_le _, Nat.zero_le _⟩ (fun H locs hP hD hS => ?_)
      refine lv_pop hx hb dL_texts_74 rfl ?_
      refine lv_iinc (v := (x6 + iI 1)) (lv' := [(6, .int (x6 + iI 1)), (0, .ref (q 0)), (1, .int x1), (2, .int x2), (3, .long x3), (5, .int x5)]) hx hb dL_texts_75 hl (k := 5) rfl rfl (by decide) rfl (fun ls hl => ?_)
      refine lv_goto (tgt := 57) hx hb dL_texts_78 (by decide) ?_
      exact ih n d lb sl kp ct gd gl ((mX4_type ln ch (c16 r15)).2.1) ((mX4_type ln ch (c16 r15)).2.2) x1 x2 x3 x5 (x6 + iI 1) _ _ ls hP hD hS (lv_sub hl [1, 2, 3, 4, 5, 0] rfl) h
set_option maxHeartbeats 4000000 in
set_option maxRecDepth 100000 in
theorem zL_texts (l : Launch) (D : va_G) (cI cC : ClassId) (q : Nat → Nat) (sz : Nat) (n : Int32) (d : Nat → Int32) (lb : Nat → Int32) (xd : Nat → Int32) (xl : Nat → Int32) (wi : Int32) (sl : Int32) (kp : Int32) (ct : Nat → Int32) (gd : Nat → Int32) (gl : Nat → Int32) (ln : Int32) (ch : Nat → Int32) (x1 : Int32) (r : Int32 × Int32 × (Nat → Int32) × (Nat → Int32) × Int32 × Int32 × (Nat → Int32) × (Nat → Int32) × (Nat → Int32) × Int32 × (Nat → Int32)) (h : mL_texts n d lb sl kp ct gd gl ln ch x1 = some r) : Met l yL_texts wsL_texts rmL_texts (va_Pc [.ref (q 0), .int x1] (MB D cI cC sz (wA cI q n d lb xd xl wi sl kp ct gd gl ln ch))) (muQ D (some (.int r.1)) (wA cI q r.2.1 r.2.2.1 r.2.2.2.1 xd xl wi r.2.2.2.2.1 r.2.2.2.2.2.1 r.2.2.2.2.2.2.1 r.2.2.2.2.2.2.2.1 r.2.2.2.2.2.2.2.2.1 r.2.2.2.2.2.2.2.2.2.1 r.2.2.2.2.2.2.2.2.2.2) (va_A (wA cI q n d lb xd xl wi sl kp ct gd gl ln ch) sz)) 0 0 (va_A (wA cI q n d lb xd xl wi sl kp ct gd gl ln ch) sz) := by
  refine MetI RL (by decide +kernel) rfl rfl (Nat.le_of_ble_eq_true rfl) ?_
  intro p e s m below meth c ls X _ hB hl
  obtain ⟨hsz, ⟨hP, hKK⟩, hD0⟩ := hB
  subst hsz
  have hD := hD0.self (sz := s.heap.size)
  generalize hAe : va_A (wA cI q n d lb xd xl wi sl kp ct gd gl ln ch) s.heap.size = A at hD ⊢
  have hA : ∀ z : Nat, s.heap.size ≤ z → A z := fun z hz => by rw [← hAe]; exact Or.inr hz
  have hS : va_S A s.heap s.heap [] := va_S.rf
  have hx := X.1
  have hb := X.2.1
  replace hl : lv_has ls 9 [(0, .ref (q 0)), (1, .int x1)] := hl
  replace hP : va_P D vwCl (wA cI q n d lb xd xl wi sl kp ct gd gl ln ch) s.heap := hP
  unfold mL_texts at h
  refine lv_aload_n hx hb dL_texts_0 rfl (lv_at hl 0 rfl) ?_
  refine lv_iconst (v := iI (-1)) hx hb dL_texts_1 rfl ?_
  obtain ⟨r1, h_r1, h⟩ := obd h
  refine rcV (rest := []) X hKK hP 1 (zX4_written l D cI cC q n d lb xd xl wi sl kp ct gd gl ln ch (iI (-1)) r1 h_r1) gL_texts_X4_written rfl rfl rfl hdX4_written ⟨Nat.le_of_ble_eq_true rfl, Nat.le_of_ble_eq_true rfl⟩ [0, 1, 2, 3, 4, 5, 6, 7, 8, 9, 10, 11, 12] rfl 0 rfl rfl rfl hl.1 rfl (Nat.le_of_ble_eq_true rfl) dL_texts_2 ⟨Nat.zero_le _, Nat.zero_le _⟩ ?_
  refine lv_istore_n (lv' := [(2, .int r1), (0, .ref (q 0)), (1, .int x1)]) hx hb dL_texts_5 rfl hl (by decide) rfl (fun ls hl => ?_)
  refine lv_aload_n hx hb dL_texts_6 rfl (lv_at hl 1 rfl) ?_
  obtain ⟨r2, h_r2, h⟩ := obd h
  refine rcL2 (rest := []) X hKK hP 1 (zL_print l D cI cC q n d lb xd xl wi sl kp ct gd gl ln ch r2 h_r2) gL_texts_L_print rfl rfl rfl hdL_print.2 ⟨Nat.le_of_ble_eq_true rfl, Nat.le_of_ble_eq_true rfl⟩ [0, 1, 2, 3, 4, 5, 6, 7, 8, 9, 10, 11, 12] rfl rfl hl.1 rfl (Nat.le_of_ble_eq_true rfl) dL_texts_7 ⟨Nat.zero_le _, Nat.zero_le _⟩ ?_
  refine lv_lstore_n (lv' := [(3, .long r2), (2, .int r1), (0, .ref (q 0)), (1, .int x1)]) hx hb dL_texts_10 rfl hl (by decide) rfl (fun ls hl => ?_)
  refine lv_aload_n hx hb dL_texts_11 rfl (lv_at hl 2 rfl) ?_
  refine rcV (rest := []) X hKK hP 0 (zX4_size l D cI cC q n d lb xd xl wi sl kp ct gd gl ln ch _ rfl) gL_texts_X4_size rfl rfl rfl hdX4_size ⟨Nat.le_of_ble_eq_true rfl, Nat.le_of_ble_eq_true rfl⟩ [0, 1, 2, 3, 4, 5, 6, 7, 8, 9, 10, 11, 12] rfl 0 rfl rfl rfl hl.1 rfl (Nat.le_of_ble_eq_true rfl) dL_texts_12 ⟨Nat.zero_le _, Nat.zero_le _⟩ ?_
  refine lv_istore (lv' := [(5, .int (mX4_size n)), (3, .long r2), (2, .int r1), (0, .ref (q 0)), (1, .int x1)]) hx hb dL_texts_15 hl (by decide) rfl (fun ls hl => ?_)
  refine lv_aload_n hx hb dL_texts_17 rfl (lv_at hl 3 rfl) ?_
  refine lv_iload_n hx hb dL_texts_18 rfl (lv_at hl 2 rfl) ?_
  obtain ⟨r3, h_r3, h⟩ := obd h
  refine rcV (rest := []) X hKK hP 1 (zX4_written l D cI cC q n d lb xd xl wi sl kp ct gd gl ln ch r1 r3 h_r3) gL_texts_X4_written rfl rfl rfl hdX4_written ⟨Nat.le_of_ble_eq_true rfl, Nat.le_of_ble_eq_true rfl⟩ [0, 1, 2, 3, 4, 5, 6, 7, 8, 9, 10, 11, 12] rfl 0 rfl rfl rfl hl.1 rfl (Nat.le_of_ble_eq_true rfl) dL_texts_19 ⟨Nat.zero_le _, Nat.zero_le _⟩ ?_
  refine lv_bipush (v := iI (-5)) hx hb dL_texts_22 (by decide) ?_
  refine lv_icmp_ne (tgt := 38) hx hb dL_texts_24 (by decide) (fun c4 => ?_) (fun c4 => ?_)
  · replace h := ifn c4 h
    cases h
  · replace h := ifp c4 h
    refine lv_aload_n hx hb dL_texts_27 rfl (lv_at hl 3 rfl) ?_
    refine lv_bipush (v := iI (-2)) hx hb dL_texts_28 (by decide) ?_
    obtain ⟨r5, h_r5, h⟩ := obd h
    refine rcV (rest := []) X hKK hP 1 (zX4_written l D cI cC q n d lb xd xl wi sl kp ct gd gl ln ch (iI (-2)) r5 h_r5) gL_texts_X4_written rfl rfl rfl hdX4_written ⟨Nat.le_of_ble_eq_true rfl, Nat.le_of_ble_eq_true rfl⟩ [0, 1, 2, 3, 4, 5, 6, 7, 8, 9, 10, 11, 12] rfl 0 rfl rfl rfl hl.1 rfl (Nat.le_of_ble_eq_true rfl) dL_texts_30 ⟨Nat.zero_le _, Nat.zero_le _⟩ ?_
    refine lv_bipush (v := iI (-2)) hx hb dL_texts_33 (by decide) ?_
    refine lv_icmp_eq (tgt := 40) hx hb dL_texts_35 (by decide) (fun c6 => ?_) (fun c6 => ?_)
    · replace h := ifp c6 h
      refine lv_iload_n hx hb dL_texts_40 rfl (lv_at hl 2 rfl) ?_
      refine lv_sipush (v := iI 299) hx hb dL_texts_41 (by decide) ?_
      refine lv_icmp_le (tgt := 49) hx hb dL_texts_44 (by decide) (fun c7 => ?_) (fun c7 => ?_)
      · replace h := ifp c7 h
        refine lv_aload_n hx hb dL_texts_49 rfl (lv_at hl 3 rfl) ?_
        refine mcV (rest := []) (wld2 := (wA cI q n d lb xd xl wi sl kp ct gd gl (mX4_clearText ln).2 ch)) (wr := pickAt [] (wA cI q n d lb xd xl wi sl kp ct gd gl ln ch)) X hKK hP hD hS hA 0 (zX4_clearText l D cI cC q _ n d lb xd xl wi sl kp ct gd gl ln ch _ rfl) gL_texts_X4_clearText rfl rfl rfl hdX4_clearText ⟨Nat.le_of_ble_eq_true rfl, Nat.le_of_ble_eq_true rfl⟩ [0, 1, 2, 3, 4, 5, 6, 7, 8, 9, 10, 11, 12] [] rfl rfl rfl rfl rfl (by decide) rfl [0, 1, 2, 3, 4, 5, 6, 7, 8, 9, 10, 11, 12] rfl rfl rfl 0 rfl rfl rfl hl.1 rfl (Nat.le_of_ble_eq_true rfl) dL_texts_50 ⟨Nat.zero_le _, Nat.zero_le _⟩ (fun H locs hP hD hS => ?_)
        refine lv_pop hx hb dL_texts_53 rfl ?_
        refine lv_iconst (v := iI 0) hx hb dL_texts_54 rfl ?_
        refine lv_istore (lv' := [(6, .int (iI 0)), (5, .int (mX4_size n)), (3, .long r2), (2, .int r1), (0, .ref (q 0)), (1, .int x1)]) hx hb dL_texts_55 hl (by decide) rfl (fun ls hl => ?_)
        exact kL_texts_57 X hKK hA FU n d lb sl kp ct gd gl ((mX4_clearText ln).2) ch x1 r1 r2 (mX4_size n) (iI 0) _ _ ls hP hD hS (lv_sub hl [4, 5, 3, 2, 1, 0] rfl) h
      · replace h := ifn c7 h
        cases h
    · replace h := ifn c6 h
      cases h
def mL_edits_822 (n : Int32) (d : Nat → Int32) (lb : Nat → Int32) (xd : Nat → Int32) (xl : Nat → Int32) (sl : Int32) (kp : Int32) (ct : Nat → Int32) (gd : Nat → Int32) (gl : Nat → Int32) (x10 : Int64) (x13 : Int32) (y0 : Int32) (y1 : Int32) : Option (Int32 × Int32 × (Nat → Int32) × (Nat → Int32) × (Nat → Int32) × (Nat → Int32) × Int32 × Int32 × (Nat → Int32) × (Nat → Int32) × (Nat → Int32)) := (if y1 = y0 then ((mL_print n d lb).bind fun r82 => (if (lg_cmp r82 x10) = 0 then some (x13, n, d, lb, xd, xl, sl, kp, ct, gd, gl) else none)) else none)
def mL_edits_858 (n : Int32) (d : Nat → Int32) (lb : Nat → Int32) (xd : Nat → Int32) (xl : Nat → Int32) (sl : Int32) (kp : Int32) (ct : Nat → Int32) (gd : Nat → Int32) (gl : Nat → Int32) (y0 : Int32) : Option (Int32 × Int32 × (Nat → Int32) × (Nat → Int32) × (Nat → Int32) × (Nat → Int32) × Int32 × Int32 × (Nat → Int32) × (Nat → Int32) × (Nat → Int32)) := some (y0, n, d, lb, xd, xl, sl, kp, ct, gd, gl)
def mL_edits_769 (n : Int32) (d : Nat → Int32) (lb : Nat → Int32) (xd : Nat → Int32) (xl : Nat → Int32) (sl : Int32) (kp : Int32) (ct : Nat → Int32) (gd : Nat → Int32) (gl : Nat → Int32) (x3 : Int32) (x4 : Int32) (x10 : Int64) (x12 : Int32) : Option (Int32 × Int32 × (Nat → Int32) × (Nat → Int32) × (Nat → Int32) × (Nat → Int32) × Int32 × Int32 × (Nat → Int32) × (Nat → Int32) × (Nat → Int32)) := (if 0 ≤ x12 then (if ((x3 >>> ((iI 20) &&& 31)) &&& (iI 3)) = 0 then ((mX4_undo n d lb sl kp ct gd gl).bind fun r65 => (if (iI 15) ≤ x4 then mL_edits_822 r65.2.1 r65.2.2.1 r65.2.2.2.1 xd xl r65.2.2.2.2.1 r65.2.2.2.2.2 ct gd gl x10 r65.1 (iI 14) r65.1 else mL_edits_822 r65.2.1 r65.2.2.1 r65.2.2.2.1 xd xl r65.2.2.2.2.1 r65.2.2.2.2.2 ct gd gl x10 r65.1 x4 r65.1)) else (if (iI 15) ≤ x4 then mL_edits_858 n d lb xd xl sl kp ct gd gl (iI 15) else mL_edits_858 n d lb xd xl sl kp ct gd gl (x4 + (iI 1)))) else ((mL_print n d lb).bind fun r67 => (if (lg_cmp r67 x10) = 0 then some (x4, n, d, lb, xd, xl, sl, kp, ct, gd, gl) else none)))
def mL_edits_433 (n : Int32) (d : Nat → Int32) (lb : Nat → Int32) (xd : Nat → Int32) (xl : Nat → Int32) (sl : Int32) (kp : Int32) (ct : Nat → Int32) (gd : Nat → Int32) (gl : Nat → Int32) (x3 : Int32) (x4 : Int32) (x10 : Int64) (x12 : Int32) : Option (Int32 × Int32 × (Nat → Int32) × (Nat → Int32) × (Nat → Int32) × (Nat → Int32) × Int32 × Int32 × (Nat → Int32) × (Nat → Int32) × (Nat → Int32)) := mL_edits_769 n d lb xd xl sl kp ct gd gl x3 x4 x10 x12
def mL_edits_369 (n : Int32) (d : Nat → Int32) (lb : Nat → Int32) (xd : Nat → Int32) (xl : Nat → Int32) (sl : Int32) (kp : Int32) (ct : Nat → Int32) (gd : Nat → Int32) (gl : Nat → Int32) (x3 : Int32) (x4 : Int32) (x5 : Int32) (x6 : Int32) (x9 : Int32) (x10 : Int64) (x13 : Int32) (y0 : Int32) : Option (Int32 × Int32 × (Nat → Int32) × (Nat → Int32) × (Nat → Int32) × (Nat → Int32) × Int32 × Int32 × (Nat → Int32) × (Nat → Int32) × (Nat → Int32)) := ((mX4_remove n d lb sl kp ct gd gl x6).bind fun r74 => (if x6 = 0 then (if r74.1 = (iI (-3)) then mL_edits_433 r74.2.1 r74.2.2.1 r74.2.2.2.1 xd xl r74.2.2.2.2.1 r74.2.2.2.2.2.1 r74.2.2.2.2.2.2.1 r74.2.2.2.2.2.2.2.1 r74.2.2.2.2.2.2.2.2 x3 x4 x10 r74.1 else none) else (if r74.1 = (x5 - (iI 1)) then (if (mX4_size r74.2.1) = (x5 - (iI 1)) then ((mX4_node r74.2.1 r74.2.2.1 r74.2.2.2.1 x13 (iI 2)).bind fun r78 => (if r78 = ((y0 - (iI 1)) + x9) then mL_edits_433 r74.2.1 r74.2.2.1 r74.2.2.2.1 xd xl r74.2.2.2.2.1 r74.2.2.2.2.2.1 r74.2.2.2.2.2.2.1 r74.2.2.2.2.2.2.2.1 r74.2.2.2.2.2.2.2.2 x3 x4 x10 r74.1 else none)) else none) else none)))
def mL_edits_494 (n : Int32) (d : Nat → Int32) (lb : Nat → Int32) (xd : Nat → Int32) (xl : Nat → Int32) (sl : Int32) (kp : Int32) (ct : Nat → Int32) (gd : Nat → Int32) (gl : Nat → Int32) (x3 : Int32) (x4 : Int32) (x10 : Int64) (x12 : Int32) : Option (Int32 × Int32 × (Nat → Int32) × (Nat → Int32) × (Nat → Int32) × (Nat → Int32) × Int32 × Int32 × (Nat → Int32) × (Nat → Int32) × (Nat → Int32)) := mL_edits_769 n d lb xd xl sl kp ct gd gl x3 x4 x10 x12
def mL_edits_703 (n : Int32) (d : Nat → Int32) (lb : Nat → Int32) (xd : Nat → Int32) (xl : Nat → Int32) (sl : Int32) (kp : Int32) (ct : Nat → Int32) (gd : Nat → Int32) (gl : Nat → Int32) (x3 : Int32) (x4 : Int32) (x10 : Int64) (x12 : Int32) : Option (Int32 × Int32 × (Nat → Int32) × (Nat → Int32) × (Nat → Int32) × (Nat → Int32) × Int32 × Int32 × (Nat → Int32) × (Nat → Int32) × (Nat → Int32)) := mL_edits_769 n d lb xd xl sl kp ct gd gl x3 x4 x10 x12
def mL_edits_610 (n : Int32) (d : Nat → Int32) (lb : Nat → Int32) (xd : Nat → Int32) (xl : Nat → Int32) (sl : Int32) (kp : Int32) (ct : Nat → Int32) (gd : Nat → Int32) (gl : Nat → Int32) (x3 : Int32) (x4 : Int32) (x5 : Int32) (x6 : Int32) (x7 : Int32) (x10 : Int64) (x13 : Int32) (x14 : Int32) (x15 : Int32) (x16 : Int32) (x17 : Int32) : Option (Int32 × Int32 × (Nat → Int32) × (Nat → Int32) × (Nat → Int32) × (Nat → Int32) × Int32 × Int32 × (Nat → Int32) × (Nat → Int32) × (Nat → Int32)) := ((mX4_move n d lb xd xl sl kp ct gd gl x6 x7 x17).bind fun r88 => (if x13 = 0 then (if (mX4_size r88.2.1) = x5 then ((mX4_node r88.2.1 r88.2.2.1 r88.2.2.2.1 r88.1 (iI 3)).bind fun r91 => (if r91 = x14 then ((mX4_node r88.2.1 r88.2.2.1 r88.2.2.2.1 r88.1 (iI 4)).bind fun r93 => (if r93 = x15 then ((mX4_node r88.2.1 r88.2.2.1 r88.2.2.2.1 r88.1 (iI 5)).bind fun r95 => (if r95 = x17 then ((mX4_node r88.2.1 r88.2.2.1 r88.2.2.2.1 r88.1 (iI 1)).bind fun r97 => ((mX4_node r88.2.1 r88.2.2.1 r88.2.2.2.1 r97 (iI 2)).bind fun r98 => (if r98 = (x16 + (iI 1)) then mL_edits_703 r88.2.1 r88.2.2.1 r88.2.2.2.1 r88.2.2.2.2.1 r88.2.2.2.2.2.1 r88.2.2.2.2.2.2.1 r88.2.2.2.2.2.2.2.1 r88.2.2.2.2.2.2.2.2.1 r88.2.2.2.2.2.2.2.2.2.1 r88.2.2.2.2.2.2.2.2.2.2 x3 x4 x10 r88.1 else none))) else none)) else none)) else none)) else none) else (if r88.1 = (iI (-3)) then mL_edits_703 r88.2.1 r88.2.2.1 r88.2.2.2.1 r88.2.2.2.2.1 r88.2.2.2.2.2.1 r88.2.2.2.2.2.2.1 r88.2.2.2.2.2.2.2.1 r88.2.2.2.2.2.2.2.2.1 r88.2.2.2.2.2.2.2.2.2.1 r88.2.2.2.2.2.2.2.2.2.2 x3 x4 x10 r88.1 else none)))
def mL_edits_573 (n : Int32) (d : Nat → Int32) (lb : Nat → Int32) (xd : Nat → Int32) (xl : Nat → Int32) (sl : Int32) (kp : Int32) (ct : Nat → Int32) (gd : Nat → Int32) (gl : Nat → Int32) (x3 : Int32) (x4 : Int32) (x5 : Int32) (x6 : Int32) (x7 : Int32) (x10 : Int64) (x13 : Int32) (x14 : Int32) (x15 : Int32) (y0 : Int32) (y1 : Int32) : Option (Int32 × Int32 × (Nat → Int32) × (Nat → Int32) × (Nat → Int32) × (Nat → Int32) × Int32 × Int32 × (Nat → Int32) × (Nat → Int32) × (Nat → Int32)) := ((mL_low x3 ((y1 - y0) + (iI 1))).bind fun r84 => (if x13 = 0 then ((mX4_move n d lb xd xl sl kp ct gd gl x6 x7 ((y1 - y0) + (iI 1))).bind fun r86 => (if r86.1 = (iI (-2)) then mL_edits_610 r86.2.1 r86.2.2.1 r86.2.2.2.1 r86.2.2.2.2.1 r86.2.2.2.2.2.1 r86.2.2.2.2.2.2.1 r86.2.2.2.2.2.2.2.1 r86.2.2.2.2.2.2.2.2.1 r86.2.2.2.2.2.2.2.2.2.1 r86.2.2.2.2.2.2.2.2.2.2 x3 x4 x5 x6 x7 x10 x13 x14 x15 (y1 - y0) r84 else none)) else mL_edits_610 n d lb xd xl sl kp ct gd gl x3 x4 x5 x6 x7 x10 x13 x14 x15 (y1 - y0) r84))
def mL_edits_529 (n : Int32) (d : Nat → Int32) (lb : Nat → Int32) (xd : Nat → Int32) (xl : Nat → Int32) (sl : Int32) (kp : Int32) (ct : Nat → Int32) (gd : Nat → Int32) (gl : Nat → Int32) (x3 : Int32) (x4 : Int32) (x5 : Int32) (x6 : Int32) (x7 : Int32) (x10 : Int64) (y0 : Int32) : Option (Int32 × Int32 × (Nat → Int32) × (Nat → Int32) × (Nat → Int32) × (Nat → Int32) × Int32 × Int32 × (Nat → Int32) × (Nat → Int32) × (Nat → Int32)) := ((mX4_node n d lb x6 (iI 3)).bind fun r69 => ((mX4_node n d lb x6 (iI 4)).bind fun r70 => ((mX4_node n d lb x7 (iI 2)).bind fun r71 => ((mX4_node n d lb x6 (iI 1)).bind fun r72 => (if r72 = x7 then mL_edits_573 n d lb xd xl sl kp ct gd gl x3 x4 x5 x6 x7 x10 y0 r69 r70 (iI 1) r71 else mL_edits_573 n d lb xd xl sl kp ct gd gl x3 x4 x5 x6 x7 x10 y0 r69 r70 (iI 0) r71)))))
def mL_edits_528 (n : Int32) (d : Nat → Int32) (lb : Nat → Int32) (xd : Nat → Int32) (xl : Nat → Int32) (sl : Int32) (kp : Int32) (ct : Nat → Int32) (gd : Nat → Int32) (gl : Nat → Int32) (x3 : Int32) (x4 : Int32) (x5 : Int32) (x6 : Int32) (x7 : Int32) (x10 : Int64) : Option (Int32 × Int32 × (Nat → Int32) × (Nat → Int32) × (Nat → Int32) × (Nat → Int32) × Int32 × Int32 × (Nat → Int32) × (Nat → Int32) × (Nat → Int32)) := mL_edits_529 n d lb xd xl sl kp ct gd gl x3 x4 x5 x6 x7 x10 (iI 0)
def mL_edits (n : Int32) (d : Nat → Int32) (lb : Nat → Int32) (xd : Nat → Int32) (xl : Nat → Int32) (sl : Int32) (kp : Int32) (ct : Nat → Int32) (gd : Nat → Int32) (gl : Nat → Int32) (x1 : Int32) (x2 : Int32) (x3 : Int32) (x4 : Int32) : Option (Int32 × Int32 × (Nat → Int32) × (Nat → Int32) × (Nat → Int32) × (Nat → Int32) × Int32 × Int32 × (Nat → Int32) × (Nat → Int32) × (Nat → Int32)) := ((mL_low (x2 >>> ((iI 4) &&& 31)) (mX4_size n)).bind fun r1 => ((mL_low (x2 >>> ((iI 11) &&& 31)) (mX4_size n)).bind fun r2 => ((mL_low x3 (iI 5)).bind fun r3 => ((mX4_node n d lb r1 (iI 2)).bind fun r4 => ((mL_print n d lb).bind fun r5 => (if (iI 2) ≤ x1 then (if x1 = (iI 2) then ((mL_low (x3 >>> ((iI 4) &&& 31)) (r4 + (iI 1))).bind fun r31 => ((mL_low (x3 >>> ((iI 9) &&& 31)) ((r4 - r31) + (iI 1))).bind fun r32 => ((mX4_wrap n d lb sl kp ct gd gl r1 r31 r32 (c16 ((iI 97) + r3))).bind fun r33 => (if (mX4_size n) = (iI 100) then none else (if (mX4_size r33.2.1) = ((mX4_size n) + (iI 1)) then ((mX4_node r33.2.1 r33.2.2.1 r33.2.2.2.1 r33.1 (iI 1)).bind fun r36 => (if r36 = r1 then ((mX4_node r33.2.1 r33.2.2.1 r33.2.2.2.1 r33.1 (iI 2)).bind fun r38 => (if r38 = r32 then ((mX4_node r33.2.1 r33.2.2.1 r33.2.2.2.1 r33.1 (iI 5)).bind fun r40 => (if r40 = r31 then ((mX4_node r33.2.1 r33.2.2.1 r33.2.2.2.1 r1 (iI 2)).bind fun r42 => (if r42 = ((r4 - r32) + (iI 1)) then ((mX4_wrap r33.2.1 r33.2.2.1 r33.2.2.2.1 r33.2.2.2.2.1 r33.2.2.2.2.2.1 r33.2.2.2.2.2.2.1 r33.2.2.2.2.2.2.2.1 r33.2.2.2.2.2.2.2.2 r1 (iI 0) (iI 101) (c16 ((iI 97) + r3))).bind fun r44 => (if r44.1 = (iI (-2)) then mL_edits_769 r44.2.1 r44.2.2.1 r44.2.2.2.1 xd xl r44.2.2.2.2.1 r44.2.2.2.2.2.1 r44.2.2.2.2.2.2.1 r44.2.2.2.2.2.2.2.1 r44.2.2.2.2.2.2.2.2 x3 x4 r5 r33.1 else none)) else none)) else none)) else none)) else none)) else none))))) else (if x1 = (iI 3) then ((mX4_node n d lb r1 (iI 1)).bind fun r28 => (if r1 = 0 then mL_edits_369 n d lb xd xl sl kp ct gd gl x3 x4 (mX4_size n) r1 r4 r5 r28 (iI 0) else ((mX4_node n d lb r28 (iI 2)).bind fun r30 => mL_edits_369 n d lb xd xl sl kp ct gd gl x3 x4 (mX4_size n) r1 r4 r5 r28 r30))) else (if x1 = (iI 4) then ((mX4_node n d lb r1 (iI 3)).bind fun r22 => ((mX4_cut n d lb sl kp ct gd gl r1).bind fun r23 => (if r1 = 0 then (if r23.1 = (iI (-3)) then mL_edits_494 r23.2.1 r23.2.2.1 r23.2.2.2.1 xd xl r23.2.2.2.2.1 r23.2.2.2.2.2.1 r23.2.2.2.2.2.2.1 r23.2.2.2.2.2.2.2.1 r23.2.2.2.2.2.2.2.2 x3 x4 r5 r23.1 else none) else (if r23.1 = ((mX4_size n) - r22) then (if (mX4_size r23.2.1) = r23.1 then mL_edits_494 r23.2.1 r23.2.2.1 r23.2.2.2.1 xd xl r23.2.2.2.2.1 r23.2.2.2.2.2.1 r23.2.2.2.2.2.2.1 r23.2.2.2.2.2.2.2.1 r23.2.2.2.2.2.2.2.2 x3 x4 r5 r23.1 else none) else none)))) else (if x1 = (iI 5) then (if r2 < r1 then mL_edits_528 n d lb xd xl sl kp ct gd gl x3 x4 (mX4_size n) r1 r2 r5 else ((mX4_node n d lb r1 (iI 3)).bind fun r20 => (if (r1 + r20) ≤ r2 then mL_edits_528 n d lb xd xl sl kp ct gd gl x3 x4 (mX4_size n) r1 r2 r5 else mL_edits_529 n d lb xd xl sl kp ct gd gl x3 x4 (mX4_size n) r1 r2 r5 (iI 1)))) else ((mX4_node n d lb r1 (iI 10)).bind fun r11 => ((mX4_setLabel n d lb sl kp ct gd gl r1 (c16 ((iI 97) + r3))).bind fun r12 => (if r12.1 = r11 then (if (iI 0) < 0 then none else ((mX4_node n r12.2.1 r12.2.2.1 r1 (iI 10)).bind fun r15 => (if r15 = (c16 ((iI 97) + r3)) then ((mX4_setLabel n r12.2.1 r12.2.2.1 r12.2.2.2.1 r12.2.2.2.2.1 r12.2.2.2.2.2.1 r12.2.2.2.2.2.2.1 r12.2.2.2.2.2.2.2 r1 (iI 90)).bind fun r17 => (if r17.1 = (iI (-2)) then mL_edits_769 n r17.2.1 r17.2.2.1 xd xl r17.2.2.2.1 r17.2.2.2.2.1 r17.2.2.2.2.2.1 r17.2.2.2.2.2.2.1 r17.2.2.2.2.2.2.2 x3 x4 r5 (iI 0) else none)) else none))) else none))))))) else ((mL_low (x3 >>> ((iI 4) &&& 31)) (r4 + (iI 1))).bind fun r46 => ((mX4_insert n d lb sl kp ct gd gl r1 r46 (c16 ((iI 97) + r3))).bind fun r47 => (if (mX4_size n) = (iI 100) then none else (if (mX4_size r47.2.1) = ((mX4_size n) + (iI 1)) then ((mX4_node r47.2.1 r47.2.2.1 r47.2.2.2.1 r47.1 (iI 1)).bind fun r50 => (if r50 = r1 then ((mX4_node r47.2.1 r47.2.2.1 r47.2.2.2.1 r47.1 (iI 5)).bind fun r52 => (if r52 = r46 then ((mX4_node r47.2.1 r47.2.2.1 r47.2.2.2.1 r47.1 (iI 2)).bind fun r54 => (if r54 = 0 then ((mX4_node r47.2.1 r47.2.2.1 r47.2.2.2.1 r47.1 (iI 10)).bind fun r56 => (if r56 = (c16 ((iI 97) + r3)) then ((mX4_insert r47.2.1 r47.2.2.1 r47.2.2.2.1 r47.2.2.2.2.1 r47.2.2.2.2.2.1 r47.2.2.2.2.2.2.1 r47.2.2.2.2.2.2.2.1 r47.2.2.2.2.2.2.2.2 r1 (iI (-1)) (c16 ((iI 97) + r3))).bind fun r58 => (if r58.1 = (iI (-2)) then ((mX4_insert r58.2.1 r58.2.2.1 r58.2.2.2.1 r58.2.2.2.2.1 r58.2.2.2.2.2.1 r58.2.2.2.2.2.2.1 r58.2.2.2.2.2.2.2.1 r58.2.2.2.2.2.2.2.2 r1 (iI 0) (iI 123)).bind fun r60 => (if r60.1 = (iI (-2)) then mL_edits_769 r60.2.1 r60.2.2.1 r60.2.2.2.1 xd xl r60.2.2.2.2.1 r60.2.2.2.2.2.1 r60.2.2.2.2.2.2.1 r60.2.2.2.2.2.2.2.1 r60.2.2.2.2.2.2.2.2 x3 x4 r5 r47.1 else none)) else none)) else none)) else none)) else none)) else none)) else none))))))))))
theorem hdL_edits : yL_edits.cls = RL ∧ yL_edits.cls ≠ "java/lang/invoke/MethodHandle" ∧ yL_edits.cls ≠ "java/lang/invoke/VarHandle" ∧ (parseMethodDescriptor yL_edits.desc).map (fun d => d.parameters.length) = some 5 := by decide +kernel
abbrev rmL_edits : Room := { frames := 7, cells := 0, slots := 0, locals := 164 }
set_option maxHeartbeats 4000000 in
set_option maxRecDepth 100000 in
theorem kL_edits_822 {p : Program} {l : Launch} {e : Env} {s : State} {m : MethodId} {args : Array Value} {below : List Frame} {meth : Method} {c : Code} {D : va_G} {cI cC : ClassId} {q : Nat → Nat} {wi : Int32} {ln : Int32} {ch : Nat → Int32} {r : Int32 × Int32 × (Nat → Int32) × (Nat → Int32) × (Nat → Int32) × (Nat → Int32) × Int32 × Int32 × (Nat → Int32) × (Nat → Int32) × (Nat → Int32)} {A : Nat → Prop} (X : CX p s m args meth c wsL_edits cL_edits 18 (some .int) RL) (hKK : KK D cI cC s) (hA : ∀ z, s.heap.size ≤ z → A z) : ∀ (n : Int32) (d : Nat → Int32) (lb : Nat → Int32) (xd : Nat → Int32) (xl : Nat → Int32) (sl : Int32) (kp : Int32) (ct : Nat → Int32) (gd : Nat → Int32) (gl : Nat → Int32) (x10 : Int64) (x13 : Int32) (y0 : Int32) (y1 : Int32) (H : Heap) (locs : List Loc) (ls : Array Slot), va_P D vwCl (wA cI q n d lb xd xl wi sl kp ct gd gl ln ch) H → va_D A (wA cI q n d lb xd xl wi sl kp ct gd gl ln ch) → va_S A s.heap H locs → lv_has ls 18 [(0, .ref (q 0)), (10, .long x10), (13, .int x13)] → mL_edits_822 n d lb xd xl sl kp ct gd gl x10 x13 y0 y1 = some r → W p l e rmL_edits s m args below meth c H locs 0 0 (MQ below (muQ D (some (.int r.1)) (wA cI q r.2.1 r.2.2.1 r.2.2.2.1 r.2.2.2.2.1 r.2.2.2.2.2.1 wi r.2.2.2.2.2.2.1 r.2.2.2.2.2.2.2.1 r.2.2.2.2.2.2.2.2.1 r.2.2.2.2.2.2.2.2.2.1 r.2.2.2.2.2.2.2.2.2.2 ln ch) A) args s 0 0 A) (F0 m 822 ls [.int y0, .int y1]) := by
  have hx := X.1
  have hb := X.2.1
  intro n d lb xd xl sl kp ct gd gl x10 x13 y0 y1 H locs ls hP hD hS hl h
  unfold mL_edits_822 at h
  refine lv_icmp_ne (tgt := 840) hx hb dL_edits_822 (by decide) (fun c81 => ?_) (fun c81 => ?_)
  · replace h := ifn c81 h
    cases h
  · replace h := ifp c81 h
    refine lv_aload_n hx hb dL_edits_825 rfl (lv_at hl 0 rfl) ?_
    obtain ⟨r82, h_r82, h⟩ := obd h
    refine rcL2 (rest := []) X hKK hP 1 (zL_print l D cI cC q n d lb xd xl wi sl kp ct gd gl ln ch r82 h_r82) gL_edits_L_print rfl rfl rfl hdL_print.2 ⟨Nat.le_of_ble_eq_true rfl, Nat.le_of_ble_eq_true rfl⟩ [0, 1, 2, 3, 4, 5, 6, 7, 8, 9, 10, 11, 12] rfl rfl hl.1 rfl (Nat.le_of_ble_eq_true rfl) dL_edits_826 ⟨Nat.zero_le _, Nat.zero_le _⟩ ?_
    refine lv_lload hx hb dL_edits_829 (lv_at hl 1 rfl) ?_
    refine W.lcmp hx hb dL_edits_831 ?_
    refine lv_if_ne (tgt := 840) hx hb dL_edits_832 (by decide) (fun c83 => ?_) (fun c83 => ?_)
    · replace h := ifn c83 h
      cases h
    · replace h := ifp c83 h
      refine lv_iload hx hb dL_edits_835 (lv_at hl 2 rfl) ?_
      refine lv_goto (tgt := 841) hx hb dL_edits_837 (by decide) ?_
      replace h := Option.some.inj h
      subst h
      exact mu_ret X rfl rfl hP rfl hS dL_edits_841
set_option maxHeartbeats 4000000 in
set_option maxRecDepth 100000 in
theorem kL_edits_858 {p : Program} {l : Launch} {e : Env} {s : State} {m : MethodId} {args : Array Value} {below : List Frame} {meth : Method} {c : Code} {D : va_G} {cI cC : ClassId} {q : Nat → Nat} {wi : Int32} {ln : Int32} {ch : Nat → Int32} {r : Int32 × Int32 × (Nat → Int32) × (Nat → Int32) × (Nat → Int32) × (Nat → Int32) × Int32 × Int32 × (Nat → Int32) × (Nat → Int32) × (Nat → Int32)} {A : Nat → Prop} (X : CX p s m args meth c wsL_edits cL_edits 18 (some .int) RL) (hKK : KK D cI cC s) (hA : ∀ z, s.heap.size ≤ z → A z) : ∀ (n : Int32) (d : Nat → Int32) (lb : Nat → Int32) (xd : Nat → Int32) (xl : Nat → Int32) (sl : Int32) (kp : Int32) (ct : Nat → Int32) (gd : Nat → Int32) (gl : Nat → Int32) (y0 : Int32) (H : Heap) (locs : List Loc) (ls : Array Slot), va_P D vwCl (wA cI q n d lb xd xl wi sl kp ct gd gl ln ch) H → va_D A (wA cI q n d lb xd xl wi sl kp ct gd gl ln ch) → va_S A s.heap H locs → lv_has ls 18 [] → mL_edits_858 n d lb xd xl sl kp ct gd gl y0 = some r → W p l e rmL_edits s m args below meth c H locs 0 0 (MQ below (muQ D (some (.int r.1)) (wA cI q r.2.1 r.2.2.1 r.2.2.2.1 r.2.2.2.2.1 r.2.2.2.2.2.1 wi r.2.2.2.2.2.2.1 r.2.2.2.2.2.2.2.1 r.2.2.2.2.2.2.2.2.1 r.2.2.2.2.2.2.2.2.2.1 r.2.2.2.2.2.2.2.2.2.2 ln ch) A) args s 0 0 A) (F0 m 858 ls [.int y0]) := by
  have hx := X.1
  have hb := X.2.1
  intro n d lb xd xl sl kp ct gd gl y0 H locs ls hP hD hS hl h
  unfold mL_edits_858 at h
  replace h := Option.some.inj h
  subst h
  exact mu_ret X rfl rfl hP rfl hS dL_edits_858
set_option maxHeartbeats 4000000 in
set_option maxRecDepth 100000 in
theorem kL_edits_769 {p : Program} {l : Launch} {e : Env} {s : State} {m : MethodId} {args : Array Value} {below : List Frame} {meth : Method} {c : Code} {D : va_G} {cI cC : ClassId} {q : Nat → Nat} {wi : Int32} {ln : Int32} {ch : Nat → Int32} {r : Int32 × Int32 × (Nat → Int32) × (Nat → Int32) × (Nat → Int32) × (Nat → Int32) × Int32 × Int32 × (Nat → Int32) × (Nat → Int32) × (Nat → Int32)} {A : Nat → Prop} (X : CX p s m args meth c wsL_edits cL_edits 18 (some .int) RL) (hKK : KK D cI cC s) (hA : ∀ z, s.heap.size ≤ z → A z) : ∀ (n : Int32) (d : Nat → Int32) (lb : Nat → Int32) (xd : Nat → Int32) (xl : Nat → Int32) (sl : Int32) (kp : Int32) (ct : Nat → Int32) (gd : Nat → Int32) (gl : Nat → Int32) (x3 : Int32) (x4 : Int32) (x10 : Int64) (x12 : Int32) (H : Heap) (locs : List Loc) (ls : Array Slot), va_P D vwCl (wA cI q n d lb xd xl wi sl kp ct gd gl ln ch) H → va_D A (wA cI q n d lb xd xl wi sl kp ct gd gl ln ch) → va_S A s.heap H locs → lv_has ls 18 [(0, .ref (q 0)), (3, .int x3), (4, .int x4), (10, .long x10), (12, .int x12)] → mL_edits_769 n d lb xd xl sl kp ct gd gl x3 x4 x10 x12 = some r → W p l e rmL_edits s m args below meth c H locs 0 0 (MQ below (muQ D (some (.int r.1)) (wA cI q r.2.1 r.2.2.1 r.2.2.2.1 r.2.2.2.2.1 r.2.2.2.2.2.1 wi r.2.2.2.2.2.2.1 r.2.2.2.2.2.2.2.1 r.2.2.2.2.2.2.2.2.1 r.2.2.2.2.2.2.2.2.2.1 r.2.2.2.2.2.2.2.2.2.2 ln ch) A) args s 0 0 A) (F0 m 769 ls []) := by
  have hx := X.1
  have hb := X.2.1
  intro n d lb xd xl sl kp ct gd gl x3 x4 x10 x12 H locs ls hP hD hS hl h
  unfold mL_edits_769 at h
  refine lv_iload hx hb dL_edits_769 (lv_at hl 4 rfl) ?_
  refine lv_if_ge (tgt := 791) hx hb dL_edits_771 (by decide) (fun c62 => ?_) (fun c62 => ?_)
  · replace h := ifp c62 h
    refine lv_iload_n hx hb dL_edits_791 rfl (lv_at hl 1 rfl) ?_
    refine lv_bipush (v := iI 20) hx hb dL_edits_792 (by decide) ?_
    refine lv_ishr hx hb dL_edits_794 ?_
    refine lv_iconst (v := iI 3) hx hb dL_edits_795 rfl ?_
    refine lv_iand hx hb dL_edits_796 ?_
    refine lv_if_ne (tgt := 842) hx hb dL_edits_797 (by decide) (fun c63 => ?_) (fun c63 => ?_)
    · replace h := ifn c63 h
      refine lv_iload hx hb dL_edits_842 (lv_at hl 2 rfl) ?_
      refine lv_bipush (v := iI 15) hx hb dL_edits_844 (by decide) ?_
      refine lv_icmp_ge (tgt := 856) hx hb dL_edits_846 (by decide) (fun c64 => ?_) (fun c64 => ?_)
      · replace h := ifp c64 h
        refine lv_bipush (v := iI 15) hx hb dL_edits_856 (by decide) ?_
        exact kL_edits_858 X hKK hA n d lb xd xl sl kp ct gd gl (iI 15) _ _ ls hP hD hS (lv_sub hl [] rfl) h
      · replace h := ifn c64 h
        refine lv_iload hx hb dL_edits_849 (lv_at hl 2 rfl) ?_
        refine lv_iconst (v := iI 1) hx hb dL_edits_851 rfl ?_
        refine lv_iadd hx hb dL_edits_852 ?_
        refine lv_goto (tgt := 858) hx hb dL_edits_853 (by decide) ?_
        exact kL_edits_858 X hKK hA n d lb xd xl sl kp ct gd gl (x4 + (iI 1)) _ _ ls hP hD hS (lv_sub hl [] rfl) h
    · replace h := ifp c63 h
      refine lv_aload_n hx hb dL_edits_800 rfl (lv_at hl 0 rfl) ?_
      obtain ⟨r65, h_r65, h⟩ := obd h
      refine mcV (rest := []) (wld2 := (wA cI q r65.2.1 r65.2.2.1 r65.2.2.2.1 xd xl wi r65.2.2.2.2.1 r65.2.2.2.2.2 ct gd gl ln ch)) (wr := pickAt [] (wA cI q n d lb xd xl wi sl kp ct gd gl ln ch)) X hKK hP hD hS hA 0 (zX4_undo l D cI cC q _ n d lb xd xl wi sl kp ct gd gl ln ch r65 h_r65) gL_edits_X4_undo rfl rfl rfl hdX4_undo ⟨Nat.le_of_ble_eq_true rfl, Nat.le_of_ble_eq_true rfl⟩ [0, 1, 2, 3, 4, 5, 6, 7, 8, 9, 10, 11, 12] [] rfl rfl rfl rfl rfl (by decide) rfl [0, 1, 2, 3, 4, 5, 6, 7, 8, 9, 10, 11, 12] rfl rfl rfl 0 rfl rfl rfl hl.1 rfl (Nat.le_of_ble_eq_true rfl) dL_edits_801 ⟨Nat.zero_le _, Nat.zero_le _⟩ (fun H locs hP hD hS => ?_)
      refine lv_istore (lv' := [(13, .int r65.1), (0, .ref (q 0)), (3, .int x3), (4, .int x4), (10, .long x10), (12, .int x12)]) hx hb dL_edits_804 hl (by decide) rfl (fun ls hl => ?_)
      refine lv_iload hx hb dL_edits_806 (lv_at hl 0 rfl) ?_
      refine lv_iload hx hb dL_edits_808 (lv_at hl 3 rfl) ?_
      refine lv_bipush (v := iI 15) hx hb dL_edits_810 (by decide) ?_
      refine lv_icmp_ge (tgt := 820) hx hb dL_edits_812 (by decide) (fun c66 => ?_) (fun c66 => ?_)
      · replace h := ifp c66 h
        refine lv_bipush (v := iI 14) hx hb dL_edits_820 (by decide) ?_
        exact kL_edits_822 X hKK hA r65.2.1 r65.2.2.1 r65.2.2.2.1 xd xl r65.2.2.2.2.1 r65.2.2.2.2.2 ct gd gl x10 r65.1 (iI 14) r65.1 _ _ ls hP hD hS (lv_sub hl [1, 4, 0] rfl) h
      · replace h := ifn c66 h
        refine lv_iload hx hb dL_edits_815 (lv_at hl 3 rfl) ?_
        refine lv_goto (tgt := 822) hx hb dL_edits_817 (by decide) ?_
        exact kL_edits_822 X hKK hA r65.2.1 r65.2.2.1 r65.2.2.2.1 xd xl r65.2.2.2.2.1 r65.2.2.2.2.2 ct gd gl x10 r65.1 x4 r65.1 _ _ ls hP hD hS (lv_sub hl [1, 4, 0] rfl) h
  · replace h := ifn c62 h
    refine lv_aload_n hx hb dL_edits_774 rfl (lv_at hl 0 rfl) ?_
    obtain ⟨r67, h_r67, h⟩ := obd h
    refine rcL2 (rest := []) X hKK hP 1 (zL_print l D cI cC q n d lb xd xl wi sl kp ct gd gl ln ch r67 h_r67) gL_edits_L_print rfl rfl rfl hdL_print.2 ⟨Nat.le_of_ble_eq_true rfl, Nat.le_of_ble_eq_true rfl⟩ [0, 1, 2, 3, 4, 5, 6, 7, 8, 9, 10, 11, 12] rfl rfl hl.1 rfl (Nat.le_of_ble_eq_true rfl) dL_edits_775 ⟨Nat.zero_le _, Nat.zero_le _⟩ ?_
    refine lv_lload hx hb dL_edits_778 (lv_at hl 3 rfl) ?_
    refine W.lcmp hx hb dL_edits_780 ?_
    refine lv_if_ne (tgt := 789) hx hb dL_edits_781 (by decide) (fun c68 => ?_) (fun c68 => ?_)
    · replace h := ifn c68 h
      cases h
    · replace h := ifp c68 h
      refine lv_iload hx hb dL_edits_784 (lv_at hl 2 rfl) ?_
      refine lv_goto (tgt := 790) hx hb dL_edits_786 (by decide) ?_
      replace h := Option.some.inj h
      subst h
      exact mu_ret X rfl rfl hP rfl hS dL_edits_790
set_option maxHeartbeats 4000000 in
set_option maxRecDepth 100000 in
theorem kL_edits_433 {p : Program} {l : Launch} {e : Env} {s : State} {m : MethodId} {args : Array Value} {below : List Frame} {meth : Method} {c : Code} {D : va_G} {cI cC : ClassId} {q : Nat → Nat} {wi : Int32} {ln : Int32} {ch : Nat → Int32} {r : Int32 × Int32 × (Nat → Int32) × (Nat → Int32) × (Nat → Int32) × (Nat → Int32) × Int32 × Int32 × (Nat → Int32) × (Nat → Int32) × (Nat → Int32)} {A : Nat → Prop} (X : CX p s m args meth c wsL_edits cL_edits 18 (some .int) RL) (hKK : KK D cI cC s) (hA : ∀ z, s.heap.size ≤ z → A z) : ∀ (n : Int32) (d : Nat → Int32) (lb : Nat → Int32) (xd : Nat → Int32) (xl : Nat → Int32) (sl : Int32) (kp : Int32) (ct : Nat → Int32) (gd : Nat → Int32) (gl : Nat → Int32) (x3 : Int32) (x4 : Int32) (x10 : Int64) (x12 : Int32) (H : Heap) (locs : List Loc) (ls : Array Slot), va_P D vwCl (wA cI q n d lb xd xl wi sl kp ct gd gl ln ch) H → va_D A (wA cI q n d lb xd xl wi sl kp ct gd gl ln ch) → va_S A s.heap H locs → lv_has ls 18 [(0, .ref (q 0)), (3, .int x3), (4, .int x4), (10, .long x10), (12, .int x12)] → mL_edits_433 n d lb xd xl sl kp ct gd gl x3 x4 x10 x12 = some r → W p l e rmL_edits s m args below meth c H locs 0 0 (MQ below (muQ D (some (.int r.1)) (wA cI q r.2.1 r.2.2.1 r.2.2.2.1 r.2.2.2.2.1 r.2.2.2.2.2.1 wi r.2.2.2.2.2.2.1 r.2.2.2.2.2.2.2.1 r.2.2.2.2.2.2.2.2.1 r.2.2.2.2.2.2.2.2.2.1 r.2.2.2.2.2.2.2.2.2.2 ln ch) A) args s 0 0 A) (F0 m 433 ls []) := by
  have hx := X.1
  have hb := X.2.1
  intro n d lb xd xl sl kp ct gd gl x3 x4 x10 x12 H locs ls hP hD hS hl h
  unfold mL_edits_433 at h
  refine lv_goto (tgt := 769) hx hb dL_edits_433 (by decide) ?_
  exact kL_edits_769 X hKK hA n d lb xd xl sl kp ct gd gl x3 x4 x10 x12 _ _ ls hP hD hS (lv_sub hl [0, 1, 2, 3, 4] rfl) h
set_option maxHeartbeats 4000000 in
set_option maxRecDepth 100000 in
theorem kL_edits_369 {p : Program} {l : Launch} {e : Env} {s : State} {m : MethodId} {args : Array Value} {below : List Frame} {meth : Method} {c : Code} {D : va_G} {cI cC : ClassId} {q : Nat → Nat} {wi : Int32} {ln : Int32} {ch : Nat → Int32} {r : Int32 × Int32 × (Nat → Int32) × (Nat → Int32) × (Nat → Int32) × (Nat → Int32) × Int32 × Int32 × (Nat → Int32) × (Nat → Int32) × (Nat → Int32)} {A : Nat → Prop} (X : CX p s m args meth c wsL_edits cL_edits 18 (some .int) RL) (hKK : KK D cI cC s) (hA : ∀ z, s.heap.size ≤ z → A z) : ∀ (n : Int32) (d : Nat → Int32) (lb : Nat → Int32) (xd : Nat → Int32) (xl : Nat → Int32) (sl : Int32) (kp : Int32) (ct : Nat → Int32) (gd : Nat → Int32) (gl : Nat → Int32) (x3 : Int32) (x4 : Int32) (x5 : Int32) (x6 : Int32) (x9 : Int32) (x10 : Int64) (x13 : Int32) (y0 : Int32) (H : Heap) (locs : List Loc) (ls : Array Slot), va_P D vwCl (wA cI q n d lb xd xl wi sl kp ct gd gl ln ch) H → va_D A (wA cI q n d lb xd xl wi sl kp ct gd gl ln ch) → va_S A s.heap H locs → lv_has ls 18 [(0, .ref (q 0)), (3, .int x3), (4, .int x4), (5, .int x5), (6, .int x6), (9, .int x9), (10, .long x10), (13, .int x13)] → mL_edits_369 n d lb xd xl sl kp ct gd gl x3 x4 x5 x6 x9 x10 x13 y0 = some r → W p l e rmL_edits s m args below meth c H locs 0 0 (MQ below (muQ D (some (.int r.1)) (wA cI q r.2.1 r.2.2.1 r.2.2.2.1 r.2.2.2.2.1 r.2.2.2.2.2.1 wi r.2.2.2.2.2.2.1 r.2.2.2.2.2.2.2.1 r.2.2.2.2.2.2.2.2.1 r.2.2.2.2.2.2.2.2.2.1 r.2.2.2.2.2.2.2.2.2.2 ln ch) A) args s 0 0 A) (F0 m 369 ls [.int y0]) := by
  have hx := X.1
  have hb := X.2.1
  intro n d lb xd xl sl kp ct gd gl x3 x4 x5 x6 x9 x10 x13 y0 H locs ls hP hD hS hl h
  unfold mL_edits_369 at h
  refine lv_istore (lv' := [(14, .int y0), (0, .ref (q 0)), (3, .int x3), (4, .int x4), (5, .int x5), (6, .int x6), (9, .int x9), (10, .long x10), (13, .int x13)]) hx hb dL_edits_369 hl (by decide) rfl (fun ls hl => ?_)
  refine lv_aload_n hx hb dL_edits_371 rfl (lv_at hl 1 rfl) ?_
  refine lv_iload hx hb dL_edits_372 (lv_at hl 5 rfl) ?_
  obtain ⟨r74, h_r74, h⟩ := obd h
  refine mcV (rest := []) (wld2 := (wA cI q r74.2.1 r74.2.2.1 r74.2.2.2.1 xd xl wi r74.2.2.2.2.1 r74.2.2.2.2.2.1 r74.2.2.2.2.2.2.1 r74.2.2.2.2.2.2.2.1 r74.2.2.2.2.2.2.2.2 ln ch)) (wr := pickAt [] (wA cI q n d lb xd xl wi sl kp ct gd gl ln ch)) X hKK hP hD hS hA 1 (zX4_remove l D cI cC q _ n d lb xd xl wi sl kp ct gd gl ln ch x6 r74 h_r74) gL_edits_X4_remove rfl rfl rfl hdX4_remove ⟨Nat.le_of_ble_eq_true rfl, Nat.le_of_ble_eq_true rfl⟩ [0, 1, 2, 3, 4, 5, 6, 7, 8, 9, 10, 11, 12] [] rfl rfl rfl rfl rfl (by decide) rfl [0, 1, 2, 3, 4, 5, 6, 7, 8, 9, 10, 11, 12] rfl rfl rfl 0 rfl rfl rfl hl.1 rfl (Nat.le_of_ble_eq_true rfl) dL_edits_374 ⟨Nat.zero_le _, Nat.zero_le _⟩ (fun H locs hP hD hS => ?_)
  refine lv_istore (lv' := [(12, .int r74.1), (14, .int y0), (0, .ref (q 0)), (3, .int x3), (4, .int x4), (5, .int x5), (6, .int x6), (9, .int x9), (10, .long x10), (13, .int x13)]) hx hb dL_edits_377 hl (by decide) rfl (fun ls hl => ?_)
  refine lv_iload hx hb dL_edits_379 (lv_at hl 6 rfl) ?_
  refine lv_if_ne (tgt := 394) hx hb dL_edits_381 (by decide) (fun c75 => ?_) (fun c75 => ?_)
  · replace h := ifn c75 h
    refine lv_iload hx hb dL_edits_394 (lv_at hl 0 rfl) ?_
    refine lv_iload hx hb dL_edits_396 (lv_at hl 5 rfl) ?_
    refine lv_iconst (v := iI 1) hx hb dL_edits_398 rfl ?_
    refine lv_isub hx hb dL_edits_399 ?_
    refine lv_icmp_ne (tgt := 431) hx hb dL_edits_400 (by decide) (fun c76 => ?_) (fun c76 => ?_)
    · replace h := ifn c76 h
      cases h
    · replace h := ifp c76 h
      refine lv_aload_n hx hb dL_edits_403 rfl (lv_at hl 2 rfl) ?_
      refine rcV (rest := []) X hKK hP 0 (zX4_size l D cI cC q r74.2.1 r74.2.2.1 r74.2.2.2.1 xd xl wi r74.2.2.2.2.1 r74.2.2.2.2.2.1 r74.2.2.2.2.2.2.1 r74.2.2.2.2.2.2.2.1 r74.2.2.2.2.2.2.2.2 ln ch _ rfl) gL_edits_X4_size rfl rfl rfl hdX4_size ⟨Nat.le_of_ble_eq_true rfl, Nat.le_of_ble_eq_true rfl⟩ [0, 1, 2, 3, 4, 5, 6, 7, 8, 9, 10, 11, 12] rfl 0 rfl rfl rfl hl.1 rfl (Nat.le_of_ble_eq_true rfl) dL_edits_404 ⟨Nat.zero_le _, Nat.zero_le _⟩ ?_
      refine lv_iload hx hb dL_edits_407 (lv_at hl 5 rfl) ?_
      refine lv_iconst (v := iI 1) hx hb dL_edits_409 rfl ?_
      refine lv_isub hx hb dL_edits_410 ?_
      refine lv_icmp_ne (tgt := 431) hx hb dL_edits_411 (by decide) (fun c77 => ?_) (fun c77 => ?_)
      · replace h := ifn c77 h
        cases h
      · replace h := ifp c77 h
        refine lv_aload_n hx hb dL_edits_414 rfl (lv_at hl 2 rfl) ?_
        refine lv_iload hx hb dL_edits_415 (lv_at hl 9 rfl) ?_
        refine lv_iconst (v := iI 2) hx hb dL_edits_417 rfl ?_
        obtain ⟨r78, h_r78, h⟩ := obd h
        refine rcV (rest := []) X hKK hP 2 (zX4_node l D cI cC q r74.2.1 r74.2.2.1 r74.2.2.2.1 xd xl wi r74.2.2.2.2.1 r74.2.2.2.2.2.1 r74.2.2.2.2.2.2.1 r74.2.2.2.2.2.2.2.1 r74.2.2.2.2.2.2.2.2 ln ch x13 (iI 2) r78 h_r78) gL_edits_X4_node rfl rfl rfl hdX4_node ⟨Nat.le_of_ble_eq_true rfl, Nat.le_of_ble_eq_true rfl⟩ [0, 1, 2, 3, 4, 5, 6, 7, 8, 9, 10, 11, 12] rfl 0 rfl rfl rfl hl.1 rfl (Nat.le_of_ble_eq_true rfl) dL_edits_418 ⟨Nat.zero_le _, Nat.zero_le _⟩ ?_
        refine lv_iload hx hb dL_edits_421 (lv_at hl 1 rfl) ?_
        refine lv_iconst (v := iI 1) hx hb dL_edits_423 rfl ?_
        refine lv_isub hx hb dL_edits_424 ?_
        refine lv_iload hx hb dL_edits_425 (lv_at hl 7 rfl) ?_
        refine lv_iadd hx hb dL_edits_427 ?_
        refine lv_icmp_eq (tgt := 433) hx hb dL_edits_428 (by decide) (fun c79 => ?_) (fun c79 => ?_)
        · replace h := ifp c79 h
          exact kL_edits_433 X hKK hA r74.2.1 r74.2.2.1 r74.2.2.2.1 xd xl r74.2.2.2.2.1 r74.2.2.2.2.2.1 r74.2.2.2.2.2.2.1 r74.2.2.2.2.2.2.2.1 r74.2.2.2.2.2.2.2.2 x3 x4 x10 r74.1 _ _ ls hP hD hS (lv_sub hl [2, 3, 4, 8, 0] rfl) h
        · replace h := ifn c79 h
          cases h
  · replace h := ifp c75 h
    refine lv_iload hx hb dL_edits_384 (lv_at hl 0 rfl) ?_
    refine lv_bipush (v := iI (-3)) hx hb dL_edits_386 (by decide) ?_
    refine lv_icmp_eq (tgt := 433) hx hb dL_edits_388 (by decide) (fun c80 => ?_) (fun c80 => ?_)
    · replace h := ifp c80 h
      exact kL_edits_433 X hKK hA r74.2.1 r74.2.2.1 r74.2.2.2.1 xd xl r74.2.2.2.2.1 r74.2.2.2.2.2.1 r74.2.2.2.2.2.2.1 r74.2.2.2.2.2.2.2.1 r74.2.2.2.2.2.2.2.2 x3 x4 x10 r74.1 _ _ ls hP hD hS (lv_sub hl [2, 3, 4, 8, 0] rfl) h
    · replace h := ifn c80 h
      refine lv_goto (tgt := 431) hx hb dL_edits_391 (by decide) ?_
      cases h
set_option maxHeartbeats 4000000 in
set_option maxRecDepth 100000 in
theorem kL_edits_494 {p : Program} {l : Launch} {e : Env} {s : State} {m : MethodId} {args : Array Value} {below : List Frame} {meth : Method} {c : Code} {D : va_G} {cI cC : ClassId} {q : Nat → Nat} {wi : Int32} {ln : Int32} {ch : Nat → Int32} {r : Int32 × Int32 × (Nat → Int32) × (Nat → Int32) × (Nat → Int32) × (Nat → Int32) × Int32 × Int32 × (Nat → Int32) × (Nat → Int32) × (Nat → Int32)} {A : Nat → Prop} (X : CX p s m args meth c wsL_edits cL_edits 18 (some .int) RL) (hKK : KK D cI cC s) (hA : ∀ z, s.heap.size ≤ z → A z) : ∀ (n : Int32) (d : Nat → Int32) (lb : Nat → Int32) (xd : Nat → Int32) (xl : Nat → Int32) (sl : Int32) (kp : Int32) (ct : Nat → Int32) (gd : Nat → Int32) (gl : Nat → Int32) (x3 : Int32) (x4 : Int32) (x10 : Int64) (x12 : Int32) (H : Heap) (locs : List Loc) (ls : Array Slot), va_P D vwCl (wA cI q n d lb xd xl wi sl kp ct gd gl ln ch) H → va_D A (wA cI q n d lb xd xl wi sl kp ct gd gl ln ch) → va_S A s.heap H locs → lv_has ls 18 [(0, .ref (q 0)), (3, .int x3), (4, .int x4), (10, .long x10), (12, .int x12)] → mL_edits_494 n d lb xd xl sl kp ct gd gl x3 x4 x10 x12 = some r → W p l e rmL_edits s m args below meth c H locs 0 0 (MQ below (muQ D (some (.int r.1)) (wA cI q r.2.1 r.2.2.1 r.2.2.2.1 r.2.2.2.2.1 r.2.2.2.2.2.1 wi r.2.2.2.2.2.2.1 r.2.2.2.2.2.2.2.1 r.2.2.2.2.2.2.2.2.1 r.2.2.2.2.2.2.2.2.2.1 r.2.2.2.2.2.2.2.2.2.2 ln ch) A) args s 0 0 A) (F0 m 494 ls []) := by
  have hx := X.1
  have hb := X.2.1
  intro n d lb xd xl sl kp ct gd gl x3 x4 x10 x12 H locs ls hP hD hS hl h
  unfold mL_edits_494 at h
  refine lv_goto (tgt := 769) hx hb dL_edits_494 (by decide) ?_
  exact kL_edits_769 X hKK hA n d lb xd xl sl kp ct gd gl x3 x4 x10 x12 _ _ ls hP hD hS (lv_sub hl [0, 1, 2, 3, 4] rfl) h
set_option maxHeartbeats 4000000 in
set_option maxRecDepth 100000 in
theorem kL_edits_703 {p : Program} {l : Launch} {e : Env} {s : State} {m : MethodId} {args : Array Value} {below : List Frame} {meth : Method} {c : Code} {D : va_G} {cI cC : ClassId} {q : Nat → Nat} {wi : Int32} {ln : Int32} {ch : Nat → Int32} {r : Int32 × Int32 × (Nat → Int32) × (Nat → Int32) × (Nat → Int32) × (Nat → Int32) × Int32 × Int32 × (Nat → Int32) × (Nat → Int32) × (Nat → Int32)} {A : Nat → Prop} (X : CX p s m args meth c wsL_edits cL_edits 18 (some .int) RL) (hKK : KK D cI cC s) (hA : ∀ z, s.heap.size ≤ z → A z) : ∀ (n : Int32) (d : Nat → Int32) (lb : Nat → Int32) (xd : Nat → Int32) (xl : Nat → Int32) (sl : Int32) (kp : Int32) (ct : Nat → Int32) (gd : Nat → Int32) (gl : Nat → Int32) (x3 : Int32) (x4 : Int32) (x10 : Int64) (x12 : Int32) (H : Heap) (locs : List Loc) (ls : Array Slot), va_P D vwCl (wA cI q n d lb xd xl wi sl kp ct gd gl ln ch) H → va_D A (wA cI q n d lb xd xl wi sl kp ct gd gl ln ch) → va_S A s.heap H locs → lv_has ls 18 [(0, .ref (q 0)), (3, .int x3), (4, .int x4), (10, .long x10), (12, .int x12)] → mL_edits_703 n d lb xd xl sl kp ct gd gl x3 x4 x10 x12 = some r → W p l e rmL_edits s m args below meth c H locs 0 0 (MQ below (muQ D (some (.int r.1)) (wA cI q r.2.1 r.2.2.1 r.2.2.2.1 r.2.2.2.2.1 r.2.2.2.2.2.1 wi r.2.2.2.2.2.2.1 r.2.2.2.2.2.2.2.1 r.2.2.2.2.2.2.2.2.1 r.2.2.2.2.2.2.2.2.2.1 r.2.2.2.2.2.2.2.2.2.2 ln ch) A) args s 0 0 A) (F0 m 703 ls []) := by
  have hx := X.1
  have hb := X.2.1
  intro n d lb xd xl sl kp ct gd gl x3 x4 x10 x12 H locs ls hP hD hS hl h
  unfold mL_edits_703 at h
  refine lv_goto (tgt := 769) hx hb dL_edits_703 (by decide) ?_
  exact kL_edits_769 X hKK hA n d lb xd xl sl kp ct gd gl x3 x4 x10 x12 _ _ ls hP hD hS (lv_sub hl [0, 1, 2, 3, 4] rfl) h
set_option maxHeartbeats 4000000 in
set_option maxRecDepth 100000 in
theorem kL_edits_610 {p : Program} {l : Launch} {e : Env} {s : State} {m : MethodId} {args : Array Value} {below : List Frame} {meth : Method} {c : Code} {D : va_G} {cI cC : ClassId} {q : Nat → Nat} {wi : Int32} {ln : Int32} {ch : Nat → Int32} {r : Int32 × Int32 × (Nat → Int32) × (Nat → Int32) × (Nat → Int32) × (Nat → Int32) × Int32 × Int32 × (Nat → Int32) × (Nat → Int32) × (Nat → Int32)} {A : Nat → Prop} (X : CX p s m args meth c wsL_edits cL_edits 18 (some .int) RL) (hKK : KK D cI cC s) (hA : ∀ z, s.heap.size ≤ z → A z) : ∀ (n : Int32) (d : Nat → Int32) (lb : Nat → Int32) (xd : Nat → Int32) (xl : Nat → Int32) (sl : Int32) (kp : Int32) (ct : Nat → Int32) (gd : Nat → Int32) (gl : Nat → Int32) (x3 : Int32) (x4 : Int32) (x5 : Int32) (x6 : Int32) (x7 : Int32) (x10 : Int64) (x13 : Int32) (x14 : Int32) (x15 : Int32) (x16 : Int32) (x17 : Int32) (H : Heap) (locs : List Loc) (ls : Array Slot), va_P D vwCl (wA cI q n d lb xd xl wi sl kp ct gd gl ln ch) H → va_D A (wA cI q n d lb xd xl wi sl kp ct gd gl ln ch) → va_S A s.heap H locs → lv_has ls 18 [(0, .ref (q 0)), (3, .int x3), (4, .int x4), (5, .int x5), (6, .int x6), (7, .int x7), (10, .long x10), (13, .int x13), (14, .int x14), (15, .int x15), (16, .int x16), (17, .int x17)] → mL_edits_610 n d lb xd xl sl kp ct gd gl x3 x4 x5 x6 x7 x10 x13 x14 x15 x16 x17 = some r → W p l e rmL_edits s m args below meth c H locs 0 0 (MQ below (muQ D (some (.int r.1)) (wA cI q r.2.1 r.2.2.1 r.2.2.2.1 r.2.2.2.2.1 r.2.2.2.2.2.1 wi r.2.2.2.2.2.2.1 r.2.2.2.2.2.2.2.1 r.2.2.2.2.2.2.2.2.1 r.2.2.2.2.2.2.2.2.2.1 r.2.2.2.2.2.2.2.2.2.2 ln ch) A) args s 0 0 A) (F0 m 610 ls []) := by
  have hx := X.1
  have hb := X.2.1
  intro n d lb xd xl sl kp ct gd gl x3 x4 x5 x6 x7 x10 x13 x14 x15 x16 x17 H locs ls hP hD hS hl h
  unfold mL_edits_610 at h
  refine lv_aload_n hx hb dL_edits_610 rfl (lv_at hl 0 rfl) ?_
  refine lv_iload hx hb dL_edits_611 (lv_at hl 4 rfl) ?_
  refine lv_iload hx hb dL_edits_613 (lv_at hl 5 rfl) ?_
  refine lv_iload hx hb dL_edits_615 (lv_at hl 11 rfl) ?_
  obtain ⟨r88, h_r88, h⟩ := obd h
  refine mcV (rest := []) (wld2 := (wA cI q r88.2.1 r88.2.2.1 r88.2.2.2.1 r88.2.2.2.2.1 r88.2.2.2.2.2.1 wi r88.2.2.2.2.2.2.1 r88.2.2.2.2.2.2.2.1 r88.2.2.2.2.2.2.2.2.1 r88.2.2.2.2.2.2.2.2.2.1 r88.2.2.2.2.2.2.2.2.2.2 ln ch)) (wr := pickAt [] (wA cI q n d lb xd xl wi sl kp ct gd gl ln ch)) X hKK hP hD hS hA 3 (zX4_move l D cI cC q _ n d lb xd xl wi sl kp ct gd gl ln ch x6 x7 x17 r88 h_r88) gL_edits_X4_move rfl rfl rfl hdX4_move ⟨Nat.le_of_ble_eq_true rfl, Nat.le_of_ble_eq_true rfl⟩ [0, 1, 2, 3, 4, 5, 6, 7, 8, 9, 10, 11, 12] [] rfl rfl rfl rfl rfl (by decide) rfl [0, 1, 2, 3, 4, 5, 6, 7, 8, 9, 10, 11, 12] rfl rfl rfl 0 rfl rfl rfl hl.1 rfl (Nat.le_of_ble_eq_true rfl) dL_edits_617 ⟨Nat.zero_le _, Nat.zero_le _⟩ (fun H locs hP hD hS => ?_)
  refine lv_istore (lv' := [(12, .int r88.1), (0, .ref (q 0)), (3, .int x3), (4, .int x4), (5, .int x5), (6, .int x6), (7, .int x7), (10, .long x10), (13, .int x13), (14, .int x14), (15, .int x15), (16, .int x16), (17, .int x17)]) hx hb dL_edits_620 hl (by decide) rfl (fun ls hl => ?_)
  refine lv_iload hx hb dL_edits_622 (lv_at hl 8 rfl) ?_
  refine lv_if_eq (tgt := 637) hx hb dL_edits_624 (by decide) (fun c89 => ?_) (fun c89 => ?_)
  · replace h := ifp c89 h
    refine lv_aload_n hx hb dL_edits_637 rfl (lv_at hl 1 rfl) ?_
    refine rcV (rest := []) X hKK hP 0 (zX4_size l D cI cC q r88.2.1 r88.2.2.1 r88.2.2.2.1 r88.2.2.2.2.1 r88.2.2.2.2.2.1 wi r88.2.2.2.2.2.2.1 r88.2.2.2.2.2.2.2.1 r88.2.2.2.2.2.2.2.2.1 r88.2.2.2.2.2.2.2.2.2.1 r88.2.2.2.2.2.2.2.2.2.2 ln ch _ rfl) gL_edits_X4_size rfl rfl rfl hdX4_size ⟨Nat.le_of_ble_eq_true rfl, Nat.le_of_ble_eq_true rfl⟩ [0, 1, 2, 3, 4, 5, 6, 7, 8, 9, 10, 11, 12] rfl 0 rfl rfl rfl hl.1 rfl (Nat.le_of_ble_eq_true rfl) dL_edits_638 ⟨Nat.zero_le _, Nat.zero_le _⟩ ?_
    refine lv_iload hx hb dL_edits_641 (lv_at hl 4 rfl) ?_
    refine lv_icmp_ne (tgt := 701) hx hb dL_edits_643 (by decide) (fun c90 => ?_) (fun c90 => ?_)
    · replace h := ifn c90 h
      cases h
    · replace h := ifp c90 h
      refine lv_aload_n hx hb dL_edits_646 rfl (lv_at hl 1 rfl) ?_
      refine lv_iload hx hb dL_edits_647 (lv_at hl 0 rfl) ?_
      refine lv_iconst (v := iI 3) hx hb dL_edits_649 rfl ?_
      obtain ⟨r91, h_r91, h⟩ := obd h
      refine rcV (rest := []) X hKK hP 2 (zX4_node l D cI cC q r88.2.1 r88.2.2.1 r88.2.2.2.1 r88.2.2.2.2.1 r88.2.2.2.2.2.1 wi r88.2.2.2.2.2.2.1 r88.2.2.2.2.2.2.2.1 r88.2.2.2.2.2.2.2.2.1 r88.2.2.2.2.2.2.2.2.2.1 r88.2.2.2.2.2.2.2.2.2.2 ln ch r88.1 (iI 3) r91 h_r91) gL_edits_X4_node rfl rfl rfl hdX4_node ⟨Nat.le_of_ble_eq_true rfl, Nat.le_of_ble_eq_true rfl⟩ [0, 1, 2, 3, 4, 5, 6, 7, 8, 9, 10, 11, 12] rfl 0 rfl rfl rfl hl.1 rfl (Nat.le_of_ble_eq_true rfl) dL_edits_650 ⟨Nat.zero_le _, Nat.zero_le _⟩ ?_
      refine lv_iload hx hb dL_edits_653 (lv_at hl 9 rfl) ?_
      refine lv_icmp_ne (tgt := 701) hx hb dL_edits_655 (by decide) (fun c92 => ?_) (fun c92 => ?_)
      · replace h := ifn c92 h
        cases h
      · replace h := ifp c92 h
        refine lv_aload_n hx hb dL_edits_658 rfl (lv_at hl 1 rfl) ?_
        refine lv_iload hx hb dL_edits_659 (lv_at hl 0 rfl) ?_
        refine lv_iconst (v := iI 4) hx hb dL_edits_661 rfl ?_
        obtain ⟨r93, h_r93, h⟩ := obd h
        refine rcV (rest := []) X hKK hP 2 (zX4_node l D cI cC q r88.2.1 r88.2.2.1 r88.2.2.2.1 r88.2.2.2.2.1 r88.2.2.2.2.2.1 wi r88.2.2.2.2.2.2.1 r88.2.2.2.2.2.2.2.1 r88.2.2.2.2.2.2.2.2.1 r88.2.2.2.2.2.2.2.2.2.1 r88.2.2.2.2.2.2.2.2.2.2 ln ch r88.1 (iI 4) r93 h_r93) gL_edits_X4_node rfl rfl rfl hdX4_node ⟨Nat.le_of_ble_eq_true rfl, Nat.le_of_ble_eq_true rfl⟩ [0, 1, 2, 3, 4, 5, 6, 7, 8, 9, 10, 11, 12] rfl 0 rfl rfl rfl hl.1 rfl (Nat.le_of_ble_eq_true rfl) dL_edits_662 ⟨Nat.zero_le _, Nat.zero_le _⟩ ?_
        refine lv_iload hx hb dL_edits_665 (lv_at hl 10 rfl) ?_
        refine lv_icmp_ne (tgt := 701) hx hb dL_edits_667 (by decide) (fun c94 => ?_) (fun c94 => ?_)
        · replace h := ifn c94 h
          cases h
        · replace h := ifp c94 h
          refine lv_aload_n hx hb dL_edits_670 rfl (lv_at hl 1 rfl) ?_
          refine lv_iload hx hb dL_edits_671 (lv_at hl 0 rfl) ?_
          refine lv_iconst (v := iI 5) hx hb dL_edits_673 rfl ?_
          obtain ⟨r95, h_r95, h⟩ := obd h
          refine rcV (rest := []) X hKK hP 2 (zX4_node l D cI cC q r88.2.1 r88.2.2.1 r88.2.2.2.1 r88.2.2.2.2.1 r88.2.2.2.2.2.1 wi r88.2.2.2.2.2.2.1 r88.2.2.2.2.2.2.2.1 r88.2.2.2.2.2.2.2.2.1 r88.2.2.2.2.2.2.2.2.2.1 r88.2.2.2.2.2.2.2.2.2.2 ln ch r88.1 (iI 5) r95 h_r95) gL_edits_X4_node rfl rfl rfl hdX4_node ⟨Nat.le_of_ble_eq_true rfl, Nat.le_of_ble_eq_true rfl⟩ [0, 1, 2, 3, 4, 5, 6, 7, 8, 9, 10, 11, 12] rfl 0 rfl rfl rfl hl.1 rfl (Nat.le_of_ble_eq_true rfl) dL_edits_674 ⟨Nat.zero_le _, Nat.zero_le _⟩ ?_
          refine lv_iload hx hb dL_edits_677 (lv_at hl 12 rfl) ?_
          refine lv_icmp_ne (tgt := 701) hx hb dL_edits_679 (by decide) (fun c96 => ?_) (fun c96 => ?_)
          · replace h := ifn c96 h
            cases h
          · replace h := ifp c96 h
            refine lv_aload_n hx hb dL_edits_682 rfl (lv_at hl 1 rfl) ?_
            refine lv_aload_n hx hb dL_edits_683 rfl (lv_at hl 1 rfl) ?_
            refine lv_iload hx hb dL_edits_684 (lv_at hl 0 rfl) ?_
            refine lv_iconst (v := iI 1) hx hb dL_edits_686 rfl ?_
            obtain ⟨r97, h_r97, h⟩ := obd h
            refine rcV (rest := [.ref (q 0)]) X hKK hP 2 (zX4_node l D cI cC q r88.2.1 r88.2.2.1 r88.2.2.2.1 r88.2.2.2.2.1 r88.2.2.2.2.2.1 wi r88.2.2.2.2.2.2.1 r88.2.2.2.2.2.2.2.1 r88.2.2.2.2.2.2.2.2.1 r88.2.2.2.2.2.2.2.2.2.1 r88.2.2.2.2.2.2.2.2.2.2 ln ch r88.1 (iI 1) r97 h_r97) gL_edits_X4_node rfl rfl rfl hdX4_node ⟨Nat.le_of_ble_eq_true rfl, Nat.le_of_ble_eq_true rfl⟩ [0, 1, 2, 3, 4, 5, 6, 7, 8, 9, 10, 11, 12] rfl 0 rfl rfl rfl hl.1 rfl (Nat.le_of_ble_eq_true rfl) dL_edits_687 ⟨Nat.zero_le _, Nat.zero_le _⟩ ?_
            refine lv_iconst (v := iI 2) hx hb dL_edits_690 rfl ?_
            obtain ⟨r98, h_r98, h⟩ := obd h
            refine rcV (rest := []) X hKK hP 2 (zX4_node l D cI cC q r88.2.1 r88.2.2.1 r88.2.2.2.1 r88.2.2.2.2.1 r88.2.2.2.2.2.1 wi r88.2.2.2.2.2.2.1 r88.2.2.2.2.2.2.2.1 r88.2.2.2.2.2.2.2.2.1 r88.2.2.2.2.2.2.2.2.2.1 r88.2.2.2.2.2.2.2.2.2.2 ln ch r97 (iI 2) r98 h_r98) gL_edits_X4_node rfl rfl rfl hdX4_node ⟨Nat.le_of_ble_eq_true rfl, Nat.le_of_ble_eq_true rfl⟩ [0, 1, 2, 3, 4, 5, 6, 7, 8, 9, 10, 11, 12] rfl 0 rfl rfl rfl hl.1 rfl (Nat.le_of_ble_eq_true rfl) dL_edits_691 ⟨Nat.zero_le _, Nat.zero_le _⟩ ?_
            refine lv_iload hx hb dL_edits_694 (lv_at hl 11 rfl) ?_
            refine lv_iconst (v := iI 1) hx hb dL_edits_696 rfl ?_
            refine lv_iadd hx hb dL_edits_697 ?_
            refine lv_icmp_eq (tgt := 703) hx hb dL_edits_698 (by decide) (fun c99 => ?_) (fun c99 => ?_)
            · replace h := ifp c99 h
              exact kL_edits_703 X hKK hA r88.2.1 r88.2.2.1 r88.2.2.2.1 r88.2.2.2.2.1 r88.2.2.2.2.2.1 r88.2.2.2.2.2.2.1 r88.2.2.2.2.2.2.2.1 r88.2.2.2.2.2.2.2.2.1 r88.2.2.2.2.2.2.2.2.2.1 r88.2.2.2.2.2.2.2.2.2.2 x3 x4 x10 r88.1 _ _ ls hP hD hS (lv_sub hl [1, 2, 3, 7, 0] rfl) h
            · replace h := ifn c99 h
              cases h
  · replace h := ifn c89 h
    refine lv_iload hx hb dL_edits_627 (lv_at hl 0 rfl) ?_
    refine lv_bipush (v := iI (-3)) hx hb dL_edits_629 (by decide) ?_
    refine lv_icmp_eq (tgt := 703) hx hb dL_edits_631 (by decide) (fun c100 => ?_) (fun c100 => ?_)
    · replace h := ifp c100 h
      exact kL_edits_703 X hKK hA r88.2.1 r88.2.2.1 r88.2.2.2.1 r88.2.2.2.2.1 r88.2.2.2.2.2.1 r88.2.2.2.2.2.2.1 r88.2.2.2.2.2.2.2.1 r88.2.2.2.2.2.2.2.2.1 r88.2.2.2.2.2.2.2.2.2.1 r88.2.2.2.2.2.2.2.2.2.2 x3 x4 x10 r88.1 _ _ ls hP hD hS (lv_sub hl [1, 2, 3, 7, 0] rfl) h
    · replace h := ifn c100 h
      refine lv_goto (tgt := 701) hx hb dL_edits_634 (by decide) ?_
      cases h
set_option maxHeartbeats 4000000 in
set_option maxRecDepth 100000 in
theorem kL_edits_573 {p : Program} {l : Launch} {e : Env} {s : State} {m : MethodId} {args : Array Value} {below : List Frame} {meth : Method} {c : Code} {D : va_G} {cI cC : ClassId} {q : Nat → Nat} {wi : Int32} {ln : Int32} {ch : Nat → Int32} {r : Int32 × Int32 × (Nat → Int32) × (Nat → Int32) × (Nat → Int32) × (Nat → Int32) × Int32 × Int32 × (Nat → Int32) × (Nat → Int32) × (Nat → Int32)} {A : Nat → Prop} (X : CX p s m args meth c wsL_edits cL_edits 18 (some .int) RL) (hKK : KK D cI cC s) (hA : ∀ z, s.heap.size ≤ z → A z) : ∀ (n : Int32) (d : Nat → Int32) (lb : Nat → Int32) (xd : Nat → Int32) (xl : Nat → Int32) (sl : Int32) (kp : Int32) (ct : Nat → Int32) (gd : Nat → Int32) (gl : Nat → Int32) (x3 : Int32) (x4 : Int32) (x5 : Int32) (x6 : Int32) (x7 : Int32) (x10 : Int64) (x13 : Int32) (x14 : Int32) (x15 : Int32) (y0 : Int32) (y1 : Int32) (H : Heap) (locs : List Loc) (ls : Array Slot), va_P D vwCl (wA cI q n d lb xd xl wi sl kp ct gd gl ln ch) H → va_D A (wA cI q n d lb xd xl wi sl kp ct gd gl ln ch) → va_S A s.heap H locs → lv_has ls 18 [(0, .ref (q 0)), (3, .int x3), (4, .int x4), (5, .int x5), (6, .int x6), (7, .int x7), (10, .long x10), (13, .int x13), (14, .int x14), (15, .int x15)] → mL_edits_573 n d lb xd xl sl kp ct gd gl x3 x4 x5 x6 x7 x10 x13 x14 x15 y0 y1 = some r → W p l e rmL_edits s m args below meth c H locs 0 0 (MQ below (muQ D (some (.int r.1)) (wA cI q r.2.1 r.2.2.1 r.2.2.2.1 r.2.2.2.2.1 r.2.2.2.2.2.1 wi r.2.2.2.2.2.2.1 r.2.2.2.2.2.2.2.1 r.2.2.2.2.2.2.2.2.1 r.2.2.2.2.2.2.2.2.2.1 r.2.2.2.2.2.2.2.2.2.2 ln ch) A) args s 0 0 A) (F0 m 573 ls [.int y0, .int y1]) := by
  have hx := X.1
  have hb := X.2.1
  intro n d lb xd xl sl kp ct gd gl x3 x4 x5 x6 x7 x10 x13 x14 x15 y0 y1 H locs ls hP hD hS hl h
  unfold mL_edits_573 at h
  refine lv_isub hx hb dL_edits_573 ?_
  refine lv_istore (lv' := [(16, .int (y1 - y0)), (0, .ref (q 0)), (3, .int x3), (4, .int x4), (5, .int x5), (6, .int x6), (7, .int x7), (10, .long x10), (13, .int x13), (14, .int x14), (15, .int x15)]) hx hb dL_edits_574 hl (by decide) rfl (fun ls hl => ?_)
  refine lv_iload_n hx hb dL_edits_576 rfl (lv_at hl 2 rfl) ?_
  refine lv_iload hx hb dL_edits_577 (lv_at hl 0 rfl) ?_
  refine lv_iconst (v := iI 1) hx hb dL_edits_579 rfl ?_
  refine lv_iadd hx hb dL_edits_580 ?_
  obtain ⟨r84, h_r84, h⟩ := obd h
  refine rcS2 (rest := []) X hKK hP 2 (zL_low l D cI cC x3 ((y1 - y0) + (iI 1)) r84 h_r84) gL_edits_L_low rfl rfl rfl hdL_low.2 ⟨Nat.le_of_ble_eq_true rfl, Nat.le_of_ble_eq_true rfl⟩ [] rfl rfl hl.1 rfl (Nat.le_of_ble_eq_true rfl) dL_edits_581 ⟨Nat.zero_le _, Nat.zero_le _⟩ ?_
  refine lv_istore (lv' := [(17, .int r84), (16, .int (y1 - y0)), (0, .ref (q 0)), (3, .int x3), (4, .int x4), (5, .int x5), (6, .int x6), (7, .int x7), (10, .long x10), (13, .int x13), (14, .int x14), (15, .int x15)]) hx hb dL_edits_584 hl (by decide) rfl (fun ls hl => ?_)
  refine lv_iload hx hb dL_edits_586 (lv_at hl 9 rfl) ?_
  refine lv_if_ne (tgt := 610) hx hb dL_edits_588 (by decide) (fun c85 => ?_) (fun c85 => ?_)
  · replace h := ifn c85 h
    exact kL_edits_610 X hKK hA n d lb xd xl sl kp ct gd gl x3 x4 x5 x6 x7 x10 x13 x14 x15 (y1 - y0) r84 _ _ ls hP hD hS (lv_sub hl [2, 3, 4, 5, 6, 7, 8, 9, 10, 11, 1, 0] rfl) h
  · replace h := ifp c85 h
    refine lv_aload_n hx hb dL_edits_591 rfl (lv_at hl 2 rfl) ?_
    refine lv_iload hx hb dL_edits_592 (lv_at hl 6 rfl) ?_
    refine lv_iload hx hb dL_edits_594 (lv_at hl 7 rfl) ?_
    refine lv_iload hx hb dL_edits_596 (lv_at hl 1 rfl) ?_
    refine lv_iconst (v := iI 1) hx hb dL_edits_598 rfl ?_
    refine lv_iadd hx hb dL_edits_599 ?_
    obtain ⟨r86, h_r86, h⟩ := obd h
    refine mcV (rest := []) (wld2 := (wA cI q r86.2.1 r86.2.2.1 r86.2.2.2.1 r86.2.2.2.2.1 r86.2.2.2.2.2.1 wi r86.2.2.2.2.2.2.1 r86.2.2.2.2.2.2.2.1 r86.2.2.2.2.2.2.2.2.1 r86.2.2.2.2.2.2.2.2.2.1 r86.2.2.2.2.2.2.2.2.2.2 ln ch)) (wr := pickAt [] (wA cI q n d lb xd xl wi sl kp ct gd gl ln ch)) X hKK hP hD hS hA 3 (zX4_move l D cI cC q _ n d lb xd xl wi sl kp ct gd gl ln ch x6 x7 ((y1 - y0) + (iI 1)) r86 h_r86) gL_edits_X4_move rfl rfl rfl hdX4_move ⟨Nat.le_of_ble_eq_true rfl, Nat.le_of_ble_eq_true rfl⟩ [0, 1, 2, 3, 4, 5, 6, 7, 8, 9, 10, 11, 12] [] rfl rfl rfl rfl rfl (by decide) rfl [0, 1, 2, 3, 4, 5, 6, 7, 8, 9, 10, 11, 12] rfl rfl rfl 0 rfl rfl rfl hl.1 rfl (Nat.le_of_ble_eq_true rfl) dL_edits_600 ⟨Nat.zero_le _, Nat.zero_le _⟩ (fun H locs hP hD hS => ?_)
    refine lv_bipush (v := iI (-2)) hx hb dL_edits_603 (by decide) ?_
    refine lv_icmp_eq (tgt := 610) hx hb dL_edits_605 (by decide) (fun c87 => ?_) (fun c87 => ?_)
    · replace h := ifp c87 h
      exact kL_edits_610 X hKK hA r86.2.1 r86.2.2.1 r86.2.2.2.1 r86.2.2.2.2.1 r86.2.2.2.2.2.1 r86.2.2.2.2.2.2.1 r86.2.2.2.2.2.2.2.1 r86.2.2.2.2.2.2.2.2.1 r86.2.2.2.2.2.2.2.2.2.1 r86.2.2.2.2.2.2.2.2.2.2 x3 x4 x5 x6 x7 x10 x13 x14 x15 (y1 - y0) r84 _ _ ls hP hD hS (lv_sub hl [2, 3, 4, 5, 6, 7, 8, 9, 10, 11, 1, 0] rfl) h
    · replace h := ifn c87 h
      cases h
set_option maxHeartbeats 4000000 in
set_option maxRecDepth 100000 in
theorem kL_edits_529 {p : Program} {l : Launch} {e : Env} {s : State} {m : MethodId} {args : Array Value} {below : List Frame} {meth : Method} {c : Code} {D : va_G} {cI cC : ClassId} {q : Nat → Nat} {wi : Int32} {ln : Int32} {ch : Nat → Int32} {r : Int32 × Int32 × (Nat → Int32) × (Nat → Int32) × (Nat → Int32) × (Nat → Int32) × Int32 × Int32 × (Nat → Int32) × (Nat → Int32) × (Nat → Int32)} {A : Nat → Prop} (X : CX p s m args meth c wsL_edits cL_edits 18 (some .int) RL) (hKK : KK D cI cC s) (hA : ∀ z, s.heap.size ≤ z → A z) : ∀ (n : Int32) (d : Nat → Int32) (lb : Nat → Int32) (xd : Nat → Int32) (xl : Nat → Int32) (sl : Int32) (kp : Int32) (ct : Nat → Int32) (gd : Nat → Int32) (gl : Nat → Int32) (x3 : Int32) (x4 : Int32) (x5 : Int32) (x6 : Int32) (x7 : Int32) (x10 : Int64) (y0 : Int32) (H : Heap) (locs : List Loc) (ls : Array Slot), va_P D vwCl (wA cI q n d lb xd xl wi sl kp ct gd gl ln ch) H → va_D A (wA cI q n d lb xd xl wi sl kp ct gd gl ln ch) → va_S A s.heap H locs → lv_has ls 18 [(0, .ref (q 0)), (3, .int x3), (4, .int x4), (5, .int x5), (6, .int x6), (7, .int x7), (10, .long x10)] → mL_edits_529 n d lb xd xl sl kp ct gd gl x3 x4 x5 x6 x7 x10 y0 = some r → W p l e rmL_edits s m args below meth c H locs 0 0 (MQ below (muQ D (some (.int r.1)) (wA cI q r.2.1 r.2.2.1 r.2.2.2.1 r.2.2.2.2.1 r.2.2.2.2.2.1 wi r.2.2.2.2.2.2.1 r.2.2.2.2.2.2.2.1 r.2.2.2.2.2.2.2.2.1 r.2.2.2.2.2.2.2.2.2.1 r.2.2.2.2.2.2.2.2.2.2 ln ch) A) args s 0 0 A) (F0 m 529 ls [.int y0]) := by
  have hx := X.1
  have hb := X.2.1
  intro n d lb xd xl sl kp ct gd gl x3 x4 x5 x6 x7 x10 y0 H locs ls hP hD hS hl h
  unfold mL_edits_529 at h
  refine lv_istore (lv' := [(13, .int y0), (0, .ref (q 0)), (3, .int x3), (4, .int x4), (5, .int x5), (6, .int x6), (7, .int x7), (10, .long x10)]) hx hb dL_edits_529 hl (by decide) rfl (fun ls hl => ?_)
  refine lv_aload_n hx hb dL_edits_531 rfl (lv_at hl 1 rfl) ?_
  refine lv_iload hx hb dL_edits_532 (lv_at hl 5 rfl) ?_
  refine lv_iconst (v := iI 3) hx hb dL_edits_534 rfl ?_
  obtain ⟨r69, h_r69, h⟩ := obd h
  refine rcV (rest := []) X hKK hP 2 (zX4_node l D cI cC q n d lb xd xl wi sl kp ct gd gl ln ch x6 (iI 3) r69 h_r69) gL_edits_X4_node rfl rfl rfl hdX4_node ⟨Nat.le_of_ble_eq_true rfl, Nat.le_of_ble_eq_true rfl⟩ [0, 1, 2, 3, 4, 5, 6, 7, 8, 9, 10, 11, 12] rfl 0 rfl rfl rfl hl.1 rfl (Nat.le_of_ble_eq_true rfl) dL_edits_535 ⟨Nat.zero_le _, Nat.zero_le _⟩ ?_
  refine lv_istore (lv' := [(14, .int r69), (13, .int y0), (0, .ref (q 0)), (3, .int x3), (4, .int x4), (5, .int x5), (6, .int x6), (7, .int x7), (10, .long x10)]) hx hb dL_edits_538 hl (by decide) rfl (fun ls hl => ?_)
  refine lv_aload_n hx hb dL_edits_540 rfl (lv_at hl 2 rfl) ?_
  refine lv_iload hx hb dL_edits_541 (lv_at hl 6 rfl) ?_
  refine lv_iconst (v := iI 4) hx hb dL_edits_543 rfl ?_
  obtain ⟨r70, h_r70, h⟩ := obd h
  refine rcV (rest := []) X hKK hP 2 (zX4_node l D cI cC q n d lb xd xl wi sl kp ct gd gl ln ch x6 (iI 4) r70 h_r70) gL_edits_X4_node rfl rfl rfl hdX4_node ⟨Nat.le_of_ble_eq_true rfl, Nat.le_of_ble_eq_true rfl⟩ [0, 1, 2, 3, 4, 5, 6, 7, 8, 9, 10, 11, 12] rfl 0 rfl rfl rfl hl.1 rfl (Nat.le_of_ble_eq_true rfl) dL_edits_544 ⟨Nat.zero_le _, Nat.zero_le _⟩ ?_
  refine lv_istore (lv' := [(15, .int r70), (14, .int r69), (13, .int y0), (0, .ref (q 0)), (3, .int x3), (4, .int x4), (5, .int x5), (6, .int x6), (7, .int x7), (10, .long x10)]) hx hb dL_edits_547 hl (by decide) rfl (fun ls hl => ?_)
  refine lv_aload_n hx hb dL_edits_549 rfl (lv_at hl 3 rfl) ?_
  refine lv_iload hx hb dL_edits_550 (lv_at hl 8 rfl) ?_
  refine lv_iconst (v := iI 2) hx hb dL_edits_552 rfl ?_
  obtain ⟨r71, h_r71, h⟩ := obd h
  refine rcV (rest := []) X hKK hP 2 (zX4_node l D cI cC q n d lb xd xl wi sl kp ct gd gl ln ch x7 (iI 2) r71 h_r71) gL_edits_X4_node rfl rfl rfl hdX4_node ⟨Nat.le_of_ble_eq_true rfl, Nat.le_of_ble_eq_true rfl⟩ [0, 1, 2, 3, 4, 5, 6, 7, 8, 9, 10, 11, 12] rfl 0 rfl rfl rfl hl.1 rfl (Nat.le_of_ble_eq_true rfl) dL_edits_553 ⟨Nat.zero_le _, Nat.zero_le _⟩ ?_
  refine lv_aload_n hx hb dL_edits_556 rfl (lv_at hl 3 rfl) ?_
  refine lv_iload hx hb dL_edits_557 (lv_at hl 7 rfl) ?_
  refine lv_iconst (v := iI 1) hx hb dL_edits_559 rfl ?_
  obtain ⟨r72, h_r72, h⟩ := obd h
  refine rcV (rest := [.int r71]) X hKK hP 2 (zX4_node l D cI cC q n d lb xd xl wi sl kp ct gd gl ln ch x6 (iI 1) r72 h_r72) gL_edits_X4_node rfl rfl rfl hdX4_node ⟨Nat.le_of_ble_eq_true rfl, Nat.le_of_ble_eq_true rfl⟩ [0, 1, 2, 3, 4, 5, 6, 7, 8, 9, 10, 11, 12] rfl 0 rfl rfl rfl hl.1 rfl (Nat.le_of_ble_eq_true rfl) dL_edits_560 ⟨Nat.zero_le _, Nat.zero_le _⟩ ?_
  refine lv_iload hx hb dL_edits_563 (lv_at hl 8 rfl) ?_
  refine lv_icmp_ne (tgt := 572) hx hb dL_edits_565 (by decide) (fun c73 => ?_) (fun c73 => ?_)
  · replace h := ifn c73 h
    refine lv_iconst (v := iI 0) hx hb dL_edits_572 rfl ?_
    exact kL_edits_573 X hKK hA n d lb xd xl sl kp ct gd gl x3 x4 x5 x6 x7 x10 y0 r69 r70 (iI 0) r71 _ _ ls hP hD hS (lv_sub hl [3, 4, 5, 6, 7, 8, 9, 2, 1, 0] rfl) h
  · replace h := ifp c73 h
    refine lv_iconst (v := iI 1) hx hb dL_edits_568 rfl ?_
    refine lv_goto (tgt := 573) hx hb dL_edits_569 (by decide) ?_
    exact kL_edits_573 X hKK hA n d lb xd xl sl kp ct gd gl x3 x4 x5 x6 x7 x10 y0 r69 r70 (iI 1) r71 _ _ ls hP hD hS (lv_sub hl [3, 4, 5, 6, 7, 8, 9, 2, 1, 0] rfl) h
set_option maxHeartbeats 4000000 in
set_option maxRecDepth 100000 in
theorem kL_edits_528 {p : Program} {l : Launch} {e : Env} {s : State} {m : MethodId} {args : Array Value} {below : List Frame} {meth : Method} {c : Code} {D : va_G} {cI cC : ClassId} {q : Nat → Nat} {wi : Int32} {ln : Int32} {ch : Nat → Int32} {r : Int32 × Int32 × (Nat → Int32) × (Nat → Int32) × (Nat → Int32) × (Nat → Int32) × Int32 × Int32 × (Nat → Int32) × (Nat → Int32) × (Nat → Int32)} {A : Nat → Prop} (X : CX p s m args meth c wsL_edits cL_edits 18 (some .int) RL) (hKK : KK D cI cC s) (hA : ∀ z, s.heap.size ≤ z → A z) : ∀ (n : Int32) (d : Nat → Int32) (lb : Nat → Int32) (xd : Nat → Int32) (xl : Nat → Int32) (sl : Int32) (kp : Int32) (ct : Nat → Int32) (gd : Nat → Int32) (gl : Nat → Int32) (x3 : Int32) (x4 : Int32) (x5 : Int32) (x6 : Int32) (x7 : Int32) (x10 : Int64) (H : Heap) (locs : List Loc) (ls : Array Slot), va_P D vwCl (wA cI q n d lb xd xl wi sl kp ct gd gl ln ch) H → va_D A (wA cI q n d lb xd xl wi sl kp ct gd gl ln ch) → va_S A s.heap H locs → lv_has ls 18 [(0, .ref (q 0)), (3, .int x3), (4, .int x4), (5, .int x5), (6, .int x6), (7, .int x7), (10, .long x10)] → mL_edits_528 n d lb xd xl sl kp ct gd gl x3 x4 x5 x6 x7 x10 = some r → W p l e rmL_edits s m args below meth c H locs 0 0 (MQ below (muQ D (some (.int r.1)) (wA cI q r.2.1 r.2.2.1 r.2.2.2.1 r.2.2.2.2.1 r.2.2.2.2.2.1 wi r.2.2.2.2.2.2.1 r.2.2.2.2.2.2.2.1 r.2.2.2.2.2.2.2.2.1 r.2.2.2.2.2.2.2.2.2.1 r.2.2.2.2.2.2.2.2.2.2 ln ch) A) args s 0 0 A) (F0 m 528 ls []) := by
  have hx := X.1
  have hb := X.2.1
  intro n d lb xd xl sl kp ct gd gl x3 x4 x5 x6 x7 x10 H locs ls hP hD hS hl h
  unfold mL_edits_528 at h
  refine lv_iconst (v := iI 0) hx hb dL_edits_528 rfl ?_
  exact kL_edits_529 X hKK hA n d lb xd xl sl kp ct gd gl x3 x4 x5 x6 x7 x10 (iI 0) _ _ ls hP hD hS (lv_sub hl [0, 1, 2, 3, 4, 5, 6] rfl) h
set_option maxHeartbeats 4000000 in
set_option maxRecDepth 100000 in
theorem zL_edits (l : Launch) (D : va_G) (cI cC : ClassId) (q : Nat → Nat) (sz : Nat) (n : Int32) (d : Nat → Int32) (lb : Nat → Int32) (xd : Nat → Int32) (xl : Nat → Int32) (wi : Int32) (sl : Int32) (kp : Int32) (ct : Nat → Int32) (gd : Nat → Int32) (gl : Nat → Int32) (ln : Int32) (ch : Nat → Int32) (x1 : Int32) (x2 : Int32) (x3 : Int32) (x4 : Int32) (r : Int32 × Int32 × (Nat → Int32) × (Nat → Int32) × (Nat → Int32) × (Nat → Int32) × Int32 × Int32 × (Nat → Int32) × (Nat → Int32) × (Nat → Int32)) (h : mL_edits n d lb xd xl sl kp ct gd gl x1 x2 x3 x4 = some r) : Met l yL_edits wsL_edits rmL_edits (va_Pc [.ref (q 0), .int x1, .int x2, .int x3, .int x4] (MB D cI cC sz (wA cI q n d lb xd xl wi sl kp ct gd gl ln ch))) (muQ D (some (.int r.1)) (wA cI q r.2.1 r.2.2.1 r.2.2.2.1 r.2.2.2.2.1 r.2.2.2.2.2.1 wi r.2.2.2.2.2.2.1 r.2.2.2.2.2.2.2.1 r.2.2.2.2.2.2.2.2.1 r.2.2.2.2.2.2.2.2.2.1 r.2.2.2.2.2.2.2.2.2.2 ln ch) (va_A (wA cI q n d lb xd xl wi sl kp ct gd gl ln ch) sz)) 0 0 (va_A (wA cI q n d lb xd xl wi sl kp ct gd gl ln ch) sz) := by
  refine MetI RL (by decide +kernel) rfl rfl (Nat.le_of_ble_eq_true rfl) ?_
  intro p e s m below meth c ls X _ hB hl
  obtain ⟨hsz, ⟨hP, hKK⟩, hD0⟩ := hB
  subst hsz
  have hD := hD0.self (sz := s.heap.size)
  generalize hAe : va_A (wA cI q n d lb xd xl wi sl kp ct gd gl ln ch) s.heap.size = A at hD ⊢
  have hA : ∀ z : Nat, s.heap.size ≤ z → A z := fun z hz => by rw [← hAe]; exact Or.inr hz
  have hS : va_S A s.heap s.heap [] := va_S.rf
  have hx := X.1
  have hb := X.2.1
  replace hl : lv_has ls 18 [(0, .ref (q 0)), (1, .int x1), (2, .int x2), (3, .int x3), (4, .int x4)] := hl
  replace hP : va_P D vwCl (wA cI q n d lb xd xl wi sl kp ct gd gl ln ch) s.heap := hP
  unfold mL_edits at h
  refine lv_aload_n hx hb dL_edits_0 rfl (lv_at hl 0 rfl) ?_
  refine rcV (rest := []) X hKK hP 0 (zX4_size l D cI cC q n d lb xd xl wi sl kp ct gd gl ln ch _ rfl) gL_edits_X4_size rfl rfl rfl hdX4_size ⟨Nat.le_of_ble_eq_true rfl, Nat.le_of_ble_eq_true rfl⟩ [0, 1, 2, 3, 4, 5, 6, 7, 8, 9, 10, 11, 12] rfl 0 rfl rfl rfl hl.1 rfl (Nat.le_of_ble_eq_true rfl) dL_edits_1 ⟨Nat.zero_le _, Nat.zero_le _⟩ ?_
  refine lv_istore (lv' := [(5, .int (mX4_size n)), (0, .ref (q 0)), (1, .int x1), (2, .int x2), (3, .int x3), (4, .int x4)]) hx hb dL_edits_4 hl (by decide) rfl (fun ls hl => ?_)
  refine lv_iload_n hx hb dL_edits_6 rfl (lv_at hl 3 rfl) ?_
  refine lv_iconst (v := iI 4) hx hb dL_edits_7 rfl ?_
  refine lv_ishr hx hb dL_edits_8 ?_
  refine lv_iload hx hb dL_edits_9 (lv_at hl 0 rfl) ?_
  obtain ⟨r1, h_r1, h⟩ := obd h
  refine rcS2 (rest := []) X hKK hP 2 (zL_low l D cI cC (x2 >>> ((iI 4) &&& 31)) (mX4_size n) r1 h_r1) gL_edits_L_low rfl rfl rfl hdL_low.2 ⟨Nat.le_of_ble_eq_true rfl, Nat.le_of_ble_eq_true rfl⟩ [] rfl rfl hl.1 rfl (Nat.le_of_ble_eq_true rfl) dL_edits_11 ⟨Nat.zero_le _, Nat.zero_le _⟩ ?_
  refine lv_istore (lv' := [(6, .int r1), (5, .int (mX4_size n)), (0, .ref (q 0)), (1, .int x1), (2, .int x2), (3, .int x3), (4, .int x4)]) hx hb dL_edits_14 hl (by decide) rfl (fun ls hl => ?_)
  refine lv_iload_n hx hb dL_edits_16 rfl (lv_at hl 4 rfl) ?_
  refine lv_bipush (v := iI 11) hx hb dL_edits_17 (by decide) ?_
  refine lv_ishr hx hb dL_edits_19 ?_
  refine lv_iload hx hb dL_edits_20 (lv_at hl 1 rfl) ?_
  obtain ⟨r2, h_r2, h⟩ := obd h
  refine rcS2 (rest := []) X hKK hP 2 (zL_low l D cI cC (x2 >>> ((iI 11) &&& 31)) (mX4_size n) r2 h_r2) gL_edits_L_low rfl rfl rfl hdL_low.2 ⟨Nat.le_of_ble_eq_true rfl, Nat.le_of_ble_eq_true rfl⟩ [] rfl rfl hl.1 rfl (Nat.le_of_ble_eq_true rfl) dL_edits_22 ⟨Nat.zero_le _, Nat.zero_le _⟩ ?_
  refine lv_istore (lv' := [(7, .int r2), (6, .int r1), (5, .int (mX4_size n)), (0, .ref (q 0)), (1, .int x1), (2, .int x2), (3, .int x3), (4, .int x4)]) hx hb dL_edits_25 hl (by decide) rfl (fun ls hl => ?_)
  refine lv_bipush (v := iI 97) hx hb dL_edits_27 (by decide) ?_
  refine lv_iload_n hx hb dL_edits_29 rfl (lv_at hl 6 rfl) ?_
  refine lv_iconst (v := iI 5) hx hb dL_edits_30 rfl ?_
  obtain ⟨r3, h_r3, h⟩ := obd h
  refine rcS2 (rest := [.int (iI 97)]) X hKK hP 2 (zL_low l D cI cC x3 (iI 5) r3 h_r3) gL_edits_L_low rfl rfl rfl hdL_low.2 ⟨Nat.le_of_ble_eq_true rfl, Nat.le_of_ble_eq_true rfl⟩ [] rfl rfl hl.1 rfl (Nat.le_of_ble_eq_true rfl) dL_edits_31 ⟨Nat.zero_le _, Nat.zero_le _⟩ ?_
  refine lv_iadd hx hb dL_edits_34 ?_
  refine lv_i2c (v := c16 ((iI 97) + r3)) hx hb dL_edits_35 rfl ?_
  refine lv_istore (lv' := [(8, .int (c16 ((iI 97) + r3))), (7, .int r2), (6, .int r1), (5, .int (mX4_size n)), (0, .ref (q 0)), (1, .int x1), (2, .int x2), (3, .int x3), (4, .int x4)]) hx hb dL_edits_36 hl (by decide) rfl (fun ls hl => ?_)
  refine lv_aload_n hx hb dL_edits_38 rfl (lv_at hl 4 rfl) ?_
  refine lv_iload hx hb dL_edits_39 (lv_at hl 2 rfl) ?_
  refine lv_iconst (v := iI 2) hx hb dL_edits_41 rfl ?_
  obtain ⟨r4, h_r4, h⟩ := obd h
  refine rcV (rest := []) X hKK hP 2 (zX4_node l D cI cC q n d lb xd xl wi sl kp ct gd gl ln ch r1 (iI 2) r4 h_r4) gL_edits_X4_node rfl rfl rfl hdX4_node ⟨Nat.le_of_ble_eq_true rfl, Nat.le_of_ble_eq_true rfl⟩ [0, 1, 2, 3, 4, 5, 6, 7, 8, 9, 10, 11, 12] rfl 0 rfl rfl rfl hl.1 rfl (Nat.le_of_ble_eq_true rfl) dL_edits_42 ⟨Nat.zero_le _, Nat.zero_le _⟩ ?_
  refine lv_istore (lv' := [(9, .int r4), (8, .int (c16 ((iI 97) + r3))), (7, .int r2), (6, .int r1), (5, .int (mX4_size n)), (0, .ref (q 0)), (1, .int x1), (2, .int x2), (3, .int x3), (4, .int x4)]) hx hb dL_edits_45 hl (by decide) rfl (fun ls hl => ?_)
  refine lv_aload_n hx hb dL_edits_47 rfl (lv_at hl 5 rfl) ?_
  obtain ⟨r5, h_r5, h⟩ := obd h
  refine rcL2 (rest := []) X hKK hP 1 (zL_print l D cI cC q n d lb xd xl wi sl kp ct gd gl ln ch r5 h_r5) gL_edits_L_print rfl rfl rfl hdL_print.2 ⟨Nat.le_of_ble_eq_true rfl, Nat.le_of_ble_eq_true rfl⟩ [0, 1, 2, 3, 4, 5, 6, 7, 8, 9, 10, 11, 12] rfl rfl hl.1 rfl (Nat.le_of_ble_eq_true rfl) dL_edits_48 ⟨Nat.zero_le _, Nat.zero_le _⟩ ?_
  refine lv_lstore (lv' := [(10, .long r5), (9, .int r4), (8, .int (c16 ((iI 97) + r3))), (7, .int r2), (6, .int r1), (5, .int (mX4_size n)), (0, .ref (q 0)), (1, .int x1), (2, .int x2), (3, .int x3), (4, .int x4)]) hx hb dL_edits_51 hl (by decide) rfl (fun ls hl => ?_)
  refine lv_iload_n hx hb dL_edits_53 rfl (lv_at hl 7 rfl) ?_
  refine lv_iconst (v := iI 2) hx hb dL_edits_54 rfl ?_
  refine lv_icmp_ge (tgt := 190) hx hb dL_edits_55 (by decide) (fun c6 => ?_) (fun c6 => ?_)
  · replace h := ifp c6 h
    refine lv_iload_n hx hb dL_edits_190 rfl (lv_at hl 7 rfl) ?_
    refine lv_iconst (v := iI 2) hx hb dL_edits_191 rfl ?_
    refine lv_icmp_ne (tgt := 339) hx hb dL_edits_192 (by decide) (fun c7 => ?_) (fun c7 => ?_)
    · replace h := ifn c7 h
      refine lv_iload_n hx hb dL_edits_339 rfl (lv_at hl 7 rfl) ?_
      refine lv_iconst (v := iI 3) hx hb dL_edits_340 rfl ?_
      refine lv_icmp_ne (tgt := 436) hx hb dL_edits_341 (by decide) (fun c8 => ?_) (fun c8 => ?_)
      · replace h := ifn c8 h
        refine lv_iload_n hx hb dL_edits_436 rfl (lv_at hl 7 rfl) ?_
        refine lv_iconst (v := iI 4) hx hb dL_edits_437 rfl ?_
        refine lv_icmp_ne (tgt := 497) hx hb dL_edits_438 (by decide) (fun c9 => ?_) (fun c9 => ?_)
        · replace h := ifn c9 h
          refine lv_iload_n hx hb dL_edits_497 rfl (lv_at hl 7 rfl) ?_
          refine lv_iconst (v := iI 5) hx hb dL_edits_498 rfl ?_
          refine lv_icmp_ne (tgt := 706) hx hb dL_edits_499 (by decide) (fun c10 => ?_) (fun c10 => ?_)
          · replace h := ifn c10 h
            refine lv_aload_n hx hb dL_edits_706 rfl (lv_at hl 6 rfl) ?_
            refine lv_iload hx hb dL_edits_707 (lv_at hl 4 rfl) ?_
            refine lv_bipush (v := iI 10) hx hb dL_edits_709 (by decide) ?_
            obtain ⟨r11, h_r11, h⟩ := obd h
            refine rcV (rest := []) X hKK hP 2 (zX4_node l D cI cC q n d lb xd xl wi sl kp ct gd gl ln ch r1 (iI 10) r11 h_r11) gL_edits_X4_node rfl rfl rfl hdX4_node ⟨Nat.le_of_ble_eq_true rfl, Nat.le_of_ble_eq_true rfl⟩ [0, 1, 2, 3, 4, 5, 6, 7, 8, 9, 10, 11, 12] rfl 0 rfl rfl rfl hl.1 rfl (Nat.le_of_ble_eq_true rfl) dL_edits_711 ⟨Nat.zero_le _, Nat.zero_le _⟩ ?_
            refine lv_istore (lv' := [(13, .int r11), (10, .long r5), (9, .int r4), (8, .int (c16 ((iI 97) + r3))), (7, .int r2), (6, .int r1), (5, .int (mX4_size n)), (0, .ref (q 0)), (1, .int x1), (2, .int x2), (3, .int x3), (4, .int x4)]) hx hb dL_edits_714 hl (by decide) rfl (fun ls hl => ?_)
            refine lv_aload_n hx hb dL_edits_716 rfl (lv_at hl 7 rfl) ?_
            refine lv_iload hx hb dL_edits_717 (lv_at hl 5 rfl) ?_
            refine lv_iload hx hb dL_edits_719 (lv_at hl 3 rfl) ?_
            obtain ⟨r12, h_r12, h⟩ := obd h
            refine mcV (rest := []) (wld2 := (wA cI q n r12.2.1 r12.2.2.1 xd xl wi r12.2.2.2.1 r12.2.2.2.2.1 r12.2.2.2.2.2.1 r12.2.2.2.2.2.2.1 r12.2.2.2.2.2.2.2 ln ch)) (wr := pickAt [] (wA cI q n d lb xd xl wi sl kp ct gd gl ln ch)) X hKK hP hD hS hA 2 (zX4_setLabel l D cI cC q _ n d lb xd xl wi sl kp ct gd gl ln ch r1 (c16 ((iI 97) + r3)) r12 h_r12) gL_edits_X4_setLabel rfl rfl rfl hdX4_setLabel ⟨Nat.le_of_ble_eq_true rfl, Nat.le_of_ble_eq_true rfl⟩ [0, 1, 2, 3, 4, 5, 6, 7, 8, 9, 10, 11, 12] [] rfl rfl rfl rfl rfl (by decide) rfl [0, 1, 2, 3, 4, 5, 6, 7, 8, 9, 10, 11, 12] rfl rfl rfl 0 rfl rfl rfl hl.1 rfl (Nat.le_of_ble_eq_true rfl) dL_edits_721 ⟨Nat.zero_le _, Nat.zero_le _⟩ (fun H locs hP hD hS => ?_)
            refine lv_iload hx hb dL_edits_724 (lv_at hl 0 rfl) ?_
            refine lv_icmp_ne (tgt := 733) hx hb dL_edits_726 (by decide) (fun c13 => ?_) (fun c13 => ?_)
            · replace h := ifn c13 h
              cases h
            · replace h := ifp c13 h
              refine lv_iconst (v := iI 0) hx hb dL_edits_729 rfl ?_
              refine lv_goto (tgt := 734) hx hb dL_edits_730 (by decide) ?_
              refine lv_istore (lv' := [(12, .int (iI 0)), (13, .int r11), (10, .long r5), (9, .int r4), (8, .int (c16 ((iI 97) + r3))), (7, .int r2), (6, .int r1), (5, .int (mX4_size n)), (0, .ref (q 0)), (1, .int x1), (2, .int x2), (3, .int x3), (4, .int x4)]) hx hb dL_edits_734 hl (by decide) rfl (fun ls hl => ?_)
              refine lv_iload hx hb dL_edits_736 (lv_at hl 0 rfl) ?_
              refine lv_if_lt (tgt := 767) hx hb dL_edits_738 (by decide) (fun c14 => ?_) (fun c14 => ?_)
              · replace h := ifp c14 h
                cases h
              · replace h := ifn c14 h
                refine lv_aload_n hx hb dL_edits_741 rfl (lv_at hl 8 rfl) ?_
                refine lv_iload hx hb dL_edits_742 (lv_at hl 6 rfl) ?_
                refine lv_bipush (v := iI 10) hx hb dL_edits_744 (by decide) ?_
                obtain ⟨r15, h_r15, h⟩ := obd h
                refine rcV (rest := []) X hKK hP 2 (zX4_node l D cI cC q n r12.2.1 r12.2.2.1 xd xl wi r12.2.2.2.1 r12.2.2.2.2.1 r12.2.2.2.2.2.1 r12.2.2.2.2.2.2.1 r12.2.2.2.2.2.2.2 ln ch r1 (iI 10) r15 h_r15) gL_edits_X4_node rfl rfl rfl hdX4_node ⟨Nat.le_of_ble_eq_true rfl, Nat.le_of_ble_eq_true rfl⟩ [0, 1, 2, 3, 4, 5, 6, 7, 8, 9, 10, 11, 12] rfl 0 rfl rfl rfl hl.1 rfl (Nat.le_of_ble_eq_true rfl) dL_edits_746 ⟨Nat.zero_le _, Nat.zero_le _⟩ ?_
                refine lv_iload hx hb dL_edits_749 (lv_at hl 4 rfl) ?_
                refine lv_icmp_ne (tgt := 767) hx hb dL_edits_751 (by decide) (fun c16 => ?_) (fun c16 => ?_)
                · replace h := ifn c16 h
                  cases h
                · replace h := ifp c16 h
                  refine lv_aload_n hx hb dL_edits_754 rfl (lv_at hl 8 rfl) ?_
                  refine lv_iload hx hb dL_edits_755 (lv_at hl 6 rfl) ?_
                  refine lv_bipush (v := iI 90) hx hb dL_edits_757 (by decide) ?_
                  obtain ⟨r17, h_r17, h⟩ := obd h
                  refine mcV (rest := []) (wld2 := (wA cI q n r17.2.1 r17.2.2.1 xd xl wi r17.2.2.2.1 r17.2.2.2.2.1 r17.2.2.2.2.2.1 r17.2.2.2.2.2.2.1 r17.2.2.2.2.2.2.2 ln ch)) (wr := pickAt [] (wA cI q n r12.2.1 r12.2.2.1 xd xl wi r12.2.2.2.1 r12.2.2.2.2.1 r12.2.2.2.2.2.1 r12.2.2.2.2.2.2.1 r12.2.2.2.2.2.2.2 ln ch)) X hKK hP hD hS hA 2 (zX4_setLabel l D cI cC q _ n r12.2.1 r12.2.2.1 xd xl wi r12.2.2.2.1 r12.2.2.2.2.1 r12.2.2.2.2.2.1 r12.2.2.2.2.2.2.1 r12.2.2.2.2.2.2.2 ln ch r1 (iI 90) r17 h_r17) gL_edits_X4_setLabel rfl rfl rfl hdX4_setLabel ⟨Nat.le_of_ble_eq_true rfl, Nat.le_of_ble_eq_true rfl⟩ [0, 1, 2, 3, 4, 5, 6, 7, 8, 9, 10, 11, 12] [] rfl rfl rfl rfl rfl (by decide) rfl [0, 1, 2, 3, 4, 5, 6, 7, 8, 9, 10, 11, 12] rfl rfl rfl 0 rfl rfl rfl hl.1 rfl (Nat.le_of_ble_eq_true rfl) dL_edits_759 ⟨Nat.zero_le _, Nat.zero_le _⟩ (fun H locs hP hD hS => ?_)
                  refine lv_bipush (v := iI (-2)) hx hb dL_edits_762 (by decide) ?_
                  refine lv_icmp_eq (tgt := 769) hx hb dL_edits_764 (by decide) (fun c18 => ?_) (fun c18 => ?_)
                  · replace h := ifp c18 h
                    exact kL_edits_769 X hKK hA n r17.2.1 r17.2.2.1 xd xl r17.2.2.2.1 r17.2.2.2.2.1 r17.2.2.2.2.2.1 r17.2.2.2.2.2.2.1 r17.2.2.2.2.2.2.2 x3 x4 r5 (iI 0) _ _ ls hP hD hS (lv_sub hl [8, 11, 12, 2, 0] rfl) h
                  · replace h := ifn c18 h
                    cases h
          · replace h := ifp c10 h
            refine lv_iload hx hb dL_edits_502 (lv_at hl 3 rfl) ?_
            refine lv_iload hx hb dL_edits_504 (lv_at hl 4 rfl) ?_
            refine lv_icmp_lt (tgt := 528) hx hb dL_edits_506 (by decide) (fun c19 => ?_) (fun c19 => ?_)
            · replace h := ifp c19 h
              exact kL_edits_528 X hKK hA n d lb xd xl sl kp ct gd gl x3 x4 (mX4_size n) r1 r2 r5 _ _ ls hP hD hS (lv_sub hl [6, 9, 10, 5, 4, 3, 0] rfl) h
            · replace h := ifn c19 h
              refine lv_iload hx hb dL_edits_509 (lv_at hl 3 rfl) ?_
              refine lv_iload hx hb dL_edits_511 (lv_at hl 4 rfl) ?_
              refine lv_aload_n hx hb dL_edits_513 rfl (lv_at hl 6 rfl) ?_
              refine lv_iload hx hb dL_edits_514 (lv_at hl 4 rfl) ?_
              refine lv_iconst (v := iI 3) hx hb dL_edits_516 rfl ?_
              obtain ⟨r20, h_r20, h⟩ := obd h
              refine rcV (rest := [.int r1, .int r2]) X hKK hP 2 (zX4_node l D cI cC q n d lb xd xl wi sl kp ct gd gl ln ch r1 (iI 3) r20 h_r20) gL_edits_X4_node rfl rfl rfl hdX4_node ⟨Nat.le_of_ble_eq_true rfl, Nat.le_of_ble_eq_true rfl⟩ [0, 1, 2, 3, 4, 5, 6, 7, 8, 9, 10, 11, 12] rfl 0 rfl rfl rfl hl.1 rfl (Nat.le_of_ble_eq_true rfl) dL_edits_517 ⟨Nat.zero_le _, Nat.zero_le _⟩ ?_
              refine lv_iadd hx hb dL_edits_520 ?_
              refine lv_icmp_ge (tgt := 528) hx hb dL_edits_521 (by decide) (fun c21 => ?_) (fun c21 => ?_)
              · replace h := ifp c21 h
                exact kL_edits_528 X hKK hA n d lb xd xl sl kp ct gd gl x3 x4 (mX4_size n) r1 r2 r5 _ _ ls hP hD hS (lv_sub hl [6, 9, 10, 5, 4, 3, 0] rfl) h
              · replace h := ifn c21 h
                refine lv_iconst (v := iI 1) hx hb dL_edits_524 rfl ?_
                refine lv_goto (tgt := 529) hx hb dL_edits_525 (by decide) ?_
                exact kL_edits_529 X hKK hA n d lb xd xl sl kp ct gd gl x3 x4 (mX4_size n) r1 r2 r5 (iI 1) _ _ ls hP hD hS (lv_sub hl [6, 9, 10, 5, 4, 3, 0] rfl) h
        · replace h := ifp c9 h
          refine lv_aload_n hx hb dL_edits_441 rfl (lv_at hl 6 rfl) ?_
          refine lv_iload hx hb dL_edits_442 (lv_at hl 4 rfl) ?_
          refine lv_iconst (v := iI 3) hx hb dL_edits_444 rfl ?_
          obtain ⟨r22, h_r22, h⟩ := obd h
          refine rcV (rest := []) X hKK hP 2 (zX4_node l D cI cC q n d lb xd xl wi sl kp ct gd gl ln ch r1 (iI 3) r22 h_r22) gL_edits_X4_node rfl rfl rfl hdX4_node ⟨Nat.le_of_ble_eq_true rfl, Nat.le_of_ble_eq_true rfl⟩ [0, 1, 2, 3, 4, 5, 6, 7, 8, 9, 10, 11, 12] rfl 0 rfl rfl rfl hl.1 rfl (Nat.le_of_ble_eq_true rfl) dL_edits_445 ⟨Nat.zero_le _, Nat.zero_le _⟩ ?_
          refine lv_istore (lv' := [(13, .int r22), (10, .long r5), (9, .int r4), (8, .int (c16 ((iI 97) + r3))), (7, .int r2), (6, .int r1), (5, .int (mX4_size n)), (0, .ref (q 0)), (1, .int x1), (2, .int x2), (3, .int x3), (4, .int x4)]) hx hb dL_edits_448 hl (by decide) rfl (fun ls hl => ?_)
          refine lv_aload_n hx hb dL_edits_450 rfl (lv_at hl 7 rfl) ?_
          refine lv_iload hx hb dL_edits_451 (lv_at hl 5 rfl) ?_
          obtain ⟨r23, h_r23, h⟩ := obd h
          refine mcV (rest := []) (wld2 := (wA cI q r23.2.1 r23.2.2.1 r23.2.2.2.1 xd xl wi r23.2.2.2.2.1 r23.2.2.2.2.2.1 r23.2.2.2.2.2.2.1 r23.2.2.2.2.2.2.2.1 r23.2.2.2.2.2.2.2.2 ln ch)) (wr := pickAt [] (wA cI q n d lb xd xl wi sl kp ct gd gl ln ch)) X hKK hP hD hS hA 1 (zX4_cut l D cI cC q _ n d lb xd xl wi sl kp ct gd gl ln ch r1 r23 h_r23) gL_edits_X4_cut rfl rfl rfl hdX4_cut ⟨Nat.le_of_ble_eq_true rfl, Nat.le_of_ble_eq_true rfl⟩ [0, 1, 2, 3, 4, 5, 6, 7, 8, 9, 10, 11, 12] [] rfl rfl rfl rfl rfl (by decide) rfl [0, 1, 2, 3, 4, 5, 6, 7, 8, 9, 10, 11, 12] rfl rfl rfl 0 rfl rfl rfl hl.1 rfl (Nat.le_of_ble_eq_true rfl) dL_edits_453 ⟨Nat.zero_le _, Nat.zero_le _⟩ (fun H locs hP hD hS => ?_)
          refine lv_istore (lv' := [(12, .int r23.1), (13, .int r22), (10, .long r5), (9, .int r4), (8, .int (c16 ((iI 97) + r3))), (7, .int r2), (6, .int r1), (5, .int (mX4_size n)), (0, .ref (q 0)), (1, .int x1), (2, .int x2), (3, .int x3), (4, .int x4)]) hx hb dL_edits_456 hl (by decide) rfl (fun ls hl => ?_)
          refine lv_iload hx hb dL_edits_458 (lv_at hl 6 rfl) ?_
          refine lv_if_ne (tgt := 473) hx hb dL_edits_460 (by decide) (fun c24 => ?_) (fun c24 => ?_)
          · replace h := ifn c24 h
            refine lv_iload hx hb dL_edits_473 (lv_at hl 0 rfl) ?_
            refine lv_iload hx hb dL_edits_475 (lv_at hl 7 rfl) ?_
            refine lv_iload hx hb dL_edits_477 (lv_at hl 1 rfl) ?_
            refine lv_isub hx hb dL_edits_479 ?_
            refine lv_icmp_ne (tgt := 492) hx hb dL_edits_480 (by decide) (fun c25 => ?_) (fun c25 => ?_)
            · replace h := ifn c25 h
              cases h
            · replace h := ifp c25 h
              refine lv_aload_n hx hb dL_edits_483 rfl (lv_at hl 8 rfl) ?_
              refine rcV (rest := []) X hKK hP 0 (zX4_size l D cI cC q r23.2.1 r23.2.2.1 r23.2.2.2.1 xd xl wi r23.2.2.2.2.1 r23.2.2.2.2.2.1 r23.2.2.2.2.2.2.1 r23.2.2.2.2.2.2.2.1 r23.2.2.2.2.2.2.2.2 ln ch _ rfl) gL_edits_X4_size rfl rfl rfl hdX4_size ⟨Nat.le_of_ble_eq_true rfl, Nat.le_of_ble_eq_true rfl⟩ [0, 1, 2, 3, 4, 5, 6, 7, 8, 9, 10, 11, 12] rfl 0 rfl rfl rfl hl.1 rfl (Nat.le_of_ble_eq_true rfl) dL_edits_484 ⟨Nat.zero_le _, Nat.zero_le _⟩ ?_
              refine lv_iload hx hb dL_edits_487 (lv_at hl 0 rfl) ?_
              refine lv_icmp_eq (tgt := 494) hx hb dL_edits_489 (by decide) (fun c26 => ?_) (fun c26 => ?_)
              · replace h := ifp c26 h
                exact kL_edits_494 X hKK hA r23.2.1 r23.2.2.1 r23.2.2.2.1 xd xl r23.2.2.2.2.1 r23.2.2.2.2.2.1 r23.2.2.2.2.2.2.1 r23.2.2.2.2.2.2.2.1 r23.2.2.2.2.2.2.2.2 x3 x4 r5 r23.1 _ _ ls hP hD hS (lv_sub hl [8, 11, 12, 2, 0] rfl) h
              · replace h := ifn c26 h
                cases h
          · replace h := ifp c24 h
            refine lv_iload hx hb dL_edits_463 (lv_at hl 0 rfl) ?_
            refine lv_bipush (v := iI (-3)) hx hb dL_edits_465 (by decide) ?_
            refine lv_icmp_eq (tgt := 494) hx hb dL_edits_467 (by decide) (fun c27 => ?_) (fun c27 => ?_)
            · replace h := ifp c27 h
              exact kL_edits_494 X hKK hA r23.2.1 r23.2.2.1 r23.2.2.2.1 xd xl r23.2.2.2.2.1 r23.2.2.2.2.2.1 r23.2.2.2.2.2.2.1 r23.2.2.2.2.2.2.2.1 r23.2.2.2.2.2.2.2.2 x3 x4 r5 r23.1 _ _ ls hP hD hS (lv_sub hl [8, 11, 12, 2, 0] rfl) h
            · replace h := ifn c27 h
              refine lv_goto (tgt := 492) hx hb dL_edits_470 (by decide) ?_
              cases h
      · replace h := ifp c8 h
        refine lv_aload_n hx hb dL_edits_344 rfl (lv_at hl 6 rfl) ?_
        refine lv_iload hx hb dL_edits_345 (lv_at hl 4 rfl) ?_
        refine lv_iconst (v := iI 1) hx hb dL_edits_347 rfl ?_
        obtain ⟨r28, h_r28, h⟩ := obd h
        refine rcV (rest := []) X hKK hP 2 (zX4_node l D cI cC q n d lb xd xl wi sl kp ct gd gl ln ch r1 (iI 1) r28 h_r28) gL_edits_X4_node rfl rfl rfl hdX4_node ⟨Nat.le_of_ble_eq_true rfl, Nat.le_of_ble_eq_true rfl⟩ [0, 1, 2, 3, 4, 5, 6, 7, 8, 9, 10, 11, 12] rfl 0 rfl rfl rfl hl.1 rfl (Nat.le_of_ble_eq_true rfl) dL_edits_348 ⟨Nat.zero_le _, Nat.zero_le _⟩ ?_
        refine lv_istore (lv' := [(13, .int r28), (10, .long r5), (9, .int r4), (8, .int (c16 ((iI 97) + r3))), (7, .int r2), (6, .int r1), (5, .int (mX4_size n)), (0, .ref (q 0)), (1, .int x1), (2, .int x2), (3, .int x3), (4, .int x4)]) hx hb dL_edits_351 hl (by decide) rfl (fun ls hl => ?_)
        refine lv_iload hx hb dL_edits_353 (lv_at hl 5 rfl) ?_
        refine lv_if_ne (tgt := 362) hx hb dL_edits_355 (by decide) (fun c29 => ?_) (fun c29 => ?_)
        · replace h := ifn c29 h
          refine lv_aload_n hx hb dL_edits_362 rfl (lv_at hl 7 rfl) ?_
          refine lv_iload hx hb dL_edits_363 (lv_at hl 0 rfl) ?_
          refine lv_iconst (v := iI 2) hx hb dL_edits_365 rfl ?_
          obtain ⟨r30, h_r30, h⟩ := obd h
          refine rcV (rest := []) X hKK hP 2 (zX4_node l D cI cC q n d lb xd xl wi sl kp ct gd gl ln ch r28 (iI 2) r30 h_r30) gL_edits_X4_node rfl rfl rfl hdX4_node ⟨Nat.le_of_ble_eq_true rfl, Nat.le_of_ble_eq_true rfl⟩ [0, 1, 2, 3, 4, 5, 6, 7, 8, 9, 10, 11, 12] rfl 0 rfl rfl rfl hl.1 rfl (Nat.le_of_ble_eq_true rfl) dL_edits_366 ⟨Nat.zero_le _, Nat.zero_le _⟩ ?_
          exact kL_edits_369 X hKK hA n d lb xd xl sl kp ct gd gl x3 x4 (mX4_size n) r1 r4 r5 r28 r30 _ _ ls hP hD hS (lv_sub hl [7, 10, 11, 6, 5, 2, 1, 0] rfl) h
        · replace h := ifp c29 h
          refine lv_iconst (v := iI 0) hx hb dL_edits_358 rfl ?_
          refine lv_goto (tgt := 369) hx hb dL_edits_359 (by decide) ?_
          exact kL_edits_369 X hKK hA n d lb xd xl sl kp ct gd gl x3 x4 (mX4_size n) r1 r4 r5 r28 (iI 0) _ _ ls hP hD hS (lv_sub hl [7, 10, 11, 6, 5, 2, 1, 0] rfl) h
    · replace h := ifp c7 h
      refine lv_iload_n hx hb dL_edits_195 rfl (lv_at hl 9 rfl) ?_
      refine lv_iconst (v := iI 4) hx hb dL_edits_196 rfl ?_
      refine lv_ishr hx hb dL_edits_197 ?_
      refine lv_iload hx hb dL_edits_198 (lv_at hl 1 rfl) ?_
      refine lv_iconst (v := iI 1) hx hb dL_edits_200 rfl ?_
      refine lv_iadd hx hb dL_edits_201 ?_
      obtain ⟨r31, h_r31, h⟩ := obd h
      refine rcS2 (rest := []) X hKK hP 2 (zL_low l D cI cC (x3 >>> ((iI 4) &&& 31)) (r4 + (iI 1)) r31 h_r31) gL_edits_L_low rfl rfl rfl hdL_low.2 ⟨Nat.le_of_ble_eq_true rfl, Nat.le_of_ble_eq_true rfl⟩ [] rfl rfl hl.1 rfl (Nat.le_of_ble_eq_true rfl) dL_edits_202 ⟨Nat.zero_le _, Nat.zero_le _⟩ ?_
      refine lv_istore (lv' := [(13, .int r31), (10, .long r5), (9, .int r4), (8, .int (c16 ((iI 97) + r3))), (7, .int r2), (6, .int r1), (5, .int (mX4_size n)), (0, .ref (q 0)), (1, .int x1), (2, .int x2), (3, .int x3), (4, .int x4)]) hx hb dL_edits_205 hl (by decide) rfl (fun ls hl => ?_)
      refine lv_iload_n hx hb dL_edits_207 rfl (lv_at hl 10 rfl) ?_
      refine lv_bipush (v := iI 9) hx hb dL_edits_208 (by decide) ?_
      refine lv_ishr hx hb dL_edits_210 ?_
      refine lv_iload hx hb dL_edits_211 (lv_at hl 2 rfl) ?_
      refine lv_iload hx hb dL_edits_213 (lv_at hl 0 rfl) ?_
      refine lv_isub hx hb dL_edits_215 ?_
      refine lv_iconst (v := iI 1) hx hb dL_edits_216 rfl ?_
      refine lv_iadd hx hb dL_edits_217 ?_
      obtain ⟨r32, h_r32, h⟩ := obd h
      refine rcS2 (rest := []) X hKK hP 2 (zL_low l D cI cC (x3 >>> ((iI 9) &&& 31)) ((r4 - r31) + (iI 1)) r32 h_r32) gL_edits_L_low rfl rfl rfl hdL_low.2 ⟨Nat.le_of_ble_eq_true rfl, Nat.le_of_ble_eq_true rfl⟩ [] rfl rfl hl.1 rfl (Nat.le_of_ble_eq_true rfl) dL_edits_218 ⟨Nat.zero_le _, Nat.zero_le _⟩ ?_
      refine lv_istore (lv' := [(14, .int r32), (13, .int r31), (10, .long r5), (9, .int r4), (8, .int (c16 ((iI 97) + r3))), (7, .int r2), (6, .int r1), (5, .int (mX4_size n)), (0, .ref (q 0)), (1, .int x1), (2, .int x2), (3, .int x3), (4, .int x4)]) hx hb dL_edits_221 hl (by decide) rfl (fun ls hl => ?_)
      refine lv_aload_n hx hb dL_edits_223 rfl (lv_at hl 8 rfl) ?_
      refine lv_iload hx hb dL_edits_224 (lv_at hl 6 rfl) ?_
      refine lv_iload hx hb dL_edits_226 (lv_at hl 1 rfl) ?_
      refine lv_iload hx hb dL_edits_228 (lv_at hl 0 rfl) ?_
      refine lv_iload hx hb dL_edits_230 (lv_at hl 4 rfl) ?_
      obtain ⟨r33, h_r33, h⟩ := obd h
      refine mcV (rest := []) (wld2 := (wA cI q r33.2.1 r33.2.2.1 r33.2.2.2.1 xd xl wi r33.2.2.2.2.1 r33.2.2.2.2.2.1 r33.2.2.2.2.2.2.1 r33.2.2.2.2.2.2.2.1 r33.2.2.2.2.2.2.2.2 ln ch)) (wr := pickAt [] (wA cI q n d lb xd xl wi sl kp ct gd gl ln ch)) X hKK hP hD hS hA 4 (zX4_wrap l D cI cC q _ n d lb xd xl wi sl kp ct gd gl ln ch r1 r31 r32 (c16 ((iI 97) + r3)) r33 h_r33) gL_edits_X4_wrap rfl rfl rfl hdX4_wrap ⟨Nat.le_of_ble_eq_true rfl, Nat.le_of_ble_eq_true rfl⟩ [0, 1, 2, 3, 4, 5, 6, 7, 8, 9, 10, 11, 12] [] rfl rfl rfl rfl rfl (by decide) rfl [0, 1, 2, 3, 4, 5, 6, 7, 8, 9, 10, 11, 12] rfl rfl rfl 0 rfl rfl rfl hl.1 rfl (Nat.le_of_ble_eq_true rfl) dL_edits_232 ⟨Nat.zero_le _, Nat.zero_le _⟩ (fun H locs hP hD hS => ?_)
      refine lv_istore (lv' := [(12, .int r33.1), (14, .int r32), (13, .int r31), (10, .long r5), (9, .int r4), (8, .int (c16 ((iI 97) + r3))), (7, .int r2), (6, .int r1), (5, .int (mX4_size n)), (0, .ref (q 0)), (1, .int x1), (2, .int x2), (3, .int x3), (4, .int x4)]) hx hb dL_edits_235 hl (by decide) rfl (fun ls hl => ?_)
      refine lv_iload hx hb dL_edits_237 (lv_at hl 8 rfl) ?_
      refine lv_bipush (v := iI 100) hx hb dL_edits_239 (by decide) ?_
      refine lv_icmp_ne (tgt := 254) hx hb dL_edits_241 (by decide) (fun c34 => ?_) (fun c34 => ?_)
      · replace h := ifn c34 h
        refine lv_aload_n hx hb dL_edits_254 rfl (lv_at hl 9 rfl) ?_
        refine rcV (rest := []) X hKK hP 0 (zX4_size l D cI cC q r33.2.1 r33.2.2.1 r33.2.2.2.1 xd xl wi r33.2.2.2.2.1 r33.2.2.2.2.2.1 r33.2.2.2.2.2.2.1 r33.2.2.2.2.2.2.2.1 r33.2.2.2.2.2.2.2.2 ln ch _ rfl) gL_edits_X4_size rfl rfl rfl hdX4_size ⟨Nat.le_of_ble_eq_true rfl, Nat.le_of_ble_eq_true rfl⟩ [0, 1, 2, 3, 4, 5, 6, 7, 8, 9, 10, 11, 12] rfl 0 rfl rfl rfl hl.1 rfl (Nat.le_of_ble_eq_true rfl) dL_edits_255 ⟨Nat.zero_le _, Nat.zero_le _⟩ ?_
        refine lv_iload hx hb dL_edits_258 (lv_at hl 8 rfl) ?_
        refine lv_iconst (v := iI 1) hx hb dL_edits_260 rfl ?_
        refine lv_iadd hx hb dL_edits_261 ?_
        refine lv_icmp_ne (tgt := 334) hx hb dL_edits_262 (by decide) (fun c35 => ?_) (fun c35 => ?_)
        · replace h := ifn c35 h
          cases h
        · replace h := ifp c35 h
          refine lv_aload_n hx hb dL_edits_265 rfl (lv_at hl 9 rfl) ?_
          refine lv_iload hx hb dL_edits_266 (lv_at hl 0 rfl) ?_
          refine lv_iconst (v := iI 1) hx hb dL_edits_268 rfl ?_
          obtain ⟨r36, h_r36, h⟩ := obd h
          refine rcV (rest := []) X hKK hP 2 (zX4_node l D cI cC q r33.2.1 r33.2.2.1 r33.2.2.2.1 xd xl wi r33.2.2.2.2.1 r33.2.2.2.2.2.1 r33.2.2.2.2.2.2.1 r33.2.2.2.2.2.2.2.1 r33.2.2.2.2.2.2.2.2 ln ch r33.1 (iI 1) r36 h_r36) gL_edits_X4_node rfl rfl rfl hdX4_node ⟨Nat.le_of_ble_eq_true rfl, Nat.le_of_ble_eq_true rfl⟩ [0, 1, 2, 3, 4, 5, 6, 7, 8, 9, 10, 11, 12] rfl 0 rfl rfl rfl hl.1 rfl (Nat.le_of_ble_eq_true rfl) dL_edits_269 ⟨Nat.zero_le _, Nat.zero_le _⟩ ?_
          refine lv_iload hx hb dL_edits_272 (lv_at hl 7 rfl) ?_
          refine lv_icmp_ne (tgt := 334) hx hb dL_edits_274 (by decide) (fun c37 => ?_) (fun c37 => ?_)
          · replace h := ifn c37 h
            cases h
          · replace h := ifp c37 h
            refine lv_aload_n hx hb dL_edits_277 rfl (lv_at hl 9 rfl) ?_
            refine lv_iload hx hb dL_edits_278 (lv_at hl 0 rfl) ?_
            refine lv_iconst (v := iI 2) hx hb dL_edits_280 rfl ?_
            obtain ⟨r38, h_r38, h⟩ := obd h
            refine rcV (rest := []) X hKK hP 2 (zX4_node l D cI cC q r33.2.1 r33.2.2.1 r33.2.2.2.1 xd xl wi r33.2.2.2.2.1 r33.2.2.2.2.2.1 r33.2.2.2.2.2.2.1 r33.2.2.2.2.2.2.2.1 r33.2.2.2.2.2.2.2.2 ln ch r33.1 (iI 2) r38 h_r38) gL_edits_X4_node rfl rfl rfl hdX4_node ⟨Nat.le_of_ble_eq_true rfl, Nat.le_of_ble_eq_true rfl⟩ [0, 1, 2, 3, 4, 5, 6, 7, 8, 9, 10, 11, 12] rfl 0 rfl rfl rfl hl.1 rfl (Nat.le_of_ble_eq_true rfl) dL_edits_281 ⟨Nat.zero_le _, Nat.zero_le _⟩ ?_
            refine lv_iload hx hb dL_edits_284 (lv_at hl 1 rfl) ?_
            refine lv_icmp_ne (tgt := 334) hx hb dL_edits_286 (by decide) (fun c39 => ?_) (fun c39 => ?_)
            · replace h := ifn c39 h
              cases h
            · replace h := ifp c39 h
              refine lv_aload_n hx hb dL_edits_289 rfl (lv_at hl 9 rfl) ?_
              refine lv_iload hx hb dL_edits_290 (lv_at hl 0 rfl) ?_
              refine lv_iconst (v := iI 5) hx hb dL_edits_292 rfl ?_
              obtain ⟨r40, h_r40, h⟩ := obd h
              refine rcV (rest := []) X hKK hP 2 (zX4_node l D cI cC q r33.2.1 r33.2.2.1 r33.2.2.2.1 xd xl wi r33.2.2.2.2.1 r33.2.2.2.2.2.1 r33.2.2.2.2.2.2.1 r33.2.2.2.2.2.2.2.1 r33.2.2.2.2.2.2.2.2 ln ch r33.1 (iI 5) r40 h_r40) gL_edits_X4_node rfl rfl rfl hdX4_node ⟨Nat.le_of_ble_eq_true rfl, Nat.le_of_ble_eq_true rfl⟩ [0, 1, 2, 3, 4, 5, 6, 7, 8, 9, 10, 11, 12] rfl 0 rfl rfl rfl hl.1 rfl (Nat.le_of_ble_eq_true rfl) dL_edits_293 ⟨Nat.zero_le _, Nat.zero_le _⟩ ?_
              refine lv_iload hx hb dL_edits_296 (lv_at hl 2 rfl) ?_
              refine lv_icmp_ne (tgt := 334) hx hb dL_edits_298 (by decide) (fun c41 => ?_) (fun c41 => ?_)
              · replace h := ifn c41 h
                cases h
              · replace h := ifp c41 h
                refine lv_aload_n hx hb dL_edits_301 rfl (lv_at hl 9 rfl) ?_
                refine lv_iload hx hb dL_edits_302 (lv_at hl 7 rfl) ?_
                refine lv_iconst (v := iI 2) hx hb dL_edits_304 rfl ?_
                obtain ⟨r42, h_r42, h⟩ := obd h
                refine rcV (rest := []) X hKK hP 2 (zX4_node l D cI cC q r33.2.1 r33.2.2.1 r33.2.2.2.1 xd xl wi r33.2.2.2.2.1 r33.2.2.2.2.2.1 r33.2.2.2.2.2.2.1 r33.2.2.2.2.2.2.2.1 r33.2.2.2.2.2.2.2.2 ln ch r1 (iI 2) r42 h_r42) gL_edits_X4_node rfl rfl rfl hdX4_node ⟨Nat.le_of_ble_eq_true rfl, Nat.le_of_ble_eq_true rfl⟩ [0, 1, 2, 3, 4, 5, 6, 7, 8, 9, 10, 11, 12] rfl 0 rfl rfl rfl hl.1 rfl (Nat.le_of_ble_eq_true rfl) dL_edits_305 ⟨Nat.zero_le _, Nat.zero_le _⟩ ?_
                refine lv_iload hx hb dL_edits_308 (lv_at hl 4 rfl) ?_
                refine lv_iload hx hb dL_edits_310 (lv_at hl 1 rfl) ?_
                refine lv_isub hx hb dL_edits_312 ?_
                refine lv_iconst (v := iI 1) hx hb dL_edits_313 rfl ?_
                refine lv_iadd hx hb dL_edits_314 ?_
                refine lv_icmp_ne (tgt := 334) hx hb dL_edits_315 (by decide) (fun c43 => ?_) (fun c43 => ?_)
                · replace h := ifn c43 h
                  cases h
                · replace h := ifp c43 h
                  refine lv_aload_n hx hb dL_edits_318 rfl (lv_at hl 9 rfl) ?_
                  refine lv_iload hx hb dL_edits_319 (lv_at hl 7 rfl) ?_
                  refine lv_iconst (v := iI 0) hx hb dL_edits_321 rfl ?_
                  refine lv_bipush (v := iI 101) hx hb dL_edits_322 (by decide) ?_
                  refine lv_iload hx hb dL_edits_324 (lv_at hl 5 rfl) ?_
                  obtain ⟨r44, h_r44, h⟩ := obd h
                  refine mcV (rest := []) (wld2 := (wA cI q r44.2.1 r44.2.2.1 r44.2.2.2.1 xd xl wi r44.2.2.2.2.1 r44.2.2.2.2.2.1 r44.2.2.2.2.2.2.1 r44.2.2.2.2.2.2.2.1 r44.2.2.2.2.2.2.2.2 ln ch)) (wr := pickAt [] (wA cI q r33.2.1 r33.2.2.1 r33.2.2.2.1 xd xl wi r33.2.2.2.2.1 r33.2.2.2.2.2.1 r33.2.2.2.2.2.2.1 r33.2.2.2.2.2.2.2.1 r33.2.2.2.2.2.2.2.2 ln ch)) X hKK hP hD hS hA 4 (zX4_wrap l D cI cC q _ r33.2.1 r33.2.2.1 r33.2.2.2.1 xd xl wi r33.2.2.2.2.1 r33.2.2.2.2.2.1 r33.2.2.2.2.2.2.1 r33.2.2.2.2.2.2.2.1 r33.2.2.2.2.2.2.2.2 ln ch r1 (iI 0) (iI 101) (c16 ((iI 97) + r3)) r44 h_r44) gL_edits_X4_wrap rfl rfl rfl hdX4_wrap ⟨Nat.le_of_ble_eq_true rfl, Nat.le_of_ble_eq_true rfl⟩ [0, 1, 2, 3, 4, 5, 6, 7, 8, 9, 10, 11, 12] [] rfl rfl rfl rfl rfl (by decide) rfl [0, 1, 2, 3, 4, 5, 6, 7, 8, 9, 10, 11, 12] rfl rfl rfl 0 rfl rfl rfl hl.1 rfl (Nat.le_of_ble_eq_true rfl) dL_edits_326 ⟨Nat.zero_le _, Nat.zero_le _⟩ (fun H locs hP hD hS => ?_)
                  refine lv_bipush (v := iI (-2)) hx hb dL_edits_329 (by decide) ?_
                  refine lv_icmp_eq (tgt := 336) hx hb dL_edits_331 (by decide) (fun c45 => ?_) (fun c45 => ?_)
                  · replace h := ifp c45 h
                    refine lv_goto (tgt := 769) hx hb dL_edits_336 (by decide) ?_
                    exact kL_edits_769 X hKK hA r44.2.1 r44.2.2.1 r44.2.2.2.1 xd xl r44.2.2.2.2.1 r44.2.2.2.2.2.1 r44.2.2.2.2.2.2.1 r44.2.2.2.2.2.2.2.1 r44.2.2.2.2.2.2.2.2 x3 x4 r5 r33.1 _ _ ls hP hD hS (lv_sub hl [9, 12, 13, 3, 0] rfl) h
                  · replace h := ifn c45 h
                    cases h
      · replace h := ifp c34 h
        cases h
  · replace h := ifn c6 h
    refine lv_iload_n hx hb dL_edits_58 rfl (lv_at hl 9 rfl) ?_
    refine lv_iconst (v := iI 4) hx hb dL_edits_59 rfl ?_
    refine lv_ishr hx hb dL_edits_60 ?_
    refine lv_iload hx hb dL_edits_61 (lv_at hl 1 rfl) ?_
    refine lv_iconst (v := iI 1) hx hb dL_edits_63 rfl ?_
    refine lv_iadd hx hb dL_edits_64 ?_
    obtain ⟨r46, h_r46, h⟩ := obd h
    refine rcS2 (rest := []) X hKK hP 2 (zL_low l D cI cC (x3 >>> ((iI 4) &&& 31)) (r4 + (iI 1)) r46 h_r46) gL_edits_L_low rfl rfl rfl hdL_low.2 ⟨Nat.le_of_ble_eq_true rfl, Nat.le_of_ble_eq_true rfl⟩ [] rfl rfl hl.1 rfl (Nat.le_of_ble_eq_true rfl) dL_edits_65 ⟨Nat.zero_le _, Nat.zero_le _⟩ ?_
    refine lv_istore (lv' := [(13, .int r46), (10, .long r5), (9, .int r4), (8, .int (c16 ((iI 97) + r3))), (7, .int r2), (6, .int r1), (5, .int (mX4_size n)), (0, .ref (q 0)), (1, .int x1), (2, .int x2), (3, .int x3), (4, .int x4)]) hx hb dL_edits_68 hl (by decide) rfl (fun ls hl => ?_)
    refine lv_aload_n hx hb dL_edits_70 rfl (lv_at hl 7 rfl) ?_
    refine lv_iload hx hb dL_edits_71 (lv_at hl 5 rfl) ?_
    refine lv_iload hx hb dL_edits_73 (lv_at hl 0 rfl) ?_
    refine lv_iload hx hb dL_edits_75 (lv_at hl 3 rfl) ?_
    obtain ⟨r47, h_r47, h⟩ := obd h
    refine mcV (rest := []) (wld2 := (wA cI q r47.2.1 r47.2.2.1 r47.2.2.2.1 xd xl wi r47.2.2.2.2.1 r47.2.2.2.2.2.1 r47.2.2.2.2.2.2.1 r47.2.2.2.2.2.2.2.1 r47.2.2.2.2.2.2.2.2 ln ch)) (wr := pickAt [] (wA cI q n d lb xd xl wi sl kp ct gd gl ln ch)) X hKK hP hD hS hA 3 (zX4_insert l D cI cC q _ n d lb xd xl wi sl kp ct gd gl ln ch r1 r46 (c16 ((iI 97) + r3)) r47 h_r47) gL_edits_X4_insert rfl rfl rfl hdX4_insert ⟨Nat.le_of_ble_eq_true rfl, Nat.le_of_ble_eq_true rfl⟩ [0, 1, 2, 3, 4, 5, 6, 7, 8, 9, 10, 11, 12] [] rfl rfl rfl rfl rfl (by decide) rfl [0, 1, 2, 3, 4, 5, 6, 7, 8, 9, 10, 11, 12] rfl rfl rfl 0 rfl rfl rfl hl.1 rfl (Nat.le_of_ble_eq_true rfl) dL_edits_77 ⟨Nat.zero_le _, Nat.zero_le _⟩ (fun H locs hP hD hS => ?_)
    refine lv_istore (lv' := [(12, .int r47.1), (13, .int r46), (10, .long r5), (9, .int r4), (8, .int (c16 ((iI 97) + r3))), (7, .int r2), (6, .int r1), (5, .int (mX4_size n)), (0, .ref (q 0)), (1, .int x1), (2, .int x2), (3, .int x3), (4, .int x4)]) hx hb dL_edits_80 hl (by decide) rfl (fun ls hl => ?_)
    refine lv_iload hx hb dL_edits_82 (lv_at hl 7 rfl) ?_
    refine lv_bipush (v := iI 100) hx hb dL_edits_84 (by decide) ?_
    refine lv_icmp_ne (tgt := 99) hx hb dL_edits_86 (by decide) (fun c48 => ?_) (fun c48 => ?_)
    · replace h := ifn c48 h
      refine lv_aload_n hx hb dL_edits_99 rfl (lv_at hl 8 rfl) ?_
      refine rcV (rest := []) X hKK hP 0 (zX4_size l D cI cC q r47.2.1 r47.2.2.1 r47.2.2.2.1 xd xl wi r47.2.2.2.2.1 r47.2.2.2.2.2.1 r47.2.2.2.2.2.2.1 r47.2.2.2.2.2.2.2.1 r47.2.2.2.2.2.2.2.2 ln ch _ rfl) gL_edits_X4_size rfl rfl rfl hdX4_size ⟨Nat.le_of_ble_eq_true rfl, Nat.le_of_ble_eq_true rfl⟩ [0, 1, 2, 3, 4, 5, 6, 7, 8, 9, 10, 11, 12] rfl 0 rfl rfl rfl hl.1 rfl (Nat.le_of_ble_eq_true rfl) dL_edits_100 ⟨Nat.zero_le _, Nat.zero_le _⟩ ?_
      refine lv_iload hx hb dL_edits_103 (lv_at hl 7 rfl) ?_
      refine lv_iconst (v := iI 1) hx hb dL_edits_105 rfl ?_
      refine lv_iadd hx hb dL_edits_106 ?_
      refine lv_icmp_ne (tgt := 185) hx hb dL_edits_107 (by decide) (fun c49 => ?_) (fun c49 => ?_)
      · replace h := ifn c49 h
        cases h
      · replace h := ifp c49 h
        refine lv_aload_n hx hb dL_edits_110 rfl (lv_at hl 8 rfl) ?_
        refine lv_iload hx hb dL_edits_111 (lv_at hl 0 rfl) ?_
        refine lv_iconst (v := iI 1) hx hb dL_edits_113 rfl ?_
        obtain ⟨r50, h_r50, h⟩ := obd h
        refine rcV (rest := []) X hKK hP 2 (zX4_node l D cI cC q r47.2.1 r47.2.2.1 r47.2.2.2.1 xd xl wi r47.2.2.2.2.1 r47.2.2.2.2.2.1 r47.2.2.2.2.2.2.1 r47.2.2.2.2.2.2.2.1 r47.2.2.2.2.2.2.2.2 ln ch r47.1 (iI 1) r50 h_r50) gL_edits_X4_node rfl rfl rfl hdX4_node ⟨Nat.le_of_ble_eq_true rfl, Nat.le_of_ble_eq_true rfl⟩ [0, 1, 2, 3, 4, 5, 6, 7, 8, 9, 10, 11, 12] rfl 0 rfl rfl rfl hl.1 rfl (Nat.le_of_ble_eq_true rfl) dL_edits_114 ⟨Nat.zero_le _, Nat.zero_le _⟩ ?_
        refine lv_iload hx hb dL_edits_117 (lv_at hl 6 rfl) ?_
        refine lv_icmp_ne (tgt := 185) hx hb dL_edits_119 (by decide) (fun c51 => ?_) (fun c51 => ?_)
        · replace h := ifn c51 h
          cases h
        · replace h := ifp c51 h
          refine lv_aload_n hx hb dL_edits_122 rfl (lv_at hl 8 rfl) ?_
          refine lv_iload hx hb dL_edits_123 (lv_at hl 0 rfl) ?_
          refine lv_iconst (v := iI 5) hx hb dL_edits_125 rfl ?_
          obtain ⟨r52, h_r52, h⟩ := obd h
          refine rcV (rest := []) X hKK hP 2 (zX4_node l D cI cC q r47.2.1 r47.2.2.1 r47.2.2.2.1 xd xl wi r47.2.2.2.2.1 r47.2.2.2.2.2.1 r47.2.2.2.2.2.2.1 r47.2.2.2.2.2.2.2.1 r47.2.2.2.2.2.2.2.2 ln ch r47.1 (iI 5) r52 h_r52) gL_edits_X4_node rfl rfl rfl hdX4_node ⟨Nat.le_of_ble_eq_true rfl, Nat.le_of_ble_eq_true rfl⟩ [0, 1, 2, 3, 4, 5, 6, 7, 8, 9, 10, 11, 12] rfl 0 rfl rfl rfl hl.1 rfl (Nat.le_of_ble_eq_true rfl) dL_edits_126 ⟨Nat.zero_le _, Nat.zero_le _⟩ ?_
          refine lv_iload hx hb dL_edits_129 (lv_at hl 1 rfl) ?_
          refine lv_icmp_ne (tgt := 185) hx hb dL_edits_131 (by decide) (fun c53 => ?_) (fun c53 => ?_)
          · replace h := ifn c53 h
            cases h
          · replace h := ifp c53 h
            refine lv_aload_n hx hb dL_edits_134 rfl (lv_at hl 8 rfl) ?_
            refine lv_iload hx hb dL_edits_135 (lv_at hl 0 rfl) ?_
            refine lv_iconst (v := iI 2) hx hb dL_edits_137 rfl ?_
            obtain ⟨r54, h_r54, h⟩ := obd h
            refine rcV (rest := []) X hKK hP 2 (zX4_node l D cI cC q r47.2.1 r47.2.2.1 r47.2.2.2.1 xd xl wi r47.2.2.2.2.1 r47.2.2.2.2.2.1 r47.2.2.2.2.2.2.1 r47.2.2.2.2.2.2.2.1 r47.2.2.2.2.2.2.2.2 ln ch r47.1 (iI 2) r54 h_r54) gL_edits_X4_node rfl rfl rfl hdX4_node ⟨Nat.le_of_ble_eq_true rfl, Nat.le_of_ble_eq_true rfl⟩ [0, 1, 2, 3, 4, 5, 6, 7, 8, 9, 10, 11, 12] rfl 0 rfl rfl rfl hl.1 rfl (Nat.le_of_ble_eq_true rfl) dL_edits_138 ⟨Nat.zero_le _, Nat.zero_le _⟩ ?_
            refine lv_if_ne (tgt := 185) hx hb dL_edits_141 (by decide) (fun c55 => ?_) (fun c55 => ?_)
            · replace h := ifn c55 h
              cases h
            · replace h := ifp c55 h
              refine lv_aload_n hx hb dL_edits_144 rfl (lv_at hl 8 rfl) ?_
              refine lv_iload hx hb dL_edits_145 (lv_at hl 0 rfl) ?_
              refine lv_bipush (v := iI 10) hx hb dL_edits_147 (by decide) ?_
              obtain ⟨r56, h_r56, h⟩ := obd h
              refine rcV (rest := []) X hKK hP 2 (zX4_node l D cI cC q r47.2.1 r47.2.2.1 r47.2.2.2.1 xd xl wi r47.2.2.2.2.1 r47.2.2.2.2.2.1 r47.2.2.2.2.2.2.1 r47.2.2.2.2.2.2.2.1 r47.2.2.2.2.2.2.2.2 ln ch r47.1 (iI 10) r56 h_r56) gL_edits_X4_node rfl rfl rfl hdX4_node ⟨Nat.le_of_ble_eq_true rfl, Nat.le_of_ble_eq_true rfl⟩ [0, 1, 2, 3, 4, 5, 6, 7, 8, 9, 10, 11, 12] rfl 0 rfl rfl rfl hl.1 rfl (Nat.le_of_ble_eq_true rfl) dL_edits_149 ⟨Nat.zero_le _, Nat.zero_le _⟩ ?_
              refine lv_iload hx hb dL_edits_152 (lv_at hl 4 rfl) ?_
              refine lv_icmp_ne (tgt := 185) hx hb dL_edits_154 (by decide) (fun c57 => ?_) (fun c57 => ?_)
              · replace h := ifn c57 h
                cases h
              · replace h := ifp c57 h
                refine lv_aload_n hx hb dL_edits_157 rfl (lv_at hl 8 rfl) ?_
                refine lv_iload hx hb dL_edits_158 (lv_at hl 6 rfl) ?_
                refine lv_iconst (v := iI (-1)) hx hb dL_edits_160 rfl ?_
                refine lv_iload hx hb dL_edits_161 (lv_at hl 4 rfl) ?_
                obtain ⟨r58, h_r58, h⟩ := obd h
                refine mcV (rest := []) (wld2 := (wA cI q r58.2.1 r58.2.2.1 r58.2.2.2.1 xd xl wi r58.2.2.2.2.1 r58.2.2.2.2.2.1 r58.2.2.2.2.2.2.1 r58.2.2.2.2.2.2.2.1 r58.2.2.2.2.2.2.2.2 ln ch)) (wr := pickAt [] (wA cI q r47.2.1 r47.2.2.1 r47.2.2.2.1 xd xl wi r47.2.2.2.2.1 r47.2.2.2.2.2.1 r47.2.2.2.2.2.2.1 r47.2.2.2.2.2.2.2.1 r47.2.2.2.2.2.2.2.2 ln ch)) X hKK hP hD hS hA 3 (zX4_insert l D cI cC q _ r47.2.1 r47.2.2.1 r47.2.2.2.1 xd xl wi r47.2.2.2.2.1 r47.2.2.2.2.2.1 r47.2.2.2.2.2.2.1 r47.2.2.2.2.2.2.2.1 r47.2.2.2.2.2.2.2.2 ln ch r1 (iI (-1)) (c16 ((iI 97) + r3)) r58 h_r58) gL_edits_X4_insert rfl rfl rfl hdX4_insert ⟨Nat.le_of_ble_eq_true rfl, Nat.le_of_ble_eq_true rfl⟩ [0, 1, 2, 3, 4, 5, 6, 7, 8, 9, 10, 11, 12] [] rfl rfl rfl rfl rfl (by decide) rfl [0, 1, 2, 3, 4, 5, 6, 7, 8, 9, 10, 11, 12] rfl rfl rfl 0 rfl rfl rfl hl.1 rfl (Nat.le_of_ble_eq_true rfl) dL_edits_163 ⟨Nat.zero_le _, Nat.zero_le _⟩ (fun H locs hP hD hS => ?_)
                refine lv_bipush (v := iI (-2)) hx hb dL_edits_166 (by decide) ?_
                refine lv_icmp_ne (tgt := 185) hx hb dL_edits_168 (by decide) (fun c59 => ?_) (fun c59 => ?_)
                · replace h := ifn c59 h
                  cases h
                · replace h := ifp c59 h
                  refine lv_aload_n hx hb dL_edits_171 rfl (lv_at hl 8 rfl) ?_
                  refine lv_iload hx hb dL_edits_172 (lv_at hl 6 rfl) ?_
                  refine lv_iconst (v := iI 0) hx hb dL_edits_174 rfl ?_
                  refine lv_bipush (v := iI 123) hx hb dL_edits_175 (by decide) ?_
                  obtain ⟨r60, h_r60, h⟩ := obd h
                  refine mcV (rest := []) (wld2 := (wA cI q r60.2.1 r60.2.2.1 r60.2.2.2.1 xd xl wi r60.2.2.2.2.1 r60.2.2.2.2.2.1 r60.2.2.2.2.2.2.1 r60.2.2.2.2.2.2.2.1 r60.2.2.2.2.2.2.2.2 ln ch)) (wr := pickAt [] (wA cI q r58.2.1 r58.2.2.1 r58.2.2.2.1 xd xl wi r58.2.2.2.2.1 r58.2.2.2.2.2.1 r58.2.2.2.2.2.2.1 r58.2.2.2.2.2.2.2.1 r58.2.2.2.2.2.2.2.2 ln ch)) X hKK hP hD hS hA 3 (zX4_insert l D cI cC q _ r58.2.1 r58.2.2.1 r58.2.2.2.1 xd xl wi r58.2.2.2.2.1 r58.2.2.2.2.2.1 r58.2.2.2.2.2.2.1 r58.2.2.2.2.2.2.2.1 r58.2.2.2.2.2.2.2.2 ln ch r1 (iI 0) (iI 123) r60 h_r60) gL_edits_X4_insert rfl rfl rfl hdX4_insert ⟨Nat.le_of_ble_eq_true rfl, Nat.le_of_ble_eq_true rfl⟩ [0, 1, 2, 3, 4, 5, 6, 7, 8, 9, 10, 11, 12] [] rfl rfl rfl rfl rfl (by decide) rfl [0, 1, 2, 3, 4, 5, 6, 7, 8, 9, 10, 11, 12] rfl rfl rfl 0 rfl rfl rfl hl.1 rfl (Nat.le_of_ble_eq_true rfl) dL_edits_177 ⟨Nat.zero_le _, Nat.zero_le _⟩ (fun H locs hP hD hS => ?_)
                  refine lv_bipush (v := iI (-2)) hx hb dL_edits_180 (by decide) ?_
                  refine lv_icmp_eq (tgt := 187) hx hb dL_edits_182 (by decide) (fun c61 => ?_) (fun c61 => ?_)
                  · replace h := ifp c61 h
                    refine lv_goto (tgt := 769) hx hb dL_edits_187 (by decide) ?_
                    exact kL_edits_769 X hKK hA r60.2.1 r60.2.2.1 r60.2.2.2.1 xd xl r60.2.2.2.2.1 r60.2.2.2.2.2.1 r60.2.2.2.2.2.2.1 r60.2.2.2.2.2.2.2.1 r60.2.2.2.2.2.2.2.2 x3 x4 r5 r47.1 _ _ ls hP hD hS (lv_sub hl [8, 11, 12, 2, 0] rfl) h
                  · replace h := ifn c61 h
                    cases h
    · replace h := ifp c48 h
      cases h
def mL_errors (n : Int32) (d : Nat → Int32) (lb : Nat → Int32) (xd : Nat → Int32) (xl : Nat → Int32) (wi : Int32) (sl : Int32) (kp : Int32) (ct : Nat → Int32) (gd : Nat → Int32) (gl : Nat → Int32)  : Option (Int32 × Int32 × (Nat → Int32) × (Nat → Int32) × (Nat → Int32) × (Nat → Int32) × Int32 × Int32 × Int32 × (Nat → Int32) × (Nat → Int32) × (Nat → Int32)) := ((mX4_node n d lb (mX4_size n) (iI 99)).bind fun r1 => (if r1 = (iI (-1)) then ((mX4_node n d lb (iI 0) (iI 11)).bind fun r3 => (if r3 = (iI (-2)) then ((mX4_child n d (mX4_size n) (iI (-1))).bind fun r5 => (if r5 = (iI (-1)) then ((mX4_neighbour n d (iI (-1)) (iI 9)).bind fun r7 => (if r7 = (iI (-1)) then ((mX4_neighbour n d (iI 0) (iI 6)).bind fun r9 => (if r9 = (iI (-2)) then ((mX4_ancestorAt n d (mX4_size n) (iI 0)).bind fun r11 => (if r11 = (iI (-1)) then ((mX4_ancestorAt n d (iI 0) (iI 1)).bind fun r13 => (if r13 = (iI (-2)) then ((mX4_common n d (iI 0) (mX4_size n)).bind fun r15 => (if r15 = (iI (-1)) then ((mX4_way n d (mX4_size n) (iI 0) (iI (-5))).bind fun r17 => (if r17 = (iI (-1)) then ((mX4_byPostorder n d (mX4_size n)).bind fun r19 => (if r19 = (iI (-2)) then ((mX4_byPostorder n d (iI (-1))).bind fun r21 => (if r21 = (iI (-2)) then ((mX4_deepest n d (mX4_size n)).bind fun r23 => (if r23 = (iI (-1)) then ((mX4_bracket n d ((iI 2) * (mX4_size n)) (iI 9)).bind fun r25 => (if r25 = (iI (-1)) then ((mX4_bracket n d (iI 0) (iI 5)).bind fun r27 => (if r27 = (iI (-2)) then (if (mX4_setWidth wi (iI 3)).1 = (iI (-2)) then (if (mX4_setWidth ((mX4_setWidth wi (iI 3)).2) (iI 33)).1 = (iI (-2)) then ((mX4_block n d ((mX4_setWidth ((mX4_setWidth wi (iI 3)).2) (iI 33)).2) (iI (-1)) (iI 9)).bind fun r31 => (if r31 = (iI (-1)) then (if (iI 1) = 0 then none else ((mX4_setLabel n d lb sl kp ct gd gl (mX4_size n) (iI 33)).bind fun r34 => (if r34.1 = (iI (-1)) then ((mX4_labelled n r34.2.1 r34.2.2.1 (mX4_size n) (iI 33)).bind fun r36 => (if r36 = (iI (-1)) then ((mX4_labelled n r34.2.1 r34.2.2.1 (iI 0) (iI 33)).bind fun r38 => (if r38 = (iI (-2)) then ((mX4_select n r34.2.1 r34.2.2.1 (mX4_size n) (iI 33) (iI (-1))).bind fun r40 => (if r40 = (iI (-1)) then ((mX4_ancestorWith n r34.2.1 r34.2.2.1 (mX4_size n) (iI 33)).bind fun r42 => (if r42 = (iI (-1)) then ((mX4_ancestorWith n r34.2.1 r34.2.2.1 (iI 0) (iI 33)).bind fun r44 => (if r44 = (iI (-2)) then ((mX4_areEqual n r34.2.1 r34.2.2.1 (mX4_size n) (iI 0)).bind fun r46 => (if r46 = (iI (-1)) then ((mX4_copies n r34.2.1 r34.2.2.1 (iI (-1))).bind fun r48 => (if r48 = (iI (-1)) then ((mX4_insert n r34.2.1 r34.2.2.1 r34.2.2.2.1 r34.2.2.2.2.1 r34.2.2.2.2.2.1 r34.2.2.2.2.2.2.1 r34.2.2.2.2.2.2.2 (mX4_size n) (iI (-1)) (iI 33)).bind fun r50 => (if r50.1 = (iI (-1)) then ((mX4_wrap r50.2.1 r50.2.2.1 r50.2.2.2.1 r50.2.2.2.2.1 r50.2.2.2.2.2.1 r50.2.2.2.2.2.2.1 r50.2.2.2.2.2.2.2.1 r50.2.2.2.2.2.2.2.2 (mX4_size n) (iI (-1)) (iI 0) (iI 97)).bind fun r52 => (if r52.1 = (iI (-1)) then ((mX4_wrap r52.2.1 r52.2.2.1 r52.2.2.2.1 r52.2.2.2.2.1 r52.2.2.2.2.2.1 r52.2.2.2.2.2.2.1 r52.2.2.2.2.2.2.2.1 r52.2.2.2.2.2.2.2.2 (iI 0) (iI (-1)) (iI 0) (iI 97)).bind fun r54 => (if r54.1 = (iI (-2)) then ((mX4_remove r54.2.1 r54.2.2.1 r54.2.2.2.1 r54.2.2.2.2.1 r54.2.2.2.2.2.1 r54.2.2.2.2.2.2.1 r54.2.2.2.2.2.2.2.1 r54.2.2.2.2.2.2.2.2 (mX4_size n)).bind fun r56 => (if r56.1 = (iI (-1)) then ((mX4_cut r56.2.1 r56.2.2.1 r56.2.2.2.1 r56.2.2.2.2.1 r56.2.2.2.2.2.1 r56.2.2.2.2.2.2.1 r56.2.2.2.2.2.2.2.1 r56.2.2.2.2.2.2.2.2 (iI (-1))).bind fun r58 => (if r58.1 = (iI (-1)) then ((mX4_move r58.2.1 r58.2.2.1 r58.2.2.2.1 xd xl r58.2.2.2.2.1 r58.2.2.2.2.2.1 r58.2.2.2.2.2.2.1 r58.2.2.2.2.2.2.2.1 r58.2.2.2.2.2.2.2.2 (iI 0) (mX4_size n) (iI 0)).bind fun r60 => (if r60.1 = (iI (-1)) then ((mX4_move r60.2.1 r60.2.2.1 r60.2.2.2.1 r60.2.2.2.2.1 r60.2.2.2.2.2.1 r60.2.2.2.2.2.2.1 r60.2.2.2.2.2.2.2.1 r60.2.2.2.2.2.2.2.2.1 r60.2.2.2.2.2.2.2.2.2.1 r60.2.2.2.2.2.2.2.2.2.2 (iI 0) (iI 0) (iI (-1))).bind fun r62 => (if r62.1 = (iI (-3)) then some ((iI 1), r62.2.1, r62.2.2.1, r62.2.2.2.1, r62.2.2.2.2.1, r62.2.2.2.2.2.1, (mX4_setWidth ((mX4_setWidth wi (iI 3)).2) (iI 33)).2, r62.2.2.2.2.2.2.1, r62.2.2.2.2.2.2.2.1, r62.2.2.2.2.2.2.2.2.1, r62.2.2.2.2.2.2.2.2.2.1, r62.2.2.2.2.2.2.2.2.2.2) else none)) else none)) else none)) else none)) else none)) else none)) else none)) else none)) else none)) else none)) else none)) else none)) else none)) else none)) else none))) else none)) else none) else none) else none)) else none)) else none)) else none)) else none)) else none)) else none)) else none)) else none)) else none)) else none)) else none)) else none)) else none))
theorem hdL_errors : yL_errors.cls = RL ∧ yL_errors.cls ≠ "java/lang/invoke/MethodHandle" ∧ yL_errors.cls ≠ "java/lang/invoke/VarHandle" ∧ (parseMethodDescriptor yL_errors.desc).map (fun d => d.parameters.length) = some 1 := by decide +kernel
abbrev rmL_errors : Room := { frames := 7, cells := 0, slots := 0, locals := 164 }
set_option maxHeartbeats 4000000 in
set_option maxRecDepth 100000 in
theorem zL_errors (l : Launch) (D : va_G) (cI cC : ClassId) (q : Nat → Nat) (sz : Nat) (n : Int32) (d : Nat → Int32) (lb : Nat → Int32) (xd : Nat → Int32) (xl : Nat → Int32) (wi : Int32) (sl : Int32) (kp : Int32) (ct : Nat → Int32) (gd : Nat → Int32) (gl : Nat → Int32) (ln : Int32) (ch : Nat → Int32)  (r : Int32 × Int32 × (Nat → Int32) × (Nat → Int32) × (Nat → Int32) × (Nat → Int32) × Int32 × Int32 × Int32 × (Nat → Int32) × (Nat → Int32) × (Nat → Int32)) (h : mL_errors n d lb xd xl wi sl kp ct gd gl = some r) : Met l yL_errors wsL_errors rmL_errors (va_Pc [.ref (q 0)] (MB D cI cC sz (wA cI q n d lb xd xl wi sl kp ct gd gl ln ch))) (muQ D (some (.int r.1)) (wA cI q r.2.1 r.2.2.1 r.2.2.2.1 r.2.2.2.2.1 r.2.2.2.2.2.1 r.2.2.2.2.2.2.1 r.2.2.2.2.2.2.2.1 r.2.2.2.2.2.2.2.2.1 r.2.2.2.2.2.2.2.2.2.1 r.2.2.2.2.2.2.2.2.2.2.1 r.2.2.2.2.2.2.2.2.2.2.2 ln ch) (va_A (wA cI q n d lb xd xl wi sl kp ct gd gl ln ch) sz)) 0 0 (va_A (wA cI q n d lb xd xl wi sl kp ct gd gl ln ch) sz) := by
  refine MetI RL (by decide +kernel) rfl rfl (Nat.le_of_ble_eq_true rfl) ?_
  intro p e s m below meth c ls X _ hB hl
  obtain ⟨hsz, ⟨hP, hKK⟩, hD0⟩ := hB
  subst hsz
  have hD := hD0.self (sz := s.heap.size)
  generalize hAe : va_A (wA cI q n d lb xd xl wi sl kp ct gd gl ln ch) s.heap.size = A at hD ⊢
  have hA : ∀ z : Nat, s.heap.size ≤ z → A z := fun z hz => by rw [← hAe]; exact Or.inr hz
  have hS : va_S A s.heap s.heap [] := va_S.rf
  have hx := X.1
  have hb := X.2.1
  replace hl : lv_has ls 5 [(0, .ref (q 0))] := hl
  replace hP : va_P D vwCl (wA cI q n d lb xd xl wi sl kp ct gd gl ln ch) s.heap := hP
  unfold mL_errors at h
  refine lv_aload_n hx hb dL_errors_0 rfl (lv_at hl 0 rfl) ?_
  refine rcV (rest := []) X hKK hP 0 (zX4_size l D cI cC q n d lb xd xl wi sl kp ct gd gl ln ch _ rfl) gL_errors_X4_size rfl rfl rfl hdX4_size ⟨Nat.le_of_ble_eq_true rfl, Nat.le_of_ble_eq_true rfl⟩ [0, 1, 2, 3, 4, 5, 6, 7, 8, 9, 10, 11, 12] rfl 0 rfl rfl rfl hl.1 rfl (Nat.le_of_ble_eq_true rfl) dL_errors_1 ⟨Nat.zero_le _, Nat.zero_le _⟩ ?_
  refine lv_istore_n (lv' := [(1, .int (mX4_size n)), (0, .ref (q 0))]) hx hb dL_errors_4 rfl hl (by decide) rfl (fun ls hl => ?_)
  refine lv_iconst (v := iI (-1)) hx hb dL_errors_5 rfl ?_
  refine lv_istore_n (lv' := [(2, .int (iI (-1))), (1, .int (mX4_size n)), (0, .ref (q 0))]) hx hb dL_errors_6 rfl hl (by decide) rfl (fun ls hl => ?_)
  refine lv_bipush (v := iI (-2)) hx hb dL_errors_7 (by decide) ?_
  refine lv_istore_n (lv' := [(3, .int (iI (-2))), (2, .int (iI (-1))), (1, .int (mX4_size n)), (0, .ref (q 0))]) hx hb dL_errors_9 rfl hl (by decide) rfl (fun ls hl => ?_)
  refine lv_aload_n hx hb dL_errors_10 rfl (lv_at hl 3 rfl) ?_
  refine lv_iload_n hx hb dL_errors_11 rfl (lv_at hl 2 rfl) ?_
  refine lv_bipush (v := iI 99) hx hb dL_errors_12 (by decide) ?_
  obtain ⟨r1, h_r1, h⟩ := obd h
  refine rcV (rest := []) X hKK hP 2 (zX4_node l D cI cC q n d lb xd xl wi sl kp ct gd gl ln ch (mX4_size n) (iI 99) r1 h_r1) gL_errors_X4_node rfl rfl rfl hdX4_node ⟨Nat.le_of_ble_eq_true rfl, Nat.le_of_ble_eq_true rfl⟩ [0, 1, 2, 3, 4, 5, 6, 7, 8, 9, 10, 11, 12] rfl 0 rfl rfl rfl hl.1 rfl (Nat.le_of_ble_eq_true rfl) dL_errors_14 ⟨Nat.zero_le _, Nat.zero_le _⟩ ?_
  refine lv_iload_n hx hb dL_errors_17 rfl (lv_at hl 1 rfl) ?_
  refine lv_icmp_ne (tgt := 190) hx hb dL_errors_18 (by decide) (fun c2 => ?_) (fun c2 => ?_)
  · replace h := ifn c2 h
    cases h
  · replace h := ifp c2 h
    refine lv_aload_n hx hb dL_errors_21 rfl (lv_at hl 3 rfl) ?_
    refine lv_iconst (v := iI 0) hx hb dL_errors_22 rfl ?_
    refine lv_bipush (v := iI 11) hx hb dL_errors_23 (by decide) ?_
    obtain ⟨r3, h_r3, h⟩ := obd h
    refine rcV (rest := []) X hKK hP 2 (zX4_node l D cI cC q n d lb xd xl wi sl kp ct gd gl ln ch (iI 0) (iI 11) r3 h_r3) gL_errors_X4_node rfl rfl rfl hdX4_node ⟨Nat.le_of_ble_eq_true rfl, Nat.le_of_ble_eq_true rfl⟩ [0, 1, 2, 3, 4, 5, 6, 7, 8, 9, 10, 11, 12] rfl 0 rfl rfl rfl hl.1 rfl (Nat.le_of_ble_eq_true rfl) dL_errors_25 ⟨Nat.zero_le _, Nat.zero_le _⟩ ?_
    refine lv_iload_n hx hb dL_errors_28 rfl (lv_at hl 0 rfl) ?_
    refine lv_icmp_ne (tgt := 190) hx hb dL_errors_29 (by decide) (fun c4 => ?_) (fun c4 => ?_)
    · replace h := ifn c4 h
      cases h
    · replace h := ifp c4 h
      refine lv_aload_n hx hb dL_errors_32 rfl (lv_at hl 3 rfl) ?_
      refine lv_iload_n hx hb dL_errors_33 rfl (lv_at hl 2 rfl) ?_
      refine lv_iconst (v := iI (-1)) hx hb dL_errors_34 rfl ?_
      obtain ⟨r5, h_r5, h⟩ := obd h
      refine rcV (rest := []) X hKK hP 2 (zX4_child l D cI cC q n d lb xd xl wi sl kp ct gd gl ln ch (mX4_size n) (iI (-1)) r5 h_r5) gL_errors_X4_child rfl rfl rfl hdX4_child ⟨Nat.le_of_ble_eq_true rfl, Nat.le_of_ble_eq_true rfl⟩ [0, 1, 2, 3, 4, 5, 6, 7, 8, 9, 10, 11, 12] rfl 0 rfl rfl rfl hl.1 rfl (Nat.le_of_ble_eq_true rfl) dL_errors_35 ⟨Nat.zero_le _, Nat.zero_le _⟩ ?_
      refine lv_iload_n hx hb dL_errors_38 rfl (lv_at hl 1 rfl) ?_
      refine lv_icmp_ne (tgt := 190) hx hb dL_errors_39 (by decide) (fun c6 => ?_) (fun c6 => ?_)
      · replace h := ifn c6 h
        cases h
      · replace h := ifp c6 h
        refine lv_aload_n hx hb dL_errors_42 rfl (lv_at hl 3 rfl) ?_
        refine lv_iconst (v := iI (-1)) hx hb dL_errors_43 rfl ?_
        refine lv_bipush (v := iI 9) hx hb dL_errors_44 (by decide) ?_
        obtain ⟨r7, h_r7, h⟩ := obd h
        refine rcV (rest := []) X hKK hP 2 (zX4_neighbour l D cI cC q n d lb xd xl wi sl kp ct gd gl ln ch (iI (-1)) (iI 9) r7 h_r7) gL_errors_X4_neighbour rfl rfl rfl hdX4_neighbour ⟨Nat.le_of_ble_eq_true rfl, Nat.le_of_ble_eq_true rfl⟩ [0, 1, 2, 3, 4, 5, 6, 7, 8, 9, 10, 11, 12] rfl 0 rfl rfl rfl hl.1 rfl (Nat.le_of_ble_eq_true rfl) dL_errors_46 ⟨Nat.zero_le _, Nat.zero_le _⟩ ?_
        refine lv_iload_n hx hb dL_errors_49 rfl (lv_at hl 1 rfl) ?_
        refine lv_icmp_ne (tgt := 190) hx hb dL_errors_50 (by decide) (fun c8 => ?_) (fun c8 => ?_)
        · replace h := ifn c8 h
          cases h
        · replace h := ifp c8 h
          refine lv_aload_n hx hb dL_errors_53 rfl (lv_at hl 3 rfl) ?_
          refine lv_iconst (v := iI 0) hx hb dL_errors_54 rfl ?_
          refine lv_bipush (v := iI 6) hx hb dL_errors_55 (by decide) ?_
          obtain ⟨r9, h_r9, h⟩ := obd h
          refine rcV (rest := []) X hKK hP 2 (zX4_neighbour l D cI cC q n d lb xd xl wi sl kp ct gd gl ln ch (iI 0) (iI 6) r9 h_r9) gL_errors_X4_neighbour rfl rfl rfl hdX4_neighbour ⟨Nat.le_of_ble_eq_true rfl, Nat.le_of_ble_eq_true rfl⟩ [0, 1, 2, 3, 4, 5, 6, 7, 8, 9, 10, 11, 12] rfl 0 rfl rfl rfl hl.1 rfl (Nat.le_of_ble_eq_true rfl) dL_errors_57 ⟨Nat.zero_le _, Nat.zero_le _⟩ ?_
          refine lv_iload_n hx hb dL_errors_60 rfl (lv_at hl 0 rfl) ?_
          refine lv_icmp_ne (tgt := 190) hx hb dL_errors_61 (by decide) (fun c10 => ?_) (fun c10 => ?_)
          · replace h := ifn c10 h
            cases h
          · replace h := ifp c10 h
            refine lv_aload_n hx hb dL_errors_64 rfl (lv_at hl 3 rfl) ?_
            refine lv_iload_n hx hb dL_errors_65 rfl (lv_at hl 2 rfl) ?_
            refine lv_iconst (v := iI 0) hx hb dL_errors_66 rfl ?_
            obtain ⟨r11, h_r11, h⟩ := obd h
            refine rcV (rest := []) X hKK hP 2 (zX4_ancestorAt l D cI cC q n d lb xd xl wi sl kp ct gd gl ln ch (mX4_size n) (iI 0) r11 h_r11) gL_errors_X4_ancestorAt rfl rfl rfl hdX4_ancestorAt ⟨Nat.le_of_ble_eq_true rfl, Nat.le_of_ble_eq_true rfl⟩ [0, 1, 2, 3, 4, 5, 6, 7, 8, 9, 10, 11, 12] rfl 0 rfl rfl rfl hl.1 rfl (Nat.le_of_ble_eq_true rfl) dL_errors_67 ⟨Nat.zero_le _, Nat.zero_le _⟩ ?_
            refine lv_iload_n hx hb dL_errors_70 rfl (lv_at hl 1 rfl) ?_
            refine lv_icmp_ne (tgt := 190) hx hb dL_errors_71 (by decide) (fun c12 => ?_) (fun c12 => ?_)
            · replace h := ifn c12 h
              cases h
            · replace h := ifp c12 h
              refine lv_aload_n hx hb dL_errors_74 rfl (lv_at hl 3 rfl) ?_
              refine lv_iconst (v := iI 0) hx hb dL_errors_75 rfl ?_
              refine lv_iconst (v := iI 1) hx hb dL_errors_76 rfl ?_
              obtain ⟨r13, h_r13, h⟩ := obd h
              refine rcV (rest := []) X hKK hP 2 (zX4_ancestorAt l D cI cC q n d lb xd xl wi sl kp ct gd gl ln ch (iI 0) (iI 1) r13 h_r13) gL_errors_X4_ancestorAt rfl rfl rfl hdX4_ancestorAt ⟨Nat.le_of_ble_eq_true rfl, Nat.le_of_ble_eq_true rfl⟩ [0, 1, 2, 3, 4, 5, 6, 7, 8, 9, 10, 11, 12] rfl 0 rfl rfl rfl hl.1 rfl (Nat.le_of_ble_eq_true rfl) dL_errors_77 ⟨Nat.zero_le _, Nat.zero_le _⟩ ?_
              refine lv_iload_n hx hb dL_errors_80 rfl (lv_at hl 0 rfl) ?_
              refine lv_icmp_ne (tgt := 190) hx hb dL_errors_81 (by decide) (fun c14 => ?_) (fun c14 => ?_)
              · replace h := ifn c14 h
                cases h
              · replace h := ifp c14 h
                refine lv_aload_n hx hb dL_errors_84 rfl (lv_at hl 3 rfl) ?_
                refine lv_iconst (v := iI 0) hx hb dL_errors_85 rfl ?_
                refine lv_iload_n hx hb dL_errors_86 rfl (lv_at hl 2 rfl) ?_
                obtain ⟨r15, h_r15, h⟩ := obd h
                refine rcV (rest := []) X hKK hP 2 (zX4_common l D cI cC q n d lb xd xl wi sl kp ct gd gl ln ch (iI 0) (mX4_size n) r15 h_r15) gL_errors_X4_common rfl rfl rfl hdX4_common ⟨Nat.le_of_ble_eq_true rfl, Nat.le_of_ble_eq_true rfl⟩ [0, 1, 2, 3, 4, 5, 6, 7, 8, 9, 10, 11, 12] rfl 0 rfl rfl rfl hl.1 rfl (Nat.le_of_ble_eq_true rfl) dL_errors_87 ⟨Nat.zero_le _, Nat.zero_le _⟩ ?_
                refine lv_iload_n hx hb dL_errors_90 rfl (lv_at hl 1 rfl) ?_
                refine lv_icmp_ne (tgt := 190) hx hb dL_errors_91 (by decide) (fun c16 => ?_) (fun c16 => ?_)
                · replace h := ifn c16 h
                  cases h
                · replace h := ifp c16 h
                  refine lv_aload_n hx hb dL_errors_94 rfl (lv_at hl 3 rfl) ?_
                  refine lv_iload_n hx hb dL_errors_95 rfl (lv_at hl 2 rfl) ?_
                  refine lv_iconst (v := iI 0) hx hb dL_errors_96 rfl ?_
                  refine lv_bipush (v := iI (-5)) hx hb dL_errors_97 (by decide) ?_
                  obtain ⟨r17, h_r17, h⟩ := obd h
                  refine rcV (rest := []) X hKK hP 3 (zX4_way l D cI cC q n d lb xd xl wi sl kp ct gd gl ln ch (mX4_size n) (iI 0) (iI (-5)) r17 h_r17) gL_errors_X4_way rfl rfl rfl hdX4_way ⟨Nat.le_of_ble_eq_true rfl, Nat.le_of_ble_eq_true rfl⟩ [0, 1, 2, 3, 4, 5, 6, 7, 8, 9, 10, 11, 12] rfl 0 rfl rfl rfl hl.1 rfl (Nat.le_of_ble_eq_true rfl) dL_errors_99 ⟨Nat.zero_le _, Nat.zero_le _⟩ ?_
                  refine lv_iload_n hx hb dL_errors_102 rfl (lv_at hl 1 rfl) ?_
                  refine lv_icmp_ne (tgt := 190) hx hb dL_errors_103 (by decide) (fun c18 => ?_) (fun c18 => ?_)
                  · replace h := ifn c18 h
                    cases h
                  · replace h := ifp c18 h
                    refine lv_aload_n hx hb dL_errors_106 rfl (lv_at hl 3 rfl) ?_
                    refine lv_iload_n hx hb dL_errors_107 rfl (lv_at hl 2 rfl) ?_
                    obtain ⟨r19, h_r19, h⟩ := obd h
                    refine rcV (rest := []) X hKK hP 1 (zX4_byPostorder l D cI cC q n d lb xd xl wi sl kp ct gd gl ln ch (mX4_size n) r19 h_r19) gL_errors_X4_byPostorder rfl rfl rfl hdX4_byPostorder ⟨Nat.le_of_ble_eq_true rfl, Nat.le_of_ble_eq_true rfl⟩ [0, 1, 2, 3, 4, 5, 6, 7, 8, 9, 10, 11, 12] rfl 0 rfl rfl rfl hl.1 rfl (Nat.le_of_ble_eq_true rfl) dL_errors_108 ⟨Nat.zero_le _, Nat.zero_le _⟩ ?_
                    refine lv_iload_n hx hb dL_errors_111 rfl (lv_at hl 0 rfl) ?_
                    refine lv_icmp_ne (tgt := 190) hx hb dL_errors_112 (by decide) (fun c20 => ?_) (fun c20 => ?_)
                    · replace h := ifn c20 h
                      cases h
                    · replace h := ifp c20 h
                      refine lv_aload_n hx hb dL_errors_115 rfl (lv_at hl 3 rfl) ?_
                      refine lv_iconst (v := iI (-1)) hx hb dL_errors_116 rfl ?_
                      obtain ⟨r21, h_r21, h⟩ := obd h
                      refine rcV (rest := []) X hKK hP 1 (zX4_byPostorder l D cI cC q n d lb xd xl wi sl kp ct gd gl ln ch (iI (-1)) r21 h_r21) gL_errors_X4_byPostorder rfl rfl rfl hdX4_byPostorder ⟨Nat.le_of_ble_eq_true rfl, Nat.le_of_ble_eq_true rfl⟩ [0, 1, 2, 3, 4, 5, 6, 7, 8, 9, 10, 11, 12] rfl 0 rfl rfl rfl hl.1 rfl (Nat.le_of_ble_eq_true rfl) dL_errors_117 ⟨Nat.zero_le _, Nat.zero_le _⟩ ?_
                      refine lv_iload_n hx hb dL_errors_120 rfl (lv_at hl 0 rfl) ?_
                      refine lv_icmp_ne (tgt := 190) hx hb dL_errors_121 (by decide) (fun c22 => ?_) (fun c22 => ?_)
                      · replace h := ifn c22 h
                        cases h
                      · replace h := ifp c22 h
                        refine lv_aload_n hx hb dL_errors_124 rfl (lv_at hl 3 rfl) ?_
                        refine lv_iload_n hx hb dL_errors_125 rfl (lv_at hl 2 rfl) ?_
                        obtain ⟨r23, h_r23, h⟩ := obd h
                        refine rcV (rest := []) X hKK hP 1 (zX4_deepest l D cI cC q n d lb xd xl wi sl kp ct gd gl ln ch (mX4_size n) r23 h_r23) gL_errors_X4_deepest rfl rfl rfl hdX4_deepest ⟨Nat.le_of_ble_eq_true rfl, Nat.le_of_ble_eq_true rfl⟩ [0, 1, 2, 3, 4, 5, 6, 7, 8, 9, 10, 11, 12] rfl 0 rfl rfl rfl hl.1 rfl (Nat.le_of_ble_eq_true rfl) dL_errors_126 ⟨Nat.zero_le _, Nat.zero_le _⟩ ?_
                        refine lv_iload_n hx hb dL_errors_129 rfl (lv_at hl 1 rfl) ?_
                        refine lv_icmp_ne (tgt := 190) hx hb dL_errors_130 (by decide) (fun c24 => ?_) (fun c24 => ?_)
                        · replace h := ifn c24 h
                          cases h
                        · replace h := ifp c24 h
                          refine lv_aload_n hx hb dL_errors_133 rfl (lv_at hl 3 rfl) ?_
                          refine lv_iconst (v := iI 2) hx hb dL_errors_134 rfl ?_
                          refine lv_iload_n hx hb dL_errors_135 rfl (lv_at hl 2 rfl) ?_
                          refine lv_imul hx hb dL_errors_136 ?_
                          refine lv_bipush (v := iI 9) hx hb dL_errors_137 (by decide) ?_
                          obtain ⟨r25, h_r25, h⟩ := obd h
                          refine rcV (rest := []) X hKK hP 2 (zX4_bracket l D cI cC q n d lb xd xl wi sl kp ct gd gl ln ch ((iI 2) * (mX4_size n)) (iI 9) r25 h_r25) gL_errors_X4_bracket rfl rfl rfl hdX4_bracket ⟨Nat.le_of_ble_eq_true rfl, Nat.le_of_ble_eq_true rfl⟩ [0, 1, 2, 3, 4, 5, 6, 7, 8, 9, 10, 11, 12] rfl 0 rfl rfl rfl hl.1 rfl (Nat.le_of_ble_eq_true rfl) dL_errors_139 ⟨Nat.zero_le _, Nat.zero_le _⟩ ?_
                          refine lv_iload_n hx hb dL_errors_142 rfl (lv_at hl 1 rfl) ?_
                          refine lv_icmp_ne (tgt := 190) hx hb dL_errors_143 (by decide) (fun c26 => ?_) (fun c26 => ?_)
                          · replace h := ifn c26 h
                            cases h
                          · replace h := ifp c26 h
                            refine lv_aload_n hx hb dL_errors_146 rfl (lv_at hl 3 rfl) ?_
                            refine lv_iconst (v := iI 0) hx hb dL_errors_147 rfl ?_
                            refine lv_iconst (v := iI 5) hx hb dL_errors_148 rfl ?_
                            obtain ⟨r27, h_r27, h⟩ := obd h
                            refine rcV (rest := []) X hKK hP 2 (zX4_bracket l D cI cC q n d lb xd xl wi sl kp ct gd gl ln ch (iI 0) (iI 5) r27 h_r27) gL_errors_X4_bracket rfl rfl rfl hdX4_bracket ⟨Nat.le_of_ble_eq_true rfl, Nat.le_of_ble_eq_true rfl⟩ [0, 1, 2, 3, 4, 5, 6, 7, 8, 9, 10, 11, 12] rfl 0 rfl rfl rfl hl.1 rfl (Nat.le_of_ble_eq_true rfl) dL_errors_149 ⟨Nat.zero_le _, Nat.zero_le _⟩ ?_
                            refine lv_iload_n hx hb dL_errors_152 rfl (lv_at hl 0 rfl) ?_
                            refine lv_icmp_ne (tgt := 190) hx hb dL_errors_153 (by decide) (fun c28 => ?_) (fun c28 => ?_)
                            · replace h := ifn c28 h
                              cases h
                            · replace h := ifp c28 h
                              refine lv_aload_n hx hb dL_errors_156 rfl (lv_at hl 3 rfl) ?_
                              refine lv_iconst (v := iI 3) hx hb dL_errors_157 rfl ?_
                              refine mcV (rest := []) (wld2 := (wA cI q n d lb xd xl (mX4_setWidth wi (iI 3)).2 sl kp ct gd gl ln ch)) (wr := pickAt [] (wA cI q n d lb xd xl wi sl kp ct gd gl ln ch)) X hKK hP hD hS hA 1 (zX4_setWidth l D cI cC q _ n d lb xd xl wi sl kp ct gd gl ln ch (iI 3) _ rfl) gL_errors_X4_setWidth rfl rfl rfl hdX4_setWidth ⟨Nat.le_of_ble_eq_true rfl, Nat.le_of_ble_eq_true rfl⟩ [0, 1, 2, 3, 4, 5, 6, 7, 8, 9, 10, 11, 12] [] rfl rfl rfl rfl rfl (by decide) rfl [0, 1, 2, 3, 4, 5, 6, 7, 8, 9, 10, 11, 12] rfl rfl rfl 0 rfl rfl rfl hl.1 rfl (Nat.le_of_ble_eq_true rfl) dL_errors_158 ⟨Nat.zero_le _, Nat.zero_le _⟩ (fun H locs hP hD hS => ?_)
                              refine lv_iload_n hx hb dL_errors_161 rfl (lv_at hl 0 rfl) ?_
                              refine lv_icmp_ne (tgt := 190) hx hb dL_errors_162 (by decide) (fun c29 => ?_) (fun c29 => ?_)
                              · replace h := ifn c29 h
                                cases h
                              · replace h := ifp c29 h
                                refine lv_aload_n hx hb dL_errors_165 rfl (lv_at hl 3 rfl) ?_
                                refine lv_bipush (v := iI 33) hx hb dL_errors_166 (by decide) ?_
                                refine mcV (rest := []) (wld2 := (wA cI q n d lb xd xl (mX4_setWidth ((mX4_setWidth wi (iI 3)).2) (iI 33)).2 sl kp ct gd gl ln ch)) (wr := pickAt [] (wA cI q n d lb xd xl (mX4_setWidth wi (iI 3)).2 sl kp ct gd gl ln ch)) X hKK hP hD hS hA 1 (zX4_setWidth l D cI cC q _ n d lb xd xl ((mX4_setWidth wi (iI 3)).2) sl kp ct gd gl ln ch (iI 33) _ rfl) gL_errors_X4_setWidth rfl rfl rfl hdX4_setWidth ⟨Nat.le_of_ble_eq_true rfl, Nat.le_of_ble_eq_true rfl⟩ [0, 1, 2, 3, 4, 5, 6, 7, 8, 9, 10, 11, 12] [] rfl rfl rfl rfl rfl (by decide) rfl [0, 1, 2, 3, 4, 5, 6, 7, 8, 9, 10, 11, 12] rfl rfl rfl 0 rfl rfl rfl hl.1 rfl (Nat.le_of_ble_eq_true rfl) dL_errors_168 ⟨Nat.zero_le _, Nat.zero_le _⟩ (fun H locs hP hD hS => ?_)
                                refine lv_iload_n hx hb dL_errors_171 rfl (lv_at hl 0 rfl) ?_
                                refine lv_icmp_ne (tgt := 190) hx hb dL_errors_172 (by decide) (fun c30 => ?_) (fun c30 => ?_)
                                · replace h := ifn c30 h
                                  cases h
                                · replace h := ifp c30 h
                                  refine lv_aload_n hx hb dL_errors_175 rfl (lv_at hl 3 rfl) ?_
                                  refine lv_iconst (v := iI (-1)) hx hb dL_errors_176 rfl ?_
                                  refine lv_bipush (v := iI 9) hx hb dL_errors_177 (by decide) ?_
                                  obtain ⟨r31, h_r31, h⟩ := obd h
                                  refine rcV (rest := []) X hKK hP 2 (zX4_block l D cI cC q n d lb xd xl ((mX4_setWidth ((mX4_setWidth wi (iI 3)).2) (iI 33)).2) sl kp ct gd gl ln ch (iI (-1)) (iI 9) r31 h_r31) gL_errors_X4_block rfl rfl rfl hdX4_block ⟨Nat.le_of_ble_eq_true rfl, Nat.le_of_ble_eq_true rfl⟩ [0, 1, 2, 3, 4, 5, 6, 7, 8, 9, 10, 11, 12] rfl 0 rfl rfl rfl hl.1 rfl (Nat.le_of_ble_eq_true rfl) dL_errors_179 ⟨Nat.zero_le _, Nat.zero_le _⟩ ?_
                                  refine lv_iload_n hx hb dL_errors_182 rfl (lv_at hl 1 rfl) ?_
                                  refine lv_icmp_ne (tgt := 190) hx hb dL_errors_183 (by decide) (fun c32 => ?_) (fun c32 => ?_)
                                  · replace h := ifn c32 h
                                    cases h
                                  · replace h := ifp c32 h
                                    refine lv_iconst (v := iI 1) hx hb dL_errors_186 rfl ?_
                                    refine lv_goto (tgt := 191) hx hb dL_errors_187 (by decide) ?_
                                    refine lv_istore (lv' := [(4, .int (iI 1)), (3, .int (iI (-2))), (2, .int (iI (-1))), (1, .int (mX4_size n)), (0, .ref (q 0))]) hx hb dL_errors_191 hl (by decide) rfl (fun ls hl => ?_)
                                    refine lv_iload hx hb dL_errors_193 (lv_at hl 0 rfl) ?_
                                    refine lv_if_eq (tgt := 367) hx hb dL_errors_195 (by decide) (fun c33 => ?_) (fun c33 => ?_)
                                    · replace h := ifp c33 h
                                      cases h
                                    · replace h := ifn c33 h
                                      refine lv_aload_n hx hb dL_errors_198 rfl (lv_at hl 4 rfl) ?_
                                      refine lv_iload_n hx hb dL_errors_199 rfl (lv_at hl 3 rfl) ?_
                                      refine lv_bipush (v := iI 33) hx hb dL_errors_200 (by decide) ?_
                                      obtain ⟨r34, h_r34, h⟩ := obd h
                                      refine mcV (rest := []) (wld2 := (wA cI q n r34.2.1 r34.2.2.1 xd xl (mX4_setWidth ((mX4_setWidth wi (iI 3)).2) (iI 33)).2 r34.2.2.2.1 r34.2.2.2.2.1 r34.2.2.2.2.2.1 r34.2.2.2.2.2.2.1 r34.2.2.2.2.2.2.2 ln ch)) (wr := pickAt [] (wA cI q n d lb xd xl (mX4_setWidth ((mX4_setWidth wi (iI 3)).2) (iI 33)).2 sl kp ct gd gl ln ch)) X hKK hP hD hS hA 2 (zX4_setLabel l D cI cC q _ n d lb xd xl ((mX4_setWidth ((mX4_setWidth wi (iI 3)).2) (iI 33)).2) sl kp ct gd gl ln ch (mX4_size n) (iI 33) r34 h_r34) gL_errors_X4_setLabel rfl rfl rfl hdX4_setLabel ⟨Nat.le_of_ble_eq_true rfl, Nat.le_of_ble_eq_true rfl⟩ [0, 1, 2, 3, 4, 5, 6, 7, 8, 9, 10, 11, 12] [] rfl rfl rfl rfl rfl (by decide) rfl [0, 1, 2, 3, 4, 5, 6, 7, 8, 9, 10, 11, 12] rfl rfl rfl 0 rfl rfl rfl hl.1 rfl (Nat.le_of_ble_eq_true rfl) dL_errors_202 ⟨Nat.zero_le _, Nat.zero_le _⟩ (fun H locs hP hD hS => ?_)
                                      refine lv_iload_n hx hb dL_errors_205 rfl (lv_at hl 2 rfl) ?_
                                      refine lv_icmp_ne (tgt := 367) hx hb dL_errors_206 (by decide) (fun c35 => ?_) (fun c35 => ?_)
                                      · replace h := ifn c35 h
                                        cases h
                                      · replace h := ifp c35 h
                                        refine lv_aload_n hx hb dL_errors_209 rfl (lv_at hl 4 rfl) ?_
                                        refine lv_iload_n hx hb dL_errors_210 rfl (lv_at hl 3 rfl) ?_
                                        refine lv_bipush (v := iI 33) hx hb dL_errors_211 (by decide) ?_
                                        obtain ⟨r36, h_r36, h⟩ := obd h
                                        refine rcV (rest := []) X hKK hP 2 (zX4_labelled l D cI cC q n r34.2.1 r34.2.2.1 xd xl ((mX4_setWidth ((mX4_setWidth wi (iI 3)).2) (iI 33)).2) r34.2.2.2.1 r34.2.2.2.2.1 r34.2.2.2.2.2.1 r34.2.2.2.2.2.2.1 r34.2.2.2.2.2.2.2 ln ch (mX4_size n) (iI 33) r36 h_r36) gL_errors_X4_labelled rfl rfl rfl hdX4_labelled ⟨Nat.le_of_ble_eq_true rfl, Nat.le_of_ble_eq_true rfl⟩ [0, 1, 2, 3, 4, 5, 6, 7, 8, 9, 10, 11, 12] rfl 0 rfl rfl rfl hl.1 rfl (Nat.le_of_ble_eq_true rfl) dL_errors_213 ⟨Nat.zero_le _, Nat.zero_le _⟩ ?_
                                        refine lv_iload_n hx hb dL_errors_216 rfl (lv_at hl 2 rfl) ?_
                                        refine lv_icmp_ne (tgt := 367) hx hb dL_errors_217 (by decide) (fun c37 => ?_) (fun c37 => ?_)
                                        · replace h := ifn c37 h
                                          cases h
                                        · replace h := ifp c37 h
                                          refine lv_aload_n hx hb dL_errors_220 rfl (lv_at hl 4 rfl) ?_
                                          refine lv_iconst (v := iI 0) hx hb dL_errors_221 rfl ?_
                                          refine lv_bipush (v := iI 33) hx hb dL_errors_222 (by decide) ?_
                                          obtain ⟨r38, h_r38, h⟩ := obd h
                                          refine rcV (rest := []) X hKK hP 2 (zX4_labelled l D cI cC q n r34.2.1 r34.2.2.1 xd xl ((mX4_setWidth ((mX4_setWidth wi (iI 3)).2) (iI 33)).2) r34.2.2.2.1 r34.2.2.2.2.1 r34.2.2.2.2.2.1 r34.2.2.2.2.2.2.1 r34.2.2.2.2.2.2.2 ln ch (iI 0) (iI 33) r38 h_r38) gL_errors_X4_labelled rfl rfl rfl hdX4_labelled ⟨Nat.le_of_ble_eq_true rfl, Nat.le_of_ble_eq_true rfl⟩ [0, 1, 2, 3, 4, 5, 6, 7, 8, 9, 10, 11, 12] rfl 0 rfl rfl rfl hl.1 rfl (Nat.le_of_ble_eq_true rfl) dL_errors_224 ⟨Nat.zero_le _, Nat.zero_le _⟩ ?_
                                          refine lv_iload_n hx hb dL_errors_227 rfl (lv_at hl 1 rfl) ?_
                                          refine lv_icmp_ne (tgt := 367) hx hb dL_errors_228 (by decide) (fun c39 => ?_) (fun c39 => ?_)
                                          · replace h := ifn c39 h
                                            cases h
                                          · replace h := ifp c39 h
                                            refine lv_aload_n hx hb dL_errors_231 rfl (lv_at hl 4 rfl) ?_
                                            refine lv_iload_n hx hb dL_errors_232 rfl (lv_at hl 3 rfl) ?_
                                            refine lv_bipush (v := iI 33) hx hb dL_errors_233 (by decide) ?_
                                            refine lv_iconst (v := iI (-1)) hx hb dL_errors_235 rfl ?_
                                            obtain ⟨r40, h_r40, h⟩ := obd h
                                            refine rcV (rest := []) X hKK hP 3 (zX4_select l D cI cC q n r34.2.1 r34.2.2.1 xd xl ((mX4_setWidth ((mX4_setWidth wi (iI 3)).2) (iI 33)).2) r34.2.2.2.1 r34.2.2.2.2.1 r34.2.2.2.2.2.1 r34.2.2.2.2.2.2.1 r34.2.2.2.2.2.2.2 ln ch (mX4_size n) (iI 33) (iI (-1)) r40 h_r40) gL_errors_X4_select rfl rfl rfl hdX4_select ⟨Nat.le_of_ble_eq_true rfl, Nat.le_of_ble_eq_true rfl⟩ [0, 1, 2, 3, 4, 5, 6, 7, 8, 9, 10, 11, 12] rfl 0 rfl rfl rfl hl.1 rfl (Nat.le_of_ble_eq_true rfl) dL_errors_236 ⟨Nat.zero_le _, Nat.zero_le _⟩ ?_
                                            refine lv_iload_n hx hb dL_errors_239 rfl (lv_at hl 2 rfl) ?_
                                            refine lv_icmp_ne (tgt := 367) hx hb dL_errors_240 (by decide) (fun c41 => ?_) (fun c41 => ?_)
                                            · replace h := ifn c41 h
                                              cases h
                                            · replace h := ifp c41 h
                                              refine lv_aload_n hx hb dL_errors_243 rfl (lv_at hl 4 rfl) ?_
                                              refine lv_iload_n hx hb dL_errors_244 rfl (lv_at hl 3 rfl) ?_
                                              refine lv_bipush (v := iI 33) hx hb dL_errors_245 (by decide) ?_
                                              obtain ⟨r42, h_r42, h⟩ := obd h
                                              refine rcV (rest := []) X hKK hP 2 (zX4_ancestorWith l D cI cC q n r34.2.1 r34.2.2.1 xd xl ((mX4_setWidth ((mX4_setWidth wi (iI 3)).2) (iI 33)).2) r34.2.2.2.1 r34.2.2.2.2.1 r34.2.2.2.2.2.1 r34.2.2.2.2.2.2.1 r34.2.2.2.2.2.2.2 ln ch (mX4_size n) (iI 33) r42 h_r42) gL_errors_X4_ancestorWith rfl rfl rfl hdX4_ancestorWith ⟨Nat.le_of_ble_eq_true rfl, Nat.le_of_ble_eq_true rfl⟩ [0, 1, 2, 3, 4, 5, 6, 7, 8, 9, 10, 11, 12] rfl 0 rfl rfl rfl hl.1 rfl (Nat.le_of_ble_eq_true rfl) dL_errors_247 ⟨Nat.zero_le _, Nat.zero_le _⟩ ?_
                                              refine lv_iload_n hx hb dL_errors_250 rfl (lv_at hl 2 rfl) ?_
                                              refine lv_icmp_ne (tgt := 367) hx hb dL_errors_251 (by decide) (fun c43 => ?_) (fun c43 => ?_)
                                              · replace h := ifn c43 h
                                                cases h
                                              · replace h := ifp c43 h
                                                refine lv_aload_n hx hb dL_errors_254 rfl (lv_at hl 4 rfl) ?_
                                                refine lv_iconst (v := iI 0) hx hb dL_errors_255 rfl ?_
                                                refine lv_bipush (v := iI 33) hx hb dL_errors_256 (by decide) ?_
                                                obtain ⟨r44, h_r44, h⟩ := obd h
                                                refine rcV (rest := []) X hKK hP 2 (zX4_ancestorWith l D cI cC q n r34.2.1 r34.2.2.1 xd xl ((mX4_setWidth ((mX4_setWidth wi (iI 3)).2) (iI 33)).2) r34.2.2.2.1 r34.2.2.2.2.1 r34.2.2.2.2.2.1 r34.2.2.2.2.2.2.1 r34.2.2.2.2.2.2.2 ln ch (iI 0) (iI 33) r44 h_r44) gL_errors_X4_ancestorWith rfl rfl rfl hdX4_ancestorWith ⟨Nat.le_of_ble_eq_true rfl, Nat.le_of_ble_eq_true rfl⟩ [0, 1, 2, 3, 4, 5, 6, 7, 8, 9, 10, 11, 12] rfl 0 rfl rfl rfl hl.1 rfl (Nat.le_of_ble_eq_true rfl) dL_errors_258 ⟨Nat.zero_le _, Nat.zero_le _⟩ ?_
                                                refine lv_iload_n hx hb dL_errors_261 rfl (lv_at hl 1 rfl) ?_
                                                refine lv_icmp_ne (tgt := 367) hx hb dL_errors_262 (by decide) (fun c45 => ?_) (fun c45 => ?_)
                                                · replace h := ifn c45 h
                                                  cases h
                                                · replace h := ifp c45 h
                                                  refine lv_aload_n hx hb dL_errors_265 rfl (lv_at hl 4 rfl) ?_
                                                  refine lv_iload_n hx hb dL_errors_266 rfl (lv_at hl 3 rfl) ?_
                                                  refine lv_iconst (v := iI 0) hx hb dL_errors_267 rfl ?_
                                                  obtain ⟨r46, h_r46, h⟩ := obd h
                                                  refine rcV (rest := []) X hKK hP 2 (zX4_areEqual l D cI cC q n r34.2.1 r34.2.2.1 xd xl ((mX4_setWidth ((mX4_setWidth wi (iI 3)).2) (iI 33)).2) r34.2.2.2.1 r34.2.2.2.2.1 r34.2.2.2.2.2.1 r34.2.2.2.2.2.2.1 r34.2.2.2.2.2.2.2 ln ch (mX4_size n) (iI 0) r46 h_r46) gL_errors_X4_areEqual rfl rfl rfl hdX4_areEqual ⟨Nat.le_of_ble_eq_true rfl, Nat.le_of_ble_eq_true rfl⟩ [0, 1, 2, 3, 4, 5, 6, 7, 8, 9, 10, 11, 12] rfl 0 rfl rfl rfl hl.1 rfl (Nat.le_of_ble_eq_true rfl) dL_errors_268 ⟨Nat.zero_le _, Nat.zero_le _⟩ ?_
                                                  refine lv_iload_n hx hb dL_errors_271 rfl (lv_at hl 2 rfl) ?_
                                                  refine lv_icmp_ne (tgt := 367) hx hb dL_errors_272 (by decide) (fun c47 => ?_) (fun c47 => ?_)
                                                  · replace h := ifn c47 h
                                                    cases h
                                                  · replace h := ifp c47 h
                                                    refine lv_aload_n hx hb dL_errors_275 rfl (lv_at hl 4 rfl) ?_
                                                    refine lv_iconst (v := iI (-1)) hx hb dL_errors_276 rfl ?_
                                                    obtain ⟨r48, h_r48, h⟩ := obd h
                                                    refine rcV (rest := []) X hKK hP 1 (zX4_copies l D cI cC q n r34.2.1 r34.2.2.1 xd xl ((mX4_setWidth ((mX4_setWidth wi (iI 3)).2) (iI 33)).2) r34.2.2.2.1 r34.2.2.2.2.1 r34.2.2.2.2.2.1 r34.2.2.2.2.2.2.1 r34.2.2.2.2.2.2.2 ln ch (iI (-1)) r48 h_r48) gL_errors_X4_copies rfl rfl rfl hdX4_copies ⟨Nat.le_of_ble_eq_true rfl, Nat.le_of_ble_eq_true rfl⟩ [0, 1, 2, 3, 4, 5, 6, 7, 8, 9, 10, 11, 12] rfl 0 rfl rfl rfl hl.1 rfl (Nat.le_of_ble_eq_true rfl) dL_errors_277 ⟨Nat.zero_le _, Nat.zero_le _⟩ ?_
                                                    refine lv_iload_n hx hb dL_errors_280 rfl (lv_at hl 2 rfl) ?_
                                                    refine lv_icmp_ne (tgt := 367) hx hb dL_errors_281 (by decide) (fun c49 => ?_) (fun c49 => ?_)
                                                    · replace h := ifn c49 h
                                                      cases h
                                                    · replace h := ifp c49 h
                                                      refine lv_aload_n hx hb dL_errors_284 rfl (lv_at hl 4 rfl) ?_
                                                      refine lv_iload_n hx hb dL_errors_285 rfl (lv_at hl 3 rfl) ?_
                                                      refine lv_iconst (v := iI (-1)) hx hb dL_errors_286 rfl ?_
                                                      refine lv_bipush (v := iI 33) hx hb dL_errors_287 (by decide) ?_
                                                      obtain ⟨r50, h_r50, h⟩ := obd h
                                                      refine mcV (rest := []) (wld2 := (wA cI q r50.2.1 r50.2.2.1 r50.2.2.2.1 xd xl (mX4_setWidth ((mX4_setWidth wi (iI 3)).2) (iI 33)).2 r50.2.2.2.2.1 r50.2.2.2.2.2.1 r50.2.2.2.2.2.2.1 r50.2.2.2.2.2.2.2.1 r50.2.2.2.2.2.2.2.2 ln ch)) (wr := pickAt [] (wA cI q n r34.2.1 r34.2.2.1 xd xl (mX4_setWidth ((mX4_setWidth wi (iI 3)).2) (iI 33)).2 r34.2.2.2.1 r34.2.2.2.2.1 r34.2.2.2.2.2.1 r34.2.2.2.2.2.2.1 r34.2.2.2.2.2.2.2 ln ch)) X hKK hP hD hS hA 3 (zX4_insert l D cI cC q _ n r34.2.1 r34.2.2.1 xd xl ((mX4_setWidth ((mX4_setWidth wi (iI 3)).2) (iI 33)).2) r34.2.2.2.1 r34.2.2.2.2.1 r34.2.2.2.2.2.1 r34.2.2.2.2.2.2.1 r34.2.2.2.2.2.2.2 ln ch (mX4_size n) (iI (-1)) (iI 33) r50 h_r50) gL_errors_X4_insert rfl rfl rfl hdX4_insert ⟨Nat.le_of_ble_eq_true rfl, Nat.le_of_ble_eq_true rfl⟩ [0, 1, 2, 3, 4, 5, 6, 7, 8, 9, 10, 11, 12] [] rfl rfl rfl rfl rfl (by decide) rfl [0, 1, 2, 3, 4, 5, 6, 7, 8, 9, 10, 11, 12] rfl rfl rfl 0 rfl rfl rfl hl.1 rfl (Nat.le_of_ble_eq_true rfl) dL_errors_289 ⟨Nat.zero_le _, Nat.zero_le _⟩ (fun H locs hP hD hS => ?_)
                                                      refine lv_iload_n hx hb dL_errors_292 rfl (lv_at hl 2 rfl) ?_
                                                      refine lv_icmp_ne (tgt := 367) hx hb dL_errors_293 (by decide) (fun c51 => ?_) (fun c51 => ?_)
                                                      · replace h := ifn c51 h
                                                        cases h
                                                      · replace h := ifp c51 h
                                                        refine lv_aload_n hx hb dL_errors_296 rfl (lv_at hl 4 rfl) ?_
                                                        refine lv_iload_n hx hb dL_errors_297 rfl (lv_at hl 3 rfl) ?_
                                                        refine lv_iconst (v := iI (-1)) hx hb dL_errors_298 rfl ?_
                                                        refine lv_iconst (v := iI 0) hx hb dL_errors_299 rfl ?_
                                                        refine lv_bipush (v := iI 97) hx hb dL_errors_300 (by decide) ?_
                                                        obtain ⟨r52, h_r52, h⟩ := obd h
                                                        refine mcV (rest := []) (wld2 := (wA cI q r52.2.1 r52.2.2.1 r52.2.2.2.1 xd xl (mX4_setWidth ((mX4_setWidth wi (iI 3)).2) (iI 33)).2 r52.2.2.2.2.1 r52.2.2.2.2.2.1 r52.2.2.2.2.2.2.1 r52.2.2.2.2.2.2.2.1 r52.2.2.2.2.2.2.2.2 ln ch)) (wr := pickAt [] (wA cI q r50.2.1 r50.2.2.1 r50.2.2.2.1 xd xl (mX4_setWidth ((mX4_setWidth wi (iI 3)).2) (iI 33)).2 r50.2.2.2.2.1 r50.2.2.2.2.2.1 r50.2.2.2.2.2.2.1 r50.2.2.2.2.2.2.2.1 r50.2.2.2.2.2.2.2.2 ln ch)) X hKK hP hD hS hA 4 (zX4_wrap l D cI cC q _ r50.2.1 r50.2.2.1 r50.2.2.2.1 xd xl ((mX4_setWidth ((mX4_setWidth wi (iI 3)).2) (iI 33)).2) r50.2.2.2.2.1 r50.2.2.2.2.2.1 r50.2.2.2.2.2.2.1 r50.2.2.2.2.2.2.2.1 r50.2.2.2.2.2.2.2.2 ln ch (mX4_size n) (iI (-1)) (iI 0) (iI 97) r52 h_r52) gL_errors_X4_wrap rfl rfl rfl hdX4_wrap ⟨Nat.le_of_ble_eq_true rfl, Nat.le_of_ble_eq_true rfl⟩ [0, 1, 2, 3, 4, 5, 6, 7, 8, 9, 10, 11, 12] [] rfl rfl rfl rfl rfl (by decide) rfl [0, 1, 2, 3, 4, 5, 6, 7, 8, 9, 10, 11, 12] rfl rfl rfl 0 rfl rfl rfl hl.1 rfl (Nat.le_of_ble_eq_true rfl) dL_errors_302 ⟨Nat.zero_le _, Nat.zero_le _⟩ (fun H locs hP hD hS => ?_)
                                                        refine lv_iload_n hx hb dL_errors_305 rfl (lv_at hl 2 rfl) ?_
                                                        refine lv_icmp_ne (tgt := 367) hx hb dL_errors_306 (by decide) (fun c53 => ?_) (fun c53 => ?_)
                                                        · replace h := ifn c53 h
                                                          cases h
                                                        · replace h := ifp c53 h
                                                          refine lv_aload_n hx hb dL_errors_309 rfl (lv_at hl 4 rfl) ?_
                                                          refine lv_iconst (v := iI 0) hx hb dL_errors_310 rfl ?_
                                                          refine lv_iconst (v := iI (-1)) hx hb dL_errors_311 rfl ?_
                                                          refine lv_iconst (v := iI 0) hx hb dL_errors_312 rfl ?_
                                                          refine lv_bipush (v := iI 97) hx hb dL_errors_313 (by decide) ?_
                                                          obtain ⟨r54, h_r54, h⟩ := obd h
                                                          refine mcV (rest := []) (wld2 := (wA cI q r54.2.1 r54.2.2.1 r54.2.2.2.1 xd xl (mX4_setWidth ((mX4_setWidth wi (iI 3)).2) (iI 33)).2 r54.2.2.2.2.1 r54.2.2.2.2.2.1 r54.2.2.2.2.2.2.1 r54.2.2.2.2.2.2.2.1 r54.2.2.2.2.2.2.2.2 ln ch)) (wr := pickAt [] (wA cI q r52.2.1 r52.2.2.1 r52.2.2.2.1 xd xl (mX4_setWidth ((mX4_setWidth wi (iI 3)).2) (iI 33)).2 r52.2.2.2.2.1 r52.2.2.2.2.2.1 r52.2.2.2.2.2.2.1 r52.2.2.2.2.2.2.2.1 r52.2.2.2.2.2.2.2.2 ln ch)) X hKK hP hD hS hA 4 (zX4_wrap l D cI cC q _ r52.2.1 r52.2.2.1 r52.2.2.2.1 xd xl ((mX4_setWidth ((mX4_setWidth wi (iI 3)).2) (iI 33)).2) r52.2.2.2.2.1 r52.2.2.2.2.2.1 r52.2.2.2.2.2.2.1 r52.2.2.2.2.2.2.2.1 r52.2.2.2.2.2.2.2.2 ln ch (iI 0) (iI (-1)) (iI 0) (iI 97) r54 h_r54) gL_errors_X4_wrap rfl rfl rfl hdX4_wrap ⟨Nat.le_of_ble_eq_true rfl, Nat.le_of_ble_eq_true rfl⟩ [0, 1, 2, 3, 4, 5, 6, 7, 8, 9, 10, 11, 12] [] rfl rfl rfl rfl rfl (by decide) rfl [0, 1, 2, 3, 4, 5, 6, 7, 8, 9, 10, 11, 12] rfl rfl rfl 0 rfl rfl rfl hl.1 rfl (Nat.le_of_ble_eq_true rfl) dL_errors_315 ⟨Nat.zero_le _, Nat.zero_le _⟩ (fun H locs hP hD hS => ?_)
                                                          refine lv_iload_n hx hb dL_errors_318 rfl (lv_at hl 1 rfl) ?_
                                                          refine lv_icmp_ne (tgt := 367) hx hb dL_errors_319 (by decide) (fun c55 => ?_) (fun c55 => ?_)
                                                          · replace h := ifn c55 h
                                                            cases h
                                                          · replace h := ifp c55 h
                                                            refine lv_aload_n hx hb dL_errors_322 rfl (lv_at hl 4 rfl) ?_
                                                            refine lv_iload_n hx hb dL_errors_323 rfl (lv_at hl 3 rfl) ?_
                                                            obtain ⟨r56, h_r56, h⟩ := obd h
                                                            refine mcV (rest := []) (wld2 := (wA cI q r56.2.1 r56.2.2.1 r56.2.2.2.1 xd xl (mX4_setWidth ((mX4_setWidth wi (iI 3)).2) (iI 33)).2 r56.2.2.2.2.1 r56.2.2.2.2.2.1 r56.2.2.2.2.2.2.1 r56.2.2.2.2.2.2.2.1 r56.2.2.2.2.2.2.2.2 ln ch)) (wr := pickAt [] (wA cI q r54.2.1 r54.2.2.1 r54.2.2.2.1 xd xl (mX4_setWidth ((mX4_setWidth wi (iI 3)).2) (iI 33)).2 r54.2.2.2.2.1 r54.2.2.2.2.2.1 r54.2.2.2.2.2.2.1 r54.2.2.2.2.2.2.2.1 r54.2.2.2.2.2.2.2.2 ln ch)) X hKK hP hD hS hA 1 (zX4_remove l D cI cC q _ r54.2.1 r54.2.2.1 r54.2.2.2.1 xd xl ((mX4_setWidth ((mX4_setWidth wi (iI 3)).2) (iI 33)).2) r54.2.2.2.2.1 r54.2.2.2.2.2.1 r54.2.2.2.2.2.2.1 r54.2.2.2.2.2.2.2.1 r54.2.2.2.2.2.2.2.2 ln ch (mX4_size n) r56 h_r56) gL_errors_X4_remove rfl rfl rfl hdX4_remove ⟨Nat.le_of_ble_eq_true rfl, Nat.le_of_ble_eq_true rfl⟩ [0, 1, 2, 3, 4, 5, 6, 7, 8, 9, 10, 11, 12] [] rfl rfl rfl rfl rfl (by decide) rfl [0, 1, 2, 3, 4, 5, 6, 7, 8, 9, 10, 11, 12] rfl rfl rfl 0 rfl rfl rfl hl.1 rfl (Nat.le_of_ble_eq_true rfl) dL_errors_324 ⟨Nat.zero_le _, Nat.zero_le _⟩ (fun H locs hP hD hS => ?_)
                                                            refine lv_iload_n hx hb dL_errors_327 rfl (lv_at hl 2 rfl) ?_
                                                            refine lv_icmp_ne (tgt := 367) hx hb dL_errors_328 (by decide) (fun c57 => ?_) (fun c57 => ?_)
                                                            · replace h := ifn c57 h
                                                              cases h
                                                            · replace h := ifp c57 h
                                                              refine lv_aload_n hx hb dL_errors_331 rfl (lv_at hl 4 rfl) ?_
                                                              refine lv_iconst (v := iI (-1)) hx hb dL_errors_332 rfl ?_
                                                              obtain ⟨r58, h_r58, h⟩ := obd h
                                                              refine mcV (rest := []) (wld2 := (wA cI q r58.2.1 r58.2.2.1 r58.2.2.2.1 xd xl (mX4_setWidth ((mX4_setWidth wi (iI 3)).2) (iI 33)).2 r58.2.2.2.2.1 r58.2.2.2.2.2.1 r58.2.2.2.2.2.2.1 r58.2.2.2.2.2.2.2.1 r58.2.2.2.2.2.2.2.2 ln ch)) (wr := pickAt [] (wA cI q r56.2.1 r56.2.2.1 r56.2.2.2.1 xd xl (mX4_setWidth ((mX4_setWidth wi (iI 3)).2) (iI 33)).2 r56.2.2.2.2.1 r56.2.2.2.2.2.1 r56.2.2.2.2.2.2.1 r56.2.2.2.2.2.2.2.1 r56.2.2.2.2.2.2.2.2 ln ch)) X hKK hP hD hS hA 1 (zX4_cut l D cI cC q _ r56.2.1 r56.2.2.1 r56.2.2.2.1 xd xl ((mX4_setWidth ((mX4_setWidth wi (iI 3)).2) (iI 33)).2) r56.2.2.2.2.1 r56.2.2.2.2.2.1 r56.2.2.2.2.2.2.1 r56.2.2.2.2.2.2.2.1 r56.2.2.2.2.2.2.2.2 ln ch (iI (-1)) r58 h_r58) gL_errors_X4_cut rfl rfl rfl hdX4_cut ⟨Nat.le_of_ble_eq_true rfl, Nat.le_of_ble_eq_true rfl⟩ [0, 1, 2, 3, 4, 5, 6, 7, 8, 9, 10, 11, 12] [] rfl rfl rfl rfl rfl (by decide) rfl [0, 1, 2, 3, 4, 5, 6, 7, 8, 9, 10, 11, 12] rfl rfl rfl 0 rfl rfl rfl hl.1 rfl (Nat.le_of_ble_eq_true rfl) dL_errors_333 ⟨Nat.zero_le _, Nat.zero_le _⟩ (fun H locs hP hD hS => ?_)
                                                              refine lv_iload_n hx hb dL_errors_336 rfl (lv_at hl 2 rfl) ?_
                                                              refine lv_icmp_ne (tgt := 367) hx hb dL_errors_337 (by decide) (fun c59 => ?_) (fun c59 => ?_)
                                                              · replace h := ifn c59 h
                                                                cases h
                                                              · replace h := ifp c59 h
                                                                refine lv_aload_n hx hb dL_errors_340 rfl (lv_at hl 4 rfl) ?_
                                                                refine lv_iconst (v := iI 0) hx hb dL_errors_341 rfl ?_
                                                                refine lv_iload_n hx hb dL_errors_342 rfl (lv_at hl 3 rfl) ?_
                                                                refine lv_iconst (v := iI 0) hx hb dL_errors_343 rfl ?_
                                                                obtain ⟨r60, h_r60, h⟩ := obd h
                                                                refine mcV (rest := []) (wld2 := (wA cI q r60.2.1 r60.2.2.1 r60.2.2.2.1 r60.2.2.2.2.1 r60.2.2.2.2.2.1 (mX4_setWidth ((mX4_setWidth wi (iI 3)).2) (iI 33)).2 r60.2.2.2.2.2.2.1 r60.2.2.2.2.2.2.2.1 r60.2.2.2.2.2.2.2.2.1 r60.2.2.2.2.2.2.2.2.2.1 r60.2.2.2.2.2.2.2.2.2.2 ln ch)) (wr := pickAt [] (wA cI q r58.2.1 r58.2.2.1 r58.2.2.2.1 xd xl (mX4_setWidth ((mX4_setWidth wi (iI 3)).2) (iI 33)).2 r58.2.2.2.2.1 r58.2.2.2.2.2.1 r58.2.2.2.2.2.2.1 r58.2.2.2.2.2.2.2.1 r58.2.2.2.2.2.2.2.2 ln ch)) X hKK hP hD hS hA 3 (zX4_move l D cI cC q _ r58.2.1 r58.2.2.1 r58.2.2.2.1 xd xl ((mX4_setWidth ((mX4_setWidth wi (iI 3)).2) (iI 33)).2) r58.2.2.2.2.1 r58.2.2.2.2.2.1 r58.2.2.2.2.2.2.1 r58.2.2.2.2.2.2.2.1 r58.2.2.2.2.2.2.2.2 ln ch (iI 0) (mX4_size n) (iI 0) r60 h_r60) gL_errors_X4_move rfl rfl rfl hdX4_move ⟨Nat.le_of_ble_eq_true rfl, Nat.le_of_ble_eq_true rfl⟩ [0, 1, 2, 3, 4, 5, 6, 7, 8, 9, 10, 11, 12] [] rfl rfl rfl rfl rfl (by decide) rfl [0, 1, 2, 3, 4, 5, 6, 7, 8, 9, 10, 11, 12] rfl rfl rfl 0 rfl rfl rfl hl.1 rfl (Nat.le_of_ble_eq_true rfl) dL_errors_344 ⟨Nat.zero_le _, Nat.zero_le _⟩ (fun H locs hP hD hS => ?_)
                                                                refine lv_iload_n hx hb dL_errors_347 rfl (lv_at hl 2 rfl) ?_
                                                                refine lv_icmp_ne (tgt := 367) hx hb dL_errors_348 (by decide) (fun c61 => ?_) (fun c61 => ?_)
                                                                · replace h := ifn c61 h
                                                                  cases h
                                                                · replace h := ifp c61 h
                                                                  refine lv_aload_n hx hb dL_errors_351 rfl (lv_at hl 4 rfl) ?_
                                                                  refine lv_iconst (v := iI 0) hx hb dL_errors_352 rfl ?_
                                                                  refine lv_iconst (v := iI 0) hx hb dL_errors_353 rfl ?_
                                                                  refine lv_iconst (v := iI (-1)) hx hb dL_errors_354 rfl ?_
                                                                  obtain ⟨r62, h_r62, h⟩ := obd h
                                                                  refine mcV (rest := []) (wld2 := (wA cI q r62.2.1 r62.2.2.1 r62.2.2.2.1 r62.2.2.2.2.1 r62.2.2.2.2.2.1 (mX4_setWidth ((mX4_setWidth wi (iI 3)).2) (iI 33)).2 r62.2.2.2.2.2.2.1 r62.2.2.2.2.2.2.2.1 r62.2.2.2.2.2.2.2.2.1 r62.2.2.2.2.2.2.2.2.2.1 r62.2.2.2.2.2.2.2.2.2.2 ln ch)) (wr := pickAt [] (wA cI q r60.2.1 r60.2.2.1 r60.2.2.2.1 r60.2.2.2.2.1 r60.2.2.2.2.2.1 (mX4_setWidth ((mX4_setWidth wi (iI 3)).2) (iI 33)).2 r60.2.2.2.2.2.2.1 r60.2.2.2.2.2.2.2.1 r60.2.2.2.2.2.2.2.2.1 r60.2.2.2.2.2.2.2.2.2.1 r60.2.2.2.2.2.2.2.2.2.2 ln ch)) X hKK hP hD hS hA 3 (zX4_move l D cI cC q _ r60.2.1 r60.2.2.1 r60.2.2.2.1 r60.2.2.2.2.1 r60.2.2.2.2.2.1 ((mX4_setWidth ((mX4_setWidth wi (iI 3)).2) (iI 33)).2) r60.2.2.2.2.2.2.1 r60.2.2.2.2.2.2.2.1 r60.2.2.2.2.2.2.2.2.1 r60.2.2.2.2.2.2.2.2.2.1 r60.2.2.2.2.2.2.2.2.2.2 ln ch (iI 0) (iI 0) (iI (-1)) r62 h_r62) gL_errors_X4_move rfl rfl rfl hdX4_move ⟨Nat.le_of_ble_eq_true rfl, Nat.le_of_ble_eq_true rfl⟩ [0, 1, 2, 3, 4, 5, 6, 7, 8, 9, 10, 11, 12] [] rfl rfl rfl rfl rfl (by decide) rfl [0, 1, 2, 3, 4, 5, 6, 7, 8, 9, 10, 11, 12] rfl rfl rfl 0 rfl rfl rfl hl.1 rfl (Nat.le_of_ble_eq_true rfl) dL_errors_355 ⟨Nat.zero_le _, Nat.zero_le _⟩ (fun H locs hP hD hS => ?_)
                                                                  refine lv_bipush (v := iI (-3)) hx hb dL_errors_358 (by decide) ?_
                                                                  refine lv_icmp_ne (tgt := 367) hx hb dL_errors_360 (by decide) (fun c63 => ?_) (fun c63 => ?_)
                                                                  · replace h := ifn c63 h
                                                                    cases h
                                                                  · replace h := ifp c63 h
                                                                    refine lv_iconst (v := iI 1) hx hb dL_errors_363 rfl ?_
                                                                    refine lv_goto (tgt := 368) hx hb dL_errors_364 (by decide) ?_
                                                                    replace h := Option.some.inj h
                                                                    subst h
                                                                    exact mu_ret X rfl rfl hP rfl hS dL_errors_368
