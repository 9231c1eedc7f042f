/-! 11: the law from its loops (by program, wip/p33/lay.py) -/
def mL_law_280 (sL : Nat) (sX : Nat → Int32) (rec : Int32 → (Nat → Int32) → (Nat → Int32) → (Nat → Int32) → (Nat → Int32) → Int32 → Int32 → Int32 → (Nat → Int32) → (Nat → Int32) → (Nat → Int32) → Int32 → (Nat → Int32) → Int32 → Int32 → Int32 → Option (Unit)) (n : Int32) (d : Nat → Int32) (lb : Nat → Int32) (xd : Nat → Int32) (xl : Nat → Int32) (wi : Int32) (sl : Int32) (kp : Int32) (ct : Nat → Int32) (gd : Nat → Int32) (gl : Nat → Int32) (ln : Int32) (ch : Nat → Int32) (x2 : Int32) (x3 : Int32) (x4 : Int32) : Option (Unit) := rec n d lb xd xl wi sl kp ct gd gl ln ch x2 x3 (x4 + iI 1)
def mL_law_279 (sL : Nat) (sX : Nat → Int32) (rec : Int32 → (Nat → Int32) → (Nat → Int32) → (Nat → Int32) → (Nat → Int32) → Int32 → Int32 → Int32 → (Nat → Int32) → (Nat → Int32) → (Nat → Int32) → Int32 → (Nat → Int32) → Int32 → Int32 → Int32 → Option (Unit)) (n : Int32) (d : Nat → Int32) (lb : Nat → Int32) (xd : Nat → Int32) (xl : Nat → Int32) (wi : Int32) (sl : Int32) (kp : Int32) (ct : Nat → Int32) (gd : Nat → Int32) (gl : Nat → Int32) (ln : Int32) (ch : Nat → Int32) (x2 : Int32) (x4 : Int32) (y0 : Int32) : Option (Unit) := mL_law_280 sL sX rec n d lb xd xl wi sl kp ct gd gl ln ch x2 y0 x4
def mL_law_119 (sL : Nat) (sX : Nat → Int32) (rec : Int32 → (Nat → Int32) → (Nat → Int32) → (Nat → Int32) → (Nat → Int32) → Int32 → Int32 → Int32 → (Nat → Int32) → (Nat → Int32) → (Nat → Int32) → Int32 → (Nat → Int32) → Int32 → Int32 → Int32 → Option (Unit)) (n : Int32) (d : Nat → Int32) (lb : Nat → Int32) (xd : Nat → Int32) (xl : Nat → Int32) (wi : Int32) (sl : Int32) (kp : Int32) (ct : Nat → Int32) (gd : Nat → Int32) (gl : Nat → Int32) (ln : Int32) (ch : Nat → Int32) (x2 : Int32) (x3 : Int32) (x4 : Int32) (x5 : Int32) (x6 : Int32) (y0 : Int32) : Option (Unit) := ((mL_edits n d lb xd xl sl kp ct gd gl y0 x5 x6 x3).bind fun r23 => (if 0 ≤ r23.1 then ((mL_low (x6 >>> ((iI 6) &&& 31)) (mX4_size r23.2.1)).bind fun r25 => ((mL_low (x6 >>> ((iI 13) &&& 31)) (mX4_size r23.2.1)).bind fun r26 => ((mL_node r23.2.1 r23.2.2.1 r23.2.2.2.1 r25).bind fun r27 => (if r27 = 0 then none else ((mL_node r23.2.1 r23.2.2.1 r23.2.2.2.1 r26).bind fun r29 => (if r29 = 0 then none else ((mL_two r23.2.1 r23.2.2.1 r23.2.2.2.1 r25 r26).bind fun r31 => (if r31 = 0 then none else ((mL_labels r23.2.1 r23.2.2.1 r23.2.2.2.1 r25 r26).bind fun r33 => (if r33 = 0 then none else (if ¬ ((iI 4) = 0) then (if (x4 - x4 / (iI 4) * (iI 4)) = (iI 3) then ((mL_low (x5 >>> ((iI 9) &&& 31)) (iI 29)).bind fun r37 => (if (mX4_setWidth wi ((iI 4) + r37)).1 = x2 then ((mL_low (x5 >>> ((iI 9) &&& 31)) (iI 29)).bind fun r39 => ((mL_blocks r23.2.1 r23.2.2.1 ((mX4_setWidth wi ((iI 4) + r37)).2) ((iI 4) + r39)).bind fun r40 => (if r40 = 0 then none else ((mL_texts r23.2.1 r23.2.2.1 r23.2.2.2.1 r23.2.2.2.2.2.2.1 r23.2.2.2.2.2.2.2.1 r23.2.2.2.2.2.2.2.2.1 r23.2.2.2.2.2.2.2.2.2.1 r23.2.2.2.2.2.2.2.2.2.2 ln ch r23.1).bind fun r42 => (if r42.1 = 0 then none else (if (iI 15) ≤ r23.1 then mL_law_279 sL sX rec r42.2.1 r42.2.2.1 r42.2.2.2.1 r23.2.2.2.2.1 r23.2.2.2.2.2.1 ((mX4_setWidth wi ((iI 4) + r37)).2) r42.2.2.2.2.1 r42.2.2.2.2.2.1 r42.2.2.2.2.2.2.1 r42.2.2.2.2.2.2.2.1 r42.2.2.2.2.2.2.2.2.1 r42.2.2.2.2.2.2.2.2.2.1 r42.2.2.2.2.2.2.2.2.2.2 ((iI 4) + r39) x4 (iI 14) else mL_law_279 sL sX rec r42.2.1 r42.2.2.1 r42.2.2.2.1 r23.2.2.2.2.1 r23.2.2.2.2.2.1 ((mX4_setWidth wi ((iI 4) + r37)).2) r42.2.2.2.2.1 r42.2.2.2.2.2.1 r42.2.2.2.2.2.2.1 r42.2.2.2.2.2.2.2.1 r42.2.2.2.2.2.2.2.2.1 r42.2.2.2.2.2.2.2.2.2.1 r42.2.2.2.2.2.2.2.2.2.2 ((iI 4) + r39) x4 r23.1)))))) else none)) else mL_law_280 sL sX rec r23.2.1 r23.2.2.1 r23.2.2.2.1 r23.2.2.2.2.1 r23.2.2.2.2.2.1 wi r23.2.2.2.2.2.2.1 r23.2.2.2.2.2.2.2.1 r23.2.2.2.2.2.2.2.2.1 r23.2.2.2.2.2.2.2.2.2.1 r23.2.2.2.2.2.2.2.2.2.2 ln ch x2 r23.1 x4) else none))))))))))) else none))
def mL_law_286 (sL : Nat) (sX : Nat → Int32) : Nat → Int32 → (Nat → Int32) → (Nat → Int32) → (Nat → Int32) → (Nat → Int32) → Int32 → Int32 → Int32 → (Nat → Int32) → (Nat → Int32) → (Nat → Int32) → Int32 → (Nat → Int32) → Int32 → Option (Unit)
  | 0, _, _, _, _, _, _, _, _, _, _, _, _, _, _ => none
  | f + 1, n, d, lb, xd, xl, wi, sl, kp, ct, gd, gl, ln, ch, x3 => (if x3 ≤ 0 then ((mX4_undo n d lb sl kp ct gd gl).bind fun r17 => (if r17.1 = (iI (-5)) then ((mL_errors r17.2.1 r17.2.2.1 r17.2.2.2.1 xd xl wi r17.2.2.2.2.1 r17.2.2.2.2.2 ct gd gl).bind fun r19 => (if r19.1 = 0 then none else some ())) else none)) else ((mX4_undo n d lb sl kp ct gd gl).bind fun r21 => (if r21.1 = (x3 + iI (-1)) then mL_law_286 sL sX f r21.2.1 r21.2.2.1 r21.2.2.2.1 xd xl wi r21.2.2.2.2.1 r21.2.2.2.2.2 ct gd gl ln ch (x3 + iI (-1)) else none)))
def mL_law_66 (sL : Nat) (sX : Nat → Int32) : Nat → Int32 → (Nat → Int32) → (Nat → Int32) → (Nat → Int32) → (Nat → Int32) → Int32 → Int32 → Int32 → (Nat → Int32) → (Nat → Int32) → (Nat → Int32) → Int32 → (Nat → Int32) → Int32 → Int32 → Int32 → Option (Unit)
  | 0, _, _, _, _, _, _, _, _, _, _, _, _, _, _, _, _ => none
  | f + 1, n, d, lb, xd, xl, wi, sl, kp, ct, gd, gl, ln, ch, x2, x3, x4 => (if (iI 40) ≤ x4 then mL_law_286 sL sX FU n d lb xd xl wi sl kp ct gd gl ln ch x3 else ((mL_cell sL sX ((iI 2) * x4)).bind fun r11 => ((mL_cell sL sX (((iI 2) * x4) + (iI 1))).bind fun r12 => (if (iI 14) ≤ x4 then ((mL_low r11 (iI 7)).bind fun r14 => mL_law_119 sL sX (mL_law_66 sL sX f) n d lb xd xl wi sl kp ct gd gl ln ch x2 x3 x4 r11 r12 r14) else ((mL_low r11 (iI 3)).bind fun r15 => mL_law_119 sL sX (mL_law_66 sL sX f) n d lb xd xl wi sl kp ct gd gl ln ch x2 x3 x4 r11 r12 r15)))))
def mL_law (sL : Nat) (sX : Nat → Int32) (n : Int32) (d : Nat → Int32) (lb : Nat → Int32) (xd : Nat → Int32) (xl : Nat → Int32) (wi : Int32) (sl : Int32) (kp : Int32) (ct : Nat → Int32) (gd : Nat → Int32) (gl : Nat → Int32) (ln : Int32) (ch : Nat → Int32)  : Option (Unit) := (if (mX4_size n) = (iI 1) then ((mX4_node n d lb (iI 0) (iI 10)).bind fun r2 => (if r2 = (iI 97) then ((mX4_undo n d lb sl kp ct gd gl).bind fun r4 => (if r4.1 = (iI (-5)) then ((mX4_written r4.2.1 r4.2.2.1 r4.2.2.2.1 (iI (-1))).bind fun r6 => (if r6 = (iI 1) then ((mX4_remove r4.2.1 r4.2.2.1 r4.2.2.2.1 r4.2.2.2.2.1 r4.2.2.2.2.2 ct gd gl (iI 0)).bind fun r8 => (if r8.1 = (iI (-3)) then mL_law_66 sL sX FU r8.2.1 r8.2.2.1 r8.2.2.2.1 xd xl wi r8.2.2.2.2.1 r8.2.2.2.2.2.1 r8.2.2.2.2.2.2.1 r8.2.2.2.2.2.2.2.1 r8.2.2.2.2.2.2.2.2 ln ch (iI 8) (iI 0) (iI 0) else none)) else none)) else none)) else none)) else none)
set_option maxHeartbeats 4000000 in
set_option maxRecDepth 100000 in
theorem kL_law_280 {p : Program} {l : Launch} {e : Env} {s : State} {m : MethodId} {below : List Frame} {meth : Method} {c : Code} {D : va_G} {cI cC : ClassId} {q : Nat → Nat} {b sL : Nat} {sX : Nat → Int32}  (X : CX p s m #[Value.ref b] meth c wsL_law cL_law 10 ret RL) (hKK : KK D cI cC s) (hA : ∀ z, s.heap.size ≤ z → (fun q : Nat => s.heap.size ≤ q) z) (hX : va_X b sL sX s s.heap) (hbl : b < s.heap.size) (rec : Int32 → (Nat → Int32) → (Nat → Int32) → (Nat → Int32) → (Nat → Int32) → Int32 → Int32 → Int32 → (Nat → Int32) → (Nat → Int32) → (Nat → Int32) → Int32 → (Nat → Int32) → Int32 → Int32 → Int32 → Option Unit) (hrec : ∀ (n : Int32) (d : Nat → Int32) (lb : Nat → Int32) (xd : Nat → Int32) (xl : Nat → Int32) (wi : Int32) (sl : Int32) (kp : Int32) (ct : Nat → Int32) (gd : Nat → Int32) (gl : Nat → Int32) (ln : Int32) (ch : Nat → Int32) (x2 : Int32) (x3 : Int32) (x4 : Int32) (H : Heap) (locs : List Loc) (ls : Array Slot), va_P D vwCl (wA cI q n d lb xd xl wi sl kp ct gd gl ln ch) H → va_D (fun q : Nat => s.heap.size ≤ q) (wA cI q n d lb xd xl wi sl kp ct gd gl ln ch) → va_S (fun q : Nat => s.heap.size ≤ q) s.heap H locs → lv_has ls 10 [(0, .ref b), (1, .ref (q 0)), (2, .int x2), (3, .int x3), (4, .int x4)] → rec n d lb xd xl wi sl kp ct gd gl ln ch x2 x3 x4 = some () → W p l e room_1 s m #[Value.ref b] below meth c H locs 13 3732 (lw_Z below #[Value.ref b] s) (F0 m 66 ls [])) : ∀ (n : Int32) (d : Nat → Int32) (lb : Nat → Int32) (xd : Nat → Int32) (xl : Nat → Int32) (wi : Int32) (sl : Int32) (kp : Int32) (ct : Nat → Int32) (gd : Nat → Int32) (gl : Nat → Int32) (ln : Int32) (ch : Nat → Int32) (x2 : Int32) (x3 : Int32) (x4 : Int32) (H : Heap) (locs : List Loc) (ls : Array Slot), va_P D vwCl (wA cI q n d lb xd xl wi sl kp ct gd gl ln ch) H → va_D (fun q : Nat => s.heap.size ≤ q) (wA cI q n d lb xd xl wi sl kp ct gd gl ln ch) → va_S (fun q : Nat => s.heap.size ≤ q) s.heap H locs → lv_has ls 10 [(0, .ref b), (1, .ref (q 0)), (2, .int x2), (3, .int x3), (4, .int x4)] → mL_law_280 sL sX rec n d lb xd xl wi sl kp ct gd gl ln ch x2 x3 x4 = some () → W p l e room_1 s m #[Value.ref b] below meth c H locs 13 3732 (lw_Z below #[Value.ref b] s) (F0 m 280 ls []) := by
  have hx := X.1
  have hb := X.2.1
  intro n d lb xd xl wi sl kp ct gd gl ln ch x2 x3 x4 H locs ls hP hD hS hl h
  unfold mL_law_280 at h
  refine lv_iinc (v := (x4 + iI 1)) (lv' := [(4, .int (x4 + iI 1)), (0, .ref b), (1, .ref (q 0)), (2, .int x2), (3, .int x3)]) hx hb dL_law_280 hl (k := 4) rfl rfl (by decide) rfl (fun ls hl => ?_)
  refine lv_goto (tgt := 66) hx hb dL_law_283 (by decide) ?_
  exact hrec n d lb xd xl wi sl kp ct gd gl ln ch x2 x3 (x4 + iI 1) _ _ ls hP hD hS (lv_sub hl [1, 2, 3, 4, 0] rfl) h
set_option maxHeartbeats 4000000 in
set_option maxRecDepth 100000 in
theorem kL_law_279 {p : Program} {l : Launch} {e : Env} {s : State} {m : MethodId} {below : List Frame} {meth : Method} {c : Code} {D : va_G} {cI cC : ClassId} {q : Nat → Nat} {b sL : Nat} {sX : Nat → Int32}  (X : CX p s m #[Value.ref b] meth c wsL_law cL_law 10 ret RL) (hKK : KK D cI cC s) (hA : ∀ z, s.heap.size ≤ z → (fun q : Nat => s.heap.size ≤ q) z) (hX : va_X b sL sX s s.heap) (hbl : b < s.heap.size) (rec : Int32 → (Nat → Int32) → (Nat → Int32) → (Nat → Int32) → (Nat → Int32) → Int32 → Int32 → Int32 → (Nat → Int32) → (Nat → Int32) → (Nat → Int32) → Int32 → (Nat → Int32) → Int32 → Int32 → Int32 → Option Unit) (hrec : ∀ (n : Int32) (d : Nat → Int32) (lb : Nat → Int32) (xd : Nat → Int32) (xl : Nat → Int32) (wi : Int32) (sl : Int32) (kp : Int32) (ct : Nat → Int32) (gd : Nat → Int32) (gl : Nat → Int32) (ln : Int32) (ch : Nat → Int32) (x2 : Int32) (x3 : Int32) (x4 : Int32) (H : Heap) (locs : List Loc) (ls : Array Slot), va_P D vwCl (wA cI q n d lb xd xl wi sl kp ct gd gl ln ch) H → va_D (fun q : Nat => s.heap.size ≤ q) (wA cI q n d lb xd xl wi sl kp ct gd gl ln ch) → va_S (fun q : Nat => s.heap.size ≤ q) s.heap H locs → lv_has ls 10 [(0, .ref b), (1, .ref (q 0)), (2, .int x2), (3, .int x3), (4, .int x4)] → rec n d lb xd xl wi sl kp ct gd gl ln ch x2 x3 x4 = some () → W p l e room_1 s m #[Value.ref b] below meth c H locs 13 3732 (lw_Z below #[Value.ref b] s) (F0 m 66 ls [])) : ∀ (n : Int32) (d : Nat → Int32) (lb : Nat → Int32) (xd : Nat → Int32) (xl : Nat → Int32) (wi : Int32) (sl : Int32) (kp : Int32) (ct : Nat → Int32) (gd : Nat → Int32) (gl : Nat → Int32) (ln : Int32) (ch : Nat → Int32) (x2 : Int32) (x4 : Int32) (y0 : Int32) (H : Heap) (locs : List Loc) (ls : Array Slot), va_P D vwCl (wA cI q n d lb xd xl wi sl kp ct gd gl ln ch) H → va_D (fun q : Nat => s.heap.size ≤ q) (wA cI q n d lb xd xl wi sl kp ct gd gl ln ch) → va_S (fun q : Nat => s.heap.size ≤ q) s.heap H locs → lv_has ls 10 [(0, .ref b), (1, .ref (q 0)), (2, .int x2), (4, .int x4)] → mL_law_279 sL sX rec n d lb xd xl wi sl kp ct gd gl ln ch x2 x4 y0 = some () → W p l e room_1 s m #[Value.ref b] below meth c H locs 13 3732 (lw_Z below #[Value.ref b] s) (F0 m 279 ls [.int y0]) := by
  have hx := X.1
  have hb := X.2.1
  intro n d lb xd xl wi sl kp ct gd gl ln ch x2 x4 y0 H locs ls hP hD hS hl h
  unfold mL_law_279 at h
  refine lv_istore_n (lv' := [(3, .int y0), (0, .ref b), (1, .ref (q 0)), (2, .int x2), (4, .int x4)]) hx hb dL_law_279 rfl hl (by decide) rfl (fun ls hl => ?_)
  exact kL_law_280 X hKK hA hX hbl rec hrec n d lb xd xl wi sl kp ct gd gl ln ch x2 y0 x4 _ _ ls hP hD hS (lv_sub hl [1, 2, 3, 0, 4] rfl) h
set_option maxHeartbeats 4000000 in
set_option maxRecDepth 100000 in
theorem kL_law_119 {p : Program} {l : Launch} {e : Env} {s : State} {m : MethodId} {below : List Frame} {meth : Method} {c : Code} {D : va_G} {cI cC : ClassId} {q : Nat → Nat} {b sL : Nat} {sX : Nat → Int32}  (X : CX p s m #[Value.ref b] meth c wsL_law cL_law 10 ret RL) (hKK : KK D cI cC s) (hA : ∀ z, s.heap.size ≤ z → (fun q : Nat => s.heap.size ≤ q) z) (hX : va_X b sL sX s s.heap) (hbl : b < s.heap.size) (rec : Int32 → (Nat → Int32) → (Nat → Int32) → (Nat → Int32) → (Nat → Int32) → Int32 → Int32 → Int32 → (Nat → Int32) → (Nat → Int32) → (Nat → Int32) → Int32 → (Nat → Int32) → Int32 → Int32 → Int32 → Option Unit) (hrec : ∀ (n : Int32) (d : Nat → Int32) (lb : Nat → Int32) (xd : Nat → Int32) (xl : Nat → Int32) (wi : Int32) (sl : Int32) (kp : Int32) (ct : Nat → Int32) (gd : Nat → Int32) (gl : Nat → Int32) (ln : Int32) (ch : Nat → Int32) (x2 : Int32) (x3 : Int32) (x4 : Int32) (H : Heap) (locs : List Loc) (ls : Array Slot), va_P D vwCl (wA cI q n d lb xd xl wi sl kp ct gd gl ln ch) H → va_D (fun q : Nat => s.heap.size ≤ q) (wA cI q n d lb xd xl wi sl kp ct gd gl ln ch) → va_S (fun q : Nat => s.heap.size ≤ q) s.heap H locs → lv_has ls 10 [(0, .ref b), (1, .ref (q 0)), (2, .int x2), (3, .int x3), (4, .int x4)] → rec n d lb xd xl wi sl kp ct gd gl ln ch x2 x3 x4 = some () → W p l e room_1 s m #[Value.ref b] below meth c H locs 13 3732 (lw_Z below #[Value.ref b] s) (F0 m 66 ls [])) : ∀ (n : Int32) (d : Nat → Int32) (lb : Nat → Int32) (xd : Nat → Int32) (xl : Nat → Int32) (wi : Int32) (sl : Int32) (kp : Int32) (ct : Nat → Int32) (gd : Nat → Int32) (gl : Nat → Int32) (ln : Int32) (ch : Nat → Int32) (x2 : Int32) (x3 : Int32) (x4 : Int32) (x5 : Int32) (x6 : Int32) (y0 : Int32) (H : Heap) (locs : List Loc) (ls : Array Slot), va_P D vwCl (wA cI q n d lb xd xl wi sl kp ct gd gl ln ch) H → va_D (fun q : Nat => s.heap.size ≤ q) (wA cI q n d lb xd xl wi sl kp ct gd gl ln ch) → va_S (fun q : Nat => s.heap.size ≤ q) s.heap H locs → lv_has ls 10 [(0, .ref b), (1, .ref (q 0)), (2, .int x2), (3, .int x3), (4, .int x4), (5, .int x5), (6, .int x6)] → mL_law_119 sL sX rec n d lb xd xl wi sl kp ct gd gl ln ch x2 x3 x4 x5 x6 y0 = some () → W p l e room_1 s m #[Value.ref b] below meth c H locs 13 3732 (lw_Z below #[Value.ref b] s) (F0 m 119 ls [.int y0, .ref (q 0)]) := by
  have hx := X.1
  have hb := X.2.1
  intro n d lb xd xl wi sl kp ct gd gl ln ch x2 x3 x4 x5 x6 y0 H locs ls hP hD hS hl h
  unfold mL_law_119 at h
  refine lv_iload hx hb dL_law_119 (lv_at hl 5 rfl) ?_
  refine lv_iload hx hb dL_law_121 (lv_at hl 6 rfl) ?_
  refine lv_iload_n hx hb dL_law_123 rfl (lv_at hl 3 rfl) ?_
  obtain ⟨r23, h_r23, h⟩ := obd h
  refine mcS2 (rest := []) (wld2 := (wA cI q r23.2.1 r23.2.2.1 r23.2.2.2.1 r23.2.2.2.2.1 r23.2.2.2.2.2.1 wi r23.2.2.2.2.2.2.1 r23.2.2.2.2.2.2.2.1 r23.2.2.2.2.2.2.2.2.1 r23.2.2.2.2.2.2.2.2.2.1 r23.2.2.2.2.2.2.2.2.2.2 ln ch)) (wr := pickAt [] (wA cI q n d lb xd xl wi sl kp ct gd gl ln ch)) X hKK hP hD hS hA 5 (zL_edits l D cI cC q _ n d lb xd xl wi sl kp ct gd gl ln ch y0 x5 x6 x3 r23 h_r23) gL_law_L_edits rfl rfl rfl hdL_edits.2 ⟨Nat.le_of_ble_eq_true rfl, Nat.le_of_ble_eq_true rfl⟩ [0, 1, 2, 3, 4, 5, 6, 7, 8, 9, 10, 11, 12] [] rfl rfl rfl rfl rfl (by decide) rfl [0, 1, 2, 3, 4, 5, 6, 7, 8, 9, 10, 11, 12] rfl rfl rfl rfl hl.1 rfl (Nat.le_of_ble_eq_true rfl) dL_law_124 ⟨Nat.le_of_ble_eq_true rfl, Nat.le_of_ble_eq_true rfl⟩ (fun H locs hP hD hS => ?_)
  refine lv_istore_n (lv' := [(3, .int r23.1), (0, .ref b), (1, .ref (q 0)), (2, .int x2), (4, .int x4), (5, .int x5), (6, .int x6)]) hx hb dL_law_127 rfl hl (by decide) rfl (fun ls hl => ?_)
  refine lv_iload_n hx hb dL_law_128 rfl (lv_at hl 0 rfl) ?_
  refine lv_if_ge (tgt := 134) hx hb dL_law_129 (by decide) (fun c24 => ?_) (fun c24 => ?_)
  · replace h := ifp c24 h
    refine lv_aload_n hx hb dL_law_134 rfl (lv_at hl 2 rfl) ?_
    refine rcV (rest := []) X hKK hP 0 (zX4_size l D cI cC q r23.2.1 r23.2.2.1 r23.2.2.2.1 r23.2.2.2.2.1 r23.2.2.2.2.2.1 wi r23.2.2.2.2.2.2.1 r23.2.2.2.2.2.2.2.1 r23.2.2.2.2.2.2.2.2.1 r23.2.2.2.2.2.2.2.2.2.1 r23.2.2.2.2.2.2.2.2.2.2 ln ch _ rfl) gL_law_X4_size rfl rfl rfl hdX4_size ⟨Nat.le_of_ble_eq_true rfl, Nat.le_of_ble_eq_true rfl⟩ [0, 1, 2, 3, 4, 5, 6, 7, 8, 9, 10, 11, 12] rfl 0 rfl rfl rfl hl.1 rfl (Nat.le_of_ble_eq_true rfl) dL_law_135 ⟨Nat.le_of_ble_eq_true rfl, Nat.le_of_ble_eq_true rfl⟩ ?_
    refine lv_istore (lv' := [(7, .int (mX4_size r23.2.1)), (3, .int r23.1), (0, .ref b), (1, .ref (q 0)), (2, .int x2), (4, .int x4), (5, .int x5), (6, .int x6)]) hx hb dL_law_138 hl (by decide) rfl (fun ls hl => ?_)
    refine lv_iload hx hb dL_law_140 (lv_at hl 7 rfl) ?_
    refine lv_bipush (v := iI 6) hx hb dL_law_142 (by decide) ?_
    refine lv_ishr hx hb dL_law_144 ?_
    refine lv_iload hx hb dL_law_145 (lv_at hl 0 rfl) ?_
    obtain ⟨r25, h_r25, h⟩ := obd h
    refine rcS2 (rest := []) X hKK hP 2 (zL_low l D cI cC (x6 >>> ((iI 6) &&& 31)) (mX4_size r23.2.1) r25 h_r25) gL_law_L_low rfl rfl rfl hdL_low.2 ⟨Nat.le_of_ble_eq_true rfl, Nat.le_of_ble_eq_true rfl⟩ [] rfl rfl hl.1 rfl (Nat.le_of_ble_eq_true rfl) dL_law_147 ⟨Nat.le_of_ble_eq_true rfl, Nat.le_of_ble_eq_true rfl⟩ ?_
    refine lv_istore (lv' := [(8, .int r25), (7, .int (mX4_size r23.2.1)), (3, .int r23.1), (0, .ref b), (1, .ref (q 0)), (2, .int x2), (4, .int x4), (5, .int x5), (6, .int x6)]) hx hb dL_law_150 hl (by decide) rfl (fun ls hl => ?_)
    refine lv_iload hx hb dL_law_152 (lv_at hl 8 rfl) ?_
    refine lv_bipush (v := iI 13) hx hb dL_law_154 (by decide) ?_
    refine lv_ishr hx hb dL_law_156 ?_
    refine lv_iload hx hb dL_law_157 (lv_at hl 1 rfl) ?_
    obtain ⟨r26, h_r26, h⟩ := obd h
    refine rcS2 (rest := []) X hKK hP 2 (zL_low l D cI cC (x6 >>> ((iI 13) &&& 31)) (mX4_size r23.2.1) r26 h_r26) gL_law_L_low rfl rfl rfl hdL_low.2 ⟨Nat.le_of_ble_eq_true rfl, Nat.le_of_ble_eq_true rfl⟩ [] rfl rfl hl.1 rfl (Nat.le_of_ble_eq_true rfl) dL_law_159 ⟨Nat.le_of_ble_eq_true rfl, Nat.le_of_ble_eq_true rfl⟩ ?_
    refine lv_istore (lv' := [(9, .int r26), (8, .int r25), (7, .int (mX4_size r23.2.1)), (3, .int r23.1), (0, .ref b), (1, .ref (q 0)), (2, .int x2), (4, .int x4), (5, .int x5), (6, .int x6)]) hx hb dL_law_162 hl (by decide) rfl (fun ls hl => ?_)
    refine lv_aload_n hx hb dL_law_164 rfl (lv_at hl 5 rfl) ?_
    refine lv_iload hx hb dL_law_165 (lv_at hl 1 rfl) ?_
    obtain ⟨r27, h_r27, h⟩ := obd h
    refine rcS2 (rest := []) X hKK hP 2 (zL_node l D cI cC q r23.2.1 r23.2.2.1 r23.2.2.2.1 r23.2.2.2.2.1 r23.2.2.2.2.2.1 wi r23.2.2.2.2.2.2.1 r23.2.2.2.2.2.2.2.1 r23.2.2.2.2.2.2.2.2.1 r23.2.2.2.2.2.2.2.2.2.1 r23.2.2.2.2.2.2.2.2.2.2 ln ch r25 r27 h_r27) gL_law_L_node rfl rfl rfl hdL_node.2 ⟨Nat.le_of_ble_eq_true rfl, Nat.le_of_ble_eq_true rfl⟩ [0, 1, 2, 3, 4, 5, 6, 7, 8, 9, 10, 11, 12] rfl rfl hl.1 rfl (Nat.le_of_ble_eq_true rfl) dL_law_167 ⟨Nat.le_of_ble_eq_true rfl, Nat.le_of_ble_eq_true rfl⟩ ?_
    refine lv_if_eq (tgt := 204) hx hb dL_law_170 (by decide) (fun c28 => ?_) (fun c28 => ?_)
    · replace h := ifp c28 h
      cases h
    · replace h := ifn c28 h
      refine lv_aload_n hx hb dL_law_173 rfl (lv_at hl 5 rfl) ?_
      refine lv_iload hx hb dL_law_174 (lv_at hl 0 rfl) ?_
      obtain ⟨r29, h_r29, h⟩ := obd h
      refine rcS2 (rest := []) X hKK hP 2 (zL_node l D cI cC q r23.2.1 r23.2.2.1 r23.2.2.2.1 r23.2.2.2.2.1 r23.2.2.2.2.2.1 wi r23.2.2.2.2.2.2.1 r23.2.2.2.2.2.2.2.1 r23.2.2.2.2.2.2.2.2.1 r23.2.2.2.2.2.2.2.2.2.1 r23.2.2.2.2.2.2.2.2.2.2 ln ch r26 r29 h_r29) gL_law_L_node rfl rfl rfl hdL_node.2 ⟨Nat.le_of_ble_eq_true rfl, Nat.le_of_ble_eq_true rfl⟩ [0, 1, 2, 3, 4, 5, 6, 7, 8, 9, 10, 11, 12] rfl rfl hl.1 rfl (Nat.le_of_ble_eq_true rfl) dL_law_176 ⟨Nat.le_of_ble_eq_true rfl, Nat.le_of_ble_eq_true rfl⟩ ?_
      refine lv_if_eq (tgt := 204) hx hb dL_law_179 (by decide) (fun c30 => ?_) (fun c30 => ?_)
      · replace h := ifp c30 h
        cases h
      · replace h := ifn c30 h
        refine lv_aload_n hx hb dL_law_182 rfl (lv_at hl 5 rfl) ?_
        refine lv_iload hx hb dL_law_183 (lv_at hl 1 rfl) ?_
        refine lv_iload hx hb dL_law_185 (lv_at hl 0 rfl) ?_
        obtain ⟨r31, h_r31, h⟩ := obd h
        refine rcS2 (rest := []) X hKK hP 3 (zL_two l D cI cC q r23.2.1 r23.2.2.1 r23.2.2.2.1 r23.2.2.2.2.1 r23.2.2.2.2.2.1 wi r23.2.2.2.2.2.2.1 r23.2.2.2.2.2.2.2.1 r23.2.2.2.2.2.2.2.2.1 r23.2.2.2.2.2.2.2.2.2.1 r23.2.2.2.2.2.2.2.2.2.2 ln ch r25 r26 r31 h_r31) gL_law_L_two rfl rfl rfl hdL_two.2 ⟨Nat.le_of_ble_eq_true rfl, Nat.le_of_ble_eq_true rfl⟩ [0, 1, 2, 3, 4, 5, 6, 7, 8, 9, 10, 11, 12] rfl rfl hl.1 rfl (Nat.le_of_ble_eq_true rfl) dL_law_187 ⟨Nat.le_of_ble_eq_true rfl, Nat.le_of_ble_eq_true rfl⟩ ?_
        refine lv_if_eq (tgt := 204) hx hb dL_law_190 (by decide) (fun c32 => ?_) (fun c32 => ?_)
        · replace h := ifp c32 h
          cases h
        · replace h := ifn c32 h
          refine lv_aload_n hx hb dL_law_193 rfl (lv_at hl 5 rfl) ?_
          refine lv_iload hx hb dL_law_194 (lv_at hl 1 rfl) ?_
          refine lv_iload hx hb dL_law_196 (lv_at hl 0 rfl) ?_
          obtain ⟨r33, h_r33, h⟩ := obd h
          refine rcS2 (rest := []) X hKK hP 3 (zL_labels l D cI cC q r23.2.1 r23.2.2.1 r23.2.2.2.1 r23.2.2.2.2.1 r23.2.2.2.2.2.1 wi r23.2.2.2.2.2.2.1 r23.2.2.2.2.2.2.2.1 r23.2.2.2.2.2.2.2.2.1 r23.2.2.2.2.2.2.2.2.2.1 r23.2.2.2.2.2.2.2.2.2.2 ln ch r25 r26 r33 h_r33) gL_law_L_labels rfl rfl rfl hdL_labels.2 ⟨Nat.le_of_ble_eq_true rfl, Nat.le_of_ble_eq_true rfl⟩ [0, 1, 2, 3, 4, 5, 6, 7, 8, 9, 10, 11, 12] rfl rfl hl.1 rfl (Nat.le_of_ble_eq_true rfl) dL_law_198 ⟨Nat.le_of_ble_eq_true rfl, Nat.le_of_ble_eq_true rfl⟩ ?_
          refine lv_if_ne (tgt := 206) hx hb dL_law_201 (by decide) (fun c34 => ?_) (fun c34 => ?_)
          · replace h := ifn c34 h
            refine lv_iload hx hb dL_law_206 (lv_at hl 7 rfl) ?_
            refine lv_iconst (v := iI 4) hx hb dL_law_208 rfl ?_
            obtain ⟨g35, h⟩ := asr h
            refine lv_irem hx hb dL_law_209 g35 ?_
            refine lv_iconst (v := iI 3) hx hb dL_law_210 rfl ?_
            refine lv_icmp_ne (tgt := 280) hx hb dL_law_211 (by decide) (fun c36 => ?_) (fun c36 => ?_)
            · replace h := ifn c36 h
              exact kL_law_280 X hKK hA hX hbl rec hrec r23.2.1 r23.2.2.1 r23.2.2.2.1 r23.2.2.2.2.1 r23.2.2.2.2.2.1 wi r23.2.2.2.2.2.2.1 r23.2.2.2.2.2.2.2.1 r23.2.2.2.2.2.2.2.2.1 r23.2.2.2.2.2.2.2.2.2.1 r23.2.2.2.2.2.2.2.2.2.2 ln ch x2 r23.1 x4 _ _ ls hP hD hS (lv_sub hl [4, 5, 6, 3, 7] rfl) h
            · replace h := ifp c36 h
              refine lv_aload_n hx hb dL_law_214 rfl (lv_at hl 5 rfl) ?_
              refine lv_iconst (v := iI 4) hx hb dL_law_215 rfl ?_
              refine lv_iload hx hb dL_law_216 (lv_at hl 8 rfl) ?_
              refine lv_bipush (v := iI 9) hx hb dL_law_218 (by decide) ?_
              refine lv_ishr hx hb dL_law_220 ?_
              refine lv_bipush (v := iI 29) hx hb dL_law_221 (by decide) ?_
              obtain ⟨r37, h_r37, h⟩ := obd h
              refine rcS2 (rest := [.int (iI 4), .ref (q 0)]) X hKK hP 2 (zL_low l D cI cC (x5 >>> ((iI 9) &&& 31)) (iI 29) r37 h_r37) gL_law_L_low rfl rfl rfl hdL_low.2 ⟨Nat.le_of_ble_eq_true rfl, Nat.le_of_ble_eq_true rfl⟩ [] rfl rfl hl.1 rfl (Nat.le_of_ble_eq_true rfl) dL_law_223 ⟨Nat.le_of_ble_eq_true rfl, Nat.le_of_ble_eq_true rfl⟩ ?_
              refine lv_iadd hx hb dL_law_226 ?_
              refine mcV (rest := []) (wld2 := (wA cI q r23.2.1 r23.2.2.1 r23.2.2.2.1 r23.2.2.2.2.1 r23.2.2.2.2.2.1 (mX4_setWidth wi ((iI 4) + r37)).2 r23.2.2.2.2.2.2.1 r23.2.2.2.2.2.2.2.1 r23.2.2.2.2.2.2.2.2.1 r23.2.2.2.2.2.2.2.2.2.1 r23.2.2.2.2.2.2.2.2.2.2 ln ch)) (wr := pickAt [] (wA cI q r23.2.1 r23.2.2.1 r23.2.2.2.1 r23.2.2.2.2.1 r23.2.2.2.2.2.1 wi r23.2.2.2.2.2.2.1 r23.2.2.2.2.2.2.2.1 r23.2.2.2.2.2.2.2.2.1 r23.2.2.2.2.2.2.2.2.2.1 r23.2.2.2.2.2.2.2.2.2.2 ln ch)) X hKK hP hD hS hA 1 (zX4_setWidth l D cI cC q _ r23.2.1 r23.2.2.1 r23.2.2.2.1 r23.2.2.2.2.1 r23.2.2.2.2.2.1 wi r23.2.2.2.2.2.2.1 r23.2.2.2.2.2.2.2.1 r23.2.2.2.2.2.2.2.2.1 r23.2.2.2.2.2.2.2.2.2.1 r23.2.2.2.2.2.2.2.2.2.2 ln ch ((iI 4) + r37) _ rfl) gL_law_X4_setWidth rfl rfl rfl hdX4_setWidth ⟨Nat.le_of_ble_eq_true rfl, Nat.le_of_ble_eq_true rfl⟩ [0, 1, 2, 3, 4, 5, 6, 7, 8, 9, 10, 11, 12] [] rfl rfl rfl rfl rfl (by decide) rfl [0, 1, 2, 3, 4, 5, 6, 7, 8, 9, 10, 11, 12] rfl rfl rfl 0 rfl rfl rfl hl.1 rfl (Nat.le_of_ble_eq_true rfl) dL_law_227 ⟨Nat.le_of_ble_eq_true rfl, Nat.le_of_ble_eq_true rfl⟩ (fun H locs hP hD hS => ?_)
              refine lv_iload_n hx hb dL_law_230 rfl (lv_at hl 6 rfl) ?_
              refine lv_icmp_eq (tgt := 236) hx hb dL_law_231 (by decide) (fun c38 => ?_) (fun c38 => ?_)
              · replace h := ifp c38 h
                refine lv_iconst (v := iI 4) hx hb dL_law_236 rfl ?_
                refine lv_iload hx hb dL_law_237 (lv_at hl 8 rfl) ?_
                refine lv_bipush (v := iI 9) hx hb dL_law_239 (by decide) ?_
                refine lv_ishr hx hb dL_law_241 ?_
                refine lv_bipush (v := iI 29) hx hb dL_law_242 (by decide) ?_
                obtain ⟨r39, h_r39, h⟩ := obd h
                refine rcS2 (rest := [.int (iI 4)]) X hKK hP 2 (zL_low l D cI cC (x5 >>> ((iI 9) &&& 31)) (iI 29) r39 h_r39) gL_law_L_low rfl rfl rfl hdL_low.2 ⟨Nat.le_of_ble_eq_true rfl, Nat.le_of_ble_eq_true rfl⟩ [] rfl rfl hl.1 rfl (Nat.le_of_ble_eq_true rfl) dL_law_244 ⟨Nat.le_of_ble_eq_true rfl, Nat.le_of_ble_eq_true rfl⟩ ?_
                refine lv_iadd hx hb dL_law_247 ?_
                refine lv_istore_n (lv' := [(2, .int ((iI 4) + r39)), (9, .int r26), (8, .int r25), (7, .int (mX4_size r23.2.1)), (3, .int r23.1), (0, .ref b), (1, .ref (q 0)), (4, .int x4), (5, .int x5), (6, .int x6)]) hx hb dL_law_248 rfl hl (by decide) rfl (fun ls hl => ?_)
                refine lv_aload_n hx hb dL_law_249 rfl (lv_at hl 6 rfl) ?_
                refine lv_iload_n hx hb dL_law_250 rfl (lv_at hl 0 rfl) ?_
                obtain ⟨r40, h_r40, h⟩ := obd h
                refine rcS2 (rest := []) X hKK hP 2 (zL_blocks l D cI cC q r23.2.1 r23.2.2.1 r23.2.2.2.1 r23.2.2.2.2.1 r23.2.2.2.2.2.1 ((mX4_setWidth wi ((iI 4) + r37)).2) r23.2.2.2.2.2.2.1 r23.2.2.2.2.2.2.2.1 r23.2.2.2.2.2.2.2.2.1 r23.2.2.2.2.2.2.2.2.2.1 r23.2.2.2.2.2.2.2.2.2.2 ln ch ((iI 4) + r39) r40 h_r40) gL_law_L_blocks rfl rfl rfl hdL_blocks.2 ⟨Nat.le_of_ble_eq_true rfl, Nat.le_of_ble_eq_true rfl⟩ [0, 1, 2, 3, 4, 5, 6, 7, 8, 9, 10, 11, 12] rfl rfl hl.1 rfl (Nat.le_of_ble_eq_true rfl) dL_law_251 ⟨Nat.le_of_ble_eq_true rfl, Nat.le_of_ble_eq_true rfl⟩ ?_
                refine lv_if_eq (tgt := 265) hx hb dL_law_254 (by decide) (fun c41 => ?_) (fun c41 => ?_)
                · replace h := ifp c41 h
                  cases h
                · replace h := ifn c41 h
                  refine lv_aload_n hx hb dL_law_257 rfl (lv_at hl 6 rfl) ?_
                  refine lv_iload_n hx hb dL_law_258 rfl (lv_at hl 4 rfl) ?_
                  obtain ⟨r42, h_r42, h⟩ := obd h
                  refine mcS2 (rest := []) (wld2 := (wA cI q r42.2.1 r42.2.2.1 r42.2.2.2.1 r23.2.2.2.2.1 r23.2.2.2.2.2.1 (mX4_setWidth wi ((iI 4) + r37)).2 r42.2.2.2.2.1 r42.2.2.2.2.2.1 r42.2.2.2.2.2.2.1 r42.2.2.2.2.2.2.2.1 r42.2.2.2.2.2.2.2.2.1 r42.2.2.2.2.2.2.2.2.2.1 r42.2.2.2.2.2.2.2.2.2.2)) (wr := pickAt [] (wA cI q r23.2.1 r23.2.2.1 r23.2.2.2.1 r23.2.2.2.2.1 r23.2.2.2.2.2.1 (mX4_setWidth wi ((iI 4) + r37)).2 r23.2.2.2.2.2.2.1 r23.2.2.2.2.2.2.2.1 r23.2.2.2.2.2.2.2.2.1 r23.2.2.2.2.2.2.2.2.2.1 r23.2.2.2.2.2.2.2.2.2.2 ln ch)) X hKK hP hD hS hA 2 (zL_texts l D cI cC q _ r23.2.1 r23.2.2.1 r23.2.2.2.1 r23.2.2.2.2.1 r23.2.2.2.2.2.1 ((mX4_setWidth wi ((iI 4) + r37)).2) r23.2.2.2.2.2.2.1 r23.2.2.2.2.2.2.2.1 r23.2.2.2.2.2.2.2.2.1 r23.2.2.2.2.2.2.2.2.2.1 r23.2.2.2.2.2.2.2.2.2.2 ln ch r23.1 r42 h_r42) gL_law_L_texts rfl rfl rfl hdL_texts.2 ⟨Nat.le_of_ble_eq_true rfl, Nat.le_of_ble_eq_true rfl⟩ [0, 1, 2, 3, 4, 5, 6, 7, 8, 9, 10, 11, 12] [] rfl rfl rfl rfl rfl (by decide) rfl [0, 1, 2, 3, 4, 5, 6, 7, 8, 9, 10, 11, 12] rfl rfl rfl rfl hl.1 rfl (Nat.le_of_ble_eq_true rfl) dL_law_259 ⟨Nat.le_of_ble_eq_true rfl, Nat.le_of_ble_eq_true rfl⟩ (fun H locs hP hD hS => ?_)
                  refine lv_if_ne (tgt := 267) hx hb dL_law_262 (by decide) (fun c43 => ?_) (fun c43 => ?_)
                  · replace h := ifn c43 h
                    refine lv_iload_n hx hb dL_law_267 rfl (lv_at hl 4 rfl) ?_
                    refine lv_bipush (v := iI 15) hx hb dL_law_268 (by decide) ?_
                    refine lv_icmp_ge (tgt := 277) hx hb dL_law_270 (by decide) (fun c44 => ?_) (fun c44 => ?_)
                    · replace h := ifp c44 h
                      refine lv_bipush (v := iI 14) hx hb dL_law_277 (by decide) ?_
                      exact kL_law_279 X hKK hA hX hbl rec hrec r42.2.1 r42.2.2.1 r42.2.2.2.1 r23.2.2.2.2.1 r23.2.2.2.2.2.1 ((mX4_setWidth wi ((iI 4) + r37)).2) r42.2.2.2.2.1 r42.2.2.2.2.2.1 r42.2.2.2.2.2.2.1 r42.2.2.2.2.2.2.2.1 r42.2.2.2.2.2.2.2.2.1 r42.2.2.2.2.2.2.2.2.2.1 r42.2.2.2.2.2.2.2.2.2.2 ((iI 4) + r39) x4 (iI 14) _ _ ls hP hD hS (lv_sub hl [5, 6, 0, 7] rfl) h
                    · replace h := ifn c44 h
                      refine lv_iload_n hx hb dL_law_273 rfl (lv_at hl 4 rfl) ?_
                      refine lv_goto (tgt := 279) hx hb dL_law_274 (by decide) ?_
                      exact kL_law_279 X hKK hA hX hbl rec hrec r42.2.1 r42.2.2.1 r42.2.2.2.1 r23.2.2.2.2.1 r23.2.2.2.2.2.1 ((mX4_setWidth wi ((iI 4) + r37)).2) r42.2.2.2.2.1 r42.2.2.2.2.2.1 r42.2.2.2.2.2.2.1 r42.2.2.2.2.2.2.2.1 r42.2.2.2.2.2.2.2.2.1 r42.2.2.2.2.2.2.2.2.2.1 r42.2.2.2.2.2.2.2.2.2.2 ((iI 4) + r39) x4 r23.1 _ _ ls hP hD hS (lv_sub hl [5, 6, 0, 7] rfl) h
                  · replace h := ifp c43 h
                    cases h
              · replace h := ifn c38 h
                cases h
          · replace h := ifp c34 h
            cases h
  · replace h := ifn c24 h
    cases h
set_option maxHeartbeats 4000000 in
set_option maxRecDepth 100000 in
theorem kL_law_286 {p : Program} {l : Launch} {e : Env} {s : State} {m : MethodId} {below : List Frame} {meth : Method} {c : Code} {D : va_G} {cI cC : ClassId} {q : Nat → Nat} {b sL : Nat} {sX : Nat → Int32}  (X : CX p s m #[Value.ref b] meth c wsL_law cL_law 10 ret RL) (hKK : KK D cI cC s) (hA : ∀ z, s.heap.size ≤ z → (fun q : Nat => s.heap.size ≤ q) z) (hX : va_X b sL sX s s.heap) (hbl : b < s.heap.size) : ∀ (f : Nat), ∀ (n : Int32) (d : Nat → Int32) (lb : Nat → Int32) (xd : Nat → Int32) (xl : Nat → Int32) (wi : Int32) (sl : Int32) (kp : Int32) (ct : Nat → Int32) (gd : Nat → Int32) (gl : Nat → Int32) (ln : Int32) (ch : Nat → Int32) (x3 : Int32) (H : Heap) (locs : List Loc) (ls : Array Slot), va_P D vwCl (wA cI q n d lb xd xl wi sl kp ct gd gl ln ch) H → va_D (fun q : Nat => s.heap.size ≤ q) (wA cI q n d lb xd xl wi sl kp ct gd gl ln ch) → va_S (fun q : Nat => s.heap.size ≤ q) s.heap H locs → lv_has ls 10 [(1, .ref (q 0)), (3, .int x3)] → mL_law_286 sL sX f n d lb xd xl wi sl kp ct gd gl ln ch x3 = some () → W p l e room_1 s m #[Value.ref b] below meth c H locs 13 3732 (lw_Z below #[Value.ref b] s) (F0 m 286 ls []) := by
  have hx := X.1
  have hb := X.2.1
  intro f
  induction f with
  | zero =>
    intro n d lb xd xl wi sl kp ct gd gl ln ch x3 H locs ls hP hD hS hl h
    exact absurd h (by unfold mL_law_286; intro h; cases h)
  | succ f ih =>
    intro n d lb xd xl wi sl kp ct gd gl ln ch x3 H locs ls hP hD hS hl h
    rw [mL_law_286] at h
    refine lv_iload_n hx hb dL_law_286 rfl (lv_at hl 1 rfl) ?_
    refine lv_if_le (tgt := 303) hx hb dL_law_287 (by decide) (fun c16 => ?_) (fun c16 => ?_)
    · replace h := ifp c16 h
      refine lv_aload_n hx hb dL_law_303 rfl (lv_at hl 0 rfl) ?_
      obtain ⟨r17, h_r17, h⟩ := obd h
      refine mcV (rest := []) (wld2 := (wA cI q r17.2.1 r17.2.2.1 r17.2.2.2.1 xd xl wi r17.2.2.2.2.1 r17.2.2.2.2.2 ct gd gl ln ch)) (wr := pickAt [] (wA cI q n d lb xd xl wi sl kp ct gd gl ln ch)) X hKK hP hD hS hA 0 (zX4_undo l D cI cC q _ n d lb xd xl wi sl kp ct gd gl ln ch r17 h_r17) gL_law_X4_undo rfl rfl rfl hdX4_undo ⟨Nat.le_of_ble_eq_true rfl, Nat.le_of_ble_eq_true rfl⟩ [0, 1, 2, 3, 4, 5, 6, 7, 8, 9, 10, 11, 12] [] rfl rfl rfl rfl rfl (by decide) rfl [0, 1, 2, 3, 4, 5, 6, 7, 8, 9, 10, 11, 12] rfl rfl rfl 0 rfl rfl rfl hl.1 rfl (Nat.le_of_ble_eq_true rfl) dL_law_304 ⟨Nat.le_of_ble_eq_true rfl, Nat.le_of_ble_eq_true rfl⟩ (fun H locs hP hD hS => ?_)
      refine lv_bipush (v := iI (-5)) hx hb dL_law_307 (by decide) ?_
      refine lv_icmp_ne (tgt := 323) hx hb dL_law_309 (by decide) (fun c18 => ?_) (fun c18 => ?_)
      · replace h := ifn c18 h
        cases h
      · replace h := ifp c18 h
        refine lv_aload_n hx hb dL_law_312 rfl (lv_at hl 0 rfl) ?_
        obtain ⟨r19, h_r19, h⟩ := obd h
        refine mcS2 (rest := []) (wld2 := (wA cI q r19.2.1 r19.2.2.1 r19.2.2.2.1 r19.2.2.2.2.1 r19.2.2.2.2.2.1 r19.2.2.2.2.2.2.1 r19.2.2.2.2.2.2.2.1 r19.2.2.2.2.2.2.2.2.1 r19.2.2.2.2.2.2.2.2.2.1 r19.2.2.2.2.2.2.2.2.2.2.1 r19.2.2.2.2.2.2.2.2.2.2.2 ln ch)) (wr := pickAt [] (wA cI q r17.2.1 r17.2.2.1 r17.2.2.2.1 xd xl wi r17.2.2.2.2.1 r17.2.2.2.2.2 ct gd gl ln ch)) X hKK hP hD hS hA 1 (zL_errors l D cI cC q _ r17.2.1 r17.2.2.1 r17.2.2.2.1 xd xl wi r17.2.2.2.2.1 r17.2.2.2.2.2 ct gd gl ln ch r19 h_r19) gL_law_L_errors rfl rfl rfl hdL_errors.2 ⟨Nat.le_of_ble_eq_true rfl, Nat.le_of_ble_eq_true rfl⟩ [0, 1, 2, 3, 4, 5, 6, 7, 8, 9, 10, 11, 12] [] rfl rfl rfl rfl rfl (by decide) rfl [0, 1, 2, 3, 4, 5, 6, 7, 8, 9, 10, 11, 12] rfl rfl rfl rfl hl.1 rfl (Nat.le_of_ble_eq_true rfl) dL_law_313 ⟨Nat.le_of_ble_eq_true rfl, Nat.le_of_ble_eq_true rfl⟩ (fun H locs hP hD hS => ?_)
        refine lv_if_eq (tgt := 323) hx hb dL_law_316 (by decide) (fun c20 => ?_) (fun c20 => ?_)
        · replace h := ifp c20 h
          cases h
        · replace h := ifn c20 h
          refine lv_iconst (v := 1) hx hb dL_law_319 (by decide) ?_
          refine lv_goto (tgt := 324) hx hb dL_law_320 (by decide) ?_
          refine va_forget (fun q hq => hS.2.2 q hq) ?_
          exact lw_ret hx hb X.2.2.2.2.2.1 X.2.2.2.2.2.2 dL_law_324
    · replace h := ifn c16 h
      refine lv_iinc (v := (x3 + iI (-1))) (lv' := [(3, .int (x3 + iI (-1))), (1, .ref (q 0))]) hx hb dL_law_290 hl (k := 1) rfl rfl (by decide) rfl (fun ls hl => ?_)
      refine lv_aload_n hx hb dL_law_293 rfl (lv_at hl 1 rfl) ?_
      obtain ⟨r21, h_r21, h⟩ := obd h
      refine mcV (rest := []) (wld2 := (wA cI q r21.2.1 r21.2.2.1 r21.2.2.2.1 xd xl wi r21.2.2.2.2.1 r21.2.2.2.2.2 ct gd gl ln ch)) (wr := pickAt [] (wA cI q n d lb xd xl wi sl kp ct gd gl ln ch)) X hKK hP hD hS hA 0 (zX4_undo l D cI cC q _ n d lb xd xl wi sl kp ct gd gl ln ch r21 h_r21) gL_law_X4_undo rfl rfl rfl hdX4_undo ⟨Nat.le_of_ble_eq_true rfl, Nat.le_of_ble_eq_true rfl⟩ [0, 1, 2, 3, 4, 5, 6, 7, 8, 9, 10, 11, 12] [] rfl rfl rfl rfl rfl (by decide) rfl [0, 1, 2, 3, 4, 5, 6, 7, 8, 9, 10, 11, 12] rfl rfl rfl 0 rfl rfl rfl hl.1 rfl (Nat.le_of_ble_eq_true rfl) dL_law_294 ⟨Nat.le_of_ble_eq_true rfl, Nat.le_of_ble_eq_true rfl⟩ (fun H locs hP hD hS => ?_)
      refine lv_iload_n hx hb dL_law_297 rfl (lv_at hl 0 rfl) ?_
      refine lv_icmp_eq (tgt := 286) hx hb dL_law_298 (by decide) (fun c22 => ?_) (fun c22 => ?_)
      · replace h := ifp c22 h
        exact ih r21.2.1 r21.2.2.1 r21.2.2.2.1 xd xl wi r21.2.2.2.2.1 r21.2.2.2.2.2 ct gd gl ln ch (x3 + iI (-1)) _ _ ls hP hD hS (lv_sub hl [1, 0] rfl) h
      · replace h := ifn c22 h
        cases h
set_option maxHeartbeats 4000000 in
set_option maxRecDepth 100000 in
theorem kL_law_66 {p : Program} {l : Launch} {e : Env} {s : State} {m : MethodId} {below : List Frame} {meth : Method} {c : Code} {D : va_G} {cI cC : ClassId} {q : Nat → Nat} {b sL : Nat} {sX : Nat → Int32}  (X : CX p s m #[Value.ref b] meth c wsL_law cL_law 10 ret RL) (hKK : KK D cI cC s) (hA : ∀ z, s.heap.size ≤ z → (fun q : Nat => s.heap.size ≤ q) z) (hX : va_X b sL sX s s.heap) (hbl : b < s.heap.size) : ∀ (f : Nat), ∀ (n : Int32) (d : Nat → Int32) (lb : Nat → Int32) (xd : Nat → Int32) (xl : Nat → Int32) (wi : Int32) (sl : Int32) (kp : Int32) (ct : Nat → Int32) (gd : Nat → Int32) (gl : Nat → Int32) (ln : Int32) (ch : Nat → Int32) (x2 : Int32) (x3 : Int32) (x4 : Int32) (H : Heap) (locs : List Loc) (ls : Array Slot), va_P D vwCl (wA cI q n d lb xd xl wi sl kp ct gd gl ln ch) H → va_D (fun q : Nat => s.heap.size ≤ q) (wA cI q n d lb xd xl wi sl kp ct gd gl ln ch) → va_S (fun q : Nat => s.heap.size ≤ q) s.heap H locs → lv_has ls 10 [(0, .ref b), (1, .ref (q 0)), (2, .int x2), (3, .int x3), (4, .int x4)] → mL_law_66 sL sX f n d lb xd xl wi sl kp ct gd gl ln ch x2 x3 x4 = some () → W p l e room_1 s m #[Value.ref b] below meth c H locs 13 3732 (lw_Z below #[Value.ref b] s) (F0 m 66 ls []) := by
  have hx := X.1
  have hb := X.2.1
  intro f
  induction f with
  | zero =>
    intro n d lb xd xl wi sl kp ct gd gl ln ch x2 x3 x4 H locs ls hP hD hS hl h
    exact absurd h (by unfold mL_law_66; intro h; cases h)
  | succ f ih =>
    intro n d lb xd xl wi sl kp ct gd gl ln ch x2 x3 x4 H locs ls hP hD hS hl h
    rw [mL_law_66] at h
    refine lv_iload hx hb dL_law_66 (lv_at hl 4 rfl) ?_
    refine lv_bipush (v := iI 40) hx hb dL_law_68 (by decide) ?_
    refine lv_icmp_ge (tgt := 286) hx hb dL_law_70 (by decide) (fun c10 => ?_) (fun c10 => ?_)
    · replace h := ifp c10 h
      exact kL_law_286 X hKK hA hX hbl FU n d lb xd xl wi sl kp ct gd gl ln ch x3 _ _ ls hP hD hS (lv_sub hl [1, 3] rfl) h
    · replace h := ifn c10 h
      refine lv_aload_n hx hb dL_law_73 rfl (lv_at hl 0 rfl) ?_
      refine lv_iconst (v := iI 2) hx hb dL_law_74 rfl ?_
      refine lv_iload hx hb dL_law_75 (lv_at hl 4 rfl) ?_
      refine lv_imul hx hb dL_law_77 ?_
      obtain ⟨r11, h_r11, h⟩ := obd h
      refine rcB (rest := []) X (XB.blind (as := [.ref b, .int ((iI 2) * x4)]) (b := b) (L := sL) (xs := sX)) (fun U hU hW => ⟨by rw [hU]; exact Nat.lt_of_lt_of_le hbl hS.1, by rw [hU]; exact (hX.kept (hS.2.1 b hbl (Nat.not_le.mpr hbl))).moved hW.alike⟩) 2 (zL_cell l b sL sX ((iI 2) * x4) r11 h_r11) gL_law_L_cell rfl rfl rfl hdL_cell.2 ⟨Nat.le_of_ble_eq_true rfl, Nat.le_of_ble_eq_true rfl⟩ rfl hl.1 rfl (Nat.le_of_ble_eq_true rfl) dL_law_78 ⟨Nat.le_of_ble_eq_true rfl, Nat.le_of_ble_eq_true rfl⟩ ?_
      refine lv_istore (lv' := [(5, .int r11), (0, .ref b), (1, .ref (q 0)), (2, .int x2), (3, .int x3), (4, .int x4)]) hx hb dL_law_81 hl (by decide) rfl (fun ls hl => ?_)
      refine lv_aload_n hx hb dL_law_83 rfl (lv_at hl 1 rfl) ?_
      refine lv_iconst (v := iI 2) hx hb dL_law_84 rfl ?_
      refine lv_iload hx hb dL_law_85 (lv_at hl 5 rfl) ?_
      refine lv_imul hx hb dL_law_87 ?_
      refine lv_iconst (v := iI 1) hx hb dL_law_88 rfl ?_
      refine lv_iadd hx hb dL_law_89 ?_
      obtain ⟨r12, h_r12, h⟩ := obd h
      refine rcB (rest := []) X (XB.blind (as := [.ref b, .int (((iI 2) * x4) + (iI 1))]) (b := b) (L := sL) (xs := sX)) (fun U hU hW => ⟨by rw [hU]; exact Nat.lt_of_lt_of_le hbl hS.1, by rw [hU]; exact (hX.kept (hS.2.1 b hbl (Nat.not_le.mpr hbl))).moved hW.alike⟩) 2 (zL_cell l b sL sX (((iI 2) * x4) + (iI 1)) r12 h_r12) gL_law_L_cell rfl rfl rfl hdL_cell.2 ⟨Nat.le_of_ble_eq_true rfl, Nat.le_of_ble_eq_true rfl⟩ rfl hl.1 rfl (Nat.le_of_ble_eq_true rfl) dL_law_90 ⟨Nat.le_of_ble_eq_true rfl, Nat.le_of_ble_eq_true rfl⟩ ?_
      refine lv_istore (lv' := [(6, .int r12), (5, .int r11), (0, .ref b), (1, .ref (q 0)), (2, .int x2), (3, .int x3), (4, .int x4)]) hx hb dL_law_93 hl (by decide) rfl (fun ls hl => ?_)
      refine lv_aload_n hx hb dL_law_95 rfl (lv_at hl 3 rfl) ?_
      refine lv_iload hx hb dL_law_96 (lv_at hl 6 rfl) ?_
      refine lv_bipush (v := iI 14) hx hb dL_law_98 (by decide) ?_
      refine lv_icmp_ge (tgt := 112) hx hb dL_law_100 (by decide) (fun c13 => ?_) (fun c13 => ?_)
      · replace h := ifp c13 h
        refine lv_iload hx hb dL_law_112 (lv_at hl 1 rfl) ?_
        refine lv_bipush (v := iI 7) hx hb dL_law_114 (by decide) ?_
        obtain ⟨r14, h_r14, h⟩ := obd h
        refine rcS2 (rest := [.ref (q 0)]) X hKK hP 2 (zL_low l D cI cC r11 (iI 7) r14 h_r14) gL_law_L_low rfl rfl rfl hdL_low.2 ⟨Nat.le_of_ble_eq_true rfl, Nat.le_of_ble_eq_true rfl⟩ [] rfl rfl hl.1 rfl (Nat.le_of_ble_eq_true rfl) dL_law_116 ⟨Nat.le_of_ble_eq_true rfl, Nat.le_of_ble_eq_true rfl⟩ ?_
        exact kL_law_119 X hKK hA hX hbl (mL_law_66 sL sX f) ih n d lb xd xl wi sl kp ct gd gl ln ch x2 x3 x4 r11 r12 r14 _ _ ls hP hD hS (lv_sub hl [2, 3, 4, 5, 6, 1, 0] rfl) h
      · replace h := ifn c13 h
        refine lv_iload hx hb dL_law_103 (lv_at hl 1 rfl) ?_
        refine lv_iconst (v := iI 3) hx hb dL_law_105 rfl ?_
        obtain ⟨r15, h_r15, h⟩ := obd h
        refine rcS2 (rest := [.ref (q 0)]) X hKK hP 2 (zL_low l D cI cC r11 (iI 3) r15 h_r15) gL_law_L_low rfl rfl rfl hdL_low.2 ⟨Nat.le_of_ble_eq_true rfl, Nat.le_of_ble_eq_true rfl⟩ [] rfl rfl hl.1 rfl (Nat.le_of_ble_eq_true rfl) dL_law_106 ⟨Nat.le_of_ble_eq_true rfl, Nat.le_of_ble_eq_true rfl⟩ ?_
        refine lv_goto (tgt := 119) hx hb dL_law_109 (by decide) ?_
        exact kL_law_119 X hKK hA hX hbl (mL_law_66 sL sX f) ih n d lb xd xl wi sl kp ct gd gl ln ch x2 x3 x4 r11 r12 r15 _ _ ls hP hD hS (lv_sub hl [2, 3, 4, 5, 6, 1, 0] rfl) h
set_option maxHeartbeats 4000000 in
set_option maxRecDepth 100000 in
theorem zL_law {p : Program} {l : Launch} {e : Env} {s : State} {m : MethodId} {below : List Frame} {meth : Method} {c : Code} {D : va_G} {cI cC : ClassId} {q : Nat → Nat} {b sL : Nat} {sX : Nat → Int32}  (X : CX p s m #[Value.ref b] meth c wsL_law cL_law 10 ret RL) (hKK : KK D cI cC s) (hA : ∀ z, s.heap.size ≤ z → (fun q : Nat => s.heap.size ≤ q) z) (hX : va_X b sL sX s s.heap) (hbl : b < s.heap.size) : ∀ (n : Int32) (d : Nat → Int32) (lb : Nat → Int32) (xd : Nat → Int32) (xl : Nat → Int32) (wi : Int32) (sl : Int32) (kp : Int32) (ct : Nat → Int32) (gd : Nat → Int32) (gl : Nat → Int32) (ln : Int32) (ch : Nat → Int32) (H : Heap) (locs : List Loc) (ls : Array Slot), va_P D vwCl (wA cI q n d lb xd xl wi sl kp ct gd gl ln ch) H → va_D (fun q : Nat => s.heap.size ≤ q) (wA cI q n d lb xd xl wi sl kp ct gd gl ln ch) → va_S (fun q : Nat => s.heap.size ≤ q) s.heap H locs → lv_has ls 10 [(1, .ref (q 0)), (0, .ref b)] → mL_law sL sX n d lb xd xl wi sl kp ct gd gl ln ch = some () → W p l e room_1 s m #[Value.ref b] below meth c H locs 13 3732 (lw_Z below #[Value.ref b] s) (F0 m 8 ls []) := by
  intro n d lb xd xl wi sl kp ct gd gl ln ch H locs ls hP hD hS hl h
  have hx := X.1
  have hb := X.2.1
  unfold mL_law at h
  refine lv_bipush (v := iI 8) hx hb dL_law_8 (by decide) ?_
  refine lv_istore_n (lv' := [(2, .int (iI 8)), (1, .ref (q 0)), (0, .ref b)]) hx hb dL_law_10 rfl hl (by decide) rfl (fun ls hl => ?_)
  refine lv_iconst (v := iI 0) hx hb dL_law_11 rfl ?_
  refine lv_istore_n (lv' := [(3, .int (iI 0)), (2, .int (iI 8)), (1, .ref (q 0)), (0, .ref b)]) hx hb dL_law_12 rfl hl (by decide) rfl (fun ls hl => ?_)
  refine lv_aload_n hx hb dL_law_13 rfl (lv_at hl 2 rfl) ?_
  refine rcV (rest := []) X hKK hP 0 (zX4_size l D cI cC q n d lb xd xl wi sl kp ct gd gl ln ch _ rfl) gL_law_X4_size rfl rfl rfl hdX4_size ⟨Nat.le_of_ble_eq_true rfl, Nat.le_of_ble_eq_true rfl⟩ [0, 1, 2, 3, 4, 5, 6, 7, 8, 9, 10, 11, 12] rfl 0 rfl rfl rfl hl.1 rfl (Nat.le_of_ble_eq_true rfl) dL_law_14 ⟨Nat.le_of_ble_eq_true rfl, Nat.le_of_ble_eq_true rfl⟩ ?_
  refine lv_iconst (v := iI 1) hx hb dL_law_17 rfl ?_
  refine lv_icmp_ne (tgt := 61) hx hb dL_law_18 (by decide) (fun c1 => ?_) (fun c1 => ?_)
  · replace h := ifn c1 h
    cases h
  · replace h := ifp c1 h
    refine lv_aload_n hx hb dL_law_21 rfl (lv_at hl 2 rfl) ?_
    refine lv_iconst (v := iI 0) hx hb dL_law_22 rfl ?_
    refine lv_bipush (v := iI 10) hx hb dL_law_23 (by decide) ?_
    obtain ⟨r2, h_r2, h⟩ := obd h
    refine rcV (rest := []) X hKK hP 2 (zX4_node l D cI cC q n d lb xd xl wi sl kp ct gd gl ln ch (iI 0) (iI 10) r2 h_r2) gL_law_X4_node rfl rfl rfl hdX4_node ⟨Nat.le_of_ble_eq_true rfl, Nat.le_of_ble_eq_true rfl⟩ [0, 1, 2, 3, 4, 5, 6, 7, 8, 9, 10, 11, 12] rfl 0 rfl rfl rfl hl.1 rfl (Nat.le_of_ble_eq_true rfl) dL_law_25 ⟨Nat.le_of_ble_eq_true rfl, Nat.le_of_ble_eq_true rfl⟩ ?_
    refine lv_bipush (v := iI 97) hx hb dL_law_28 (by decide) ?_
    refine lv_icmp_ne (tgt := 61) hx hb dL_law_30 (by decide) (fun c3 => ?_) (fun c3 => ?_)
    · replace h := ifn c3 h
      cases h
    · replace h := ifp c3 h
      refine lv_aload_n hx hb dL_law_33 rfl (lv_at hl 2 rfl) ?_
      obtain ⟨r4, h_r4, h⟩ := obd h
      refine mcV (rest := []) (wld2 := (wA cI q r4.2.1 r4.2.2.1 r4.2.2.2.1 xd xl wi r4.2.2.2.2.1 r4.2.2.2.2.2 ct gd gl ln ch)) (wr := pickAt [] (wA cI q n d lb xd xl wi sl kp ct gd gl ln ch)) X hKK hP hD hS hA 0 (zX4_undo l D cI cC q _ n d lb xd xl wi sl kp ct gd gl ln ch r4 h_r4) gL_law_X4_undo rfl rfl rfl hdX4_undo ⟨Nat.le_of_ble_eq_true rfl, Nat.le_of_ble_eq_true rfl⟩ [0, 1, 2, 3, 4, 5, 6, 7, 8, 9, 10, 11, 12] [] rfl rfl rfl rfl rfl (by decide) rfl [0, 1, 2, 3, 4, 5, 6, 7, 8, 9, 10, 11, 12] rfl rfl rfl 0 rfl rfl rfl hl.1 rfl (Nat.le_of_ble_eq_true rfl) dL_law_34 ⟨Nat.le_of_ble_eq_true rfl, Nat.le_of_ble_eq_true rfl⟩ (fun H locs hP hD hS => ?_)
      refine lv_bipush (v := iI (-5)) hx hb dL_law_37 (by decide) ?_
      refine lv_icmp_ne (tgt := 61) hx hb dL_law_39 (by decide) (fun c5 => ?_) (fun c5 => ?_)
      · replace h := ifn c5 h
        cases h
      · replace h := ifp c5 h
        refine lv_aload_n hx hb dL_law_42 rfl (lv_at hl 2 rfl) ?_
        refine lv_iconst (v := iI (-1)) hx hb dL_law_43 rfl ?_
        obtain ⟨r6, h_r6, h⟩ := obd h
        refine rcV (rest := []) X hKK hP 1 (zX4_written l D cI cC q r4.2.1 r4.2.2.1 r4.2.2.2.1 xd xl wi r4.2.2.2.2.1 r4.2.2.2.2.2 ct gd gl ln ch (iI (-1)) r6 h_r6) gL_law_X4_written rfl rfl rfl hdX4_written ⟨Nat.le_of_ble_eq_true rfl, Nat.le_of_ble_eq_true rfl⟩ [0, 1, 2, 3, 4, 5, 6, 7, 8, 9, 10, 11, 12] rfl 0 rfl rfl rfl hl.1 rfl (Nat.le_of_ble_eq_true rfl) dL_law_44 ⟨Nat.le_of_ble_eq_true rfl, Nat.le_of_ble_eq_true rfl⟩ ?_
        refine lv_iconst (v := iI 1) hx hb dL_law_47 rfl ?_
        refine lv_icmp_ne (tgt := 61) hx hb dL_law_48 (by decide) (fun c7 => ?_) (fun c7 => ?_)
        · replace h := ifn c7 h
          cases h
        · replace h := ifp c7 h
          refine lv_aload_n hx hb dL_law_51 rfl (lv_at hl 2 rfl) ?_
          refine lv_iconst (v := iI 0) hx hb dL_law_52 rfl ?_
          obtain ⟨r8, h_r8, h⟩ := obd h
          refine mcV (rest := []) (wld2 := (wA cI q r8.2.1 r8.2.2.1 r8.2.2.2.1 xd xl wi r8.2.2.2.2.1 r8.2.2.2.2.2.1 r8.2.2.2.2.2.2.1 r8.2.2.2.2.2.2.2.1 r8.2.2.2.2.2.2.2.2 ln ch)) (wr := pickAt [] (wA cI q r4.2.1 r4.2.2.1 r4.2.2.2.1 xd xl wi r4.2.2.2.2.1 r4.2.2.2.2.2 ct gd gl ln ch)) X hKK hP hD hS hA 1 (zX4_remove l D cI cC q _ r4.2.1 r4.2.2.1 r4.2.2.2.1 xd xl wi r4.2.2.2.2.1 r4.2.2.2.2.2 ct gd gl ln ch (iI 0) r8 h_r8) gL_law_X4_remove rfl rfl rfl hdX4_remove ⟨Nat.le_of_ble_eq_true rfl, Nat.le_of_ble_eq_true rfl⟩ [0, 1, 2, 3, 4, 5, 6, 7, 8, 9, 10, 11, 12] [] rfl rfl rfl rfl rfl (by decide) rfl [0, 1, 2, 3, 4, 5, 6, 7, 8, 9, 10, 11, 12] rfl rfl rfl 0 rfl rfl rfl hl.1 rfl (Nat.le_of_ble_eq_true rfl) dL_law_53 ⟨Nat.le_of_ble_eq_true rfl, Nat.le_of_ble_eq_true rfl⟩ (fun H locs hP hD hS => ?_)
          refine lv_bipush (v := iI (-3)) hx hb dL_law_56 (by decide) ?_
          refine lv_icmp_eq (tgt := 63) hx hb dL_law_58 (by decide) (fun c9 => ?_) (fun c9 => ?_)
          · replace h := ifp c9 h
            refine lv_iconst (v := iI 0) hx hb dL_law_63 rfl ?_
            refine lv_istore (lv' := [(4, .int (iI 0)), (3, .int (iI 0)), (2, .int (iI 8)), (1, .ref (q 0)), (0, .ref b)]) hx hb dL_law_64 hl (by decide) rfl (fun ls hl => ?_)
            exact kL_law_66 X hKK hA hX hbl FU r8.2.1 r8.2.2.1 r8.2.2.2.1 xd xl wi r8.2.2.2.2.1 r8.2.2.2.2.2.1 r8.2.2.2.2.2.2.1 r8.2.2.2.2.2.2.2.1 r8.2.2.2.2.2.2.2.2 ln ch (iI 8) (iI 0) (iI 0) _ _ ls hP hD hS (lv_sub hl [4, 3, 2, 1, 0] rfl) h
          · replace h := ifn c9 h
            cases h
