/-! 57: what is refused (the law's errors) -/
section ERRORS
variable {N S K : Int} {F G : Int → Int} {d lb xd xl ct gd gl : Nat → Int32}
theorem hasN (T : TR N F G (iI N) d lb) : mX3_has (iI N) (iI N) = iI 0 := by
  have n := T.1.nn
  rw [hasOf T N (by omega) (by omega), if_neg (by omega)]
theorem hasM (T : TR N F G (iI N) d lb) : mX3_has (iI N) (iI (-1)) = iI 0 := by
  have n := T.1.nn
  rw [hasOf T (-1) (by omega) (by omega), if_neg (by omega)]
theorem has0 (T : TR N F G (iI N) d lb) : mX3_has (iI N) (iI 0) = iI 1 := by
  have n := T.1.nn
  rw [hasOf T 0 (by omega) (by omega), if_pos (by omega)]
theorem errors_ok (T : TR N F G (iI N) d lb) (H : HI S K ct gd gl) (wi : Int32) : ∃ r, mL_errors (iI N) d lb xd xl wi (iI S) (iI K) ct gd gl = some (iI 1, r) := by
  have n := T.1.nn
  have f0 := T.1.2.2.1
  have l0 := letterOf 33 (by omega) (by omega)
  rw [if_neg (by omega)] at l0
  have r1 : mX4_node (iI N) d lb (iI N) (iI 99) = some (iI (-1)) := by unfold mX4_node; rw [hasN T, if_pos e00]
  have r2 : mX4_node (iI N) d lb (iI 0) (iI 11) = some (iI (-2)) := by
    unfold mX4_node
    rw [has0 T, if_neg e10, if_neg (by decide), if_neg (by decide), if_neg (by decide), if_neg (by decide), if_neg (by decide), if_neg (by decide), if_neg (by decide), if_neg (by decide), if_neg (by decide), if_neg (by decide), if_neg (by decide)]
  have r3 : mX4_child (iI N) d (iI N) (iI (-1)) = some (iI (-1)) := by unfold mX4_child; rw [hasN T, if_pos e00]
  have r4 : mX4_neighbour (iI N) d (iI (-1)) (iI 9) = some (iI (-1)) := by unfold mX4_neighbour; rw [hasM T, if_pos e00]
  have r5 : mX4_neighbour (iI N) d (iI 0) (iI 6) = some (iI (-2)) := by
    unfold mX4_neighbour
    rw [has0 T, if_neg e10, if_neg (by decide), if_neg (by decide), if_neg (by decide), if_neg (by decide), if_neg (by decide), if_neg (by decide)]
  have r6 : mX4_ancestorAt (iI N) d (iI N) (iI 0) = some (iI (-1)) := by unfold mX4_ancestorAt; rw [hasN T, if_pos e00]
  have r7 := aaOver T 0 1 (by omega) (by omega) (by omega) (by omega)
  have r8 : mX4_common (iI N) d (iI 0) (iI N) = some (iI (-1)) := by unfold mX4_common; rw [has0 T, if_neg e10, hasN T, if_pos e00]
  have r9 : mX4_way (iI N) d (iI N) (iI 0) (iI (-5)) = some (iI (-1)) := by unfold mX4_way; rw [hasN T, if_pos e00]
  have r10 : mX4_byPostorder (iI N) d (iI N) = some (iI (-2)) := by
    unfold mX4_byPostorder mX3_count
    rw [if_neg (show ¬ iI N < 0 by rw [iI_zero, iI_lt (by omega) (by omega) (by omega) (by omega)]; omega), if_neg (show ¬ iI N < iI N by rw [iI_lt (by omega) (by omega) (by omega) (by omega)]; omega)]
  have r11 : mX4_byPostorder (iI N) d (iI (-1)) = some (iI (-2)) := by unfold mX4_byPostorder; rw [if_pos (by decide)]
  have r12 : mX4_deepest (iI N) d (iI N) = some (iI (-1)) := by unfold mX4_deepest; rw [hasN T, if_pos e00]
  have r13 : mX4_bracket (iI N) d (iI (2 * N)) (iI 9) = some (iI (-1)) := by
    unfold mX4_bracket mX3_positionCount
    rw [iI_mul, if_neg (show ¬ iI (2 * N) < 0 by rw [iI_zero, iI_lt (by omega) (by omega) (by omega) (by omega)]; omega), if_neg (show ¬ iI (2 * N) < iI (2 * N) by rw [iI_lt (by omega) (by omega) (by omega) (by omega)]; omega)]
  have r14 : mX4_bracket (iI N) d (iI 0) (iI 5) = some (iI (-2)) := by
    rw [brAll T 0 _ (by omega) (by omega), if_neg (by decide), if_neg (by decide), if_neg (by decide), if_neg (by decide), if_neg (by decide)]
  have r15 : ∀ w : Int32, mX4_setWidth w (iI 3) = (iI (-2), w) := fun w => by unfold mX4_setWidth; rw [if_pos (by decide)]
  have r16 : ∀ w : Int32, mX4_setWidth w (iI 33) = (iI (-2), w) := fun w => by unfold mX4_setWidth; rw [if_neg (by decide), if_neg (by decide)]
  have r17 : mX4_setLabel (iI N) d lb (iI S) (iI K) ct gd gl (iI N) (iI 33) = some (iI (-1), d, lb, iI S, iI K, ct, gd, gl) := by unfold mX4_setLabel; rw [hasN T, if_pos e00]
  have r18 : mX4_labelled (iI N) d lb (iI N) (iI 33) = some (iI (-1)) := by unfold mX4_labelled; rw [hasN T, if_pos e00]
  have r19 : mX4_labelled (iI N) d lb (iI 0) (iI 33) = some (iI (-2)) := by unfold mX4_labelled; rw [has0 T, if_neg e10, l0, if_pos e00]
  have r20 : mX4_select (iI N) d lb (iI N) (iI 33) (iI (-1)) = some (iI (-1)) := by unfold mX4_select; rw [hasN T, if_pos e00]
  have r21 : mX4_ancestorWith (iI N) d lb (iI N) (iI 33) = some (iI (-1)) := by unfold mX4_ancestorWith; rw [hasN T, if_pos e00]
  have r22 : mX4_ancestorWith (iI N) d lb (iI 0) (iI 33) = some (iI (-2)) := by unfold mX4_ancestorWith; rw [has0 T, if_neg e10, l0, if_pos e00]
  have r23 : mX4_areEqual (iI N) d lb (iI N) (iI 0) = some (iI (-1)) := by unfold mX4_areEqual; rw [hasN T, if_pos e00]
  have r24 : mX4_copies (iI N) d lb (iI (-1)) = some (iI (-1)) := by unfold mX4_copies; rw [hasM T, if_pos e00]
  have r25 : ∀ a b : Int32, ∀ c : Int32, mX4_wrap (iI N) d lb (iI S) (iI K) ct gd gl (iI N) a b c = some (iI (-1), iI N, d, lb, iI S, iI K, ct, gd, gl) := fun a b c => by unfold mX4_wrap; rw [hasN T, if_pos e00]
  have r26 : mX4_insert (iI N) d lb (iI S) (iI K) ct gd gl (iI N) (iI (-1)) (iI 33) = some (iI (-1), iI N, d, lb, iI S, iI K, ct, gd, gl) := by unfold mX4_insert; rw [r25]; rfl
  have r27 := wrapNeg (ct := ct) (gd := gd) (gl := gl) T 0 (iI S) (iI K) (iI 0) (iI 97) (Int.le_refl _) (by omega)
  have r28 : mX4_remove (iI N) d lb (iI S) (iI K) ct gd gl (iI N) = some (iI (-1), iI N, d, lb, iI S, iI K, ct, gd, gl) := by unfold mX4_remove; rw [hasN T, if_pos e00]
  have r29 : mX4_cut (iI N) d lb (iI S) (iI K) ct gd gl (iI (-1)) = some (iI (-1), iI N, d, lb, iI S, iI K, ct, gd, gl) := by unfold mX4_cut; rw [hasM T, if_pos e00]
  have r30 : mX4_move (iI N) d lb xd xl (iI S) (iI K) ct gd gl (iI 0) (iI N) (iI 0) = some (iI (-1), iI N, d, lb, xd, xl, iI S, iI K, ct, gd, gl) := by unfold mX4_move; rw [has0 T, if_neg e10, hasN T, if_pos e00]
  have r31 := moveIn (xd := xd) (xl := xl) (ct := ct) (gd := gd) (gl := gl) T (iI S) (iI K) (iI (-1)) 0 0 (Int.le_refl _) (by omega) (Int.le_refl _) (by have := T.1.en 0 (Int.le_refl _) (by omega); omega)
  refine ⟨(iI N, d, lb, xd, xl, wi, iI S, iI K, ct, gd, gl), ?_⟩
  unfold mL_errors mX4_size mX3_count
  rw [r1, Option.bind_some, if_pos rfl, r2, Option.bind_some, if_pos rfl, r3, Option.bind_some, if_pos rfl, r4, Option.bind_some, if_pos rfl, r5, Option.bind_some, if_pos rfl, r6, Option.bind_some, if_pos rfl, r7, Option.bind_some, if_pos rfl, r8, Option.bind_some, if_pos rfl, r9, Option.bind_some, if_pos rfl, r10, Option.bind_some, if_pos rfl, r11, Option.bind_some, if_pos rfl, r12, Option.bind_some, if_pos rfl, iI_mul, r13, Option.bind_some, if_pos rfl, r14, Option.bind_some, if_pos rfl, r15]
  dsimp only
  rw [if_pos rfl, r16]
  dsimp only
  rw [if_pos rfl, bkNeg, Option.bind_some, if_pos rfl, if_neg e10, r17, Option.bind_some]
  dsimp only
  rw [if_pos rfl, r18, Option.bind_some, if_pos rfl, r19, Option.bind_some, if_pos rfl, r20, Option.bind_some, if_pos rfl, r21, Option.bind_some, if_pos rfl, r22, Option.bind_some, if_pos rfl, r23, Option.bind_some, if_pos rfl, r24, Option.bind_some, if_pos rfl, r26, Option.bind_some]
  dsimp only
  rw [if_pos rfl, r25, Option.bind_some]
  dsimp only
  rw [if_pos rfl, r27, Option.bind_some]
  dsimp only
  rw [if_pos rfl, r28, Option.bind_some]
  dsimp only
  rw [if_pos rfl, r29, Option.bind_some]
  dsimp only
  rw [if_pos rfl, r30, Option.bind_some]
  dsimp only
  rw [if_pos rfl, r31, Option.bind_some]
  dsimp only
  rw [if_pos rfl]
end ERRORS
