/-! 08: the law's row reader: a cell of the script, or a number made from its place -/
theorem hdL_cell : yL_cell.cls = RL ∧ yL_cell.cls ≠ "java/lang/invoke/MethodHandle" ∧ yL_cell.cls ≠ "java/lang/invoke/VarHandle" ∧ (parseMethodDescriptor yL_cell.desc).map (fun d => d.parameters.length) = some 2 := by decide +kernel
theorem lcL_cell_7 : Cond.constant RL 7 (4270009) ∈ wsL_cell := by decide +kernel
abbrev rmL_cell : Room := { frames := 0, cells := 0, slots := 0, locals := 0 }
def mL_cell (L : Nat) (xs : Nat → Int32) (x1 : Int32) : Option Int32 := if Int32.ofNat L ≤ x1 then some (((4270009 : Int32) * x1) + (iI 347)) else if inb x1 L then some (xs x1.toNatClampNeg) else none
theorem XB.blind {as : List Value} {b L : Nat} {xs : Nat → Int32} : FrameBlind (va_Pc as (fun U => b < U.heap.size ∧ va_X b L xs U U.heap)) := by
  intro a U g mk h
  obtain ⟨h0, h1, h2⟩ := h
  exact ⟨h0, h1, va_X.moved (u := U) (Vm.Alike.refl U.vm) h2⟩
set_option maxHeartbeats 4000000 in
set_option maxRecDepth 100000 in
theorem zL_cell (l : Launch) (b L : Nat) (xs : Nat → Int32) (x1 r : Int32) (h : mL_cell L xs x1 = some r) : Met l yL_cell wsL_cell rmL_cell (va_Pc [.ref b, .int x1] (fun U => b < U.heap.size ∧ va_X b L xs U U.heap)) (rdQ r) 0 0 (fun _ => False) := by
  refine MetI RL (by decide +kernel) rfl rfl (Nat.le_of_ble_eq_true rfl) ?_
  intro p e s m below meth c ls X _ hB hl
  obtain ⟨hbl, hX⟩ := hB
  have hx := X.1
  have hb := X.2.1
  have hS : va_S (fun _ => False) s.heap s.heap [] := va_S.rf
  have hbA : ¬ (fun _ : Nat => False) b := id
  replace hl : lv_has ls 2 [(0, .ref b), (1, .int x1)] := hl
  unfold mL_cell at h
  refine lv_iload_n hx hb dL_cell_0 rfl (lv_at hl 1 rfl) ?_
  refine lv_aload_n hx hb dL_cell_1 rfl (lv_at hl 0 rfl) ?_
  refine va_slen hx hb hX hbl hbA hS dL_cell_2 ?_
  refine lv_icmp_ge (tgt := 12) hx hb dL_cell_3 (by decide) (fun c1 => ?_) (fun c1 => ?_)
  · replace h := ifp c1 h
    refine lv_ldc (v := 4270009) hx hb X.2.2.2.1 (X.2.2.2.2.1 _ lcL_cell_7) dL_cell_12 ?_
    refine lv_iload_n hx hb dL_cell_14 rfl (lv_at hl 1 rfl) ?_
    refine lv_imul hx hb dL_cell_15 ?_
    refine lv_sipush (v := iI 347) hx hb dL_cell_16 (by decide) ?_
    refine lv_iadd hx hb dL_cell_19 ?_
    exact rd_ret X rfl (Option.some.inj h) dL_cell_20
  · replace h := ifn c1 h
    obtain ⟨g1, h⟩ := asr h
    refine lv_aload_n hx hb dL_cell_6 rfl (lv_at hl 0 rfl) ?_
    refine lv_iload_n hx hb dL_cell_7 rfl (lv_at hl 1 rfl) ?_
    refine va_sld hx hb hX hbl hbA hS g1 dL_cell_8 ?_
    refine lv_goto (tgt := 20) hx hb dL_cell_9 (by decide) ?_
    exact rd_ret X rfl (Option.some.inj h) dL_cell_20
