def mX5_keep_76 : Nat → Int32 → (Nat → Int32) → (Nat → Int32) → Int32 → (Nat → Int32) → Int32 → Int32 → Option (Int32 × (Nat → Int32))
  | 0, _, _, _, _, _, _, _ => none
  | f + 1, n, d, lb, kp, kr, x1, x2 => (if n ≤ x2 then some ((kp + (iI 1)), kr) else (if inb x2 100 then (if inb ((x1 + (iI 1)) + x2) 3015 then (if inb x2 100 then (if inb ((x1 + (iI 101)) + x2) 3015 then mX5_keep_76 f n d lb kp (upd (upd kr ((x1 + (iI 1)) + x2).toNatClampNeg (d x2.toNatClampNeg)) ((x1 + (iI 101)) + x2).toNatClampNeg (lb x2.toNatClampNeg)) x1 (x2 + iI 1) else none) else none) else none) else none))
def mX5_keep_21 : Nat → Int32 → (Nat → Int32) → (Nat → Int32) → Int32 → (Nat → Int32) → Int32 → Option (Int32 × (Nat → Int32))
  | 0, _, _, _, _, _, _ => none
  | f + 1, n, d, lb, kp, kr, x1 => (if ((iI 201) * kp) ≤ x1 then (if inb ((iI 201) * kp) 3015 then mX5_keep_76 FU n d lb kp (upd kr ((iI 201) * kp).toNatClampNeg n) ((iI 201) * kp) (iI 0) else none) else (if inb (x1 + (iI 201)) 3015 then (if inb x1 3015 then mX5_keep_21 f n d lb kp (upd kr x1.toNatClampNeg (kr (x1 + (iI 201)).toNatClampNeg)) (x1 + iI 1) else none) else none))
def mX5_keep (n : Int32) (d : Nat → Int32) (lb : Nat → Int32) (kp : Int32) (kr : Nat → Int32)  : Option (Int32 × (Nat → Int32)) := (if kp = (iI 15) then mX5_keep_21 FU n d lb (kp - (iI 1)) kr (iI 0) else (if inb ((iI 201) * kp) 3015 then mX5_keep_76 FU n d lb kp (upd kr ((iI 201) * kp).toNatClampNeg n) ((iI 201) * kp) (iI 0) else none))
theorem hdX5_keep : yX5_keep.cls = RX5 ∧ yX5_keep.cls ≠ "java/lang/invoke/MethodHandle" ∧ yX5_keep.cls ≠ "java/lang/invoke/VarHandle" ∧ (parseMethodDescriptor yX5_keep.desc).map (fun d => d.parameters.length) = some 0 := by decide +kernel
theorem flX5_keep_40 : Cond.fieldLink RX5 40 "BracketTreeModel" "kept" "I" ∈ wsX5_keep := by decide +kernel
theorem iwX5_keep_5 : ∀ w ∈ wsX50, w ∈ wsX5_keep := by decide +kernel
theorem flX5_keep_17 : Cond.fieldLink RX5 17 "BracketTreeModel" "keptRow" "[I" ∈ wsX5_keep := by decide +kernel
theorem flX5_keep_29 : Cond.fieldLink RX5 29 "BracketTreeModel" "n" "I" ∈ wsX5_keep := by decide +kernel
theorem flX5_keep_7 : Cond.fieldLink RX5 7 "BracketTreeModel" "depthOf" "[I" ∈ wsX5_keep := by decide +kernel
theorem flX5_keep_13 : Cond.fieldLink RX5 13 "BracketTreeModel" "labelOf" "[C" ∈ wsX5_keep := by decide +kernel
abbrev rmX5_keep : Room := { frames := 0, cells := 0, slots := 0, locals := 0 }
set_option maxHeartbeats 4000000 in
set_option maxRecDepth 100000 in
theorem kX5_keep_76 {p : Program} {l : Launch} {e : Env} {s : State} {m : MethodId} {args : Array Value} {below : List Frame} {meth : Method} {c : Code} {D : va_G} {cI cC : ClassId} {q : Nat → Nat} {ty : Int32} {tx : Nat → Int32} {rd : Nat → Int32} {rl : Nat → Int32} {wi : Int32} {r : Int32 × (Nat → Int32)} {A : Nat → Prop} (X : CX p s m args meth c wsX5_keep cX5_keep 3 none RX5) (hKK : KK D cI cC s) (hA : ∀ z, s.heap.size ≤ z → A z) : ∀ (f : Nat), ∀ (n : Int32) (d : Nat → Int32) (lb : Nat → Int32) (kp : Int32) (kr : Nat → Int32) (x1 : Int32) (x2 : Int32) (H : Heap) (locs : List Loc) (ls : Array Slot), va_P D vwCl (wM cI cC q n d lb kp kr ty tx rd rl wi) H → va_D A (wM cI cC q n d lb kp kr ty tx rd rl wi) → va_S A s.heap H locs → lv_has ls 3 [(0, .ref (q 0)), (1, .int x1), (2, .int x2)] → mX5_keep_76 f n d lb kp kr x1 x2 = some r → W p l e rmX5_keep s m args below meth c H locs 0 0 (MQ below (muQ D none (wM cI cC q n d lb r.1 r.2 ty tx rd rl wi) A) args s 0 0 A) (F0 m 76 ls []) := by
  have hx := X.1
  have hb := X.2.1
  intro f
  induction f with
  | zero =>
    intro n d lb kp kr x1 x2 H locs ls hP hD hS hl h
    exact absurd h (by unfold mX5_keep_76; intro h; cases h)
  | succ f ih =>
    intro n d lb kp kr x1 x2 H locs ls hP hD hS hl h
    rw [mX5_keep_76] at h
    refine lv_iload_n hx hb dX5_keep_76 rfl (lv_at hl 2 rfl) ?_
    refine lv_aload_n hx hb dX5_keep_77 rfl (lv_at hl 0 rfl) ?_
    refine va_get (D := D) (ci := 5) (v := .int n) (C := RX5) (T := TX5) (N := 10) hx hb X.2.2.2.2.1 iwX5_keep_5 X.2.2.2.1 hKK.1 hP 0 rfl rfl 0 (by decide) (X.2.2.2.2.1 _ flX5_keep_29) (fun _ h9 => h9) rfl dX5_keep_78 ?_
    refine lv_icmp_ge (tgt := 123) hx hb dX5_keep_81 (by decide) (fun c3 => ?_) (fun c3 => ?_)
    · replace h := ifp c3 h
      refine lv_aload_n hx hb dX5_keep_123 rfl (lv_at hl 0 rfl) ?_
      refine lv_dup hx hb dX5_keep_124 rfl ?_
      refine va_get (D := D) (ci := 5) (v := .int kp) (C := RX5) (T := TX5) (N := 10) hx hb X.2.2.2.2.1 iwX5_keep_5 X.2.2.2.1 hKK.1 hP 0 rfl rfl 3 (by decide) (X.2.2.2.2.1 _ flX5_keep_40) (fun _ h9 => h9) rfl dX5_keep_125 ?_
      refine lv_iconst (v := iI 1) hx hb dX5_keep_128 rfl ?_
      refine lv_iadd hx hb dX5_keep_129 ?_
      refine va_put (D := D) (ci := 5) (v := .int (kp + (iI 1))) (ty := .int) (C := RX5) (T := TX5) (N := 10) hx hb X.2.2.2.2.1 iwX5_keep_5 tyX5 tyX5_ok nmX5 X.2.2.2.1 hKK.1 hP hD hS 0 rfl rfl 3 (by decide) (X.2.2.2.2.1 _ flX5_keep_40) (fun _ h9 => h9) rfl (by decide +kernel) rfl rfl (Nat.le_of_ble_eq_true rfl) dX5_keep_130 (fun H locs hP hD hS => ?_)
      replace hP : va_P D vwCl (wM cI cC q n d lb (kp + (iI 1)) kr ty tx rd rl wi) H := hP
      replace hD : va_D A (wM cI cC q n d lb (kp + (iI 1)) kr ty tx rd rl wi) := hD
      replace h := Option.some.inj h
      subst h
      exact mu_vret X hP rfl hS dX5_keep_133
    · replace h := ifn c3 h
      refine lv_aload_n hx hb dX5_keep_84 rfl (lv_at hl 0 rfl) ?_
      refine va_get (D := D) (ci := 5) (v := .ref (q 3)) (C := RX5) (T := TX5) (N := 10) hx hb X.2.2.2.2.1 iwX5_keep_5 X.2.2.2.1 hKK.1 hP 0 rfl rfl 4 (by decide) (X.2.2.2.2.1 _ flX5_keep_17) (fun _ h9 => h9) rfl dX5_keep_85 ?_
      refine lv_iload_n hx hb dX5_keep_88 rfl (lv_at hl 1 rfl) ?_
      refine lv_iconst (v := iI 1) hx hb dX5_keep_89 rfl ?_
      refine lv_iadd hx hb dX5_keep_90 ?_
      refine lv_iload_n hx hb dX5_keep_91 rfl (lv_at hl 2 rfl) ?_
      refine lv_iadd hx hb dX5_keep_92 ?_
      refine lv_aload_n hx hb dX5_keep_93 rfl (lv_at hl 0 rfl) ?_
      refine va_get (D := D) (ci := 5) (v := .ref (q 1)) (C := RX5) (T := TX5) (N := 10) hx hb X.2.2.2.2.1 iwX5_keep_5 X.2.2.2.1 hKK.1 hP 0 rfl rfl 1 (by decide) (X.2.2.2.2.1 _ flX5_keep_7) (fun _ h9 => h9) rfl dX5_keep_94 ?_
      refine lv_iload_n hx hb dX5_keep_97 rfl (lv_at hl 2 rfl) ?_
      obtain ⟨g4, h⟩ := asr h
      refine va_iald hx hb hKK.1 hP 1 0 rfl rfl g4 dX5_keep_98 ?_
      obtain ⟨g5, h⟩ := asr h
      refine va_iast hx hb hKK.1 hP hD hS 3 0 rfl rfl g5 dX5_keep_99 (fun H locs hP hD hS => ?_)
      replace hP : va_P D vwCl (wM cI cC q n d lb kp (upd kr ((x1 + (iI 1)) + x2).toNatClampNeg (d x2.toNatClampNeg)) ty tx rd rl wi) H := hP
      replace hD : va_D A (wM cI cC q n d lb kp (upd kr ((x1 + (iI 1)) + x2).toNatClampNeg (d x2.toNatClampNeg)) ty tx rd rl wi) := hD
      refine lv_aload_n hx hb dX5_keep_100 rfl (lv_at hl 0 rfl) ?_
      refine va_get (D := D) (ci := 5) (v := .ref (q 3)) (C := RX5) (T := TX5) (N := 10) hx hb X.2.2.2.2.1 iwX5_keep_5 X.2.2.2.1 hKK.1 hP 0 rfl rfl 4 (by decide) (X.2.2.2.2.1 _ flX5_keep_17) (fun _ h9 => h9) rfl dX5_keep_101 ?_
      refine lv_iload_n hx hb dX5_keep_104 rfl (lv_at hl 1 rfl) ?_
      refine lv_bipush (v := iI 101) hx hb dX5_keep_105 (by decide) ?_
      refine lv_iadd hx hb dX5_keep_107 ?_
      refine lv_iload_n hx hb dX5_keep_108 rfl (lv_at hl 2 rfl) ?_
      refine lv_iadd hx hb dX5_keep_109 ?_
      refine lv_aload_n hx hb dX5_keep_110 rfl (lv_at hl 0 rfl) ?_
      refine va_get (D := D) (ci := 5) (v := .ref (q 2)) (C := RX5) (T := TX5) (N := 10) hx hb X.2.2.2.2.1 iwX5_keep_5 X.2.2.2.1 hKK.1 hP 0 rfl rfl 2 (by decide) (X.2.2.2.2.1 _ flX5_keep_13) (fun _ h9 => h9) rfl dX5_keep_111 ?_
      refine lv_iload_n hx hb dX5_keep_114 rfl (lv_at hl 2 rfl) ?_
      obtain ⟨g6, h⟩ := asr h
      refine va_cald hx hb hKK.1 hP 2 1 rfl rfl g6 dX5_keep_115 ?_
      obtain ⟨g7, h⟩ := asr h
      refine va_iast hx hb hKK.1 hP hD hS 3 0 rfl rfl g7 dX5_keep_116 (fun H locs hP hD hS => ?_)
      replace hP : va_P D vwCl (wM cI cC q n d lb kp (upd (upd kr ((x1 + (iI 1)) + x2).toNatClampNeg (d x2.toNatClampNeg)) ((x1 + (iI 101)) + x2).toNatClampNeg (lb x2.toNatClampNeg)) ty tx rd rl wi) H := hP
      replace hD : va_D A (wM cI cC q n d lb kp (upd (upd kr ((x1 + (iI 1)) + x2).toNatClampNeg (d x2.toNatClampNeg)) ((x1 + (iI 101)) + x2).toNatClampNeg (lb x2.toNatClampNeg)) ty tx rd rl wi) := hD
      refine lv_iinc (v := (x2 + iI 1)) (lv' := [(2, .int (x2 + iI 1)), (0, .ref (q 0)), (1, .int x1)]) hx hb dX5_keep_117 hl (k := 2) rfl rfl (by decide) rfl (fun ls hl => ?_)
      refine lv_goto (tgt := 76) hx hb dX5_keep_120 (by decide) ?_
      exact ih n d lb kp (upd (upd kr ((x1 + (iI 1)) + x2).toNatClampNeg (d x2.toNatClampNeg)) ((x1 + (iI 101)) + x2).toNatClampNeg (lb x2.toNatClampNeg)) x1 (x2 + iI 1) _ _ ls hP hD hS (lv_sub hl [1, 2, 0] rfl) h
set_option maxHeartbeats 4000000 in
set_option maxRecDepth 100000 in
theorem kX5_keep_21 {p : Program} {l : Launch} {e : Env} {s : State} {m : MethodId} {args : Array Value} {below : List Frame} {meth : Method} {c : Code} {D : va_G} {cI cC : ClassId} {q : Nat → Nat} {ty : Int32} {tx : Nat → Int32} {rd : Nat → Int32} {rl : Nat → Int32} {wi : Int32} {r : Int32 × (Nat → Int32)} {A : Nat → Prop} (X : CX p s m args meth c wsX5_keep cX5_keep 3 none RX5) (hKK : KK D cI cC s) (hA : ∀ z, s.heap.size ≤ z → A z) : ∀ (f : Nat), ∀ (n : Int32) (d : Nat → Int32) (lb : Nat → Int32) (kp : Int32) (kr : Nat → Int32) (x1 : Int32) (H : Heap) (locs : List Loc) (ls : Array Slot), va_P D vwCl (wM cI cC q n d lb kp kr ty tx rd rl wi) H → va_D A (wM cI cC q n d lb kp kr ty tx rd rl wi) → va_S A s.heap H locs → lv_has ls 3 [(0, .ref (q 0)), (1, .int x1)] → mX5_keep_21 f n d lb kp kr x1 = some r → W p l e rmX5_keep s m args below meth c H locs 0 0 (MQ below (muQ D none (wM cI cC q n d lb r.1 r.2 ty tx rd rl wi) A) args s 0 0 A) (F0 m 21 ls []) := by
  have hx := X.1
  have hb := X.2.1
  intro f
  induction f with
  | zero =>
    intro n d lb kp kr x1 H locs ls hP hD hS hl h
    exact absurd h (by unfold mX5_keep_21; intro h; cases h)
  | succ f ih =>
    intro n d lb kp kr x1 H locs ls hP hD hS hl h
    rw [mX5_keep_21] at h
    refine lv_iload_n hx hb dX5_keep_21 rfl (lv_at hl 1 rfl) ?_
    refine lv_sipush (v := iI 201) hx hb dX5_keep_22 (by decide) ?_
    refine lv_aload_n hx hb dX5_keep_25 rfl (lv_at hl 0 rfl) ?_
    refine va_get (D := D) (ci := 5) (v := .int kp) (C := RX5) (T := TX5) (N := 10) hx hb X.2.2.2.2.1 iwX5_keep_5 X.2.2.2.1 hKK.1 hP 0 rfl rfl 3 (by decide) (X.2.2.2.2.1 _ flX5_keep_40) (fun _ h9 => h9) rfl dX5_keep_26 ?_
    refine lv_imul hx hb dX5_keep_29 ?_
    refine lv_icmp_ge (tgt := 55) hx hb dX5_keep_30 (by decide) (fun c8 => ?_) (fun c8 => ?_)
    · replace h := ifp c8 h
      refine lv_sipush (v := iI 201) hx hb dX5_keep_55 (by decide) ?_
      refine lv_aload_n hx hb dX5_keep_58 rfl (lv_at hl 0 rfl) ?_
      refine va_get (D := D) (ci := 5) (v := .int kp) (C := RX5) (T := TX5) (N := 10) hx hb X.2.2.2.2.1 iwX5_keep_5 X.2.2.2.1 hKK.1 hP 0 rfl rfl 3 (by decide) (X.2.2.2.2.1 _ flX5_keep_40) (fun _ h9 => h9) rfl dX5_keep_59 ?_
      refine lv_imul hx hb dX5_keep_62 ?_
      refine lv_istore_n (lv' := [(1, .int ((iI 201) * kp)), (0, .ref (q 0))]) hx hb dX5_keep_63 rfl hl (by decide) rfl (fun ls hl => ?_)
      refine lv_aload_n hx hb dX5_keep_64 rfl (lv_at hl 1 rfl) ?_
      refine va_get (D := D) (ci := 5) (v := .ref (q 3)) (C := RX5) (T := TX5) (N := 10) hx hb X.2.2.2.2.1 iwX5_keep_5 X.2.2.2.1 hKK.1 hP 0 rfl rfl 4 (by decide) (X.2.2.2.2.1 _ flX5_keep_17) (fun _ h9 => h9) rfl dX5_keep_65 ?_
      refine lv_iload_n hx hb dX5_keep_68 rfl (lv_at hl 0 rfl) ?_
      refine lv_aload_n hx hb dX5_keep_69 rfl (lv_at hl 1 rfl) ?_
      refine va_get (D := D) (ci := 5) (v := .int n) (C := RX5) (T := TX5) (N := 10) hx hb X.2.2.2.2.1 iwX5_keep_5 X.2.2.2.1 hKK.1 hP 0 rfl rfl 0 (by decide) (X.2.2.2.2.1 _ flX5_keep_29) (fun _ h9 => h9) rfl dX5_keep_70 ?_
      obtain ⟨g9, h⟩ := asr h
      refine va_iast hx hb hKK.1 hP hD hS 3 0 rfl rfl g9 dX5_keep_73 (fun H locs hP hD hS => ?_)
      replace hP : va_P D vwCl (wM cI cC q n d lb kp (upd kr ((iI 201) * kp).toNatClampNeg n) ty tx rd rl wi) H := hP
      replace hD : va_D A (wM cI cC q n d lb kp (upd kr ((iI 201) * kp).toNatClampNeg n) ty tx rd rl wi) := hD
      refine lv_iconst (v := iI 0) hx hb dX5_keep_74 rfl ?_
      refine lv_istore_n (lv' := [(2, .int (iI 0)), (1, .int ((iI 201) * kp)), (0, .ref (q 0))]) hx hb dX5_keep_75 rfl hl (by decide) rfl (fun ls hl => ?_)
      exact kX5_keep_76 X hKK hA FU n d lb kp (upd kr ((iI 201) * kp).toNatClampNeg n) ((iI 201) * kp) (iI 0) _ _ ls hP hD hS (lv_sub hl [2, 1, 0] rfl) h
    · replace h := ifn c8 h
      refine lv_aload_n hx hb dX5_keep_33 rfl (lv_at hl 0 rfl) ?_
      refine va_get (D := D) (ci := 5) (v := .ref (q 3)) (C := RX5) (T := TX5) (N := 10) hx hb X.2.2.2.2.1 iwX5_keep_5 X.2.2.2.1 hKK.1 hP 0 rfl rfl 4 (by decide) (X.2.2.2.2.1 _ flX5_keep_17) (fun _ h9 => h9) rfl dX5_keep_34 ?_
      refine lv_iload_n hx hb dX5_keep_37 rfl (lv_at hl 1 rfl) ?_
      refine lv_aload_n hx hb dX5_keep_38 rfl (lv_at hl 0 rfl) ?_
      refine va_get (D := D) (ci := 5) (v := .ref (q 3)) (C := RX5) (T := TX5) (N := 10) hx hb X.2.2.2.2.1 iwX5_keep_5 X.2.2.2.1 hKK.1 hP 0 rfl rfl 4 (by decide) (X.2.2.2.2.1 _ flX5_keep_17) (fun _ h9 => h9) rfl dX5_keep_39 ?_
      refine lv_iload_n hx hb dX5_keep_42 rfl (lv_at hl 1 rfl) ?_
      refine lv_sipush (v := iI 201) hx hb dX5_keep_43 (by decide) ?_
      refine lv_iadd hx hb dX5_keep_46 ?_
      obtain ⟨g10, h⟩ := asr h
      refine va_iald hx hb hKK.1 hP 3 0 rfl rfl g10 dX5_keep_47 ?_
      obtain ⟨g11, h⟩ := asr h
      refine va_iast hx hb hKK.1 hP hD hS 3 0 rfl rfl g11 dX5_keep_48 (fun H locs hP hD hS => ?_)
      replace hP : va_P D vwCl (wM cI cC q n d lb kp (upd kr x1.toNatClampNeg (kr (x1 + (iI 201)).toNatClampNeg)) ty tx rd rl wi) H := hP
      replace hD : va_D A (wM cI cC q n d lb kp (upd kr x1.toNatClampNeg (kr (x1 + (iI 201)).toNatClampNeg)) ty tx rd rl wi) := hD
      refine lv_iinc (v := (x1 + iI 1)) (lv' := [(1, .int (x1 + iI 1)), (0, .ref (q 0))]) hx hb dX5_keep_49 hl (k := 1) rfl rfl (by decide) rfl (fun ls hl => ?_)
      refine lv_goto (tgt := 21) hx hb dX5_keep_52 (by decide) ?_
      exact ih n d lb kp (upd kr x1.toNatClampNeg (kr (x1 + (iI 201)).toNatClampNeg)) (x1 + iI 1) _ _ ls hP hD hS (lv_sub hl [1, 0] rfl) h
set_option maxHeartbeats 4000000 in
set_option maxRecDepth 100000 in
theorem zX5_keep (l : Launch) (D : va_G) (cI cC : ClassId) (q : Nat → Nat) (sz : Nat) (n : Int32) (d : Nat → Int32) (lb : Nat → Int32) (kp : Int32) (kr : Nat → Int32) (ty : Int32) (tx : Nat → Int32) (rd : Nat → Int32) (rl : Nat → Int32) (wi : Int32)  (r : Int32 × (Nat → Int32)) (h : mX5_keep n d lb kp kr = some r) : Met l yX5_keep wsX5_keep rmX5_keep (va_Pc [.ref (q 0)] (MB D cI cC sz (wM cI cC q n d lb kp kr ty tx rd rl wi))) (muQ D none (wM cI cC q n d lb r.1 r.2 ty tx rd rl wi) (va_A (wM cI cC q n d lb kp kr ty tx rd rl wi) sz)) 0 0 (va_A (wM cI cC q n d lb kp kr ty tx rd rl wi) sz) := by
  refine MetI RX5 (by decide +kernel) rfl rfl (Nat.le_of_ble_eq_true rfl) ?_
  intro p e s m below meth c ls X _ hB hl
  obtain ⟨hsz, ⟨hP, hKK⟩, hD0⟩ := hB
  subst hsz
  have hD := hD0.self (sz := s.heap.size)
  generalize hAe : va_A (wM cI cC q n d lb kp kr ty tx rd rl wi) s.heap.size = A at hD ⊢
  have hA : ∀ z : Nat, s.heap.size ≤ z → A z := fun z hz => by rw [← hAe]; exact Or.inr hz
  have hS : va_S A s.heap s.heap [] := va_S.rf
  have hx := X.1
  have hb := X.2.1
  replace hl : lv_has ls 3 [(0, .ref (q 0))] := hl
  replace hP : va_P D vwCl (wM cI cC q n d lb kp kr ty tx rd rl wi) s.heap := hP
  unfold mX5_keep at h
  refine lv_aload_n hx hb dX5_keep_0 rfl (lv_at hl 0 rfl) ?_
  refine va_get (D := D) (ci := 5) (v := .int kp) (C := RX5) (T := TX5) (N := 10) hx hb X.2.2.2.2.1 iwX5_keep_5 X.2.2.2.1 hKK.1 hP 0 rfl rfl 3 (by decide) (X.2.2.2.2.1 _ flX5_keep_40) (fun _ h9 => h9) rfl dX5_keep_1 ?_
  refine lv_bipush (v := iI 15) hx hb dX5_keep_4 (by decide) ?_
  refine lv_icmp_ne (tgt := 55) hx hb dX5_keep_6 (by decide) (fun c1 => ?_) (fun c1 => ?_)
  · replace h := ifn c1 h
    refine lv_sipush (v := iI 201) hx hb dX5_keep_55 (by decide) ?_
    refine lv_aload_n hx hb dX5_keep_58 rfl (lv_at hl 0 rfl) ?_
    refine va_get (D := D) (ci := 5) (v := .int kp) (C := RX5) (T := TX5) (N := 10) hx hb X.2.2.2.2.1 iwX5_keep_5 X.2.2.2.1 hKK.1 hP 0 rfl rfl 3 (by decide) (X.2.2.2.2.1 _ flX5_keep_40) (fun _ h9 => h9) rfl dX5_keep_59 ?_
    refine lv_imul hx hb dX5_keep_62 ?_
    refine lv_istore_n (lv' := [(1, .int ((iI 201) * kp)), (0, .ref (q 0))]) hx hb dX5_keep_63 rfl hl (by decide) rfl (fun ls hl => ?_)
    refine lv_aload_n hx hb dX5_keep_64 rfl (lv_at hl 1 rfl) ?_
    refine va_get (D := D) (ci := 5) (v := .ref (q 3)) (C := RX5) (T := TX5) (N := 10) hx hb X.2.2.2.2.1 iwX5_keep_5 X.2.2.2.1 hKK.1 hP 0 rfl rfl 4 (by decide) (X.2.2.2.2.1 _ flX5_keep_17) (fun _ h9 => h9) rfl dX5_keep_65 ?_
    refine lv_iload_n hx hb dX5_keep_68 rfl (lv_at hl 0 rfl) ?_
    refine lv_aload_n hx hb dX5_keep_69 rfl (lv_at hl 1 rfl) ?_
    refine va_get (D := D) (ci := 5) (v := .int n) (C := RX5) (T := TX5) (N := 10) hx hb X.2.2.2.2.1 iwX5_keep_5 X.2.2.2.1 hKK.1 hP 0 rfl rfl 0 (by decide) (X.2.2.2.2.1 _ flX5_keep_29) (fun _ h9 => h9) rfl dX5_keep_70 ?_
    obtain ⟨g2, h⟩ := asr h
    refine va_iast hx hb hKK.1 hP hD hS 3 0 rfl rfl g2 dX5_keep_73 (fun H locs hP hD hS => ?_)
    replace hP : va_P D vwCl (wM cI cC q n d lb kp (upd kr ((iI 201) * kp).toNatClampNeg n) ty tx rd rl wi) H := hP
    replace hD : va_D A (wM cI cC q n d lb kp (upd kr ((iI 201) * kp).toNatClampNeg n) ty tx rd rl wi) := hD
    refine lv_iconst (v := iI 0) hx hb dX5_keep_74 rfl ?_
    refine lv_istore_n (lv' := [(2, .int (iI 0)), (1, .int ((iI 201) * kp)), (0, .ref (q 0))]) hx hb dX5_keep_75 rfl hl (by decide) rfl (fun ls hl => ?_)
    exact kX5_keep_76 X hKK hA FU n d lb kp (upd kr ((iI 201) * kp).toNatClampNeg n) ((iI 201) * kp) (iI 0) _ _ ls hP hD hS (lv_sub hl [2, 1, 0] rfl) h
  · replace h := ifp c1 h
    refine lv_aload_n hx hb dX5_keep_9 rfl (lv_at hl 0 rfl) ?_
    refine lv_dup hx hb dX5_keep_10 rfl ?_
    refine va_get (D := D) (ci := 5) (v := .int kp) (C := RX5) (T := TX5) (N := 10) hx hb X.2.2.2.2.1 iwX5_keep_5 X.2.2.2.1 hKK.1 hP 0 rfl rfl 3 (by decide) (X.2.2.2.2.1 _ flX5_keep_40) (fun _ h9 => h9) rfl dX5_keep_11 ?_
    refine lv_iconst (v := iI 1) hx hb dX5_keep_14 rfl ?_
    refine lv_isub hx hb dX5_keep_15 ?_
    refine va_put (D := D) (ci := 5) (v := .int (kp - (iI 1))) (ty := .int) (C := RX5) (T := TX5) (N := 10) hx hb X.2.2.2.2.1 iwX5_keep_5 tyX5 tyX5_ok nmX5 X.2.2.2.1 hKK.1 hP hD hS 0 rfl rfl 3 (by decide) (X.2.2.2.2.1 _ flX5_keep_40) (fun _ h9 => h9) rfl (by decide +kernel) rfl rfl (Nat.le_of_ble_eq_true rfl) dX5_keep_16 (fun H locs hP hD hS => ?_)
    replace hP : va_P D vwCl (wM cI cC q n d lb (kp - (iI 1)) kr ty tx rd rl wi) H := hP
    replace hD : va_D A (wM cI cC q n d lb (kp - (iI 1)) kr ty tx rd rl wi) := hD
    refine lv_iconst (v := iI 0) hx hb dX5_keep_19 rfl ?_
    refine lv_istore_n (lv' := [(1, .int (iI 0)), (0, .ref (q 0))]) hx hb dX5_keep_20 rfl hl (by decide) rfl (fun ls hl => ?_)
    exact kX5_keep_21 X hKK hA FU n d lb (kp - (iI 1)) kr (iI 0) _ _ ls hP hD hS (lv_sub hl [1, 0] rfl) h
def mX5_undo_41 : Nat → Int32 → (Nat → Int32) → (Nat → Int32) → Int32 → (Nat → Int32) → Int32 → Int32 → Option (Int32 × Int32 × (Nat → Int32) × (Nat → Int32) × Int32)
  | 0, _, _, _, _, _, _, _ => none
  | f + 1, n, d, lb, kp, kr, x1, x2 => (if n ≤ x2 then some (kp, n, d, lb, kp) else (if inb ((x1 + (iI 1)) + x2) 3015 then (if inb x2 100 then (if inb ((x1 + (iI 101)) + x2) 3015 then (if inb x2 100 then mX5_undo_41 f n (upd d x2.toNatClampNeg (kr ((x1 + (iI 1)) + x2).toNatClampNeg)) (upd lb x2.toNatClampNeg (vp_nar .char (c16 (kr ((x1 + (iI 101)) + x2).toNatClampNeg)))) kp kr x1 (x2 + iI 1) else none) else none) else none) else none))
def mX5_undo (n : Int32) (d : Nat → Int32) (lb : Nat → Int32) (kp : Int32) (kr : Nat → Int32)  : Option (Int32 × Int32 × (Nat → Int32) × (Nat → Int32) × Int32) := (if kp = 0 then some ((iI (-5)), n, d, lb, kp) else (if inb ((iI 201) * (kp - (iI 1))) 3015 then mX5_undo_41 FU (kr ((iI 201) * (kp - (iI 1))).toNatClampNeg) d lb (kp - (iI 1)) kr ((iI 201) * (kp - (iI 1))) (iI 0) else none))
theorem hdX5_undo : yX5_undo.cls = RX5 ∧ yX5_undo.cls ≠ "java/lang/invoke/MethodHandle" ∧ yX5_undo.cls ≠ "java/lang/invoke/VarHandle" ∧ (parseMethodDescriptor yX5_undo.desc).map (fun d => d.parameters.length) = some 0 := by decide +kernel
theorem flX5_undo_40 : Cond.fieldLink RX5 40 "BracketTreeModel" "kept" "I" ∈ wsX5_undo := by decide +kernel
theorem iwX5_undo_5 : ∀ w ∈ wsX50, w ∈ wsX5_undo := by decide +kernel
theorem flX5_undo_17 : Cond.fieldLink RX5 17 "BracketTreeModel" "keptRow" "[I" ∈ wsX5_undo := by decide +kernel
theorem flX5_undo_29 : Cond.fieldLink RX5 29 "BracketTreeModel" "n" "I" ∈ wsX5_undo := by decide +kernel
theorem flX5_undo_7 : Cond.fieldLink RX5 7 "BracketTreeModel" "depthOf" "[I" ∈ wsX5_undo := by decide +kernel
theorem flX5_undo_13 : Cond.fieldLink RX5 13 "BracketTreeModel" "labelOf" "[C" ∈ wsX5_undo := by decide +kernel
abbrev rmX5_undo : Room := { frames := 0, cells := 0, slots := 0, locals := 0 }
set_option maxHeartbeats 4000000 in
set_option maxRecDepth 100000 in
theorem kX5_undo_41 {p : Program} {l : Launch} {e : Env} {s : State} {m : MethodId} {args : Array Value} {below : List Frame} {meth : Method} {c : Code} {D : va_G} {cI cC : ClassId} {q : Nat → Nat} {ty : Int32} {tx : Nat → Int32} {rd : Nat → Int32} {rl : Nat → Int32} {wi : Int32} {r : Int32 × Int32 × (Nat → Int32) × (Nat → Int32) × Int32} {A : Nat → Prop} (X : CX p s m args meth c wsX5_undo cX5_undo 3 (some .int) RX5) (hKK : KK D cI cC s) (hA : ∀ z, s.heap.size ≤ z → A z) : ∀ (f : Nat), ∀ (n : Int32) (d : Nat → Int32) (lb : Nat → Int32) (kp : Int32) (kr : Nat → Int32) (x1 : Int32) (x2 : Int32) (H : Heap) (locs : List Loc) (ls : Array Slot), va_P D vwCl (wM cI cC q n d lb kp kr ty tx rd rl wi) H → va_D A (wM cI cC q n d lb kp kr ty tx rd rl wi) → va_S A s.heap H locs → lv_has ls 3 [(0, .ref (q 0)), (1, .int x1), (2, .int x2)] → mX5_undo_41 f n d lb kp kr x1 x2 = some r → W p l e rmX5_undo s m args below meth c H locs 0 0 (MQ below (muQ D (some (.int r.1)) (wM cI cC q r.2.1 r.2.2.1 r.2.2.2.1 r.2.2.2.2 kr ty tx rd rl wi) A) args s 0 0 A) (F0 m 41 ls []) := by
  have hx := X.1
  have hb := X.2.1
  intro f
  induction f with
  | zero =>
    intro n d lb kp kr x1 x2 H locs ls hP hD hS hl h
    exact absurd h (by unfold mX5_undo_41; intro h; cases h)
  | succ f ih =>
    intro n d lb kp kr x1 x2 H locs ls hP hD hS hl h
    rw [mX5_undo_41] at h
    refine lv_iload_n hx hb dX5_undo_41 rfl (lv_at hl 2 rfl) ?_
    refine lv_aload_n hx hb dX5_undo_42 rfl (lv_at hl 0 rfl) ?_
    refine va_get (D := D) (ci := 5) (v := .int n) (C := RX5) (T := TX5) (N := 10) hx hb X.2.2.2.2.1 iwX5_undo_5 X.2.2.2.1 hKK.1 hP 0 rfl rfl 0 (by decide) (X.2.2.2.2.1 _ flX5_undo_29) (fun _ h9 => h9) rfl dX5_undo_43 ?_
    refine lv_icmp_ge (tgt := 89) hx hb dX5_undo_46 (by decide) (fun c3 => ?_) (fun c3 => ?_)
    · replace h := ifp c3 h
      refine lv_aload_n hx hb dX5_undo_89 rfl (lv_at hl 0 rfl) ?_
      refine va_get (D := D) (ci := 5) (v := .int kp) (C := RX5) (T := TX5) (N := 10) hx hb X.2.2.2.2.1 iwX5_undo_5 X.2.2.2.1 hKK.1 hP 0 rfl rfl 3 (by decide) (X.2.2.2.2.1 _ flX5_undo_40) (fun _ h9 => h9) rfl dX5_undo_90 ?_
      replace h := Option.some.inj h
      subst h
      exact mu_ret X rfl rfl hP rfl hS dX5_undo_93
    · replace h := ifn c3 h
      refine lv_aload_n hx hb dX5_undo_49 rfl (lv_at hl 0 rfl) ?_
      refine va_get (D := D) (ci := 5) (v := .ref (q 1)) (C := RX5) (T := TX5) (N := 10) hx hb X.2.2.2.2.1 iwX5_undo_5 X.2.2.2.1 hKK.1 hP 0 rfl rfl 1 (by decide) (X.2.2.2.2.1 _ flX5_undo_7) (fun _ h9 => h9) rfl dX5_undo_50 ?_
      refine lv_iload_n hx hb dX5_undo_53 rfl (lv_at hl 2 rfl) ?_
      refine lv_aload_n hx hb dX5_undo_54 rfl (lv_at hl 0 rfl) ?_
      refine va_get (D := D) (ci := 5) (v := .ref (q 3)) (C := RX5) (T := TX5) (N := 10) hx hb X.2.2.2.2.1 iwX5_undo_5 X.2.2.2.1 hKK.1 hP 0 rfl rfl 4 (by decide) (X.2.2.2.2.1 _ flX5_undo_17) (fun _ h9 => h9) rfl dX5_undo_55 ?_
      refine lv_iload_n hx hb dX5_undo_58 rfl (lv_at hl 1 rfl) ?_
      refine lv_iconst (v := iI 1) hx hb dX5_undo_59 rfl ?_
      refine lv_iadd hx hb dX5_undo_60 ?_
      refine lv_iload_n hx hb dX5_undo_61 rfl (lv_at hl 2 rfl) ?_
      refine lv_iadd hx hb dX5_undo_62 ?_
      obtain ⟨g4, h⟩ := asr h
      refine va_iald hx hb hKK.1 hP 3 0 rfl rfl g4 dX5_undo_63 ?_
      obtain ⟨g5, h⟩ := asr h
      refine va_iast hx hb hKK.1 hP hD hS 1 0 rfl rfl g5 dX5_undo_64 (fun H locs hP hD hS => ?_)
      replace hP : va_P D vwCl (wM cI cC q n (upd d x2.toNatClampNeg (kr ((x1 + (iI 1)) + x2).toNatClampNeg)) lb kp kr ty tx rd rl wi) H := hP
      replace hD : va_D A (wM cI cC q n (upd d x2.toNatClampNeg (kr ((x1 + (iI 1)) + x2).toNatClampNeg)) lb kp kr ty tx rd rl wi) := hD
      refine lv_aload_n hx hb dX5_undo_65 rfl (lv_at hl 0 rfl) ?_
      refine va_get (D := D) (ci := 5) (v := .ref (q 2)) (C := RX5) (T := TX5) (N := 10) hx hb X.2.2.2.2.1 iwX5_undo_5 X.2.2.2.1 hKK.1 hP 0 rfl rfl 2 (by decide) (X.2.2.2.2.1 _ flX5_undo_13) (fun _ h9 => h9) rfl dX5_undo_66 ?_
      refine lv_iload_n hx hb dX5_undo_69 rfl (lv_at hl 2 rfl) ?_
      refine lv_aload_n hx hb dX5_undo_70 rfl (lv_at hl 0 rfl) ?_
      refine va_get (D := D) (ci := 5) (v := .ref (q 3)) (C := RX5) (T := TX5) (N := 10) hx hb X.2.2.2.2.1 iwX5_undo_5 X.2.2.2.1 hKK.1 hP 0 rfl rfl 4 (by decide) (X.2.2.2.2.1 _ flX5_undo_17) (fun _ h9 => h9) rfl dX5_undo_71 ?_
      refine lv_iload_n hx hb dX5_undo_74 rfl (lv_at hl 1 rfl) ?_
      refine lv_bipush (v := iI 101) hx hb dX5_undo_75 (by decide) ?_
      refine lv_iadd hx hb dX5_undo_77 ?_
      refine lv_iload_n hx hb dX5_undo_78 rfl (lv_at hl 2 rfl) ?_
      refine lv_iadd hx hb dX5_undo_79 ?_
      obtain ⟨g6, h⟩ := asr h
      refine va_iald hx hb hKK.1 hP 3 0 rfl rfl g6 dX5_undo_80 ?_
      refine lv_i2c (v := c16 (kr ((x1 + (iI 101)) + x2).toNatClampNeg)) hx hb dX5_undo_81 rfl ?_
      obtain ⟨g7, h⟩ := asr h
      refine va_cast hx hb hKK.1 hP hD hS 2 1 rfl rfl g7 dX5_undo_82 (fun H locs hP hD hS => ?_)
      replace hP : va_P D vwCl (wM cI cC q n (upd d x2.toNatClampNeg (kr ((x1 + (iI 1)) + x2).toNatClampNeg)) (upd lb x2.toNatClampNeg (vp_nar .char (c16 (kr ((x1 + (iI 101)) + x2).toNatClampNeg)))) kp kr ty tx rd rl wi) H := hP
      replace hD : va_D A (wM cI cC q n (upd d x2.toNatClampNeg (kr ((x1 + (iI 1)) + x2).toNatClampNeg)) (upd lb x2.toNatClampNeg (vp_nar .char (c16 (kr ((x1 + (iI 101)) + x2).toNatClampNeg)))) kp kr ty tx rd rl wi) := hD
      refine lv_iinc (v := (x2 + iI 1)) (lv' := [(2, .int (x2 + iI 1)), (0, .ref (q 0)), (1, .int x1)]) hx hb dX5_undo_83 hl (k := 2) rfl rfl (by decide) rfl (fun ls hl => ?_)
      refine lv_goto (tgt := 41) hx hb dX5_undo_86 (by decide) ?_
      exact ih n (upd d x2.toNatClampNeg (kr ((x1 + (iI 1)) + x2).toNatClampNeg)) (upd lb x2.toNatClampNeg (vp_nar .char (c16 (kr ((x1 + (iI 101)) + x2).toNatClampNeg)))) kp kr x1 (x2 + iI 1) _ _ ls hP hD hS (lv_sub hl [1, 2, 0] rfl) h
set_option maxHeartbeats 4000000 in
set_option maxRecDepth 100000 in
theorem zX5_undo (l : Launch) (D : va_G) (cI cC : ClassId) (q : Nat → Nat) (sz : Nat) (n : Int32) (d : Nat → Int32) (lb : Nat → Int32) (kp : Int32) (kr : Nat → Int32) (ty : Int32) (tx : Nat → Int32) (rd : Nat → Int32) (rl : Nat → Int32) (wi : Int32)  (r : Int32 × Int32 × (Nat → Int32) × (Nat → Int32) × Int32) (h : mX5_undo n d lb kp kr = some r) : Met l yX5_undo wsX5_undo rmX5_undo (va_Pc [.ref (q 0)] (MB D cI cC sz (wM cI cC q n d lb kp kr ty tx rd rl wi))) (muQ D (some (.int r.1)) (wM cI cC q r.2.1 r.2.2.1 r.2.2.2.1 r.2.2.2.2 kr ty tx rd rl wi) (va_A (wM cI cC q n d lb kp kr ty tx rd rl wi) sz)) 0 0 (va_A (wM cI cC q n d lb kp kr ty tx rd rl wi) sz) := by
  refine MetI RX5 (by decide +kernel) rfl rfl (Nat.le_of_ble_eq_true rfl) ?_
  intro p e s m below meth c ls X _ hB hl
  obtain ⟨hsz, ⟨hP, hKK⟩, hD0⟩ := hB
  subst hsz
  have hD := hD0.self (sz := s.heap.size)
  generalize hAe : va_A (wM cI cC q n d lb kp kr ty tx rd rl wi) s.heap.size = A at hD ⊢
  have hA : ∀ z : Nat, s.heap.size ≤ z → A z := fun z hz => by rw [← hAe]; exact Or.inr hz
  have hS : va_S A s.heap s.heap [] := va_S.rf
  have hx := X.1
  have hb := X.2.1
  replace hl : lv_has ls 3 [(0, .ref (q 0))] := hl
  replace hP : va_P D vwCl (wM cI cC q n d lb kp kr ty tx rd rl wi) s.heap := hP
  unfold mX5_undo at h
  refine lv_aload_n hx hb dX5_undo_0 rfl (lv_at hl 0 rfl) ?_
  refine va_get (D := D) (ci := 5) (v := .int kp) (C := RX5) (T := TX5) (N := 10) hx hb X.2.2.2.2.1 iwX5_undo_5 X.2.2.2.1 hKK.1 hP 0 rfl rfl 3 (by decide) (X.2.2.2.2.1 _ flX5_undo_40) (fun _ h9 => h9) rfl dX5_undo_1 ?_
  refine lv_if_ne (tgt := 10) hx hb dX5_undo_4 (by decide) (fun c1 => ?_) (fun c1 => ?_)
  · replace h := ifn c1 h
    refine lv_aload_n hx hb dX5_undo_10 rfl (lv_at hl 0 rfl) ?_
    refine lv_dup hx hb dX5_undo_11 rfl ?_
    refine va_get (D := D) (ci := 5) (v := .int kp) (C := RX5) (T := TX5) (N := 10) hx hb X.2.2.2.2.1 iwX5_undo_5 X.2.2.2.1 hKK.1 hP 0 rfl rfl 3 (by decide) (X.2.2.2.2.1 _ flX5_undo_40) (fun _ h9 => h9) rfl dX5_undo_12 ?_
    refine lv_iconst (v := iI 1) hx hb dX5_undo_15 rfl ?_
    refine lv_isub hx hb dX5_undo_16 ?_
    refine va_put (D := D) (ci := 5) (v := .int (kp - (iI 1))) (ty := .int) (C := RX5) (T := TX5) (N := 10) hx hb X.2.2.2.2.1 iwX5_undo_5 tyX5 tyX5_ok nmX5 X.2.2.2.1 hKK.1 hP hD hS 0 rfl rfl 3 (by decide) (X.2.2.2.2.1 _ flX5_undo_40) (fun _ h9 => h9) rfl (by decide +kernel) rfl rfl (Nat.le_of_ble_eq_true rfl) dX5_undo_17 (fun H locs hP hD hS => ?_)
    replace hP : va_P D vwCl (wM cI cC q n d lb (kp - (iI 1)) kr ty tx rd rl wi) H := hP
    replace hD : va_D A (wM cI cC q n d lb (kp - (iI 1)) kr ty tx rd rl wi) := hD
    refine lv_sipush (v := iI 201) hx hb dX5_undo_20 (by decide) ?_
    refine lv_aload_n hx hb dX5_undo_23 rfl (lv_at hl 0 rfl) ?_
    refine va_get (D := D) (ci := 5) (v := .int (kp - (iI 1))) (C := RX5) (T := TX5) (N := 10) hx hb X.2.2.2.2.1 iwX5_undo_5 X.2.2.2.1 hKK.1 hP 0 rfl rfl 3 (by decide) (X.2.2.2.2.1 _ flX5_undo_40) (fun _ h9 => h9) rfl dX5_undo_24 ?_
    refine lv_imul hx hb dX5_undo_27 ?_
    refine lv_istore_n (lv' := [(1, .int ((iI 201) * (kp - (iI 1)))), (0, .ref (q 0))]) hx hb dX5_undo_28 rfl hl (by decide) rfl (fun ls hl => ?_)
    refine lv_aload_n hx hb dX5_undo_29 rfl (lv_at hl 1 rfl) ?_
    refine lv_aload_n hx hb dX5_undo_30 rfl (lv_at hl 1 rfl) ?_
    refine va_get (D := D) (ci := 5) (v := .ref (q 3)) (C := RX5) (T := TX5) (N := 10) hx hb X.2.2.2.2.1 iwX5_undo_5 X.2.2.2.1 hKK.1 hP 0 rfl rfl 4 (by decide) (X.2.2.2.2.1 _ flX5_undo_17) (fun _ h9 => h9) rfl dX5_undo_31 ?_
    refine lv_iload_n hx hb dX5_undo_34 rfl (lv_at hl 0 rfl) ?_
    obtain ⟨g2, h⟩ := asr h
    refine va_iald hx hb hKK.1 hP 3 0 rfl rfl g2 dX5_undo_35 ?_
    refine va_put (D := D) (ci := 5) (v := .int (kr ((iI 201) * (kp - (iI 1))).toNatClampNeg)) (ty := .int) (C := RX5) (T := TX5) (N := 10) hx hb X.2.2.2.2.1 iwX5_undo_5 tyX5 tyX5_ok nmX5 X.2.2.2.1 hKK.1 hP hD hS 0 rfl rfl 0 (by decide) (X.2.2.2.2.1 _ flX5_undo_29) (fun _ h9 => h9) rfl (by decide +kernel) rfl rfl (Nat.le_of_ble_eq_true rfl) dX5_undo_36 (fun H locs hP hD hS => ?_)
    replace hP : va_P D vwCl (wM cI cC q (kr ((iI 201) * (kp - (iI 1))).toNatClampNeg) d lb (kp - (iI 1)) kr ty tx rd rl wi) H := hP
    replace hD : va_D A (wM cI cC q (kr ((iI 201) * (kp - (iI 1))).toNatClampNeg) d lb (kp - (iI 1)) kr ty tx rd rl wi) := hD
    refine lv_iconst (v := iI 0) hx hb dX5_undo_39 rfl ?_
    refine lv_istore_n (lv' := [(2, .int (iI 0)), (1, .int ((iI 201) * (kp - (iI 1)))), (0, .ref (q 0))]) hx hb dX5_undo_40 rfl hl (by decide) rfl (fun ls hl => ?_)
    exact kX5_undo_41 X hKK hA FU (kr ((iI 201) * (kp - (iI 1))).toNatClampNeg) d lb (kp - (iI 1)) kr ((iI 201) * (kp - (iI 1))) (iI 0) _ _ ls hP hD hS (lv_sub hl [2, 1, 0] rfl) h
  · replace h := ifp c1 h
    refine lv_bipush (v := iI (-5)) hx hb dX5_undo_7 (by decide) ?_
    replace h := Option.some.inj h
    subst h
    exact mu_ret X rfl rfl hP rfl hS dX5_undo_9
def mX5_type (ty : Int32) (tx : Nat → Int32) (x1 : Int32) : Option (Int32 × Int32 × (Nat → Int32)) := (if ty = (iI 300) then some ((iI (-4)), ty, tx) else (if inb ty 300 then some ((ty + (iI 1)), (ty + (iI 1)), (upd tx ty.toNatClampNeg (vp_nar .char x1))) else none))
theorem hdX5_type : yX5_type.cls = RX5 ∧ yX5_type.cls ≠ "java/lang/invoke/MethodHandle" ∧ yX5_type.cls ≠ "java/lang/invoke/VarHandle" ∧ (parseMethodDescriptor yX5_type.desc).map (fun d => d.parameters.length) = some 1 := by decide +kernel
theorem flX5_type_43 : Cond.fieldLink RX5 43 "BracketTreeModel" "typed" "I" ∈ wsX5_type := by decide +kernel
theorem iwX5_type_5 : ∀ w ∈ wsX50, w ∈ wsX5_type := by decide +kernel
theorem flX5_type_20 : Cond.fieldLink RX5 20 "BracketTreeModel" "text" "[C" ∈ wsX5_type := by decide +kernel
abbrev rmX5_type : Room := { frames := 0, cells := 0, slots := 0, locals := 0 }
set_option maxHeartbeats 4000000 in
set_option maxRecDepth 100000 in
theorem zX5_type (l : Launch) (D : va_G) (cI cC : ClassId) (q : Nat → Nat) (sz : Nat) (n : Int32) (d : Nat → Int32) (lb : Nat → Int32) (kp : Int32) (kr : Nat → Int32) (ty : Int32) (tx : Nat → Int32) (rd : Nat → Int32) (rl : Nat → Int32) (wi : Int32) (x1 : Int32) (r : Int32 × Int32 × (Nat → Int32)) (h : mX5_type ty tx x1 = some r) : Met l yX5_type wsX5_type rmX5_type (va_Pc [.ref (q 0), .int x1] (MB D cI cC sz (wM cI cC q n d lb kp kr ty tx rd rl wi))) (muQ D (some (.int r.1)) (wM cI cC q n d lb kp kr r.2.1 r.2.2 rd rl wi) (va_A (wM cI cC q n d lb kp kr ty tx rd rl wi) sz)) 0 0 (va_A (wM cI cC q n d lb kp kr ty tx rd rl wi) sz) := by
  refine MetI RX5 (by decide +kernel) rfl rfl (Nat.le_of_ble_eq_true rfl) ?_
  intro p e s m below meth c ls X _ hB hl
  obtain ⟨hsz, ⟨hP, hKK⟩, hD0⟩ := hB
  subst hsz
  have hD := hD0.self (sz := s.heap.size)
  generalize hAe : va_A (wM cI cC q n d lb kp kr ty tx rd rl wi) s.heap.size = A at hD ⊢
  have hA : ∀ z : Nat, s.heap.size ≤ z → A z := fun z hz => by rw [← hAe]; exact Or.inr hz
  have hS : va_S A s.heap s.heap [] := va_S.rf
  have hx := X.1
  have hb := X.2.1
  replace hl : lv_has ls 2 [(0, .ref (q 0)), (1, .int x1)] := hl
  replace hP : va_P D vwCl (wM cI cC q n d lb kp kr ty tx rd rl wi) s.heap := hP
  unfold mX5_type at h
  refine lv_aload_n hx hb dX5_type_0 rfl (lv_at hl 0 rfl) ?_
  refine va_get (D := D) (ci := 5) (v := .int ty) (C := RX5) (T := TX5) (N := 10) hx hb X.2.2.2.2.1 iwX5_type_5 X.2.2.2.1 hKK.1 hP 0 rfl rfl 5 (by decide) (X.2.2.2.2.1 _ flX5_type_43) (fun _ h9 => h9) rfl dX5_type_1 ?_
  refine lv_sipush (v := iI 300) hx hb dX5_type_4 (by decide) ?_
  refine lv_icmp_ne (tgt := 13) hx hb dX5_type_7 (by decide) (fun c1 => ?_) (fun c1 => ?_)
  · replace h := ifn c1 h
    refine lv_aload_n hx hb dX5_type_13 rfl (lv_at hl 0 rfl) ?_
    refine va_get (D := D) (ci := 5) (v := .ref (q 4)) (C := RX5) (T := TX5) (N := 10) hx hb X.2.2.2.2.1 iwX5_type_5 X.2.2.2.1 hKK.1 hP 0 rfl rfl 6 (by decide) (X.2.2.2.2.1 _ flX5_type_20) (fun _ h9 => h9) rfl dX5_type_14 ?_
    refine lv_aload_n hx hb dX5_type_17 rfl (lv_at hl 0 rfl) ?_
    refine va_get (D := D) (ci := 5) (v := .int ty) (C := RX5) (T := TX5) (N := 10) hx hb X.2.2.2.2.1 iwX5_type_5 X.2.2.2.1 hKK.1 hP 0 rfl rfl 5 (by decide) (X.2.2.2.2.1 _ flX5_type_43) (fun _ h9 => h9) rfl dX5_type_18 ?_
    refine lv_iload_n hx hb dX5_type_21 rfl (lv_at hl 1 rfl) ?_
    obtain ⟨g2, h⟩ := asr h
    refine va_cast hx hb hKK.1 hP hD hS 4 1 rfl rfl g2 dX5_type_22 (fun H locs hP hD hS => ?_)
    replace hP : va_P D vwCl (wM cI cC q n d lb kp kr ty (upd tx ty.toNatClampNeg (vp_nar .char x1)) rd rl wi) H := hP
    replace hD : va_D A (wM cI cC q n d lb kp kr ty (upd tx ty.toNatClampNeg (vp_nar .char x1)) rd rl wi) := hD
    refine lv_aload_n hx hb dX5_type_23 rfl (lv_at hl 0 rfl) ?_
    refine lv_dup hx hb dX5_type_24 rfl ?_
    refine va_get (D := D) (ci := 5) (v := .int ty) (C := RX5) (T := TX5) (N := 10) hx hb X.2.2.2.2.1 iwX5_type_5 X.2.2.2.1 hKK.1 hP 0 rfl rfl 5 (by decide) (X.2.2.2.2.1 _ flX5_type_43) (fun _ h9 => h9) rfl dX5_type_25 ?_
    refine lv_iconst (v := iI 1) hx hb dX5_type_28 rfl ?_
    refine lv_iadd hx hb dX5_type_29 ?_
    refine va_put (D := D) (ci := 5) (v := .int (ty + (iI 1))) (ty := .int) (C := RX5) (T := TX5) (N := 10) hx hb X.2.2.2.2.1 iwX5_type_5 tyX5 tyX5_ok nmX5 X.2.2.2.1 hKK.1 hP hD hS 0 rfl rfl 5 (by decide) (X.2.2.2.2.1 _ flX5_type_43) (fun _ h9 => h9) rfl (by decide +kernel) rfl rfl (Nat.le_of_ble_eq_true rfl) dX5_type_30 (fun H locs hP hD hS => ?_)
    replace hP : va_P D vwCl (wM cI cC q n d lb kp kr (ty + (iI 1)) (upd tx ty.toNatClampNeg (vp_nar .char x1)) rd rl wi) H := hP
    replace hD : va_D A (wM cI cC q n d lb kp kr (ty + (iI 1)) (upd tx ty.toNatClampNeg (vp_nar .char x1)) rd rl wi) := hD
    refine lv_aload_n hx hb dX5_type_33 rfl (lv_at hl 0 rfl) ?_
    refine va_get (D := D) (ci := 5) (v := .int (ty + (iI 1))) (C := RX5) (T := TX5) (N := 10) hx hb X.2.2.2.2.1 iwX5_type_5 X.2.2.2.1 hKK.1 hP 0 rfl rfl 5 (by decide) (X.2.2.2.2.1 _ flX5_type_43) (fun _ h9 => h9) rfl dX5_type_34 ?_
    replace h := Option.some.inj h
    subst h
    exact mu_ret X rfl rfl hP rfl hS dX5_type_37
  · replace h := ifp c1 h
    refine lv_bipush (v := iI (-4)) hx hb dX5_type_10 (by decide) ?_
    replace h := Option.some.inj h
    subst h
    exact mu_ret X rfl rfl hP rfl hS dX5_type_12
def mX5_clearText (ty : Int32)  : (Int32 × Int32) := (ty, (iI 0))
theorem hdX5_clearText : yX5_clearText.cls = RX5 ∧ yX5_clearText.cls ≠ "java/lang/invoke/MethodHandle" ∧ yX5_clearText.cls ≠ "java/lang/invoke/VarHandle" ∧ (parseMethodDescriptor yX5_clearText.desc).map (fun d => d.parameters.length) = some 0 := by decide +kernel
theorem flX5_clearText_43 : Cond.fieldLink RX5 43 "BracketTreeModel" "typed" "I" ∈ wsX5_clearText := by decide +kernel
theorem iwX5_clearText_5 : ∀ w ∈ wsX50, w ∈ wsX5_clearText := by decide +kernel
abbrev rmX5_clearText : Room := { frames := 0, cells := 0, slots := 0, locals := 0 }
set_option maxHeartbeats 4000000 in
set_option maxRecDepth 100000 in
theorem zX5_clearText (l : Launch) (D : va_G) (cI cC : ClassId) (q : Nat → Nat) (sz : Nat) (n : Int32) (d : Nat → Int32) (lb : Nat → Int32) (kp : Int32) (kr : Nat → Int32) (ty : Int32) (tx : Nat → Int32) (rd : Nat → Int32) (rl : Nat → Int32) (wi : Int32)  (r : Int32 × Int32) (h : mX5_clearText ty = r) : Met l yX5_clearText wsX5_clearText rmX5_clearText (va_Pc [.ref (q 0)] (MB D cI cC sz (wM cI cC q n d lb kp kr ty tx rd rl wi))) (muQ D (some (.int r.1)) (wM cI cC q n d lb kp kr r.2 tx rd rl wi) (va_A (wM cI cC q n d lb kp kr ty tx rd rl wi) sz)) 0 0 (va_A (wM cI cC q n d lb kp kr ty tx rd rl wi) sz) := by
  refine MetI RX5 (by decide +kernel) rfl rfl (Nat.le_of_ble_eq_true rfl) ?_
  intro p e s m below meth c ls X _ hB hl
  obtain ⟨hsz, ⟨hP, hKK⟩, hD0⟩ := hB
  subst hsz
  have hD := hD0.self (sz := s.heap.size)
  generalize hAe : va_A (wM cI cC q n d lb kp kr ty tx rd rl wi) s.heap.size = A at hD ⊢
  have hA : ∀ z : Nat, s.heap.size ≤ z → A z := fun z hz => by rw [← hAe]; exact Or.inr hz
  have hS : va_S A s.heap s.heap [] := va_S.rf
  have hx := X.1
  have hb := X.2.1
  replace hl : lv_has ls 2 [(0, .ref (q 0))] := hl
  replace hP : va_P D vwCl (wM cI cC q n d lb kp kr ty tx rd rl wi) s.heap := hP
  unfold mX5_clearText at h
  refine lv_aload_n hx hb dX5_clearText_0 rfl (lv_at hl 0 rfl) ?_
  refine va_get (D := D) (ci := 5) (v := .int ty) (C := RX5) (T := TX5) (N := 10) hx hb X.2.2.2.2.1 iwX5_clearText_5 X.2.2.2.1 hKK.1 hP 0 rfl rfl 5 (by decide) (X.2.2.2.2.1 _ flX5_clearText_43) (fun _ h9 => h9) rfl dX5_clearText_1 ?_
  refine lv_istore_n (lv' := [(1, .int ty), (0, .ref (q 0))]) hx hb dX5_clearText_4 rfl hl (by decide) rfl (fun ls hl => ?_)
  refine lv_aload_n hx hb dX5_clearText_5 rfl (lv_at hl 1 rfl) ?_
  refine lv_iconst (v := iI 0) hx hb dX5_clearText_6 rfl ?_
  refine va_put (D := D) (ci := 5) (v := .int (iI 0)) (ty := .int) (C := RX5) (T := TX5) (N := 10) hx hb X.2.2.2.2.1 iwX5_clearText_5 tyX5 tyX5_ok nmX5 X.2.2.2.1 hKK.1 hP hD hS 0 rfl rfl 5 (by decide) (X.2.2.2.2.1 _ flX5_clearText_43) (fun _ h9 => h9) rfl (by decide +kernel) rfl rfl (Nat.le_of_ble_eq_true rfl) dX5_clearText_7 (fun H locs hP hD hS => ?_)
  replace hP : va_P D vwCl (wM cI cC q n d lb kp kr (iI 0) tx rd rl wi) H := hP
  replace hD : va_D A (wM cI cC q n d lb kp kr (iI 0) tx rd rl wi) := hD
  refine lv_iload_n hx hb dX5_clearText_10 rfl (lv_at hl 0 rfl) ?_
  subst h
  exact mu_ret X rfl rfl hP rfl hS dX5_clearText_11
def mX5_read_163 (rec : Int32 → (Nat → Int32) → (Nat → Int32) → Int32 → (Nat → Int32) → Int32 → (Nat → Int32) → (Nat → Int32) → (Nat → Int32) → Int32 → Int32 → Int32 → Int32 → Option (Int32 × Int32 × (Nat → Int32) × (Nat → Int32) × Int32 × (Nat → Int32) × (Nat → Int32) × (Nat → Int32))) (n : Int32) (d : Nat → Int32) (lb : Nat → Int32) (kp : Int32) (kr : Nat → Int32) (ty : Int32) (tx : Nat → Int32) (rd : Nat → Int32) (rl : Nat → Int32) (x1 : Int32) (x2 : Int32) (x3 : Int32) (x4 : Int32) (x5 : Int32) (x6 : Int32) (x7 : Int32) (x8 : Int32) : Option (Int32 × Int32 × (Nat → Int32) × (Nat → Int32) × Int32 × (Nat → Int32) × (Nat → Int32) × (Nat → Int32)) := rec n d lb kp kr ty tx rd rl x1 x2 x3 (x4 + iI 1)
def mX5_read_101 (rec : Int32 → (Nat → Int32) → (Nat → Int32) → Int32 → (Nat → Int32) → Int32 → (Nat → Int32) → (Nat → Int32) → (Nat → Int32) → Int32 → Int32 → Int32 → Int32 → Option (Int32 × Int32 × (Nat → Int32) × (Nat → Int32) × Int32 × (Nat → Int32) × (Nat → Int32) × (Nat → Int32))) (n : Int32) (d : Nat → Int32) (lb : Nat → Int32) (kp : Int32) (kr : Nat → Int32) (ty : Int32) (tx : Nat → Int32) (rd : Nat → Int32) (rl : Nat → Int32) (x1 : Int32) (x2 : Int32) (x3 : Int32) (x4 : Int32) (x5 : Int32) (x6 : Int32) (x7 : Int32) (y0 : Int32) : Option (Int32 × Int32 × (Nat → Int32) × (Nat → Int32) × Int32 × (Nat → Int32) × (Nat → Int32) × (Nat → Int32)) := (if x6 = 0 then (if x7 = 0 then (if y0 = 0 then some (((iI (-100)) - x4), n, d, lb, kp, kr, rd, rl) else mX5_read_163 rec n d lb kp kr ty tx rd rl x1 (x2 + iI (-1)) (iI 3) x4 x5 x6 x7 y0) else mX5_read_163 rec n d lb kp kr ty tx rd rl x1 (x2 + iI 1) (iI 2) x4 x5 x6 x7 y0) else (if inb x1 100 then (if inb x1 100 then mX5_read_163 rec n d lb kp kr ty tx (upd rd x1.toNatClampNeg x2) (upd rl x1.toNatClampNeg (vp_nar .char x5)) (x1 + iI 1) x2 (iI 1) x4 x5 x6 x7 y0 else none) else none))
def mX5_read_78 (rec : Int32 → (Nat → Int32) → (Nat → Int32) → Int32 → (Nat → Int32) → Int32 → (Nat → Int32) → (Nat → Int32) → (Nat → Int32) → Int32 → Int32 → Int32 → Int32 → Option (Int32 × Int32 × (Nat → Int32) × (Nat → Int32) × Int32 × (Nat → Int32) × (Nat → Int32) × (Nat → Int32))) (n : Int32) (d : Nat → Int32) (lb : Nat → Int32) (kp : Int32) (kr : Nat → Int32) (ty : Int32) (tx : Nat → Int32) (rd : Nat → Int32) (rl : Nat → Int32) (x1 : Int32) (x2 : Int32) (x3 : Int32) (x4 : Int32) (x5 : Int32) (x6 : Int32) (y0 : Int32) : Option (Int32 × Int32 × (Nat → Int32) × (Nat → Int32) × Int32 × (Nat → Int32) × (Nat → Int32) × (Nat → Int32)) := (if x5 = (iI 41) then (if x2 ≤ 0 then mX5_read_101 rec n d lb kp kr ty tx rd rl x1 x2 x3 x4 x5 x6 y0 (iI 0) else (if x3 = (iI 2) then mX5_read_101 rec n d lb kp kr ty tx rd rl x1 x2 x3 x4 x5 x6 y0 (iI 0) else mX5_read_101 rec n d lb kp kr ty tx rd rl x1 x2 x3 x4 x5 x6 y0 (iI 1))) else mX5_read_101 rec n d lb kp kr ty tx rd rl x1 x2 x3 x4 x5 x6 y0 (iI 0))
def mX5_read_59 (rec : Int32 → (Nat → Int32) → (Nat → Int32) → Int32 → (Nat → Int32) → Int32 → (Nat → Int32) → (Nat → Int32) → (Nat → Int32) → Int32 → Int32 → Int32 → Int32 → Option (Int32 × Int32 × (Nat → Int32) × (Nat → Int32) × Int32 × (Nat → Int32) × (Nat → Int32) × (Nat → Int32))) (n : Int32) (d : Nat → Int32) (lb : Nat → Int32) (kp : Int32) (kr : Nat → Int32) (ty : Int32) (tx : Nat → Int32) (rd : Nat → Int32) (rl : Nat → Int32) (x1 : Int32) (x2 : Int32) (x3 : Int32) (x4 : Int32) (x5 : Int32) (y0 : Int32) : Option (Int32 × Int32 × (Nat → Int32) × (Nat → Int32) × Int32 × (Nat → Int32) × (Nat → Int32) × (Nat → Int32)) := (if x5 = (iI 40) then (if x3 = (iI 1) then mX5_read_78 rec n d lb kp kr ty tx rd rl x1 x2 x3 x4 x5 y0 (iI 1) else mX5_read_78 rec n d lb kp kr ty tx rd rl x1 x2 x3 x4 x5 y0 (iI 0)) else mX5_read_78 rec n d lb kp kr ty tx rd rl x1 x2 x3 x4 x5 y0 (iI 0))
def mX5_read_197 : Nat → Int32 → (Nat → Int32) → (Nat → Int32) → Int32 → (Nat → Int32) → Int32 → (Nat → Int32) → (Nat → Int32) → (Nat → Int32) → Int32 → Int32 → Int32 → Int32 → Option (Int32 × Int32 × (Nat → Int32) × (Nat → Int32) × Int32 × (Nat → Int32) × (Nat → Int32) × (Nat → Int32))
  | 0, _, _, _, _, _, _, _, _, _, _, _, _, _ => none
  | f + 1, n, d, lb, kp, kr, ty, tx, rd, rl, x1, x2, x3, x4 => (if n ≤ x4 then some (n, n, d, lb, kp, kr, rd, rl) else (if inb x4 100 then (if inb x4 100 then (if inb x4 100 then (if inb x4 100 then mX5_read_197 f n (upd d x4.toNatClampNeg (rd x4.toNatClampNeg)) (upd lb x4.toNatClampNeg (vp_nar .char (rl x4.toNatClampNeg))) kp kr ty tx rd rl x1 x2 x3 (x4 + iI 1) else none) else none) else none) else none))
def mX5_read_9 : Nat → Int32 → (Nat → Int32) → (Nat → Int32) → Int32 → (Nat → Int32) → Int32 → (Nat → Int32) → (Nat → Int32) → (Nat → Int32) → Int32 → Int32 → Int32 → Int32 → Option (Int32 × Int32 × (Nat → Int32) × (Nat → Int32) × Int32 × (Nat → Int32) × (Nat → Int32) × (Nat → Int32))
  | 0, _, _, _, _, _, _, _, _, _, _, _, _, _ => none
  | f + 1, n, d, lb, kp, kr, ty, tx, rd, rl, x1, x2, x3, x4 => (if ty ≤ x4 then (if x1 = 0 then some (((iI (-100)) - ty), n, d, lb, kp, kr, rd, rl) else (if x2 ≤ 0 then ((mX5_keep n d lb kp kr).bind fun r4 => mX5_read_197 FU x1 d lb r4.1 r4.2 ty tx rd rl x1 x2 x3 (iI 0)) else some (((iI (-100)) - ty), n, d, lb, kp, kr, rd, rl))) else (if inb x4 300 then (if (mX5_isLetter (tx x4.toNatClampNeg)) = 0 then mX5_read_59 (mX5_read_9 f) n d lb kp kr ty tx rd rl x1 x2 x3 x4 (tx x4.toNatClampNeg) (iI 0) else (if (iI 100) ≤ x1 then mX5_read_59 (mX5_read_9 f) n d lb kp kr ty tx rd rl x1 x2 x3 x4 (tx x4.toNatClampNeg) (iI 0) else (if x3 = 0 then mX5_read_59 (mX5_read_9 f) n d lb kp kr ty tx rd rl x1 x2 x3 x4 (tx x4.toNatClampNeg) (iI 1) else (if x3 = (iI 2) then mX5_read_59 (mX5_read_9 f) n d lb kp kr ty tx rd rl x1 x2 x3 x4 (tx x4.toNatClampNeg) (iI 1) else (if x2 ≤ 0 then mX5_read_59 (mX5_read_9 f) n d lb kp kr ty tx rd rl x1 x2 x3 x4 (tx x4.toNatClampNeg) (iI 0) else mX5_read_59 (mX5_read_9 f) n d lb kp kr ty tx rd rl x1 x2 x3 x4 (tx x4.toNatClampNeg) (iI 1)))))) else none))
def mX5_read (n : Int32) (d : Nat → Int32) (lb : Nat → Int32) (kp : Int32) (kr : Nat → Int32) (ty : Int32) (tx : Nat → Int32) (rd : Nat → Int32) (rl : Nat → Int32)  : Option (Int32 × Int32 × (Nat → Int32) × (Nat → Int32) × Int32 × (Nat → Int32) × (Nat → Int32) × (Nat → Int32)) := mX5_read_9 FU n d lb kp kr ty tx rd rl (iI 0) (iI 0) (iI 0) (iI 0)
theorem hdX5_read : yX5_read.cls = RX5 ∧ yX5_read.cls ≠ "java/lang/invoke/MethodHandle" ∧ yX5_read.cls ≠ "java/lang/invoke/VarHandle" ∧ (parseMethodDescriptor yX5_read.desc).map (fun d => d.parameters.length) = some 0 := by decide +kernel
theorem flX5_read_43 : Cond.fieldLink RX5 43 "BracketTreeModel" "typed" "I" ∈ wsX5_read := by decide +kernel
theorem iwX5_read_5 : ∀ w ∈ wsX50, w ∈ wsX5_read := by decide +kernel
theorem flX5_read_29 : Cond.fieldLink RX5 29 "BracketTreeModel" "n" "I" ∈ wsX5_read := by decide +kernel
theorem flX5_read_20 : Cond.fieldLink RX5 20 "BracketTreeModel" "text" "[C" ∈ wsX5_read := by decide +kernel
theorem flX5_read_7 : Cond.fieldLink RX5 7 "BracketTreeModel" "depthOf" "[I" ∈ wsX5_read := by decide +kernel
theorem flX5_read_23 : Cond.fieldLink RX5 23 "BracketTreeModel" "readDepth" "[I" ∈ wsX5_read := by decide +kernel
theorem flX5_read_13 : Cond.fieldLink RX5 13 "BracketTreeModel" "labelOf" "[C" ∈ wsX5_read := by decide +kernel
theorem flX5_read_26 : Cond.fieldLink RX5 26 "BracketTreeModel" "readLabel" "[C" ∈ wsX5_read := by decide +kernel
abbrev rmX5_read : Room := { frames := 1, cells := 0, slots := 0, locals := 22 }
set_option maxHeartbeats 4000000 in
set_option maxRecDepth 100000 in
theorem kX5_read_163 {p : Program} {l : Launch} {e : Env} {s : State} {m : MethodId} {args : Array Value} {below : List Frame} {meth : Method} {c : Code} {D : va_G} {cI cC : ClassId} {q : Nat → Nat} {wi : Int32} {r : Int32 × Int32 × (Nat → Int32) × (Nat → Int32) × Int32 × (Nat → Int32) × (Nat → Int32) × (Nat → Int32)} {A : Nat → Prop} (X : CX p s m args meth c wsX5_read cX5_read 9 (some .int) RX5) (hKK : KK D cI cC s) (hA : ∀ z, s.heap.size ≤ z → A z) (rec : Int32 → (Nat → Int32) → (Nat → Int32) → Int32 → (Nat → Int32) → Int32 → (Nat → Int32) → (Nat → Int32) → (Nat → Int32) → Int32 → Int32 → Int32 → Int32 → Option (Int32 × Int32 × (Nat → Int32) × (Nat → Int32) × Int32 × (Nat → Int32) × (Nat → Int32) × (Nat → Int32))) (hrec : ∀ (n : Int32) (d : Nat → Int32) (lb : Nat → Int32) (kp : Int32) (kr : Nat → Int32) (ty : Int32) (tx : Nat → Int32) (rd : Nat → Int32) (rl : Nat → Int32) (x1 : Int32) (x2 : Int32) (x3 : Int32) (x4 : Int32) (H : Heap) (locs : List Loc) (ls : Array Slot), va_P D vwCl (wM cI cC q n d lb kp kr ty tx rd rl wi) H → va_D A (wM cI cC q n d lb kp kr ty tx rd rl wi) → va_S A s.heap H locs → lv_has ls 9 [(0, .ref (q 0)), (1, .int x1), (2, .int x2), (3, .int x3), (4, .int x4)] → rec n d lb kp kr ty tx rd rl x1 x2 x3 x4 = some r → W p l e rmX5_read s m args below meth c H locs 0 0 (MQ below (muQ D (some (.int r.1)) (wM cI cC q r.2.1 r.2.2.1 r.2.2.2.1 r.2.2.2.2.1 r.2.2.2.2.2.1 ty tx r.2.2.2.2.2.2.1 r.2.2.2.2.2.2.2 wi) A) args s 0 0 A) (F0 m 9 ls [])) : ∀ (n : Int32) (d : Nat → Int32) (lb : Nat → Int32) (kp : Int32) (kr : Nat → Int32) (ty : Int32) (tx : Nat → Int32) (rd : Nat → Int32) (rl : Nat → Int32) (x1 : Int32) (x2 : Int32) (x3 : Int32) (x4 : Int32) (x5 : Int32) (x6 : Int32) (x7 : Int32) (x8 : Int32) (H : Heap) (locs : List Loc) (ls : Array Slot), va_P D vwCl (wM cI cC q n d lb kp kr ty tx rd rl wi) H → va_D A (wM cI cC q n d lb kp kr ty tx rd rl wi) → va_S A s.heap H locs → lv_has ls 9 [(0, .ref (q 0)), (1, .int x1), (2, .int x2), (3, .int x3), (4, .int x4), (5, .int x5), (6, .int x6), (7, .int x7), (8, .int x8)] → mX5_read_163 rec n d lb kp kr ty tx rd rl x1 x2 x3 x4 x5 x6 x7 x8 = some r → W p l e rmX5_read s m args below meth c H locs 0 0 (MQ below (muQ D (some (.int r.1)) (wM cI cC q r.2.1 r.2.2.1 r.2.2.2.1 r.2.2.2.2.1 r.2.2.2.2.2.1 ty tx r.2.2.2.2.2.2.1 r.2.2.2.2.2.2.2 wi) A) args s 0 0 A) (F0 m 163 ls []) := by
  have hx := X.1
  have hb := X.2.1
  intro n d lb kp kr ty tx rd rl x1 x2 x3 x4 x5 x6 x7 x8 H locs ls hP hD hS hl h
  unfold mX5_read_163 at h
  refine lv_iinc (v := (x4 + iI 1)) (lv' := [(4, .int (x4 + iI 1)), (0, .ref (q 0)), (1, .int x1), (2, .int x2), (3, .int x3), (5, .int x5), (6, .int x6), (7, .int x7), (8, .int x8)]) hx hb dX5_read_163 hl (k := 4) rfl rfl (by decide) rfl (fun ls hl => ?_)
  refine lv_goto (tgt := 9) hx hb dX5_read_166 (by decide) ?_
  exact hrec n d lb kp kr ty tx rd rl x1 x2 x3 (x4 + iI 1) _ _ ls hP hD hS (lv_sub hl [1, 2, 3, 4, 0] rfl) h
set_option maxHeartbeats 4000000 in
set_option maxRecDepth 100000 in
theorem kX5_read_101 {p : Program} {l : Launch} {e : Env} {s : State} {m : MethodId} {args : Array Value} {below : List Frame} {meth : Method} {c : Code} {D : va_G} {cI cC : ClassId} {q : Nat → Nat} {wi : Int32} {r : Int32 × Int32 × (Nat → Int32) × (Nat → Int32) × Int32 × (Nat → Int32) × (Nat → Int32) × (Nat → Int32)} {A : Nat → Prop} (X : CX p s m args meth c wsX5_read cX5_read 9 (some .int) RX5) (hKK : KK D cI cC s) (hA : ∀ z, s.heap.size ≤ z → A z) (rec : Int32 → (Nat → Int32) → (Nat → Int32) → Int32 → (Nat → Int32) → Int32 → (Nat → Int32) → (Nat → Int32) → (Nat → Int32) → Int32 → Int32 → Int32 → Int32 → Option (Int32 × Int32 × (Nat → Int32) × (Nat → Int32) × Int32 × (Nat → Int32) × (Nat → Int32) × (Nat → Int32))) (hrec : ∀ (n : Int32) (d : Nat → Int32) (lb : Nat → Int32) (kp : Int32) (kr : Nat → Int32) (ty : Int32) (tx : Nat → Int32) (rd : Nat → Int32) (rl : Nat → Int32) (x1 : Int32) (x2 : Int32) (x3 : Int32) (x4 : Int32) (H : Heap) (locs : List Loc) (ls : Array Slot), va_P D vwCl (wM cI cC q n d lb kp kr ty tx rd rl wi) H → va_D A (wM cI cC q n d lb kp kr ty tx rd rl wi) → va_S A s.heap H locs → lv_has ls 9 [(0, .ref (q 0)), (1, .int x1), (2, .int x2), (3, .int x3), (4, .int x4)] → rec n d lb kp kr ty tx rd rl x1 x2 x3 x4 = some r → W p l e rmX5_read s m args below meth c H locs 0 0 (MQ below (muQ D (some (.int r.1)) (wM cI cC q r.2.1 r.2.2.1 r.2.2.2.1 r.2.2.2.2.1 r.2.2.2.2.2.1 ty tx r.2.2.2.2.2.2.1 r.2.2.2.2.2.2.2 wi) A) args s 0 0 A) (F0 m 9 ls [])) : ∀ (n : Int32) (d : Nat → Int32) (lb : Nat → Int32) (kp : Int32) (kr : Nat → Int32) (ty : Int32) (tx : Nat → Int32) (rd : Nat → Int32) (rl : Nat → Int32) (x1 : Int32) (x2 : Int32) (x3 : Int32) (x4 : Int32) (x5 : Int32) (x6 : Int32) (x7 : Int32) (y0 : Int32) (H : Heap) (locs : List Loc) (ls : Array Slot), va_P D vwCl (wM cI cC q n d lb kp kr ty tx rd rl wi) H → va_D A (wM cI cC q n d lb kp kr ty tx rd rl wi) → va_S A s.heap H locs → lv_has ls 9 [(0, .ref (q 0)), (1, .int x1), (2, .int x2), (3, .int x3), (4, .int x4), (5, .int x5), (6, .int x6), (7, .int x7)] → mX5_read_101 rec n d lb kp kr ty tx rd rl x1 x2 x3 x4 x5 x6 x7 y0 = some r → W p l e rmX5_read s m args below meth c H locs 0 0 (MQ below (muQ D (some (.int r.1)) (wM cI cC q r.2.1 r.2.2.1 r.2.2.2.1 r.2.2.2.2.1 r.2.2.2.2.2.1 ty tx r.2.2.2.2.2.2.1 r.2.2.2.2.2.2.2 wi) A) args s 0 0 A) (F0 m 101 ls [.int y0]) := by
  have hx := X.1
  have hb := X.2.1
  intro n d lb kp kr ty tx rd rl x1 x2 x3 x4 x5 x6 x7 y0 H locs ls hP hD hS hl h
  unfold mX5_read_101 at h
  refine lv_istore (lv' := [(8, .int y0), (0, .ref (q 0)), (1, .int x1), (2, .int x2), (3, .int x3), (4, .int x4), (5, .int x5), (6, .int x6), (7, .int x7)]) hx hb dX5_read_101 hl (by decide) rfl (fun ls hl => ?_)
  refine lv_iload hx hb dX5_read_103 (lv_at hl 7 rfl) ?_
  refine lv_if_eq (tgt := 131) hx hb dX5_read_105 (by decide) (fun c21 => ?_) (fun c21 => ?_)
  · replace h := ifp c21 h
    refine lv_iload hx hb dX5_read_131 (lv_at hl 8 rfl) ?_
    refine lv_if_eq (tgt := 144) hx hb dX5_read_133 (by decide) (fun c22 => ?_) (fun c22 => ?_)
    · replace h := ifp c22 h
      refine lv_iload hx hb dX5_read_144 (lv_at hl 0 rfl) ?_
      refine lv_if_eq (tgt := 157) hx hb dX5_read_146 (by decide) (fun c23 => ?_) (fun c23 => ?_)
      · replace h := ifp c23 h
        refine lv_bipush (v := iI (-100)) hx hb dX5_read_157 (by decide) ?_
        refine lv_iload hx hb dX5_read_159 (lv_at hl 5 rfl) ?_
        refine lv_isub hx hb dX5_read_161 ?_
        replace h := Option.some.inj h
        subst h
        exact mu_ret X rfl rfl hP rfl hS dX5_read_162
      · replace h := ifn c23 h
        refine lv_iinc (v := (x2 + iI (-1))) (lv' := [(2, .int (x2 + iI (-1))), (8, .int y0), (0, .ref (q 0)), (1, .int x1), (3, .int x3), (4, .int x4), (5, .int x5), (6, .int x6), (7, .int x7)]) hx hb dX5_read_149 hl (k := 3) rfl rfl (by decide) rfl (fun ls hl => ?_)
        refine lv_iconst (v := iI 3) hx hb dX5_read_152 rfl ?_
        refine lv_istore_n (lv' := [(3, .int (iI 3)), (2, .int (x2 + iI (-1))), (8, .int y0), (0, .ref (q 0)), (1, .int x1), (4, .int x4), (5, .int x5), (6, .int x6), (7, .int x7)]) hx hb dX5_read_153 rfl hl (by decide) rfl (fun ls hl => ?_)
        refine lv_goto (tgt := 163) hx hb dX5_read_154 (by decide) ?_
        exact kX5_read_163 X hKK hA rec hrec n d lb kp kr ty tx rd rl x1 (x2 + iI (-1)) (iI 3) x4 x5 x6 x7 y0 _ _ ls hP hD hS (lv_sub hl [3, 4, 1, 0, 5, 6, 7, 8, 2] rfl) h
    · replace h := ifn c22 h
      refine lv_iinc (v := (x2 + iI 1)) (lv' := [(2, .int (x2 + iI 1)), (8, .int y0), (0, .ref (q 0)), (1, .int x1), (3, .int x3), (4, .int x4), (5, .int x5), (6, .int x6), (7, .int x7)]) hx hb dX5_read_136 hl (k := 3) rfl rfl (by decide) rfl (fun ls hl => ?_)
      refine lv_iconst (v := iI 2) hx hb dX5_read_139 rfl ?_
      refine lv_istore_n (lv' := [(3, .int (iI 2)), (2, .int (x2 + iI 1)), (8, .int y0), (0, .ref (q 0)), (1, .int x1), (4, .int x4), (5, .int x5), (6, .int x6), (7, .int x7)]) hx hb dX5_read_140 rfl hl (by decide) rfl (fun ls hl => ?_)
      refine lv_goto (tgt := 163) hx hb dX5_read_141 (by decide) ?_
      exact kX5_read_163 X hKK hA rec hrec n d lb kp kr ty tx rd rl x1 (x2 + iI 1) (iI 2) x4 x5 x6 x7 y0 _ _ ls hP hD hS (lv_sub hl [3, 4, 1, 0, 5, 6, 7, 8, 2] rfl) h
  · replace h := ifn c21 h
    refine lv_aload_n hx hb dX5_read_108 rfl (lv_at hl 1 rfl) ?_
    refine va_get (D := D) (ci := 5) (v := .ref (q 5)) (C := RX5) (T := TX5) (N := 10) hx hb X.2.2.2.2.1 iwX5_read_5 X.2.2.2.1 hKK.1 hP 0 rfl rfl 7 (by decide) (X.2.2.2.2.1 _ flX5_read_23) (fun _ h9 => h9) rfl dX5_read_109 ?_
    refine lv_iload_n hx hb dX5_read_112 rfl (lv_at hl 2 rfl) ?_
    refine lv_iload_n hx hb dX5_read_113 rfl (lv_at hl 3 rfl) ?_
    obtain ⟨g24, h⟩ := asr h
    refine va_iast hx hb hKK.1 hP hD hS 5 0 rfl rfl g24 dX5_read_114 (fun H locs hP hD hS => ?_)
    replace hP : va_P D vwCl (wM cI cC q n d lb kp kr ty tx (upd rd x1.toNatClampNeg x2) rl wi) H := hP
    replace hD : va_D A (wM cI cC q n d lb kp kr ty tx (upd rd x1.toNatClampNeg x2) rl wi) := hD
    refine lv_aload_n hx hb dX5_read_115 rfl (lv_at hl 1 rfl) ?_
    refine va_get (D := D) (ci := 5) (v := .ref (q 6)) (C := RX5) (T := TX5) (N := 10) hx hb X.2.2.2.2.1 iwX5_read_5 X.2.2.2.1 hKK.1 hP 0 rfl rfl 8 (by decide) (X.2.2.2.2.1 _ flX5_read_26) (fun _ h9 => h9) rfl dX5_read_116 ?_
    refine lv_iload_n hx hb dX5_read_119 rfl (lv_at hl 2 rfl) ?_
    refine lv_iload hx hb dX5_read_120 (lv_at hl 6 rfl) ?_
    obtain ⟨g25, h⟩ := asr h
    refine va_cast hx hb hKK.1 hP hD hS 6 1 rfl rfl g25 dX5_read_122 (fun H locs hP hD hS => ?_)
    replace hP : va_P D vwCl (wM cI cC q n d lb kp kr ty tx (upd rd x1.toNatClampNeg x2) (upd rl x1.toNatClampNeg (vp_nar .char x5)) wi) H := hP
    replace hD : va_D A (wM cI cC q n d lb kp kr ty tx (upd rd x1.toNatClampNeg x2) (upd rl x1.toNatClampNeg (vp_nar .char x5)) wi) := hD
    refine lv_iinc (v := (x1 + iI 1)) (lv' := [(1, .int (x1 + iI 1)), (8, .int y0), (0, .ref (q 0)), (2, .int x2), (3, .int x3), (4, .int x4), (5, .int x5), (6, .int x6), (7, .int x7)]) hx hb dX5_read_123 hl (k := 2) rfl rfl (by decide) rfl (fun ls hl => ?_)
    refine lv_iconst (v := iI 1) hx hb dX5_read_126 rfl ?_
    refine lv_istore_n (lv' := [(3, .int (iI 1)), (1, .int (x1 + iI 1)), (8, .int y0), (0, .ref (q 0)), (2, .int x2), (4, .int x4), (5, .int x5), (6, .int x6), (7, .int x7)]) hx hb dX5_read_127 rfl hl (by decide) rfl (fun ls hl => ?_)
    refine lv_goto (tgt := 163) hx hb dX5_read_128 (by decide) ?_
    exact kX5_read_163 X hKK hA rec hrec n d lb kp kr ty tx (upd rd x1.toNatClampNeg x2) (upd rl x1.toNatClampNeg (vp_nar .char x5)) (x1 + iI 1) x2 (iI 1) x4 x5 x6 x7 y0 _ _ ls hP hD hS (lv_sub hl [3, 1, 4, 0, 5, 6, 7, 8, 2] rfl) h
set_option maxHeartbeats 4000000 in
set_option maxRecDepth 100000 in
theorem kX5_read_78 {p : Program} {l : Launch} {e : Env} {s : State} {m : MethodId} {args : Array Value} {below : List Frame} {meth : Method} {c : Code} {D : va_G} {cI cC : ClassId} {q : Nat → Nat} {wi : Int32} {r : Int32 × Int32 × (Nat → Int32) × (Nat → Int32) × Int32 × (Nat → Int32) × (Nat → Int32) × (Nat → Int32)} {A : Nat → Prop} (X : CX p s m args meth c wsX5_read cX5_read 9 (some .int) RX5) (hKK : KK D cI cC s) (hA : ∀ z, s.heap.size ≤ z → A z) (rec : Int32 → (Nat → Int32) → (Nat → Int32) → Int32 → (Nat → Int32) → Int32 → (Nat → Int32) → (Nat → Int32) → (Nat → Int32) → Int32 → Int32 → Int32 → Int32 → Option (Int32 × Int32 × (Nat → Int32) × (Nat → Int32) × Int32 × (Nat → Int32) × (Nat → Int32) × (Nat → Int32))) (hrec : ∀ (n : Int32) (d : Nat → Int32) (lb : Nat → Int32) (kp : Int32) (kr : Nat → Int32) (ty : Int32) (tx : Nat → Int32) (rd : Nat → Int32) (rl : Nat → Int32) (x1 : Int32) (x2 : Int32) (x3 : Int32) (x4 : Int32) (H : Heap) (locs : List Loc) (ls : Array Slot), va_P D vwCl (wM cI cC q n d lb kp kr ty tx rd rl wi) H → va_D A (wM cI cC q n d lb kp kr ty tx rd rl wi) → va_S A s.heap H locs → lv_has ls 9 [(0, .ref (q 0)), (1, .int x1), (2, .int x2), (3, .int x3), (4, .int x4)] → rec n d lb kp kr ty tx rd rl x1 x2 x3 x4 = some r → W p l e rmX5_read s m args below meth c H locs 0 0 (MQ below (muQ D (some (.int r.1)) (wM cI cC q r.2.1 r.2.2.1 r.2.2.2.1 r.2.2.2.2.1 r.2.2.2.2.2.1 ty tx r.2.2.2.2.2.2.1 r.2.2.2.2.2.2.2 wi) A) args s 0 0 A) (F0 m 9 ls [])) : ∀ (n : Int32) (d : Nat → Int32) (lb : Nat → Int32) (kp : Int32) (kr : Nat → Int32) (ty : Int32) (tx : Nat → Int32) (rd : Nat → Int32) (rl : Nat → Int32) (x1 : Int32) (x2 : Int32) (x3 : Int32) (x4 : Int32) (x5 : Int32) (x6 : Int32) (y0 : Int32) (H : Heap) (locs : List Loc) (ls : Array Slot), va_P D vwCl (wM cI cC q n d lb kp kr ty tx rd rl wi) H → va_D A (wM cI cC q n d lb kp kr ty tx rd rl wi) → va_S A s.heap H locs → lv_has ls 9 [(0, .ref (q 0)), (1, .int x1), (2, .int x2), (3, .int x3), (4, .int x4), (5, .int x5), (6, .int x6)] → mX5_read_78 rec n d lb kp kr ty tx rd rl x1 x2 x3 x4 x5 x6 y0 = some r → W p l e rmX5_read s m args below meth c H locs 0 0 (MQ below (muQ D (some (.int r.1)) (wM cI cC q r.2.1 r.2.2.1 r.2.2.2.1 r.2.2.2.2.1 r.2.2.2.2.2.1 ty tx r.2.2.2.2.2.2.1 r.2.2.2.2.2.2.2 wi) A) args s 0 0 A) (F0 m 78 ls [.int y0]) := by
  have hx := X.1
  have hb := X.2.1
  intro n d lb kp kr ty tx rd rl x1 x2 x3 x4 x5 x6 y0 H locs ls hP hD hS hl h
  unfold mX5_read_78 at h
  refine lv_istore (lv' := [(7, .int y0), (0, .ref (q 0)), (1, .int x1), (2, .int x2), (3, .int x3), (4, .int x4), (5, .int x5), (6, .int x6)]) hx hb dX5_read_78 hl (by decide) rfl (fun ls hl => ?_)
  refine lv_iload hx hb dX5_read_80 (lv_at hl 6 rfl) ?_
  refine lv_bipush (v := iI 41) hx hb dX5_read_82 (by decide) ?_
  refine lv_icmp_ne (tgt := 100) hx hb dX5_read_84 (by decide) (fun c18 => ?_) (fun c18 => ?_)
  · replace h := ifn c18 h
    refine lv_iconst (v := iI 0) hx hb dX5_read_100 rfl ?_
    exact kX5_read_101 X hKK hA rec hrec n d lb kp kr ty tx rd rl x1 x2 x3 x4 x5 x6 y0 (iI 0) _ _ ls hP hD hS (lv_sub hl [1, 2, 3, 4, 5, 6, 7, 0] rfl) h
  · replace h := ifp c18 h
    refine lv_iload_n hx hb dX5_read_87 rfl (lv_at hl 3 rfl) ?_
    refine lv_if_le (tgt := 100) hx hb dX5_read_88 (by decide) (fun c19 => ?_) (fun c19 => ?_)
    · replace h := ifp c19 h
      refine lv_iconst (v := iI 0) hx hb dX5_read_100 rfl ?_
      exact kX5_read_101 X hKK hA rec hrec n d lb kp kr ty tx rd rl x1 x2 x3 x4 x5 x6 y0 (iI 0) _ _ ls hP hD hS (lv_sub hl [1, 2, 3, 4, 5, 6, 7, 0] rfl) h
    · replace h := ifn c19 h
      refine lv_iload_n hx hb dX5_read_91 rfl (lv_at hl 4 rfl) ?_
      refine lv_iconst (v := iI 2) hx hb dX5_read_92 rfl ?_
      refine lv_icmp_eq (tgt := 100) hx hb dX5_read_93 (by decide) (fun c20 => ?_) (fun c20 => ?_)
      · replace h := ifp c20 h
        refine lv_iconst (v := iI 0) hx hb dX5_read_100 rfl ?_
        exact kX5_read_101 X hKK hA rec hrec n d lb kp kr ty tx rd rl x1 x2 x3 x4 x5 x6 y0 (iI 0) _ _ ls hP hD hS (lv_sub hl [1, 2, 3, 4, 5, 6, 7, 0] rfl) h
      · replace h := ifn c20 h
        refine lv_iconst (v := iI 1) hx hb dX5_read_96 rfl ?_
        refine lv_goto (tgt := 101) hx hb dX5_read_97 (by decide) ?_
        exact kX5_read_101 X hKK hA rec hrec n d lb kp kr ty tx rd rl x1 x2 x3 x4 x5 x6 y0 (iI 1) _ _ ls hP hD hS (lv_sub hl [1, 2, 3, 4, 5, 6, 7, 0] rfl) h
set_option maxHeartbeats 4000000 in
set_option maxRecDepth 100000 in
theorem kX5_read_59 {p : Program} {l : Launch} {e : Env} {s : State} {m : MethodId} {args : Array Value} {below : List Frame} {meth : Method} {c : Code} {D : va_G} {cI cC : ClassId} {q : Nat → Nat} {wi : Int32} {r : Int32 × Int32 × (Nat → Int32) × (Nat → Int32) × Int32 × (Nat → Int32) × (Nat → Int32) × (Nat → Int32)} {A : Nat → Prop} (X : CX p s m args meth c wsX5_read cX5_read 9 (some .int) RX5) (hKK : KK D cI cC s) (hA : ∀ z, s.heap.size ≤ z → A z) (rec : Int32 → (Nat → Int32) → (Nat → Int32) → Int32 → (Nat → Int32) → Int32 → (Nat → Int32) → (Nat → Int32) → (Nat → Int32) → Int32 → Int32 → Int32 → Int32 → Option (Int32 × Int32 × (Nat → Int32) × (Nat → Int32) × Int32 × (Nat → Int32) × (Nat → Int32) × (Nat → Int32))) (hrec : ∀ (n : Int32) (d : Nat → Int32) (lb : Nat → Int32) (kp : Int32) (kr : Nat → Int32) (ty : Int32) (tx : Nat → Int32) (rd : Nat → Int32) (rl : Nat → Int32) (x1 : Int32) (x2 : Int32) (x3 : Int32) (x4 : Int32) (H : Heap) (locs : List Loc) (ls : Array Slot), va_P D vwCl (wM cI cC q n d lb kp kr ty tx rd rl wi) H → va_D A (wM cI cC q n d lb kp kr ty tx rd rl wi) → va_S A s.heap H locs → lv_has ls 9 [(0, .ref (q 0)), (1, .int x1), (2, .int x2), (3, .int x3), (4, .int x4)] → rec n d lb kp kr ty tx rd rl x1 x2 x3 x4 = some r → W p l e rmX5_read s m args below meth c H locs 0 0 (MQ below (muQ D (some (.int r.1)) (wM cI cC q r.2.1 r.2.2.1 r.2.2.2.1 r.2.2.2.2.1 r.2.2.2.2.2.1 ty tx r.2.2.2.2.2.2.1 r.2.2.2.2.2.2.2 wi) A) args s 0 0 A) (F0 m 9 ls [])) : ∀ (n : Int32) (d : Nat → Int32) (lb : Nat → Int32) (kp : Int32) (kr : Nat → Int32) (ty : Int32) (tx : Nat → Int32) (rd : Nat → Int32) (rl : Nat → Int32) (x1 : Int32) (x2 : Int32) (x3 : Int32) (x4 : Int32) (x5 : Int32) (y0 : Int32) (H : Heap) (locs : List Loc) (ls : Array Slot), va_P D vwCl (wM cI cC q n d lb kp kr ty tx rd rl wi) H → va_D A (wM cI cC q n d lb kp kr ty tx rd rl wi) → va_S A s.heap H locs → lv_has ls 9 [(0, .ref (q 0)), (1, .int x1), (2, .int x2), (3, .int x3), (4, .int x4), (5, .int x5)] → mX5_read_59 rec n d lb kp kr ty tx rd rl x1 x2 x3 x4 x5 y0 = some r → W p l e rmX5_read s m args below meth c H locs 0 0 (MQ below (muQ D (some (.int r.1)) (wM cI cC q r.2.1 r.2.2.1 r.2.2.2.1 r.2.2.2.2.1 r.2.2.2.2.2.1 ty tx r.2.2.2.2.2.2.1 r.2.2.2.2.2.2.2 wi) A) args s 0 0 A) (F0 m 59 ls [.int y0]) := by
  have hx := X.1
  have hb := X.2.1
  intro n d lb kp kr ty tx rd rl x1 x2 x3 x4 x5 y0 H locs ls hP hD hS hl h
  unfold mX5_read_59 at h
  refine lv_istore (lv' := [(6, .int y0), (0, .ref (q 0)), (1, .int x1), (2, .int x2), (3, .int x3), (4, .int x4), (5, .int x5)]) hx hb dX5_read_59 hl (by decide) rfl (fun ls hl => ?_)
  refine lv_iload hx hb dX5_read_61 (lv_at hl 6 rfl) ?_
  refine lv_bipush (v := iI 40) hx hb dX5_read_63 (by decide) ?_
  refine lv_icmp_ne (tgt := 77) hx hb dX5_read_65 (by decide) (fun c16 => ?_) (fun c16 => ?_)
  · replace h := ifn c16 h
    refine lv_iconst (v := iI 0) hx hb dX5_read_77 rfl ?_
    exact kX5_read_78 X hKK hA rec hrec n d lb kp kr ty tx rd rl x1 x2 x3 x4 x5 y0 (iI 0) _ _ ls hP hD hS (lv_sub hl [1, 2, 3, 4, 5, 6, 0] rfl) h
  · replace h := ifp c16 h
    refine lv_iload_n hx hb dX5_read_68 rfl (lv_at hl 4 rfl) ?_
    refine lv_iconst (v := iI 1) hx hb dX5_read_69 rfl ?_
    refine lv_icmp_ne (tgt := 77) hx hb dX5_read_70 (by decide) (fun c17 => ?_) (fun c17 => ?_)
    · replace h := ifn c17 h
      refine lv_iconst (v := iI 0) hx hb dX5_read_77 rfl ?_
      exact kX5_read_78 X hKK hA rec hrec n d lb kp kr ty tx rd rl x1 x2 x3 x4 x5 y0 (iI 0) _ _ ls hP hD hS (lv_sub hl [1, 2, 3, 4, 5, 6, 0] rfl) h
    · replace h := ifp c17 h
      refine lv_iconst (v := iI 1) hx hb dX5_read_73 rfl ?_
      refine lv_goto (tgt := 78) hx hb dX5_read_74 (by decide) ?_
      exact kX5_read_78 X hKK hA rec hrec n d lb kp kr ty tx rd rl x1 x2 x3 x4 x5 y0 (iI 1) _ _ ls hP hD hS (lv_sub hl [1, 2, 3, 4, 5, 6, 0] rfl) h
set_option maxHeartbeats 4000000 in
set_option maxRecDepth 100000 in
theorem kX5_read_197 {p : Program} {l : Launch} {e : Env} {s : State} {m : MethodId} {args : Array Value} {below : List Frame} {meth : Method} {c : Code} {D : va_G} {cI cC : ClassId} {q : Nat → Nat} {wi : Int32} {r : Int32 × Int32 × (Nat → Int32) × (Nat → Int32) × Int32 × (Nat → Int32) × (Nat → Int32) × (Nat → Int32)} {A : Nat → Prop} (X : CX p s m args meth c wsX5_read cX5_read 9 (some .int) RX5) (hKK : KK D cI cC s) (hA : ∀ z, s.heap.size ≤ z → A z) : ∀ (f : Nat), ∀ (n : Int32) (d : Nat → Int32) (lb : Nat → Int32) (kp : Int32) (kr : Nat → Int32) (ty : Int32) (tx : Nat → Int32) (rd : Nat → Int32) (rl : Nat → Int32) (x1 : Int32) (x2 : Int32) (x3 : Int32) (x4 : Int32) (H : Heap) (locs : List Loc) (ls : Array Slot), va_P D vwCl (wM cI cC q n d lb kp kr ty tx rd rl wi) H → va_D A (wM cI cC q n d lb kp kr ty tx rd rl wi) → va_S A s.heap H locs → lv_has ls 9 [(0, .ref (q 0)), (1, .int x1), (2, .int x2), (3, .int x3), (4, .int x4)] → mX5_read_197 f n d lb kp kr ty tx rd rl x1 x2 x3 x4 = some r → W p l e rmX5_read s m args below meth c H locs 0 0 (MQ below (muQ D (some (.int r.1)) (wM cI cC q r.2.1 r.2.2.1 r.2.2.2.1 r.2.2.2.2.1 r.2.2.2.2.2.1 ty tx r.2.2.2.2.2.2.1 r.2.2.2.2.2.2.2 wi) A) args s 0 0 A) (F0 m 197 ls []) := by
  have hx := X.1
  have hb := X.2.1
  intro f
  induction f with
  | zero =>
    intro n d lb kp kr ty tx rd rl x1 x2 x3 x4 H locs ls hP hD hS hl h
    exact absurd h (by unfold mX5_read_197; intro h; cases h)
  | succ f ih =>
    intro n d lb kp kr ty tx rd rl x1 x2 x3 x4 H locs ls hP hD hS hl h
    rw [mX5_read_197] at h
    refine lv_iload hx hb dX5_read_197 (lv_at hl 4 rfl) ?_
    refine lv_aload_n hx hb dX5_read_199 rfl (lv_at hl 0 rfl) ?_
    refine va_get (D := D) (ci := 5) (v := .int n) (C := RX5) (T := TX5) (N := 10) hx hb X.2.2.2.2.1 iwX5_read_5 X.2.2.2.1 hKK.1 hP 0 rfl rfl 0 (by decide) (X.2.2.2.2.1 _ flX5_read_29) (fun _ h9 => h9) rfl dX5_read_200 ?_
    refine lv_icmp_ge (tgt := 240) hx hb dX5_read_203 (by decide) (fun c11 => ?_) (fun c11 => ?_)
    · replace h := ifp c11 h
      refine lv_aload_n hx hb dX5_read_240 rfl (lv_at hl 0 rfl) ?_
      refine va_get (D := D) (ci := 5) (v := .int n) (C := RX5) (T := TX5) (N := 10) hx hb X.2.2.2.2.1 iwX5_read_5 X.2.2.2.1 hKK.1 hP 0 rfl rfl 0 (by decide) (X.2.2.2.2.1 _ flX5_read_29) (fun _ h9 => h9) rfl dX5_read_241 ?_
      replace h := Option.some.inj h
      subst h
      exact mu_ret X rfl rfl hP rfl hS dX5_read_244
    · replace h := ifn c11 h
      refine lv_aload_n hx hb dX5_read_206 rfl (lv_at hl 0 rfl) ?_
      refine va_get (D := D) (ci := 5) (v := .ref (q 1)) (C := RX5) (T := TX5) (N := 10) hx hb X.2.2.2.2.1 iwX5_read_5 X.2.2.2.1 hKK.1 hP 0 rfl rfl 1 (by decide) (X.2.2.2.2.1 _ flX5_read_7) (fun _ h9 => h9) rfl dX5_read_207 ?_
      refine lv_iload hx hb dX5_read_210 (lv_at hl 4 rfl) ?_
      refine lv_aload_n hx hb dX5_read_212 rfl (lv_at hl 0 rfl) ?_
      refine va_get (D := D) (ci := 5) (v := .ref (q 5)) (C := RX5) (T := TX5) (N := 10) hx hb X.2.2.2.2.1 iwX5_read_5 X.2.2.2.1 hKK.1 hP 0 rfl rfl 7 (by decide) (X.2.2.2.2.1 _ flX5_read_23) (fun _ h9 => h9) rfl dX5_read_213 ?_
      refine lv_iload hx hb dX5_read_216 (lv_at hl 4 rfl) ?_
      obtain ⟨g12, h⟩ := asr h
      refine va_iald hx hb hKK.1 hP 5 0 rfl rfl g12 dX5_read_218 ?_
      obtain ⟨g13, h⟩ := asr h
      refine va_iast hx hb hKK.1 hP hD hS 1 0 rfl rfl g13 dX5_read_219 (fun H locs hP hD hS => ?_)
      replace hP : va_P D vwCl (wM cI cC q n (upd d x4.toNatClampNeg (rd x4.toNatClampNeg)) lb kp kr ty tx rd rl wi) H := hP
      replace hD : va_D A (wM cI cC q n (upd d x4.toNatClampNeg (rd x4.toNatClampNeg)) lb kp kr ty tx rd rl wi) := hD
      refine lv_aload_n hx hb dX5_read_220 rfl (lv_at hl 0 rfl) ?_
      refine va_get (D := D) (ci := 5) (v := .ref (q 2)) (C := RX5) (T := TX5) (N := 10) hx hb X.2.2.2.2.1 iwX5_read_5 X.2.2.2.1 hKK.1 hP 0 rfl rfl 2 (by decide) (X.2.2.2.2.1 _ flX5_read_13) (fun _ h9 => h9) rfl dX5_read_221 ?_
      refine lv_iload hx hb dX5_read_224 (lv_at hl 4 rfl) ?_
      refine lv_aload_n hx hb dX5_read_226 rfl (lv_at hl 0 rfl) ?_
      refine va_get (D := D) (ci := 5) (v := .ref (q 6)) (C := RX5) (T := TX5) (N := 10) hx hb X.2.2.2.2.1 iwX5_read_5 X.2.2.2.1 hKK.1 hP 0 rfl rfl 8 (by decide) (X.2.2.2.2.1 _ flX5_read_26) (fun _ h9 => h9) rfl dX5_read_227 ?_
      refine lv_iload hx hb dX5_read_230 (lv_at hl 4 rfl) ?_
      obtain ⟨g14, h⟩ := asr h
      refine va_cald hx hb hKK.1 hP 6 1 rfl rfl g14 dX5_read_232 ?_
      obtain ⟨g15, h⟩ := asr h
      refine va_cast hx hb hKK.1 hP hD hS 2 1 rfl rfl g15 dX5_read_233 (fun H locs hP hD hS => ?_)
      replace hP : va_P D vwCl (wM cI cC q n (upd d x4.toNatClampNeg (rd x4.toNatClampNeg)) (upd lb x4.toNatClampNeg (vp_nar .char (rl x4.toNatClampNeg))) kp kr ty tx rd rl wi) H := hP
      replace hD : va_D A (wM cI cC q n (upd d x4.toNatClampNeg (rd x4.toNatClampNeg)) (upd lb x4.toNatClampNeg (vp_nar .char (rl x4.toNatClampNeg))) kp kr ty tx rd rl wi) := hD
      refine lv_iinc (v := (x4 + iI 1)) (lv' := [(4, .int (x4 + iI 1)), (0, .ref (q 0)), (1, .int x1), (2, .int x2), (3, .int x3)]) hx hb dX5_read_234 hl (k := 4) rfl rfl (by decide) rfl (fun ls hl => ?_)
      refine lv_goto (tgt := 197) hx hb dX5_read_237 (by decide) ?_
      exact ih n (upd d x4.toNatClampNeg (rd x4.toNatClampNeg)) (upd lb x4.toNatClampNeg (vp_nar .char (rl x4.toNatClampNeg))) kp kr ty tx rd rl x1 x2 x3 (x4 + iI 1) _ _ ls hP hD hS (lv_sub hl [1, 2, 3, 4, 0] rfl) h
set_option maxHeartbeats 4000000 in
set_option maxRecDepth 100000 in
theorem kX5_read_9 {p : Program} {l : Launch} {e : Env} {s : State} {m : MethodId} {args : Array Value} {below : List Frame} {meth : Method} {c : Code} {D : va_G} {cI cC : ClassId} {q : Nat → Nat} {wi : Int32} {r : Int32 × Int32 × (Nat → Int32) × (Nat → Int32) × Int32 × (Nat → Int32) × (Nat → Int32) × (Nat → Int32)} {A : Nat → Prop} (X : CX p s m args meth c wsX5_read cX5_read 9 (some .int) RX5) (hKK : KK D cI cC s) (hA : ∀ z, s.heap.size ≤ z → A z) : ∀ (f : Nat), ∀ (n : Int32) (d : Nat → Int32) (lb : Nat → Int32) (kp : Int32) (kr : Nat → Int32) (ty : Int32) (tx : Nat → Int32) (rd : Nat → Int32) (rl : Nat → Int32) (x1 : Int32) (x2 : Int32) (x3 : Int32) (x4 : Int32) (H : Heap) (locs : List Loc) (ls : Array Slot), va_P D vwCl (wM cI cC q n d lb kp kr ty tx rd rl wi) H → va_D A (wM cI cC q n d lb kp kr ty tx rd rl wi) → va_S A s.heap H locs → lv_has ls 9 [(0, .ref (q 0)), (1, .int x1), (2, .int x2), (3, .int x3), (4, .int x4)] → mX5_read_9 f n d lb kp kr ty tx rd rl x1 x2 x3 x4 = some r → W p l e rmX5_read s m args below meth c H locs 0 0 (MQ below (muQ D (some (.int r.1)) (wM cI cC q r.2.1 r.2.2.1 r.2.2.2.1 r.2.2.2.2.1 r.2.2.2.2.2.1 ty tx r.2.2.2.2.2.2.1 r.2.2.2.2.2.2.2 wi) A) args s 0 0 A) (F0 m 9 ls []) := by
  have hx := X.1
  have hb := X.2.1
  intro f
  induction f with
  | zero =>
    intro n d lb kp kr ty tx rd rl x1 x2 x3 x4 H locs ls hP hD hS hl h
    exact absurd h (by unfold mX5_read_9; intro h; cases h)
  | succ f ih =>
    intro n d lb kp kr ty tx rd rl x1 x2 x3 x4 H locs ls hP hD hS hl h
    rw [mX5_read_9] at h
    refine lv_iload hx hb dX5_read_9 (lv_at hl 4 rfl) ?_
    refine lv_aload_n hx hb dX5_read_11 rfl (lv_at hl 0 rfl) ?_
    refine va_get (D := D) (ci := 5) (v := .int ty) (C := RX5) (T := TX5) (N := 10) hx hb X.2.2.2.2.1 iwX5_read_5 X.2.2.2.1 hKK.1 hP 0 rfl rfl 5 (by decide) (X.2.2.2.2.1 _ flX5_read_43) (fun _ h9 => h9) rfl dX5_read_12 ?_
    refine lv_icmp_ge (tgt := 169) hx hb dX5_read_15 (by decide) (fun c1 => ?_) (fun c1 => ?_)
    · replace h := ifp c1 h
      refine lv_iload_n hx hb dX5_read_169 rfl (lv_at hl 1 rfl) ?_
      refine lv_if_eq (tgt := 177) hx hb dX5_read_170 (by decide) (fun c2 => ?_) (fun c2 => ?_)
      · replace h := ifp c2 h
        refine lv_bipush (v := iI (-100)) hx hb dX5_read_177 (by decide) ?_
        refine lv_aload_n hx hb dX5_read_179 rfl (lv_at hl 0 rfl) ?_
        refine va_get (D := D) (ci := 5) (v := .int ty) (C := RX5) (T := TX5) (N := 10) hx hb X.2.2.2.2.1 iwX5_read_5 X.2.2.2.1 hKK.1 hP 0 rfl rfl 5 (by decide) (X.2.2.2.2.1 _ flX5_read_43) (fun _ h9 => h9) rfl dX5_read_180 ?_
        refine lv_isub hx hb dX5_read_183 ?_
        replace h := Option.some.inj h
        subst h
        exact mu_ret X rfl rfl hP rfl hS dX5_read_184
      · replace h := ifn c2 h
        refine lv_iload_n hx hb dX5_read_173 rfl (lv_at hl 2 rfl) ?_
        refine lv_if_le (tgt := 185) hx hb dX5_read_174 (by decide) (fun c3 => ?_) (fun c3 => ?_)
        · replace h := ifp c3 h
          refine lv_aload_n hx hb dX5_read_185 rfl (lv_at hl 0 rfl) ?_
          obtain ⟨r4, h_r4, h⟩ := obd h
          refine mcV (rest := []) (wld2 := (wM cI cC q n d lb r4.1 r4.2 ty tx rd rl wi)) (wr := pickAt [] (wM cI cC q n d lb kp kr ty tx rd rl wi)) X hKK hP hD hS hA 0 (zX5_keep l D cI cC q _ n d lb kp kr ty tx rd rl wi r4 h_r4) gX5_read_X5_keep rfl rfl rfl hdX5_keep ⟨Nat.le_of_ble_eq_true rfl, Nat.le_of_ble_eq_true rfl⟩ [0, 1, 2, 3, 4, 5, 6] [] rfl rfl rfl rfl rfl (by decide) rfl [0, 1, 2, 3, 4, 5, 6] rfl rfl rfl 0 rfl rfl rfl hl.1 rfl (Nat.le_of_ble_eq_true rfl) dX5_read_186 ⟨Nat.zero_le _, Nat.zero_le _⟩ (fun H locs hP hD hS => ?_)
          refine lv_aload_n hx hb dX5_read_189 rfl (lv_at hl 0 rfl) ?_
          refine lv_iload_n hx hb dX5_read_190 rfl (lv_at hl 1 rfl) ?_
          refine va_put (D := D) (ci := 5) (v := .int x1) (ty := .int) (C := RX5) (T := TX5) (N := 10) hx hb X.2.2.2.2.1 iwX5_read_5 tyX5 tyX5_ok nmX5 X.2.2.2.1 hKK.1 hP hD hS 0 rfl rfl 0 (by decide) (X.2.2.2.2.1 _ flX5_read_29) (fun _ h9 => h9) rfl (by decide +kernel) rfl rfl (Nat.le_of_ble_eq_true rfl) dX5_read_191 (fun H locs hP hD hS => ?_)
          replace hP : va_P D vwCl (wM cI cC q x1 d lb r4.1 r4.2 ty tx rd rl wi) H := hP
          replace hD : va_D A (wM cI cC q x1 d lb r4.1 r4.2 ty tx rd rl wi) := hD
          refine lv_iconst (v := iI 0) hx hb dX5_read_194 rfl ?_
          refine lv_istore (lv' := [(4, .int (iI 0)), (0, .ref (q 0)), (1, .int x1), (2, .int x2), (3, .int x3)]) hx hb dX5_read_195 hl (by decide) rfl (fun ls hl => ?_)
          exact kX5_read_197 X hKK hA FU x1 d lb r4.1 r4.2 ty tx rd rl x1 x2 x3 (iI 0) _ _ ls hP hD hS (lv_sub hl [1, 2, 3, 4, 0] rfl) h
        · replace h := ifn c3 h
          refine lv_bipush (v := iI (-100)) hx hb dX5_read_177 (by decide) ?_
          refine lv_aload_n hx hb dX5_read_179 rfl (lv_at hl 0 rfl) ?_
          refine va_get (D := D) (ci := 5) (v := .int ty) (C := RX5) (T := TX5) (N := 10) hx hb X.2.2.2.2.1 iwX5_read_5 X.2.2.2.1 hKK.1 hP 0 rfl rfl 5 (by decide) (X.2.2.2.2.1 _ flX5_read_43) (fun _ h9 => h9) rfl dX5_read_180 ?_
          refine lv_isub hx hb dX5_read_183 ?_
          replace h := Option.some.inj h
          subst h
          exact mu_ret X rfl rfl hP rfl hS dX5_read_184
    · replace h := ifn c1 h
      refine lv_aload_n hx hb dX5_read_18 rfl (lv_at hl 0 rfl) ?_
      refine va_get (D := D) (ci := 5) (v := .ref (q 4)) (C := RX5) (T := TX5) (N := 10) hx hb X.2.2.2.2.1 iwX5_read_5 X.2.2.2.1 hKK.1 hP 0 rfl rfl 6 (by decide) (X.2.2.2.2.1 _ flX5_read_20) (fun _ h9 => h9) rfl dX5_read_19 ?_
      refine lv_iload hx hb dX5_read_22 (lv_at hl 4 rfl) ?_
      obtain ⟨g5, h⟩ := asr h
      refine va_cald hx hb hKK.1 hP 4 1 rfl rfl g5 dX5_read_24 ?_
      refine lv_istore (lv' := [(5, .int (tx x4.toNatClampNeg)), (0, .ref (q 0)), (1, .int x1), (2, .int x2), (3, .int x3), (4, .int x4)]) hx hb dX5_read_25 hl (by decide) rfl (fun ls hl => ?_)
      refine lv_iload hx hb dX5_read_27 (lv_at hl 0 rfl) ?_
      refine rcS (rest := []) X hKK hP 1 (zX5_isLetter l D cI cC (tx x4.toNatClampNeg) _ rfl) gX5_read_X5_isLetter rfl rfl rfl hdX5_isLetter ⟨Nat.le_of_ble_eq_true rfl, Nat.le_of_ble_eq_true rfl⟩ [] rfl rfl hl.1 rfl (Nat.le_of_ble_eq_true rfl) dX5_read_29 ⟨Nat.zero_le _, Nat.zero_le _⟩ ?_
      refine lv_if_eq (tgt := 58) hx hb dX5_read_32 (by decide) (fun c6 => ?_) (fun c6 => ?_)
      · replace h := ifp c6 h
        refine lv_iconst (v := iI 0) hx hb dX5_read_58 rfl ?_
        exact kX5_read_59 X hKK hA (mX5_read_9 f) ih n d lb kp kr ty tx rd rl x1 x2 x3 x4 (tx x4.toNatClampNeg) (iI 0) _ _ ls hP hD hS (lv_sub hl [1, 2, 3, 4, 5, 0] rfl) h
      · replace h := ifn c6 h
        refine lv_iload_n hx hb dX5_read_35 rfl (lv_at hl 2 rfl) ?_
        refine lv_bipush (v := iI 100) hx hb dX5_read_36 (by decide) ?_
        refine lv_icmp_ge (tgt := 58) hx hb dX5_read_38 (by decide) (fun c7 => ?_) (fun c7 => ?_)
        · replace h := ifp c7 h
          refine lv_iconst (v := iI 0) hx hb dX5_read_58 rfl ?_
          exact kX5_read_59 X hKK hA (mX5_read_9 f) ih n d lb kp kr ty tx rd rl x1 x2 x3 x4 (tx x4.toNatClampNeg) (iI 0) _ _ ls hP hD hS (lv_sub hl [1, 2, 3, 4, 5, 0] rfl) h
        · replace h := ifn c7 h
          refine lv_iload_n hx hb dX5_read_41 rfl (lv_at hl 4 rfl) ?_
          refine lv_if_eq (tgt := 54) hx hb dX5_read_42 (by decide) (fun c8 => ?_) (fun c8 => ?_)
          · replace h := ifp c8 h
            refine lv_iconst (v := iI 1) hx hb dX5_read_54 rfl ?_
            refine lv_goto (tgt := 59) hx hb dX5_read_55 (by decide) ?_
            exact kX5_read_59 X hKK hA (mX5_read_9 f) ih n d lb kp kr ty tx rd rl x1 x2 x3 x4 (tx x4.toNatClampNeg) (iI 1) _ _ ls hP hD hS (lv_sub hl [1, 2, 3, 4, 5, 0] rfl) h
          · replace h := ifn c8 h
            refine lv_iload_n hx hb dX5_read_45 rfl (lv_at hl 4 rfl) ?_
            refine lv_iconst (v := iI 2) hx hb dX5_read_46 rfl ?_
            refine lv_icmp_eq (tgt := 54) hx hb dX5_read_47 (by decide) (fun c9 => ?_) (fun c9 => ?_)
            · replace h := ifp c9 h
              refine lv_iconst (v := iI 1) hx hb dX5_read_54 rfl ?_
              refine lv_goto (tgt := 59) hx hb dX5_read_55 (by decide) ?_
              exact kX5_read_59 X hKK hA (mX5_read_9 f) ih n d lb kp kr ty tx rd rl x1 x2 x3 x4 (tx x4.toNatClampNeg) (iI 1) _ _ ls hP hD hS (lv_sub hl [1, 2, 3, 4, 5, 0] rfl) h
            · replace h := ifn c9 h
              refine lv_iload_n hx hb dX5_read_50 rfl (lv_at hl 3 rfl) ?_
              refine lv_if_le (tgt := 58) hx hb dX5_read_51 (by decide) (fun c10 => ?_) (fun c10 => ?_)
              · replace h := ifp c10 h
                refine lv_iconst (v := iI 0) hx hb dX5_read_58 rfl ?_
                exact kX5_read_59 X hKK hA (mX5_read_9 f) ih n d lb kp kr ty tx rd rl x1 x2 x3 x4 (tx x4.toNatClampNeg) (iI 0) _ _ ls hP hD hS (lv_sub hl [1, 2, 3, 4, 5, 0] rfl) h
              · replace h := ifn c10 h
                refine lv_iconst (v := iI 1) hx hb dX5_read_54 rfl ?_
                refine lv_goto (tgt := 59) hx hb dX5_read_55 (by decide) ?_
                exact kX5_read_59 X hKK hA (mX5_read_9 f) ih n d lb kp kr ty tx rd rl x1 x2 x3 x4 (tx x4.toNatClampNeg) (iI 1) _ _ ls hP hD hS (lv_sub hl [1, 2, 3, 4, 5, 0] rfl) h
set_option maxHeartbeats 4000000 in
set_option maxRecDepth 100000 in
theorem zX5_read (l : Launch) (D : va_G) (cI cC : ClassId) (q : Nat → Nat) (sz : Nat) (n : Int32) (d : Nat → Int32) (lb : Nat → Int32) (kp : Int32) (kr : Nat → Int32) (ty : Int32) (tx : Nat → Int32) (rd : Nat → Int32) (rl : Nat → Int32) (wi : Int32)  (r : Int32 × Int32 × (Nat → Int32) × (Nat → Int32) × Int32 × (Nat → Int32) × (Nat → Int32) × (Nat → Int32)) (h : mX5_read n d lb kp kr ty tx rd rl = some r) : Met l yX5_read wsX5_read rmX5_read (va_Pc [.ref (q 0)] (MB D cI cC sz (wM cI cC q n d lb kp kr ty tx rd rl wi))) (muQ D (some (.int r.1)) (wM cI cC q r.2.1 r.2.2.1 r.2.2.2.1 r.2.2.2.2.1 r.2.2.2.2.2.1 ty tx r.2.2.2.2.2.2.1 r.2.2.2.2.2.2.2 wi) (va_A (wM cI cC q n d lb kp kr ty tx rd rl wi) sz)) 0 0 (va_A (wM cI cC q n d lb kp kr ty tx rd rl wi) sz) := by
  refine MetI RX5 (by decide +kernel) rfl rfl (Nat.le_of_ble_eq_true rfl) ?_
  intro p e s m below meth c ls X _ hB hl
  obtain ⟨hsz, ⟨hP, hKK⟩, hD0⟩ := hB
  subst hsz
  have hD := hD0.self (sz := s.heap.size)
  generalize hAe : va_A (wM cI cC q n d lb kp kr ty tx rd rl wi) s.heap.size = A at hD ⊢
  have hA : ∀ z : Nat, s.heap.size ≤ z → A z := fun z hz => by rw [← hAe]; exact Or.inr hz
  have hS : va_S A s.heap s.heap [] := va_S.rf
  have hx := X.1
  have hb := X.2.1
  replace hl : lv_has ls 9 [(0, .ref (q 0))] := hl
  replace hP : va_P D vwCl (wM cI cC q n d lb kp kr ty tx rd rl wi) s.heap := hP
  unfold mX5_read at h
  refine lv_iconst (v := iI 0) hx hb dX5_read_0 rfl ?_
  refine lv_istore_n (lv' := [(1, .int (iI 0)), (0, .ref (q 0))]) hx hb dX5_read_1 rfl hl (by decide) rfl (fun ls hl => ?_)
  refine lv_iconst (v := iI 0) hx hb dX5_read_2 rfl ?_
  refine lv_istore_n (lv' := [(2, .int (iI 0)), (1, .int (iI 0)), (0, .ref (q 0))]) hx hb dX5_read_3 rfl hl (by decide) rfl (fun ls hl => ?_)
  refine lv_iconst (v := iI 0) hx hb dX5_read_4 rfl ?_
  refine lv_istore_n (lv' := [(3, .int (iI 0)), (2, .int (iI 0)), (1, .int (iI 0)), (0, .ref (q 0))]) hx hb dX5_read_5 rfl hl (by decide) rfl (fun ls hl => ?_)
  refine lv_iconst (v := iI 0) hx hb dX5_read_6 rfl ?_
  refine lv_istore (lv' := [(4, .int (iI 0)), (3, .int (iI 0)), (2, .int (iI 0)), (1, .int (iI 0)), (0, .ref (q 0))]) hx hb dX5_read_7 hl (by decide) rfl (fun ls hl => ?_)
  exact kX5_read_9 X hKK hA FU n d lb kp kr ty tx rd rl (iI 0) (iI 0) (iI 0) (iI 0) _ _ ls hP hD hS (lv_sub hl [4, 3, 2, 1, 0] rfl) h
def mX5_setWidth (wi : Int32) (x1 : Int32) : (Int32 × Int32) := (if (mX5_in x1 (iI 4) (iI 32)) = 0 then ((iI (-2)), wi) else (wi, x1))
theorem hdX5_setWidth : yX5_setWidth.cls = RX5 ∧ yX5_setWidth.cls ≠ "java/lang/invoke/MethodHandle" ∧ yX5_setWidth.cls ≠ "java/lang/invoke/VarHandle" ∧ (parseMethodDescriptor yX5_setWidth.desc).map (fun d => d.parameters.length) = some 1 := by decide +kernel
theorem flX5_setWidth_33 : Cond.fieldLink RX5 33 "BracketTreeModel" "width" "I" ∈ wsX5_setWidth := by decide +kernel
theorem iwX5_setWidth_5 : ∀ w ∈ wsX50, w ∈ wsX5_setWidth := by decide +kernel
abbrev rmX5_setWidth : Room := { frames := 1, cells := 0, slots := 0, locals := 22 }
set_option maxHeartbeats 4000000 in
set_option maxRecDepth 100000 in
theorem zX5_setWidth (l : Launch) (D : va_G) (cI cC : ClassId) (q : Nat → Nat) (sz : Nat) (n : Int32) (d : Nat → Int32) (lb : Nat → Int32) (kp : Int32) (kr : Nat → Int32) (ty : Int32) (tx : Nat → Int32) (rd : Nat → Int32) (rl : Nat → Int32) (wi : Int32) (x1 : Int32) (r : Int32 × Int32) (h : mX5_setWidth wi x1 = r) : Met l yX5_setWidth wsX5_setWidth rmX5_setWidth (va_Pc [.ref (q 0), .int x1] (MB D cI cC sz (wM cI cC q n d lb kp kr ty tx rd rl wi))) (muQ D (some (.int r.1)) (wM cI cC q n d lb kp kr ty tx rd rl r.2) (va_A (wM cI cC q n d lb kp kr ty tx rd rl wi) sz)) 0 0 (va_A (wM cI cC q n d lb kp kr ty tx rd rl wi) sz) := by
  refine MetI RX5 (by decide +kernel) rfl rfl (Nat.le_of_ble_eq_true rfl) ?_
  intro p e s m below meth c ls X _ hB hl
  obtain ⟨hsz, ⟨hP, hKK⟩, hD0⟩ := hB
  subst hsz
  have hD := hD0.self (sz := s.heap.size)
  generalize hAe : va_A (wM cI cC q n d lb kp kr ty tx rd rl wi) s.heap.size = A at hD ⊢
  have hA : ∀ z : Nat, s.heap.size ≤ z → A z := fun z hz => by rw [← hAe]; exact Or.inr hz
  have hS : va_S A s.heap s.heap [] := va_S.rf
  have hx := X.1
  have hb := X.2.1
  replace hl : lv_has ls 3 [(0, .ref (q 0)), (1, .int x1)] := hl
  replace hP : va_P D vwCl (wM cI cC q n d lb kp kr ty tx rd rl wi) s.heap := hP
  unfold mX5_setWidth at h
  refine lv_iload_n hx hb dX5_setWidth_0 rfl (lv_at hl 1 rfl) ?_
  refine lv_iconst (v := iI 4) hx hb dX5_setWidth_1 rfl ?_
  refine lv_bipush (v := iI 32) hx hb dX5_setWidth_2 (by decide) ?_
  refine rcS (rest := []) X hKK hP 3 (zX5_in l D cI cC x1 (iI 4) (iI 32) _ rfl) gX5_setWidth_X5_in rfl rfl rfl hdX5_in ⟨Nat.le_of_ble_eq_true rfl, Nat.le_of_ble_eq_true rfl⟩ [] rfl rfl hl.1 rfl (Nat.le_of_ble_eq_true rfl) dX5_setWidth_4 ⟨Nat.zero_le _, Nat.zero_le _⟩ ?_
  refine lv_if_ne (tgt := 13) hx hb dX5_setWidth_7 (by decide) (fun c1 => ?_) (fun c1 => ?_)
  · replace h := ifn c1 h
    refine lv_aload_n hx hb dX5_setWidth_13 rfl (lv_at hl 0 rfl) ?_
    refine va_get (D := D) (ci := 5) (v := .int wi) (C := RX5) (T := TX5) (N := 10) hx hb X.2.2.2.2.1 iwX5_setWidth_5 X.2.2.2.1 hKK.1 hP 0 rfl rfl 9 (by decide) (X.2.2.2.2.1 _ flX5_setWidth_33) (fun _ h9 => h9) rfl dX5_setWidth_14 ?_
    refine lv_istore_n (lv' := [(2, .int wi), (0, .ref (q 0)), (1, .int x1)]) hx hb dX5_setWidth_17 rfl hl (by decide) rfl (fun ls hl => ?_)
    refine lv_aload_n hx hb dX5_setWidth_18 rfl (lv_at hl 1 rfl) ?_
    refine lv_iload_n hx hb dX5_setWidth_19 rfl (lv_at hl 2 rfl) ?_
    refine va_put (D := D) (ci := 5) (v := .int x1) (ty := .int) (C := RX5) (T := TX5) (N := 10) hx hb X.2.2.2.2.1 iwX5_setWidth_5 tyX5 tyX5_ok nmX5 X.2.2.2.1 hKK.1 hP hD hS 0 rfl rfl 9 (by decide) (X.2.2.2.2.1 _ flX5_setWidth_33) (fun _ h9 => h9) rfl (by decide +kernel) rfl rfl (Nat.le_of_ble_eq_true rfl) dX5_setWidth_20 (fun H locs hP hD hS => ?_)
    replace hP : va_P D vwCl (wM cI cC q n d lb kp kr ty tx rd rl x1) H := hP
    replace hD : va_D A (wM cI cC q n d lb kp kr ty tx rd rl x1) := hD
    refine lv_iload_n hx hb dX5_setWidth_23 rfl (lv_at hl 0 rfl) ?_
    subst h
    exact mu_ret X rfl rfl hP rfl hS dX5_setWidth_24
  · replace h := ifp c1 h
    refine lv_bipush (v := iI (-2)) hx hb dX5_setWidth_10 (by decide) ?_
    subst h
    exact mu_ret X rfl rfl hP rfl hS dX5_setWidth_12
def mX5_setLabel (n : Int32) (d : Nat → Int32) (lb : Nat → Int32) (kp : Int32) (kr : Nat → Int32) (x1 : Int32) (x2 : Int32) : Option (Int32 × (Nat → Int32) × Int32 × (Nat → Int32)) := (if (mX5_noNode n x1) = 0 then (if (mX5_isLetter x2) = 0 then some ((iI (-2)), lb, kp, kr) else ((mX5_keep n d lb kp kr).bind fun r3 => (if inb x1 100 then (if inb x1 100 then some ((lb x1.toNatClampNeg), (upd lb x1.toNatClampNeg (vp_nar .char x2)), r3.1, r3.2) else none) else none))) else some ((iI (-1)), lb, kp, kr))
theorem hdX5_setLabel : yX5_setLabel.cls = RX5 ∧ yX5_setLabel.cls ≠ "java/lang/invoke/MethodHandle" ∧ yX5_setLabel.cls ≠ "java/lang/invoke/VarHandle" ∧ (parseMethodDescriptor yX5_setLabel.desc).map (fun d => d.parameters.length) = some 2 := by decide +kernel
theorem flX5_setLabel_13 : Cond.fieldLink RX5 13 "BracketTreeModel" "labelOf" "[C" ∈ wsX5_setLabel := by decide +kernel
theorem iwX5_setLabel_5 : ∀ w ∈ wsX50, w ∈ wsX5_setLabel := by decide +kernel
abbrev rmX5_setLabel : Room := { frames := 2, cells := 0, slots := 0, locals := 43 }
set_option maxHeartbeats 4000000 in
set_option maxRecDepth 100000 in
theorem zX5_setLabel (l : Launch) (D : va_G) (cI cC : ClassId) (q : Nat → Nat) (sz : Nat) (n : Int32) (d : Nat → Int32) (lb : Nat → Int32) (kp : Int32) (kr : Nat → Int32) (ty : Int32) (tx : Nat → Int32) (rd : Nat → Int32) (rl : Nat → Int32) (wi : Int32) (x1 : Int32) (x2 : Int32) (r : Int32 × (Nat → Int32) × Int32 × (Nat → Int32)) (h : mX5_setLabel n d lb kp kr x1 x2 = some r) : Met l yX5_setLabel wsX5_setLabel rmX5_setLabel (va_Pc [.ref (q 0), .int x1, .int x2] (MB D cI cC sz (wM cI cC q n d lb kp kr ty tx rd rl wi))) (muQ D (some (.int r.1)) (wM cI cC q n d r.2.1 r.2.2.1 r.2.2.2 ty tx rd rl wi) (va_A (wM cI cC q n d lb kp kr ty tx rd rl wi) sz)) 0 0 (va_A (wM cI cC q n d lb kp kr ty tx rd rl wi) sz) := by
  refine MetI RX5 (by decide +kernel) rfl rfl (Nat.le_of_ble_eq_true rfl) ?_
  intro p e s m below meth c ls X _ hB hl
  obtain ⟨hsz, ⟨hP, hKK⟩, hD0⟩ := hB
  subst hsz
  have hD := hD0.self (sz := s.heap.size)
  generalize hAe : va_A (wM cI cC q n d lb kp kr ty tx rd rl wi) s.heap.size = A at hD ⊢
  have hA : ∀ z : Nat, s.heap.size ≤ z → A z := fun z hz => by rw [← hAe]; exact Or.inr hz
  have hS : va_S A s.heap s.heap [] := va_S.rf
  have hx := X.1
  have hb := X.2.1
  replace hl : lv_has ls 4 [(0, .ref (q 0)), (1, .int x1), (2, .int x2)] := hl
  replace hP : va_P D vwCl (wM cI cC q n d lb kp kr ty tx rd rl wi) s.heap := hP
  unfold mX5_setLabel at h
  refine lv_aload_n hx hb dX5_setLabel_0 rfl (lv_at hl 0 rfl) ?_
  refine lv_iload_n hx hb dX5_setLabel_1 rfl (lv_at hl 1 rfl) ?_
  refine rcV (rest := []) X hKK hP 1 (zX5_noNode l D cI cC q n d lb kp kr ty tx rd rl wi x1 _ rfl) gX5_setLabel_X5_noNode rfl rfl rfl hdX5_noNode ⟨Nat.le_of_ble_eq_true rfl, Nat.le_of_ble_eq_true rfl⟩ [0, 1, 2, 3, 4, 5, 6] rfl 0 rfl rfl rfl hl.1 rfl (Nat.le_of_ble_eq_true rfl) dX5_setLabel_2 ⟨Nat.zero_le _, Nat.zero_le _⟩ ?_
  refine lv_if_eq (tgt := 10) hx hb dX5_setLabel_5 (by decide) (fun c1 => ?_) (fun c1 => ?_)
  · replace h := ifp c1 h
    refine lv_iload_n hx hb dX5_setLabel_10 rfl (lv_at hl 2 rfl) ?_
    refine rcS (rest := []) X hKK hP 1 (zX5_isLetter l D cI cC x2 _ rfl) gX5_setLabel_X5_isLetter rfl rfl rfl hdX5_isLetter ⟨Nat.le_of_ble_eq_true rfl, Nat.le_of_ble_eq_true rfl⟩ [] rfl rfl hl.1 rfl (Nat.le_of_ble_eq_true rfl) dX5_setLabel_11 ⟨Nat.zero_le _, Nat.zero_le _⟩ ?_
    refine lv_if_ne (tgt := 20) hx hb dX5_setLabel_14 (by decide) (fun c2 => ?_) (fun c2 => ?_)
    · replace h := ifn c2 h
      refine lv_aload_n hx hb dX5_setLabel_20 rfl (lv_at hl 0 rfl) ?_
      obtain ⟨r3, h_r3, h⟩ := obd h
      refine mcV (rest := []) (wld2 := (wM cI cC q n d lb r3.1 r3.2 ty tx rd rl wi)) (wr := pickAt [] (wM cI cC q n d lb kp kr ty tx rd rl wi)) X hKK hP hD hS hA 0 (zX5_keep l D cI cC q _ n d lb kp kr ty tx rd rl wi r3 h_r3) gX5_setLabel_X5_keep rfl rfl rfl hdX5_keep ⟨Nat.le_of_ble_eq_true rfl, Nat.le_of_ble_eq_true rfl⟩ [0, 1, 2, 3, 4, 5, 6] [] rfl rfl rfl rfl rfl (by decide) rfl [0, 1, 2, 3, 4, 5, 6] rfl rfl rfl 0 rfl rfl rfl hl.1 rfl (Nat.le_of_ble_eq_true rfl) dX5_setLabel_21 ⟨Nat.zero_le _, Nat.zero_le _⟩ (fun H locs hP hD hS => ?_)
      refine lv_aload_n hx hb dX5_setLabel_24 rfl (lv_at hl 0 rfl) ?_
      refine va_get (D := D) (ci := 5) (v := .ref (q 2)) (C := RX5) (T := TX5) (N := 10) hx hb X.2.2.2.2.1 iwX5_setLabel_5 X.2.2.2.1 hKK.1 hP 0 rfl rfl 2 (by decide) (X.2.2.2.2.1 _ flX5_setLabel_13) (fun _ h9 => h9) rfl dX5_setLabel_25 ?_
      refine lv_iload_n hx hb dX5_setLabel_28 rfl (lv_at hl 1 rfl) ?_
      obtain ⟨g4, h⟩ := asr h
      refine va_cald hx hb hKK.1 hP 2 1 rfl rfl g4 dX5_setLabel_29 ?_
      refine lv_istore_n (lv' := [(3, .int (lb x1.toNatClampNeg)), (0, .ref (q 0)), (1, .int x1), (2, .int x2)]) hx hb dX5_setLabel_30 rfl hl (by decide) rfl (fun ls hl => ?_)
      refine lv_aload_n hx hb dX5_setLabel_31 rfl (lv_at hl 1 rfl) ?_
      refine va_get (D := D) (ci := 5) (v := .ref (q 2)) (C := RX5) (T := TX5) (N := 10) hx hb X.2.2.2.2.1 iwX5_setLabel_5 X.2.2.2.1 hKK.1 hP 0 rfl rfl 2 (by decide) (X.2.2.2.2.1 _ flX5_setLabel_13) (fun _ h9 => h9) rfl dX5_setLabel_32 ?_
      refine lv_iload_n hx hb dX5_setLabel_35 rfl (lv_at hl 2 rfl) ?_
      refine lv_iload_n hx hb dX5_setLabel_36 rfl (lv_at hl 3 rfl) ?_
      obtain ⟨g5, h⟩ := asr h
      refine va_cast hx hb hKK.1 hP hD hS 2 1 rfl rfl g5 dX5_setLabel_37 (fun H locs hP hD hS => ?_)
      replace hP : va_P D vwCl (wM cI cC q n d (upd lb x1.toNatClampNeg (vp_nar .char x2)) r3.1 r3.2 ty tx rd rl wi) H := hP
      replace hD : va_D A (wM cI cC q n d (upd lb x1.toNatClampNeg (vp_nar .char x2)) r3.1 r3.2 ty tx rd rl wi) := hD
      refine lv_iload_n hx hb dX5_setLabel_38 rfl (lv_at hl 0 rfl) ?_
      replace h := Option.some.inj h
      subst h
      exact mu_ret X rfl rfl hP rfl hS dX5_setLabel_39
    · replace h := ifp c2 h
      refine lv_bipush (v := iI (-2)) hx hb dX5_setLabel_17 (by decide) ?_
      replace h := Option.some.inj h
      subst h
      exact mu_ret X rfl rfl hP rfl hS dX5_setLabel_19
  · replace h := ifn c1 h
    refine lv_iconst (v := iI (-1)) hx hb dX5_setLabel_8 rfl ?_
    replace h := Option.some.inj h
    subst h
    exact mu_ret X rfl rfl hP rfl hS dX5_setLabel_9
def mX5_put_6 : Nat → Int32 → (Nat → Int32) → (Nat → Int32) → Int32 → Int32 → Int32 → Int32 → Option (Int32 × (Nat → Int32) × (Nat → Int32))
  | 0, _, _, _, _, _, _, _ => none
  | f + 1, n, d, lb, x1, x2, x3, x4 => (if x4 ≤ x1 then (if inb x1 100 then (if inb x1 100 then some ((n + (iI 1)), (upd d x1.toNatClampNeg x2), (upd lb x1.toNatClampNeg (vp_nar .char x3))) else none) else none) else (if inb (x4 - (iI 1)) 100 then (if inb x4 100 then (if inb (x4 - (iI 1)) 100 then (if inb x4 100 then mX5_put_6 f n (upd d x4.toNatClampNeg (d (x4 - (iI 1)).toNatClampNeg)) (upd lb x4.toNatClampNeg (vp_nar .char (lb (x4 - (iI 1)).toNatClampNeg))) x1 x2 x3 (x4 + iI (-1)) else none) else none) else none) else none))
def mX5_put (n : Int32) (d : Nat → Int32) (lb : Nat → Int32) (x1 : Int32) (x2 : Int32) (x3 : Int32) : Option (Int32 × (Nat → Int32) × (Nat → Int32)) := mX5_put_6 FU n d lb x1 x2 x3 n
theorem hdX5_put : yX5_put.cls = RX5 ∧ yX5_put.cls ≠ "java/lang/invoke/MethodHandle" ∧ yX5_put.cls ≠ "java/lang/invoke/VarHandle" ∧ (parseMethodDescriptor yX5_put.desc).map (fun d => d.parameters.length) = some 3 := by decide +kernel
theorem flX5_put_29 : Cond.fieldLink RX5 29 "BracketTreeModel" "n" "I" ∈ wsX5_put := by decide +kernel
theorem iwX5_put_5 : ∀ w ∈ wsX50, w ∈ wsX5_put := by decide +kernel
theorem flX5_put_7 : Cond.fieldLink RX5 7 "BracketTreeModel" "depthOf" "[I" ∈ wsX5_put := by decide +kernel
theorem flX5_put_13 : Cond.fieldLink RX5 13 "BracketTreeModel" "labelOf" "[C" ∈ wsX5_put := by decide +kernel
abbrev rmX5_put : Room := { frames := 0, cells := 0, slots := 0, locals := 0 }
set_option maxHeartbeats 4000000 in
set_option maxRecDepth 100000 in
theorem kX5_put_6 {p : Program} {l : Launch} {e : Env} {s : State} {m : MethodId} {args : Array Value} {below : List Frame} {meth : Method} {c : Code} {D : va_G} {cI cC : ClassId} {q : Nat → Nat} {kp : Int32} {kr : Nat → Int32} {ty : Int32} {tx : Nat → Int32} {rd : Nat → Int32} {rl : Nat → Int32} {wi : Int32} {r : Int32 × (Nat → Int32) × (Nat → Int32)} {A : Nat → Prop} (X : CX p s m args meth c wsX5_put cX5_put 5 none RX5) (hKK : KK D cI cC s) (hA : ∀ z, s.heap.size ≤ z → A z) : ∀ (f : Nat), ∀ (n : Int32) (d : Nat → Int32) (lb : Nat → Int32) (x1 : Int32) (x2 : Int32) (x3 : Int32) (x4 : Int32) (H : Heap) (locs : List Loc) (ls : Array Slot), va_P D vwCl (wM cI cC q n d lb kp kr ty tx rd rl wi) H → va_D A (wM cI cC q n d lb kp kr ty tx rd rl wi) → va_S A s.heap H locs → lv_has ls 5 [(0, .ref (q 0)), (1, .int x1), (2, .int x2), (3, .int x3), (4, .int x4)] → mX5_put_6 f n d lb x1 x2 x3 x4 = some r → W p l e rmX5_put s m args below meth c H locs 0 0 (MQ below (muQ D none (wM cI cC q r.1 r.2.1 r.2.2 kp kr ty tx rd rl wi) A) args s 0 0 A) (F0 m 6 ls []) := by
  have hx := X.1
  have hb := X.2.1
  intro f
  induction f with
  | zero =>
    intro n d lb x1 x2 x3 x4 H locs ls hP hD hS hl h
    exact absurd h (by unfold mX5_put_6; intro h; cases h)
  | succ f ih =>
    intro n d lb x1 x2 x3 x4 H locs ls hP hD hS hl h
    rw [mX5_put_6] at h
    refine lv_iload hx hb dX5_put_6 (lv_at hl 4 rfl) ?_
    refine lv_iload_n hx hb dX5_put_8 rfl (lv_at hl 1 rfl) ?_
    refine lv_icmp_le (tgt := 50) hx hb dX5_put_9 (by decide) (fun c1 => ?_) (fun c1 => ?_)
    · replace h := ifp c1 h
      refine lv_aload_n hx hb dX5_put_50 rfl (lv_at hl 0 rfl) ?_
      refine va_get (D := D) (ci := 5) (v := .ref (q 1)) (C := RX5) (T := TX5) (N := 10) hx hb X.2.2.2.2.1 iwX5_put_5 X.2.2.2.1 hKK.1 hP 0 rfl rfl 1 (by decide) (X.2.2.2.2.1 _ flX5_put_7) (fun _ h9 => h9) rfl dX5_put_51 ?_
      refine lv_iload_n hx hb dX5_put_54 rfl (lv_at hl 1 rfl) ?_
      refine lv_iload_n hx hb dX5_put_55 rfl (lv_at hl 2 rfl) ?_
      obtain ⟨g2, h⟩ := asr h
      refine va_iast hx hb hKK.1 hP hD hS 1 0 rfl rfl g2 dX5_put_56 (fun H locs hP hD hS => ?_)
      replace hP : va_P D vwCl (wM cI cC q n (upd d x1.toNatClampNeg x2) lb kp kr ty tx rd rl wi) H := hP
      replace hD : va_D A (wM cI cC q n (upd d x1.toNatClampNeg x2) lb kp kr ty tx rd rl wi) := hD
      refine lv_aload_n hx hb dX5_put_57 rfl (lv_at hl 0 rfl) ?_
      refine va_get (D := D) (ci := 5) (v := .ref (q 2)) (C := RX5) (T := TX5) (N := 10) hx hb X.2.2.2.2.1 iwX5_put_5 X.2.2.2.1 hKK.1 hP 0 rfl rfl 2 (by decide) (X.2.2.2.2.1 _ flX5_put_13) (fun _ h9 => h9) rfl dX5_put_58 ?_
      refine lv_iload_n hx hb dX5_put_61 rfl (lv_at hl 1 rfl) ?_
      refine lv_iload_n hx hb dX5_put_62 rfl (lv_at hl 3 rfl) ?_
      obtain ⟨g3, h⟩ := asr h
      refine va_cast hx hb hKK.1 hP hD hS 2 1 rfl rfl g3 dX5_put_63 (fun H locs hP hD hS => ?_)
      replace hP : va_P D vwCl (wM cI cC q n (upd d x1.toNatClampNeg x2) (upd lb x1.toNatClampNeg (vp_nar .char x3)) kp kr ty tx rd rl wi) H := hP
      replace hD : va_D A (wM cI cC q n (upd d x1.toNatClampNeg x2) (upd lb x1.toNatClampNeg (vp_nar .char x3)) kp kr ty tx rd rl wi) := hD
      refine lv_aload_n hx hb dX5_put_64 rfl (lv_at hl 0 rfl) ?_
      refine lv_dup hx hb dX5_put_65 rfl ?_
      refine va_get (D := D) (ci := 5) (v := .int n) (C := RX5) (T := TX5) (N := 10) hx hb X.2.2.2.2.1 iwX5_put_5 X.2.2.2.1 hKK.1 hP 0 rfl rfl 0 (by decide) (X.2.2.2.2.1 _ flX5_put_29) (fun _ h9 => h9) rfl dX5_put_66 ?_
      refine lv_iconst (v := iI 1) hx hb dX5_put_69 rfl ?_
      refine lv_iadd hx hb dX5_put_70 ?_
      refine va_put (D := D) (ci := 5) (v := .int (n + (iI 1))) (ty := .int) (C := RX5) (T := TX5) (N := 10) hx hb X.2.2.2.2.1 iwX5_put_5 tyX5 tyX5_ok nmX5 X.2.2.2.1 hKK.1 hP hD hS 0 rfl rfl 0 (by decide) (X.2.2.2.2.1 _ flX5_put_29) (fun _ h9 => h9) rfl (by decide +kernel) rfl rfl (Nat.le_of_ble_eq_true rfl) dX5_put_71 (fun H locs hP hD hS => ?_)
      replace hP : va_P D vwCl (wM cI cC q (n + (iI 1)) (upd d x1.toNatClampNeg x2) (upd lb x1.toNatClampNeg (vp_nar .char x3)) kp kr ty tx rd rl wi) H := hP
      replace hD : va_D A (wM cI cC q (n + (iI 1)) (upd d x1.toNatClampNeg x2) (upd lb x1.toNatClampNeg (vp_nar .char x3)) kp kr ty tx rd rl wi) := hD
      replace h := Option.some.inj h
      subst h
      exact mu_vret X hP rfl hS dX5_put_74
    · replace h := ifn c1 h
      refine lv_aload_n hx hb dX5_put_12 rfl (lv_at hl 0 rfl) ?_
      refine va_get (D := D) (ci := 5) (v := .ref (q 1)) (C := RX5) (T := TX5) (N := 10) hx hb X.2.2.2.2.1 iwX5_put_5 X.2.2.2.1 hKK.1 hP 0 rfl rfl 1 (by decide) (X.2.2.2.2.1 _ flX5_put_7) (fun _ h9 => h9) rfl dX5_put_13 ?_
      refine lv_iload hx hb dX5_put_16 (lv_at hl 4 rfl) ?_
      refine lv_aload_n hx hb dX5_put_18 rfl (lv_at hl 0 rfl) ?_
      refine va_get (D := D) (ci := 5) (v := .ref (q 1)) (C := RX5) (T := TX5) (N := 10) hx hb X.2.2.2.2.1 iwX5_put_5 X.2.2.2.1 hKK.1 hP 0 rfl rfl 1 (by decide) (X.2.2.2.2.1 _ flX5_put_7) (fun _ h9 => h9) rfl dX5_put_19 ?_
      refine lv_iload hx hb dX5_put_22 (lv_at hl 4 rfl) ?_
      refine lv_iconst (v := iI 1) hx hb dX5_put_24 rfl ?_
      refine lv_isub hx hb dX5_put_25 ?_
      obtain ⟨g4, h⟩ := asr h
      refine va_iald hx hb hKK.1 hP 1 0 rfl rfl g4 dX5_put_26 ?_
      obtain ⟨g5, h⟩ := asr h
      refine va_iast hx hb hKK.1 hP hD hS 1 0 rfl rfl g5 dX5_put_27 (fun H locs hP hD hS => ?_)
      replace hP : va_P D vwCl (wM cI cC q n (upd d x4.toNatClampNeg (d (x4 - (iI 1)).toNatClampNeg)) lb kp kr ty tx rd rl wi) H := hP
      replace hD : va_D A (wM cI cC q n (upd d x4.toNatClampNeg (d (x4 - (iI 1)).toNatClampNeg)) lb kp kr ty tx rd rl wi) := hD
      refine lv_aload_n hx hb dX5_put_28 rfl (lv_at hl 0 rfl) ?_
      refine va_get (D := D) (ci := 5) (v := .ref (q 2)) (C := RX5) (T := TX5) (N := 10) hx hb X.2.2.2.2.1 iwX5_put_5 X.2.2.2.1 hKK.1 hP 0 rfl rfl 2 (by decide) (X.2.2.2.2.1 _ flX5_put_13) (fun _ h9 => h9) rfl dX5_put_29 ?_
      refine lv_iload hx hb dX5_put_32 (lv_at hl 4 rfl) ?_
      refine lv_aload_n hx hb dX5_put_34 rfl (lv_at hl 0 rfl) ?_
      refine va_get (D := D) (ci := 5) (v := .ref (q 2)) (C := RX5) (T := TX5) (N := 10) hx hb X.2.2.2.2.1 iwX5_put_5 X.2.2.2.1 hKK.1 hP 0 rfl rfl 2 (by decide) (X.2.2.2.2.1 _ flX5_put_13) (fun _ h9 => h9) rfl dX5_put_35 ?_
      refine lv_iload hx hb dX5_put_38 (lv_at hl 4 rfl) ?_
      refine lv_iconst (v := iI 1) hx hb dX5_put_40 rfl ?_
      refine lv_isub hx hb dX5_put_41 ?_
      obtain ⟨g6, h⟩ := asr h
      refine va_cald hx hb hKK.1 hP 2 1 rfl rfl g6 dX5_put_42 ?_
      obtain ⟨g7, h⟩ := asr h
      refine va_cast hx hb hKK.1 hP hD hS 2 1 rfl rfl g7 dX5_put_43 (fun H locs hP hD hS => ?_)
      replace hP : va_P D vwCl (wM cI cC q n (upd d x4.toNatClampNeg (d (x4 - (iI 1)).toNatClampNeg)) (upd lb x4.toNatClampNeg (vp_nar .char (lb (x4 - (iI 1)).toNatClampNeg))) kp kr ty tx rd rl wi) H := hP
      replace hD : va_D A (wM cI cC q n (upd d x4.toNatClampNeg (d (x4 - (iI 1)).toNatClampNeg)) (upd lb x4.toNatClampNeg (vp_nar .char (lb (x4 - (iI 1)).toNatClampNeg))) kp kr ty tx rd rl wi) := hD
      refine lv_iinc (v := (x4 + iI (-1))) (lv' := [(4, .int (x4 + iI (-1))), (0, .ref (q 0)), (1, .int x1), (2, .int x2), (3, .int x3)]) hx hb dX5_put_44 hl (k := 4) rfl rfl (by decide) rfl (fun ls hl => ?_)
      refine lv_goto (tgt := 6) hx hb dX5_put_47 (by decide) ?_
      exact ih n (upd d x4.toNatClampNeg (d (x4 - (iI 1)).toNatClampNeg)) (upd lb x4.toNatClampNeg (vp_nar .char (lb (x4 - (iI 1)).toNatClampNeg))) x1 x2 x3 (x4 + iI (-1)) _ _ ls hP hD hS (lv_sub hl [1, 2, 3, 4, 0] rfl) h
set_option maxHeartbeats 4000000 in
set_option maxRecDepth 100000 in
theorem zX5_put (l : Launch) (D : va_G) (cI cC : ClassId) (q : Nat → Nat) (sz : Nat) (n : Int32) (d : Nat → Int32) (lb : Nat → Int32) (kp : Int32) (kr : Nat → Int32) (ty : Int32) (tx : Nat → Int32) (rd : Nat → Int32) (rl : Nat → Int32) (wi : Int32) (x1 : Int32) (x2 : Int32) (x3 : Int32) (r : Int32 × (Nat → Int32) × (Nat → Int32)) (h : mX5_put n d lb x1 x2 x3 = some r) : Met l yX5_put wsX5_put rmX5_put (va_Pc [.ref (q 0), .int x1, .int x2, .int x3] (MB D cI cC sz (wM cI cC q n d lb kp kr ty tx rd rl wi))) (muQ D none (wM cI cC q r.1 r.2.1 r.2.2 kp kr ty tx rd rl wi) (va_A (wM cI cC q n d lb kp kr ty tx rd rl wi) sz)) 0 0 (va_A (wM cI cC q n d lb kp kr ty tx rd rl wi) sz) := by
  refine MetI RX5 (by decide +kernel) rfl rfl (Nat.le_of_ble_eq_true rfl) ?_
  intro p e s m below meth c ls X _ hB hl
  obtain ⟨hsz, ⟨hP, hKK⟩, hD0⟩ := hB
  subst hsz
  have hD := hD0.self (sz := s.heap.size)
  generalize hAe : va_A (wM cI cC q n d lb kp kr ty tx rd rl wi) s.heap.size = A at hD ⊢
  have hA : ∀ z : Nat, s.heap.size ≤ z → A z := fun z hz => by rw [← hAe]; exact Or.inr hz
  have hS : va_S A s.heap s.heap [] := va_S.rf
  have hx := X.1
  have hb := X.2.1
  replace hl : lv_has ls 5 [(0, .ref (q 0)), (1, .int x1), (2, .int x2), (3, .int x3)] := hl
  replace hP : va_P D vwCl (wM cI cC q n d lb kp kr ty tx rd rl wi) s.heap := hP
  unfold mX5_put at h
  refine lv_aload_n hx hb dX5_put_0 rfl (lv_at hl 0 rfl) ?_
  refine va_get (D := D) (ci := 5) (v := .int n) (C := RX5) (T := TX5) (N := 10) hx hb X.2.2.2.2.1 iwX5_put_5 X.2.2.2.1 hKK.1 hP 0 rfl rfl 0 (by decide) (X.2.2.2.2.1 _ flX5_put_29) (fun _ h9 => h9) rfl dX5_put_1 ?_
  refine lv_istore (lv' := [(4, .int n), (0, .ref (q 0)), (1, .int x1), (2, .int x2), (3, .int x3)]) hx hb dX5_put_4 hl (by decide) rfl (fun ls hl => ?_)
  exact kX5_put_6 X hKK hA FU n d lb x1 x2 x3 n _ _ ls hP hD hS (lv_sub hl [1, 2, 3, 4, 0] rfl) h
def mX5_take_12 : Nat → Int32 → (Nat → Int32) → (Nat → Int32) → Int32 → Int32 → Int32 → Option (Int32 × (Nat → Int32) × (Nat → Int32))
  | 0, _, _, _, _, _, _ => none
  | f + 1, n, d, lb, x1, x2, x3 => (if n ≤ x3 then some (n, d, lb) else (if inb (x3 + x2) 100 then (if inb x3 100 then (if inb (x3 + x2) 100 then (if inb x3 100 then mX5_take_12 f n (upd d x3.toNatClampNeg (d (x3 + x2).toNatClampNeg)) (upd lb x3.toNatClampNeg (vp_nar .char (lb (x3 + x2).toNatClampNeg))) x1 x2 (x3 + iI 1) else none) else none) else none) else none))
def mX5_take (n : Int32) (d : Nat → Int32) (lb : Nat → Int32) (x1 : Int32) (x2 : Int32) : Option (Int32 × (Nat → Int32) × (Nat → Int32)) := mX5_take_12 FU (n - x2) d lb x1 x2 x1
theorem hdX5_take : yX5_take.cls = RX5 ∧ yX5_take.cls ≠ "java/lang/invoke/MethodHandle" ∧ yX5_take.cls ≠ "java/lang/invoke/VarHandle" ∧ (parseMethodDescriptor yX5_take.desc).map (fun d => d.parameters.length) = some 2 := by decide +kernel
theorem flX5_take_29 : Cond.fieldLink RX5 29 "BracketTreeModel" "n" "I" ∈ wsX5_take := by decide +kernel
theorem iwX5_take_5 : ∀ w ∈ wsX50, w ∈ wsX5_take := by decide +kernel
theorem flX5_take_7 : Cond.fieldLink RX5 7 "BracketTreeModel" "depthOf" "[I" ∈ wsX5_take := by decide +kernel
theorem flX5_take_13 : Cond.fieldLink RX5 13 "BracketTreeModel" "labelOf" "[C" ∈ wsX5_take := by decide +kernel
abbrev rmX5_take : Room := { frames := 0, cells := 0, slots := 0, locals := 0 }
set_option maxHeartbeats 4000000 in
set_option maxRecDepth 100000 in
theorem kX5_take_12 {p : Program} {l : Launch} {e : Env} {s : State} {m : MethodId} {args : Array Value} {below : List Frame} {meth : Method} {c : Code} {D : va_G} {cI cC : ClassId} {q : Nat → Nat} {kp : Int32} {kr : Nat → Int32} {ty : Int32} {tx : Nat → Int32} {rd : Nat → Int32} {rl : Nat → Int32} {wi : Int32} {r : Int32 × (Nat → Int32) × (Nat → Int32)} {A : Nat → Prop} (X : CX p s m args meth c wsX5_take cX5_take 4 none RX5) (hKK : KK D cI cC s) (hA : ∀ z, s.heap.size ≤ z → A z) : ∀ (f : Nat), ∀ (n : Int32) (d : Nat → Int32) (lb : Nat → Int32) (x1 : Int32) (x2 : Int32) (x3 : Int32) (H : Heap) (locs : List Loc) (ls : Array Slot), va_P D vwCl (wM cI cC q n d lb kp kr ty tx rd rl wi) H → va_D A (wM cI cC q n d lb kp kr ty tx rd rl wi) → va_S A s.heap H locs → lv_has ls 4 [(0, .ref (q 0)), (1, .int x1), (2, .int x2), (3, .int x3)] → mX5_take_12 f n d lb x1 x2 x3 = some r → W p l e rmX5_take s m args below meth c H locs 0 0 (MQ below (muQ D none (wM cI cC q r.1 r.2.1 r.2.2 kp kr ty tx rd rl wi) A) args s 0 0 A) (F0 m 12 ls []) := by
  have hx := X.1
  have hb := X.2.1
  intro f
  induction f with
  | zero =>
    intro n d lb x1 x2 x3 H locs ls hP hD hS hl h
    exact absurd h (by unfold mX5_take_12; intro h; cases h)
  | succ f ih =>
    intro n d lb x1 x2 x3 H locs ls hP hD hS hl h
    rw [mX5_take_12] at h
    refine lv_iload_n hx hb dX5_take_12 rfl (lv_at hl 3 rfl) ?_
    refine lv_aload_n hx hb dX5_take_13 rfl (lv_at hl 0 rfl) ?_
    refine va_get (D := D) (ci := 5) (v := .int n) (C := RX5) (T := TX5) (N := 10) hx hb X.2.2.2.2.1 iwX5_take_5 X.2.2.2.1 hKK.1 hP 0 rfl rfl 0 (by decide) (X.2.2.2.2.1 _ flX5_take_29) (fun _ h9 => h9) rfl dX5_take_14 ?_
    refine lv_icmp_ge (tgt := 54) hx hb dX5_take_17 (by decide) (fun c1 => ?_) (fun c1 => ?_)
    · replace h := ifp c1 h
      replace h := Option.some.inj h
      subst h
      exact mu_vret X hP rfl hS dX5_take_54
    · replace h := ifn c1 h
      refine lv_aload_n hx hb dX5_take_20 rfl (lv_at hl 0 rfl) ?_
      refine va_get (D := D) (ci := 5) (v := .ref (q 1)) (C := RX5) (T := TX5) (N := 10) hx hb X.2.2.2.2.1 iwX5_take_5 X.2.2.2.1 hKK.1 hP 0 rfl rfl 1 (by decide) (X.2.2.2.2.1 _ flX5_take_7) (fun _ h9 => h9) rfl dX5_take_21 ?_
      refine lv_iload_n hx hb dX5_take_24 rfl (lv_at hl 3 rfl) ?_
      refine lv_aload_n hx hb dX5_take_25 rfl (lv_at hl 0 rfl) ?_
      refine va_get (D := D) (ci := 5) (v := .ref (q 1)) (C := RX5) (T := TX5) (N := 10) hx hb X.2.2.2.2.1 iwX5_take_5 X.2.2.2.1 hKK.1 hP 0 rfl rfl 1 (by decide) (X.2.2.2.2.1 _ flX5_take_7) (fun _ h9 => h9) rfl dX5_take_26 ?_
      refine lv_iload_n hx hb dX5_take_29 rfl (lv_at hl 3 rfl) ?_
      refine lv_iload_n hx hb dX5_take_30 rfl (lv_at hl 2 rfl) ?_
      refine lv_iadd hx hb dX5_take_31 ?_
      obtain ⟨g2, h⟩ := asr h
      refine va_iald hx hb hKK.1 hP 1 0 rfl rfl g2 dX5_take_32 ?_
      obtain ⟨g3, h⟩ := asr h
      refine va_iast hx hb hKK.1 hP hD hS 1 0 rfl rfl g3 dX5_take_33 (fun H locs hP hD hS => ?_)
      replace hP : va_P D vwCl (wM cI cC q n (upd d x3.toNatClampNeg (d (x3 + x2).toNatClampNeg)) lb kp kr ty tx rd rl wi) H := hP
      replace hD : va_D A (wM cI cC q n (upd d x3.toNatClampNeg (d (x3 + x2).toNatClampNeg)) lb kp kr ty tx rd rl wi) := hD
      refine lv_aload_n hx hb dX5_take_34 rfl (lv_at hl 0 rfl) ?_
      refine va_get (D := D) (ci := 5) (v := .ref (q 2)) (C := RX5) (T := TX5) (N := 10) hx hb X.2.2.2.2.1 iwX5_take_5 X.2.2.2.1 hKK.1 hP 0 rfl rfl 2 (by decide) (X.2.2.2.2.1 _ flX5_take_13) (fun _ h9 => h9) rfl dX5_take_35 ?_
      refine lv_iload_n hx hb dX5_take_38 rfl (lv_at hl 3 rfl) ?_
      refine lv_aload_n hx hb dX5_take_39 rfl (lv_at hl 0 rfl) ?_
      refine va_get (D := D) (ci := 5) (v := .ref (q 2)) (C := RX5) (T := TX5) (N := 10) hx hb X.2.2.2.2.1 iwX5_take_5 X.2.2.2.1 hKK.1 hP 0 rfl rfl 2 (by decide) (X.2.2.2.2.1 _ flX5_take_13) (fun _ h9 => h9) rfl dX5_take_40 ?_
      refine lv_iload_n hx hb dX5_take_43 rfl (lv_at hl 3 rfl) ?_
      refine lv_iload_n hx hb dX5_take_44 rfl (lv_at hl 2 rfl) ?_
      refine lv_iadd hx hb dX5_take_45 ?_
      obtain ⟨g4, h⟩ := asr h
      refine va_cald hx hb hKK.1 hP 2 1 rfl rfl g4 dX5_take_46 ?_
      obtain ⟨g5, h⟩ := asr h
      refine va_cast hx hb hKK.1 hP hD hS 2 1 rfl rfl g5 dX5_take_47 (fun H locs hP hD hS => ?_)
      replace hP : va_P D vwCl (wM cI cC q n (upd d x3.toNatClampNeg (d (x3 + x2).toNatClampNeg)) (upd lb x3.toNatClampNeg (vp_nar .char (lb (x3 + x2).toNatClampNeg))) kp kr ty tx rd rl wi) H := hP
      replace hD : va_D A (wM cI cC q n (upd d x3.toNatClampNeg (d (x3 + x2).toNatClampNeg)) (upd lb x3.toNatClampNeg (vp_nar .char (lb (x3 + x2).toNatClampNeg))) kp kr ty tx rd rl wi) := hD
      refine lv_iinc (v := (x3 + iI 1)) (lv' := [(3, .int (x3 + iI 1)), (0, .ref (q 0)), (1, .int x1), (2, .int x2)]) hx hb dX5_take_48 hl (k := 3) rfl rfl (by decide) rfl (fun ls hl => ?_)
      refine lv_goto (tgt := 12) hx hb dX5_take_51 (by decide) ?_
      exact ih n (upd d x3.toNatClampNeg (d (x3 + x2).toNatClampNeg)) (upd lb x3.toNatClampNeg (vp_nar .char (lb (x3 + x2).toNatClampNeg))) x1 x2 (x3 + iI 1) _ _ ls hP hD hS (lv_sub hl [1, 2, 3, 0] rfl) h
set_option maxHeartbeats 4000000 in
set_option maxRecDepth 100000 in
theorem zX5_take (l : Launch) (D : va_G) (cI cC : ClassId) (q : Nat → Nat) (sz : Nat) (n : Int32) (d : Nat → Int32) (lb : Nat → Int32) (kp : Int32) (kr : Nat → Int32) (ty : Int32) (tx : Nat → Int32) (rd : Nat → Int32) (rl : Nat → Int32) (wi : Int32) (x1 : Int32) (x2 : Int32) (r : Int32 × (Nat → Int32) × (Nat → Int32)) (h : mX5_take n d lb x1 x2 = some r) : Met l yX5_take wsX5_take rmX5_take (va_Pc [.ref (q 0), .int x1, .int x2] (MB D cI cC sz (wM cI cC q n d lb kp kr ty tx rd rl wi))) (muQ D none (wM cI cC q r.1 r.2.1 r.2.2 kp kr ty tx rd rl wi) (va_A (wM cI cC q n d lb kp kr ty tx rd rl wi) sz)) 0 0 (va_A (wM cI cC q n d lb kp kr ty tx rd rl wi) sz) := by
  refine MetI RX5 (by decide +kernel) rfl rfl (Nat.le_of_ble_eq_true rfl) ?_
  intro p e s m below meth c ls X _ hB hl
  obtain ⟨hsz, ⟨hP, hKK⟩, hD0⟩ := hB
  subst hsz
  have hD := hD0.self (sz := s.heap.size)
  generalize hAe : va_A (wM cI cC q n d lb kp kr ty tx rd rl wi) s.heap.size = A at hD ⊢
  have hA : ∀ z : Nat, s.heap.size ≤ z → A z := fun z hz => by rw [← hAe]; exact Or.inr hz
  have hS : va_S A s.heap s.heap [] := va_S.rf
  have hx := X.1
  have hb := X.2.1
  replace hl : lv_has ls 4 [(0, .ref (q 0)), (1, .int x1), (2, .int x2)] := hl
  replace hP : va_P D vwCl (wM cI cC q n d lb kp kr ty tx rd rl wi) s.heap := hP
  unfold mX5_take at h
  refine lv_aload_n hx hb dX5_take_0 rfl (lv_at hl 0 rfl) ?_
  refine lv_dup hx hb dX5_take_1 rfl ?_
  refine va_get (D := D) (ci := 5) (v := .int n) (C := RX5) (T := TX5) (N := 10) hx hb X.2.2.2.2.1 iwX5_take_5 X.2.2.2.1 hKK.1 hP 0 rfl rfl 0 (by decide) (X.2.2.2.2.1 _ flX5_take_29) (fun _ h9 => h9) rfl dX5_take_2 ?_
  refine lv_iload_n hx hb dX5_take_5 rfl (lv_at hl 2 rfl) ?_
  refine lv_isub hx hb dX5_take_6 ?_
  refine va_put (D := D) (ci := 5) (v := .int (n - x2)) (ty := .int) (C := RX5) (T := TX5) (N := 10) hx hb X.2.2.2.2.1 iwX5_take_5 tyX5 tyX5_ok nmX5 X.2.2.2.1 hKK.1 hP hD hS 0 rfl rfl 0 (by decide) (X.2.2.2.2.1 _ flX5_take_29) (fun _ h9 => h9) rfl (by decide +kernel) rfl rfl (Nat.le_of_ble_eq_true rfl) dX5_take_7 (fun H locs hP hD hS => ?_)
  replace hP : va_P D vwCl (wM cI cC q (n - x2) d lb kp kr ty tx rd rl wi) H := hP
  replace hD : va_D A (wM cI cC q (n - x2) d lb kp kr ty tx rd rl wi) := hD
  refine lv_iload_n hx hb dX5_take_10 rfl (lv_at hl 1 rfl) ?_
  refine lv_istore_n (lv' := [(3, .int x1), (0, .ref (q 0)), (1, .int x1), (2, .int x2)]) hx hb dX5_take_11 rfl hl (by decide) rfl (fun ls hl => ?_)
  exact kX5_take_12 X hKK hA FU (n - x2) d lb x1 x2 x1 _ _ ls hP hD hS (lv_sub hl [1, 2, 3, 0] rfl) h
def mX5_insert (n : Int32) (d : Nat → Int32) (lb : Nat → Int32) (kp : Int32) (kr : Nat → Int32) (x1 : Int32) (x2 : Int32) (x3 : Int32) : Option (Int32 × Int32 × (Nat → Int32) × (Nat → Int32) × Int32 × (Nat → Int32)) := (if (mX5_noNode n x1) = 0 then ((mX5_childCount n d x1).bind fun r2 => (if (mX5_in x2 (iI 0) r2) = 0 then some ((iI (-2)), n, d, lb, kp, kr) else (if (mX5_isLetter x3) = 0 then some ((iI (-2)), n, d, lb, kp, kr) else (if n = (iI 100) then some ((iI (-4)), n, d, lb, kp, kr) else ((mX5_keep n d lb kp kr).bind fun r6 => ((mX5_childOrEnd n d x1 x2).bind fun r7 => (if inb x1 100 then ((mX5_put n d lb r7 ((d x1.toNatClampNeg) + (iI 1)) x3).bind fun r9 => some (r7, r9.1, r9.2.1, r9.2.2, r6.1, r6.2)) else none))))))) else some ((iI (-1)), n, d, lb, kp, kr))
theorem hdX5_insert : yX5_insert.cls = RX5 ∧ yX5_insert.cls ≠ "java/lang/invoke/MethodHandle" ∧ yX5_insert.cls ≠ "java/lang/invoke/VarHandle" ∧ (parseMethodDescriptor yX5_insert.desc).map (fun d => d.parameters.length) = some 3 := by decide +kernel
theorem flX5_insert_29 : Cond.fieldLink RX5 29 "BracketTreeModel" "n" "I" ∈ wsX5_insert := by decide +kernel
theorem iwX5_insert_5 : ∀ w ∈ wsX50, w ∈ wsX5_insert := by decide +kernel
theorem flX5_insert_7 : Cond.fieldLink RX5 7 "BracketTreeModel" "depthOf" "[I" ∈ wsX5_insert := by decide +kernel
abbrev rmX5_insert : Room := { frames := 2, cells := 0, slots := 0, locals := 47 }
set_option maxHeartbeats 4000000 in
set_option maxRecDepth 100000 in
theorem zX5_insert (l : Launch) (D : va_G) (cI cC : ClassId) (q : Nat → Nat) (sz : Nat) (n : Int32) (d : Nat → Int32) (lb : Nat → Int32) (kp : Int32) (kr : Nat → Int32) (ty : Int32) (tx : Nat → Int32) (rd : Nat → Int32) (rl : Nat → Int32) (wi : Int32) (x1 : Int32) (x2 : Int32) (x3 : Int32) (r : Int32 × Int32 × (Nat → Int32) × (Nat → Int32) × Int32 × (Nat → Int32)) (h : mX5_insert n d lb kp kr x1 x2 x3 = some r) : Met l yX5_insert wsX5_insert rmX5_insert (va_Pc [.ref (q 0), .int x1, .int x2, .int x3] (MB D cI cC sz (wM cI cC q n d lb kp kr ty tx rd rl wi))) (muQ D (some (.int r.1)) (wM cI cC q r.2.1 r.2.2.1 r.2.2.2.1 r.2.2.2.2.1 r.2.2.2.2.2 ty tx rd rl wi) (va_A (wM cI cC q n d lb kp kr ty tx rd rl wi) sz)) 0 0 (va_A (wM cI cC q n d lb kp kr ty tx rd rl wi) sz) := by
  refine MetI RX5 (by decide +kernel) rfl rfl (Nat.le_of_ble_eq_true rfl) ?_
  intro p e s m below meth c ls X _ hB hl
  obtain ⟨hsz, ⟨hP, hKK⟩, hD0⟩ := hB
  subst hsz
  have hD := hD0.self (sz := s.heap.size)
  generalize hAe : va_A (wM cI cC q n d lb kp kr ty tx rd rl wi) s.heap.size = A at hD ⊢
  have hA : ∀ z : Nat, s.heap.size ≤ z → A z := fun z hz => by rw [← hAe]; exact Or.inr hz
  have hS : va_S A s.heap s.heap [] := va_S.rf
  have hx := X.1
  have hb := X.2.1
  replace hl : lv_has ls 5 [(0, .ref (q 0)), (1, .int x1), (2, .int x2), (3, .int x3)] := hl
  replace hP : va_P D vwCl (wM cI cC q n d lb kp kr ty tx rd rl wi) s.heap := hP
  unfold mX5_insert at h
  refine lv_aload_n hx hb dX5_insert_0 rfl (lv_at hl 0 rfl) ?_
  refine lv_iload_n hx hb dX5_insert_1 rfl (lv_at hl 1 rfl) ?_
  refine rcV (rest := []) X hKK hP 1 (zX5_noNode l D cI cC q n d lb kp kr ty tx rd rl wi x1 _ rfl) gX5_insert_X5_noNode rfl rfl rfl hdX5_noNode ⟨Nat.le_of_ble_eq_true rfl, Nat.le_of_ble_eq_true rfl⟩ [0, 1, 2, 3, 4, 5, 6] rfl 0 rfl rfl rfl hl.1 rfl (Nat.le_of_ble_eq_true rfl) dX5_insert_2 ⟨Nat.zero_le _, Nat.zero_le _⟩ ?_
  refine lv_if_eq (tgt := 10) hx hb dX5_insert_5 (by decide) (fun c1 => ?_) (fun c1 => ?_)
  · replace h := ifp c1 h
    refine lv_iload_n hx hb dX5_insert_10 rfl (lv_at hl 2 rfl) ?_
    refine lv_iconst (v := iI 0) hx hb dX5_insert_11 rfl ?_
    refine lv_aload_n hx hb dX5_insert_12 rfl (lv_at hl 0 rfl) ?_
    refine lv_iload_n hx hb dX5_insert_13 rfl (lv_at hl 1 rfl) ?_
    obtain ⟨r2, h_r2, h⟩ := obd h
    refine rcV (rest := [.int (iI 0), .int x2]) X hKK hP 1 (zX5_childCount l D cI cC q n d lb kp kr ty tx rd rl wi x1 r2 h_r2) gX5_insert_X5_childCount rfl rfl rfl hdX5_childCount ⟨Nat.le_of_ble_eq_true rfl, Nat.le_of_ble_eq_true rfl⟩ [0, 1, 2, 3, 4, 5, 6] rfl 0 rfl rfl rfl hl.1 rfl (Nat.le_of_ble_eq_true rfl) dX5_insert_14 ⟨Nat.zero_le _, Nat.zero_le _⟩ ?_
    refine rcS (rest := []) X hKK hP 3 (zX5_in l D cI cC x2 (iI 0) r2 _ rfl) gX5_insert_X5_in rfl rfl rfl hdX5_in ⟨Nat.le_of_ble_eq_true rfl, Nat.le_of_ble_eq_true rfl⟩ [] rfl rfl hl.1 rfl (Nat.le_of_ble_eq_true rfl) dX5_insert_17 ⟨Nat.zero_le _, Nat.zero_le _⟩ ?_
    refine lv_if_eq (tgt := 30) hx hb dX5_insert_20 (by decide) (fun c3 => ?_) (fun c3 => ?_)
    · replace h := ifp c3 h
      refine lv_bipush (v := iI (-2)) hx hb dX5_insert_30 (by decide) ?_
      replace h := Option.some.inj h
      subst h
      exact mu_ret X rfl rfl hP rfl hS dX5_insert_32
    · replace h := ifn c3 h
      refine lv_iload_n hx hb dX5_insert_23 rfl (lv_at hl 3 rfl) ?_
      refine rcS (rest := []) X hKK hP 1 (zX5_isLetter l D cI cC x3 _ rfl) gX5_insert_X5_isLetter rfl rfl rfl hdX5_isLetter ⟨Nat.le_of_ble_eq_true rfl, Nat.le_of_ble_eq_true rfl⟩ [] rfl rfl hl.1 rfl (Nat.le_of_ble_eq_true rfl) dX5_insert_24 ⟨Nat.zero_le _, Nat.zero_le _⟩ ?_
      refine lv_if_ne (tgt := 33) hx hb dX5_insert_27 (by decide) (fun c4 => ?_) (fun c4 => ?_)
      · replace h := ifn c4 h
        refine lv_aload_n hx hb dX5_insert_33 rfl (lv_at hl 0 rfl) ?_
        refine va_get (D := D) (ci := 5) (v := .int n) (C := RX5) (T := TX5) (N := 10) hx hb X.2.2.2.2.1 iwX5_insert_5 X.2.2.2.1 hKK.1 hP 0 rfl rfl 0 (by decide) (X.2.2.2.2.1 _ flX5_insert_29) (fun _ h9 => h9) rfl dX5_insert_34 ?_
        refine lv_bipush (v := iI 100) hx hb dX5_insert_37 (by decide) ?_
        refine lv_icmp_ne (tgt := 45) hx hb dX5_insert_39 (by decide) (fun c5 => ?_) (fun c5 => ?_)
        · replace h := ifn c5 h
          refine lv_aload_n hx hb dX5_insert_45 rfl (lv_at hl 0 rfl) ?_
          obtain ⟨r6, h_r6, h⟩ := obd h
          refine mcV (rest := []) (wld2 := (wM cI cC q n d lb r6.1 r6.2 ty tx rd rl wi)) (wr := pickAt [] (wM cI cC q n d lb kp kr ty tx rd rl wi)) X hKK hP hD hS hA 0 (zX5_keep l D cI cC q _ n d lb kp kr ty tx rd rl wi r6 h_r6) gX5_insert_X5_keep rfl rfl rfl hdX5_keep ⟨Nat.le_of_ble_eq_true rfl, Nat.le_of_ble_eq_true rfl⟩ [0, 1, 2, 3, 4, 5, 6] [] rfl rfl rfl rfl rfl (by decide) rfl [0, 1, 2, 3, 4, 5, 6] rfl rfl rfl 0 rfl rfl rfl hl.1 rfl (Nat.le_of_ble_eq_true rfl) dX5_insert_46 ⟨Nat.zero_le _, Nat.zero_le _⟩ (fun H locs hP hD hS => ?_)
          refine lv_aload_n hx hb dX5_insert_49 rfl (lv_at hl 0 rfl) ?_
          refine lv_iload_n hx hb dX5_insert_50 rfl (lv_at hl 1 rfl) ?_
          refine lv_iload_n hx hb dX5_insert_51 rfl (lv_at hl 2 rfl) ?_
          obtain ⟨r7, h_r7, h⟩ := obd h
          refine rcV (rest := []) X hKK hP 2 (zX5_childOrEnd l D cI cC q n d lb r6.1 r6.2 ty tx rd rl wi x1 x2 r7 h_r7) gX5_insert_X5_childOrEnd rfl rfl rfl hdX5_childOrEnd ⟨Nat.le_of_ble_eq_true rfl, Nat.le_of_ble_eq_true rfl⟩ [0, 1, 2, 3, 4, 5, 6] rfl 0 rfl rfl rfl hl.1 rfl (Nat.le_of_ble_eq_true rfl) dX5_insert_52 ⟨Nat.zero_le _, Nat.zero_le _⟩ ?_
          refine lv_istore (lv' := [(4, .int r7), (0, .ref (q 0)), (1, .int x1), (2, .int x2), (3, .int x3)]) hx hb dX5_insert_55 hl (by decide) rfl (fun ls hl => ?_)
          refine lv_aload_n hx hb dX5_insert_57 rfl (lv_at hl 1 rfl) ?_
          refine lv_iload hx hb dX5_insert_58 (lv_at hl 0 rfl) ?_
          refine lv_aload_n hx hb dX5_insert_60 rfl (lv_at hl 1 rfl) ?_
          refine va_get (D := D) (ci := 5) (v := .ref (q 1)) (C := RX5) (T := TX5) (N := 10) hx hb X.2.2.2.2.1 iwX5_insert_5 X.2.2.2.1 hKK.1 hP 0 rfl rfl 1 (by decide) (X.2.2.2.2.1 _ flX5_insert_7) (fun _ h9 => h9) rfl dX5_insert_61 ?_
          refine lv_iload_n hx hb dX5_insert_64 rfl (lv_at hl 2 rfl) ?_
          obtain ⟨g8, h⟩ := asr h
          refine va_iald hx hb hKK.1 hP 1 0 rfl rfl g8 dX5_insert_65 ?_
          refine lv_iconst (v := iI 1) hx hb dX5_insert_66 rfl ?_
          refine lv_iadd hx hb dX5_insert_67 ?_
          refine lv_iload_n hx hb dX5_insert_68 rfl (lv_at hl 4 rfl) ?_
          obtain ⟨r9, h_r9, h⟩ := obd h
          refine mcV (rest := []) (wld2 := (wM cI cC q r9.1 r9.2.1 r9.2.2 r6.1 r6.2 ty tx rd rl wi)) (wr := pickAt [] (wM cI cC q n d lb r6.1 r6.2 ty tx rd rl wi)) X hKK hP hD hS hA 3 (zX5_put l D cI cC q _ n d lb r6.1 r6.2 ty tx rd rl wi r7 ((d x1.toNatClampNeg) + (iI 1)) x3 r9 h_r9) gX5_insert_X5_put rfl rfl rfl hdX5_put ⟨Nat.le_of_ble_eq_true rfl, Nat.le_of_ble_eq_true rfl⟩ [0, 1, 2, 3, 4, 5, 6] [] rfl rfl rfl rfl rfl (by decide) rfl [0, 1, 2, 3, 4, 5, 6] rfl rfl rfl 0 rfl rfl rfl hl.1 rfl (Nat.le_of_ble_eq_true rfl) dX5_insert_69 ⟨Nat.zero_le _, Nat.zero_le _⟩ (fun H locs hP hD hS => ?_)
          refine lv_iload hx hb dX5_insert_72 (lv_at hl 0 rfl) ?_
          replace h := Option.some.inj h
          subst h
          exact mu_ret X rfl rfl hP rfl hS dX5_insert_74
        · replace h := ifp c5 h
          refine lv_bipush (v := iI (-4)) hx hb dX5_insert_42 (by decide) ?_
          replace h := Option.some.inj h
          subst h
          exact mu_ret X rfl rfl hP rfl hS dX5_insert_44
      · replace h := ifp c4 h
        refine lv_bipush (v := iI (-2)) hx hb dX5_insert_30 (by decide) ?_
        replace h := Option.some.inj h
        subst h
        exact mu_ret X rfl rfl hP rfl hS dX5_insert_32
  · replace h := ifn c1 h
    refine lv_iconst (v := iI (-1)) hx hb dX5_insert_8 rfl ?_
    replace h := Option.some.inj h
    subst h
    exact mu_ret X rfl rfl hP rfl hS dX5_insert_9
def mX5_wrap_88 : Nat → Int32 → (Nat → Int32) → (Nat → Int32) → Int32 → (Nat → Int32) → Int32 → Int32 → Int32 → Int32 → Int32 → Int32 → Int32 → Int32 → Option (Int32 × Int32 × (Nat → Int32) × (Nat → Int32) × Int32 × (Nat → Int32))
  | 0, _, _, _, _, _, _, _, _, _, _, _, _, _ => none
  | f + 1, n, d, lb, kp, kr, x1, x2, x3, x4, x5, x6, x7, x8 => (if x7 ≤ x8 then (if inb x1 100 then ((mX5_put n d lb x6 ((d x1.toNatClampNeg) + (iI 1)) x4).bind fun r12 => some (x6, r12.1, r12.2.1, r12.2.2, kp, kr)) else none) else (if inb x8 100 then (if inb x8 100 then mX5_wrap_88 f n (upd d x8.toNatClampNeg ((d x8.toNatClampNeg) + (iI 1))) lb kp kr x1 x2 x3 x4 x5 x6 x7 (x8 + iI 1) else none) else none))
def mX5_wrap (n : Int32) (d : Nat → Int32) (lb : Nat → Int32) (kp : Int32) (kr : Nat → Int32) (x1 : Int32) (x2 : Int32) (x3 : Int32) (x4 : Int32) : Option (Int32 × Int32 × (Nat → Int32) × (Nat → Int32) × Int32 × (Nat → Int32)) := (if (mX5_noNode n x1) = 0 then ((mX5_childCount n d x1).bind fun r2 => (if (mX5_in x2 (iI 0) r2) = 0 then some ((iI (-2)), n, d, lb, kp, kr) else (if (mX5_in x3 (iI 0) (r2 - x2)) = 0 then some ((iI (-2)), n, d, lb, kp, kr) else (if (mX5_isLetter x4) = 0 then some ((iI (-2)), n, d, lb, kp, kr) else (if n = (iI 100) then some ((iI (-4)), n, d, lb, kp, kr) else ((mX5_keep n d lb kp kr).bind fun r7 => ((mX5_childOrEnd n d x1 x2).bind fun r8 => ((mX5_childOrEnd n d x1 (x2 + x3)).bind fun r9 => mX5_wrap_88 FU n d lb r7.1 r7.2 x1 x2 x3 x4 r2 r8 r9 r8)))))))) else some ((iI (-1)), n, d, lb, kp, kr))
theorem hdX5_wrap : yX5_wrap.cls = RX5 ∧ yX5_wrap.cls ≠ "java/lang/invoke/MethodHandle" ∧ yX5_wrap.cls ≠ "java/lang/invoke/VarHandle" ∧ (parseMethodDescriptor yX5_wrap.desc).map (fun d => d.parameters.length) = some 4 := by decide +kernel
theorem flX5_wrap_29 : Cond.fieldLink RX5 29 "BracketTreeModel" "n" "I" ∈ wsX5_wrap := by decide +kernel
theorem iwX5_wrap_5 : ∀ w ∈ wsX50, w ∈ wsX5_wrap := by decide +kernel
theorem flX5_wrap_7 : Cond.fieldLink RX5 7 "BracketTreeModel" "depthOf" "[I" ∈ wsX5_wrap := by decide +kernel
abbrev rmX5_wrap : Room := { frames := 2, cells := 0, slots := 0, locals := 47 }
set_option maxHeartbeats 4000000 in
set_option maxRecDepth 100000 in
theorem kX5_wrap_88 {p : Program} {l : Launch} {e : Env} {s : State} {m : MethodId} {args : Array Value} {below : List Frame} {meth : Method} {c : Code} {D : va_G} {cI cC : ClassId} {q : Nat → Nat} {ty : Int32} {tx : Nat → Int32} {rd : Nat → Int32} {rl : Nat → Int32} {wi : Int32} {r : Int32 × Int32 × (Nat → Int32) × (Nat → Int32) × Int32 × (Nat → Int32)} {A : Nat → Prop} (X : CX p s m args meth c wsX5_wrap cX5_wrap 9 (some .int) RX5) (hKK : KK D cI cC s) (hA : ∀ z, s.heap.size ≤ z → A z) : ∀ (f : Nat), ∀ (n : Int32) (d : Nat → Int32) (lb : Nat → Int32) (kp : Int32) (kr : Nat → Int32) (x1 : Int32) (x2 : Int32) (x3 : Int32) (x4 : Int32) (x5 : Int32) (x6 : Int32) (x7 : Int32) (x8 : Int32) (H : Heap) (locs : List Loc) (ls : Array Slot), va_P D vwCl (wM cI cC q n d lb kp kr ty tx rd rl wi) H → va_D A (wM cI cC q n d lb kp kr ty tx rd rl wi) → va_S A s.heap H locs → lv_has ls 9 [(0, .ref (q 0)), (1, .int x1), (2, .int x2), (3, .int x3), (4, .int x4), (5, .int x5), (6, .int x6), (7, .int x7), (8, .int x8)] → mX5_wrap_88 f n d lb kp kr x1 x2 x3 x4 x5 x6 x7 x8 = some r → W p l e rmX5_wrap s m args below meth c H locs 0 0 (MQ below (muQ D (some (.int r.1)) (wM cI cC q r.2.1 r.2.2.1 r.2.2.2.1 r.2.2.2.2.1 r.2.2.2.2.2 ty tx rd rl wi) A) args s 0 0 A) (F0 m 88 ls []) := by
  have hx := X.1
  have hb := X.2.1
  intro f
  induction f with
  | zero =>
    intro n d lb kp kr x1 x2 x3 x4 x5 x6 x7 x8 H locs ls hP hD hS hl h
    exact absurd h (by unfold mX5_wrap_88; intro h; cases h)
  | succ f ih =>
    intro n d lb kp kr x1 x2 x3 x4 x5 x6 x7 x8 H locs ls hP hD hS hl h
    rw [mX5_wrap_88] at h
    refine lv_iload hx hb dX5_wrap_88 (lv_at hl 8 rfl) ?_
    refine lv_iload hx hb dX5_wrap_90 (lv_at hl 7 rfl) ?_
    refine lv_icmp_ge (tgt := 112) hx hb dX5_wrap_92 (by decide) (fun c10 => ?_) (fun c10 => ?_)
    · replace h := ifp c10 h
      refine lv_aload_n hx hb dX5_wrap_112 rfl (lv_at hl 0 rfl) ?_
      refine lv_iload hx hb dX5_wrap_113 (lv_at hl 6 rfl) ?_
      refine lv_aload_n hx hb dX5_wrap_115 rfl (lv_at hl 0 rfl) ?_
      refine va_get (D := D) (ci := 5) (v := .ref (q 1)) (C := RX5) (T := TX5) (N := 10) hx hb X.2.2.2.2.1 iwX5_wrap_5 X.2.2.2.1 hKK.1 hP 0 rfl rfl 1 (by decide) (X.2.2.2.2.1 _ flX5_wrap_7) (fun _ h9 => h9) rfl dX5_wrap_116 ?_
      refine lv_iload_n hx hb dX5_wrap_119 rfl (lv_at hl 1 rfl) ?_
      obtain ⟨g11, h⟩ := asr h
      refine va_iald hx hb hKK.1 hP 1 0 rfl rfl g11 dX5_wrap_120 ?_
      refine lv_iconst (v := iI 1) hx hb dX5_wrap_121 rfl ?_
      refine lv_iadd hx hb dX5_wrap_122 ?_
      refine lv_iload hx hb dX5_wrap_123 (lv_at hl 4 rfl) ?_
      obtain ⟨r12, h_r12, h⟩ := obd h
      refine mcV (rest := []) (wld2 := (wM cI cC q r12.1 r12.2.1 r12.2.2 kp kr ty tx rd rl wi)) (wr := pickAt [] (wM cI cC q n d lb kp kr ty tx rd rl wi)) X hKK hP hD hS hA 3 (zX5_put l D cI cC q _ n d lb kp kr ty tx rd rl wi x6 ((d x1.toNatClampNeg) + (iI 1)) x4 r12 h_r12) gX5_wrap_X5_put rfl rfl rfl hdX5_put ⟨Nat.le_of_ble_eq_true rfl, Nat.le_of_ble_eq_true rfl⟩ [0, 1, 2, 3, 4, 5, 6] [] rfl rfl rfl rfl rfl (by decide) rfl [0, 1, 2, 3, 4, 5, 6] rfl rfl rfl 0 rfl rfl rfl hl.1 rfl (Nat.le_of_ble_eq_true rfl) dX5_wrap_125 ⟨Nat.zero_le _, Nat.zero_le _⟩ (fun H locs hP hD hS => ?_)
      refine lv_iload hx hb dX5_wrap_128 (lv_at hl 6 rfl) ?_
      replace h := Option.some.inj h
      subst h
      exact mu_ret X rfl rfl hP rfl hS dX5_wrap_130
    · replace h := ifn c10 h
      refine lv_aload_n hx hb dX5_wrap_95 rfl (lv_at hl 0 rfl) ?_
      refine va_get (D := D) (ci := 5) (v := .ref (q 1)) (C := RX5) (T := TX5) (N := 10) hx hb X.2.2.2.2.1 iwX5_wrap_5 X.2.2.2.1 hKK.1 hP 0 rfl rfl 1 (by decide) (X.2.2.2.2.1 _ flX5_wrap_7) (fun _ h9 => h9) rfl dX5_wrap_96 ?_
      refine lv_iload hx hb dX5_wrap_99 (lv_at hl 8 rfl) ?_
      refine lv_dup2_11 hx hb dX5_wrap_101 rfl rfl ?_
      obtain ⟨g13, h⟩ := asr h
      refine va_iald hx hb hKK.1 hP 1 0 rfl rfl g13 dX5_wrap_102 ?_
      refine lv_iconst (v := iI 1) hx hb dX5_wrap_103 rfl ?_
      refine lv_iadd hx hb dX5_wrap_104 ?_
      obtain ⟨g14, h⟩ := asr h
      refine va_iast hx hb hKK.1 hP hD hS 1 0 rfl rfl g14 dX5_wrap_105 (fun H locs hP hD hS => ?_)
      replace hP : va_P D vwCl (wM cI cC q n (upd d x8.toNatClampNeg ((d x8.toNatClampNeg) + (iI 1))) lb kp kr ty tx rd rl wi) H := hP
      replace hD : va_D A (wM cI cC q n (upd d x8.toNatClampNeg ((d x8.toNatClampNeg) + (iI 1))) lb kp kr ty tx rd rl wi) := hD
      refine lv_iinc (v := (x8 + iI 1)) (lv' := [(8, .int (x8 + iI 1)), (0, .ref (q 0)), (1, .int x1), (2, .int x2), (3, .int x3), (4, .int x4), (5, .int x5), (6, .int x6), (7, .int x7)]) hx hb dX5_wrap_106 hl (k := 8) rfl rfl (by decide) rfl (fun ls hl => ?_)
      refine lv_goto (tgt := 88) hx hb dX5_wrap_109 (by decide) ?_
      exact ih n (upd d x8.toNatClampNeg ((d x8.toNatClampNeg) + (iI 1))) lb kp kr x1 x2 x3 x4 x5 x6 x7 (x8 + iI 1) _ _ ls hP hD hS (lv_sub hl [1, 2, 3, 4, 5, 6, 7, 8, 0] rfl) h
set_option maxHeartbeats 4000000 in
set_option maxRecDepth 100000 in
theorem zX5_wrap (l : Launch) (D : va_G) (cI cC : ClassId) (q : Nat → Nat) (sz : Nat) (n : Int32) (d : Nat → Int32) (lb : Nat → Int32) (kp : Int32) (kr : Nat → Int32) (ty : Int32) (tx : Nat → Int32) (rd : Nat → Int32) (rl : Nat → Int32) (wi : Int32) (x1 : Int32) (x2 : Int32) (x3 : Int32) (x4 : Int32) (r : Int32 × Int32 × (Nat → Int32) × (Nat → Int32) × Int32 × (Nat → Int32)) (h : mX5_wrap n d lb kp kr x1 x2 x3 x4 = some r) : Met l yX5_wrap wsX5_wrap rmX5_wrap (va_Pc [.ref (q 0), .int x1, .int x2, .int x3, .int x4] (MB D cI cC sz (wM cI cC q n d lb kp kr ty tx rd rl wi))) (muQ D (some (.int r.1)) (wM cI cC q r.2.1 r.2.2.1 r.2.2.2.1 r.2.2.2.2.1 r.2.2.2.2.2 ty tx rd rl wi) (va_A (wM cI cC q n d lb kp kr ty tx rd rl wi) sz)) 0 0 (va_A (wM cI cC q n d lb kp kr ty tx rd rl wi) sz) := by
  refine MetI RX5 (by decide +kernel) rfl rfl (Nat.le_of_ble_eq_true rfl) ?_
  intro p e s m below meth c ls X _ hB hl
  obtain ⟨hsz, ⟨hP, hKK⟩, hD0⟩ := hB
  subst hsz
  have hD := hD0.self (sz := s.heap.size)
  generalize hAe : va_A (wM cI cC q n d lb kp kr ty tx rd rl wi) s.heap.size = A at hD ⊢
  have hA : ∀ z : Nat, s.heap.size ≤ z → A z := fun z hz => by rw [← hAe]; exact Or.inr hz
  have hS : va_S A s.heap s.heap [] := va_S.rf
  have hx := X.1
  have hb := X.2.1
  replace hl : lv_has ls 9 [(0, .ref (q 0)), (1, .int x1), (2, .int x2), (3, .int x3), (4, .int x4)] := hl
  replace hP : va_P D vwCl (wM cI cC q n d lb kp kr ty tx rd rl wi) s.heap := hP
  unfold mX5_wrap at h
  refine lv_aload_n hx hb dX5_wrap_0 rfl (lv_at hl 0 rfl) ?_
  refine lv_iload_n hx hb dX5_wrap_1 rfl (lv_at hl 1 rfl) ?_
  refine rcV (rest := []) X hKK hP 1 (zX5_noNode l D cI cC q n d lb kp kr ty tx rd rl wi x1 _ rfl) gX5_wrap_X5_noNode rfl rfl rfl hdX5_noNode ⟨Nat.le_of_ble_eq_true rfl, Nat.le_of_ble_eq_true rfl⟩ [0, 1, 2, 3, 4, 5, 6] rfl 0 rfl rfl rfl hl.1 rfl (Nat.le_of_ble_eq_true rfl) dX5_wrap_2 ⟨Nat.zero_le _, Nat.zero_le _⟩ ?_
  refine lv_if_eq (tgt := 10) hx hb dX5_wrap_5 (by decide) (fun c1 => ?_) (fun c1 => ?_)
  · replace h := ifp c1 h
    refine lv_aload_n hx hb dX5_wrap_10 rfl (lv_at hl 0 rfl) ?_
    refine lv_iload_n hx hb dX5_wrap_11 rfl (lv_at hl 1 rfl) ?_
    obtain ⟨r2, h_r2, h⟩ := obd h
    refine rcV (rest := []) X hKK hP 1 (zX5_childCount l D cI cC q n d lb kp kr ty tx rd rl wi x1 r2 h_r2) gX5_wrap_X5_childCount rfl rfl rfl hdX5_childCount ⟨Nat.le_of_ble_eq_true rfl, Nat.le_of_ble_eq_true rfl⟩ [0, 1, 2, 3, 4, 5, 6] rfl 0 rfl rfl rfl hl.1 rfl (Nat.le_of_ble_eq_true rfl) dX5_wrap_12 ⟨Nat.zero_le _, Nat.zero_le _⟩ ?_
    refine lv_istore (lv' := [(5, .int r2), (0, .ref (q 0)), (1, .int x1), (2, .int x2), (3, .int x3), (4, .int x4)]) hx hb dX5_wrap_15 hl (by decide) rfl (fun ls hl => ?_)
    refine lv_iload_n hx hb dX5_wrap_17 rfl (lv_at hl 3 rfl) ?_
    refine lv_iconst (v := iI 0) hx hb dX5_wrap_18 rfl ?_
    refine lv_iload hx hb dX5_wrap_19 (lv_at hl 0 rfl) ?_
    refine rcS (rest := []) X hKK hP 3 (zX5_in l D cI cC x2 (iI 0) r2 _ rfl) gX5_wrap_X5_in rfl rfl rfl hdX5_in ⟨Nat.le_of_ble_eq_true rfl, Nat.le_of_ble_eq_true rfl⟩ [] rfl rfl hl.1 rfl (Nat.le_of_ble_eq_true rfl) dX5_wrap_21 ⟨Nat.zero_le _, Nat.zero_le _⟩ ?_
    refine lv_if_eq (tgt := 47) hx hb dX5_wrap_24 (by decide) (fun c3 => ?_) (fun c3 => ?_)
    · replace h := ifp c3 h
      refine lv_bipush (v := iI (-2)) hx hb dX5_wrap_47 (by decide) ?_
      replace h := Option.some.inj h
      subst h
      exact mu_ret X rfl rfl hP rfl hS dX5_wrap_49
    · replace h := ifn c3 h
      refine lv_iload_n hx hb dX5_wrap_27 rfl (lv_at hl 4 rfl) ?_
      refine lv_iconst (v := iI 0) hx hb dX5_wrap_28 rfl ?_
      refine lv_iload hx hb dX5_wrap_29 (lv_at hl 0 rfl) ?_
      refine lv_iload_n hx hb dX5_wrap_31 rfl (lv_at hl 3 rfl) ?_
      refine lv_isub hx hb dX5_wrap_32 ?_
      refine rcS (rest := []) X hKK hP 3 (zX5_in l D cI cC x3 (iI 0) (r2 - x2) _ rfl) gX5_wrap_X5_in rfl rfl rfl hdX5_in ⟨Nat.le_of_ble_eq_true rfl, Nat.le_of_ble_eq_true rfl⟩ [] rfl rfl hl.1 rfl (Nat.le_of_ble_eq_true rfl) dX5_wrap_33 ⟨Nat.zero_le _, Nat.zero_le _⟩ ?_
      refine lv_if_eq (tgt := 47) hx hb dX5_wrap_36 (by decide) (fun c4 => ?_) (fun c4 => ?_)
      · replace h := ifp c4 h
        refine lv_bipush (v := iI (-2)) hx hb dX5_wrap_47 (by decide) ?_
        replace h := Option.some.inj h
        subst h
        exact mu_ret X rfl rfl hP rfl hS dX5_wrap_49
      · replace h := ifn c4 h
        refine lv_iload hx hb dX5_wrap_39 (lv_at hl 5 rfl) ?_
        refine rcS (rest := []) X hKK hP 1 (zX5_isLetter l D cI cC x4 _ rfl) gX5_wrap_X5_isLetter rfl rfl rfl hdX5_isLetter ⟨Nat.le_of_ble_eq_true rfl, Nat.le_of_ble_eq_true rfl⟩ [] rfl rfl hl.1 rfl (Nat.le_of_ble_eq_true rfl) dX5_wrap_41 ⟨Nat.zero_le _, Nat.zero_le _⟩ ?_
        refine lv_if_ne (tgt := 50) hx hb dX5_wrap_44 (by decide) (fun c5 => ?_) (fun c5 => ?_)
        · replace h := ifn c5 h
          refine lv_aload_n hx hb dX5_wrap_50 rfl (lv_at hl 1 rfl) ?_
          refine va_get (D := D) (ci := 5) (v := .int n) (C := RX5) (T := TX5) (N := 10) hx hb X.2.2.2.2.1 iwX5_wrap_5 X.2.2.2.1 hKK.1 hP 0 rfl rfl 0 (by decide) (X.2.2.2.2.1 _ flX5_wrap_29) (fun _ h9 => h9) rfl dX5_wrap_51 ?_
          refine lv_bipush (v := iI 100) hx hb dX5_wrap_54 (by decide) ?_
          refine lv_icmp_ne (tgt := 62) hx hb dX5_wrap_56 (by decide) (fun c6 => ?_) (fun c6 => ?_)
          · replace h := ifn c6 h
            refine lv_aload_n hx hb dX5_wrap_62 rfl (lv_at hl 1 rfl) ?_
            obtain ⟨r7, h_r7, h⟩ := obd h
            refine mcV (rest := []) (wld2 := (wM cI cC q n d lb r7.1 r7.2 ty tx rd rl wi)) (wr := pickAt [] (wM cI cC q n d lb kp kr ty tx rd rl wi)) X hKK hP hD hS hA 0 (zX5_keep l D cI cC q _ n d lb kp kr ty tx rd rl wi r7 h_r7) gX5_wrap_X5_keep rfl rfl rfl hdX5_keep ⟨Nat.le_of_ble_eq_true rfl, Nat.le_of_ble_eq_true rfl⟩ [0, 1, 2, 3, 4, 5, 6] [] rfl rfl rfl rfl rfl (by decide) rfl [0, 1, 2, 3, 4, 5, 6] rfl rfl rfl 0 rfl rfl rfl hl.1 rfl (Nat.le_of_ble_eq_true rfl) dX5_wrap_63 ⟨Nat.zero_le _, Nat.zero_le _⟩ (fun H locs hP hD hS => ?_)
            refine lv_aload_n hx hb dX5_wrap_66 rfl (lv_at hl 1 rfl) ?_
            refine lv_iload_n hx hb dX5_wrap_67 rfl (lv_at hl 2 rfl) ?_
            refine lv_iload_n hx hb dX5_wrap_68 rfl (lv_at hl 3 rfl) ?_
            obtain ⟨r8, h_r8, h⟩ := obd h
            refine rcV (rest := []) X hKK hP 2 (zX5_childOrEnd l D cI cC q n d lb r7.1 r7.2 ty tx rd rl wi x1 x2 r8 h_r8) gX5_wrap_X5_childOrEnd rfl rfl rfl hdX5_childOrEnd ⟨Nat.le_of_ble_eq_true rfl, Nat.le_of_ble_eq_true rfl⟩ [0, 1, 2, 3, 4, 5, 6] rfl 0 rfl rfl rfl hl.1 rfl (Nat.le_of_ble_eq_true rfl) dX5_wrap_69 ⟨Nat.zero_le _, Nat.zero_le _⟩ ?_
            refine lv_istore (lv' := [(6, .int r8), (5, .int r2), (0, .ref (q 0)), (1, .int x1), (2, .int x2), (3, .int x3), (4, .int x4)]) hx hb dX5_wrap_72 hl (by decide) rfl (fun ls hl => ?_)
            refine lv_aload_n hx hb dX5_wrap_74 rfl (lv_at hl 2 rfl) ?_
            refine lv_iload_n hx hb dX5_wrap_75 rfl (lv_at hl 3 rfl) ?_
            refine lv_iload_n hx hb dX5_wrap_76 rfl (lv_at hl 4 rfl) ?_
            refine lv_iload_n hx hb dX5_wrap_77 rfl (lv_at hl 5 rfl) ?_
            refine lv_iadd hx hb dX5_wrap_78 ?_
            obtain ⟨r9, h_r9, h⟩ := obd h
            refine rcV (rest := []) X hKK hP 2 (zX5_childOrEnd l D cI cC q n d lb r7.1 r7.2 ty tx rd rl wi x1 (x2 + x3) r9 h_r9) gX5_wrap_X5_childOrEnd rfl rfl rfl hdX5_childOrEnd ⟨Nat.le_of_ble_eq_true rfl, Nat.le_of_ble_eq_true rfl⟩ [0, 1, 2, 3, 4, 5, 6] rfl 0 rfl rfl rfl hl.1 rfl (Nat.le_of_ble_eq_true rfl) dX5_wrap_79 ⟨Nat.zero_le _, Nat.zero_le _⟩ ?_
            refine lv_istore (lv' := [(7, .int r9), (6, .int r8), (5, .int r2), (0, .ref (q 0)), (1, .int x1), (2, .int x2), (3, .int x3), (4, .int x4)]) hx hb dX5_wrap_82 hl (by decide) rfl (fun ls hl => ?_)
            refine lv_iload hx hb dX5_wrap_84 (lv_at hl 1 rfl) ?_
            refine lv_istore (lv' := [(8, .int r8), (7, .int r9), (6, .int r8), (5, .int r2), (0, .ref (q 0)), (1, .int x1), (2, .int x2), (3, .int x3), (4, .int x4)]) hx hb dX5_wrap_86 hl (by decide) rfl (fun ls hl => ?_)
            exact kX5_wrap_88 X hKK hA FU n d lb r7.1 r7.2 x1 x2 x3 x4 r2 r8 r9 r8 _ _ ls hP hD hS (lv_sub hl [4, 5, 6, 7, 8, 3, 2, 1, 0] rfl) h
          · replace h := ifp c6 h
            refine lv_bipush (v := iI (-4)) hx hb dX5_wrap_59 (by decide) ?_
            replace h := Option.some.inj h
            subst h
            exact mu_ret X rfl rfl hP rfl hS dX5_wrap_61
        · replace h := ifp c5 h
          refine lv_bipush (v := iI (-2)) hx hb dX5_wrap_47 (by decide) ?_
          replace h := Option.some.inj h
          subst h
          exact mu_ret X rfl rfl hP rfl hS dX5_wrap_49
  · replace h := ifn c1 h
    refine lv_iconst (v := iI (-1)) hx hb dX5_wrap_8 rfl ?_
    replace h := Option.some.inj h
    subst h
    exact mu_ret X rfl rfl hP rfl hS dX5_wrap_9
def mX5_remove_31 : Nat → Int32 → (Nat → Int32) → (Nat → Int32) → Int32 → (Nat → Int32) → Int32 → Int32 → Int32 → Option (Int32 × Int32 × (Nat → Int32) × (Nat → Int32) × Int32 × (Nat → Int32))
  | 0, _, _, _, _, _, _, _, _ => none
  | f + 1, n, d, lb, kp, kr, x1, x2, x3 => (if x2 ≤ x3 then ((mX5_take n d lb x1 (iI 1)).bind fun r6 => some (r6.1, r6.1, r6.2.1, r6.2.2, kp, kr)) else (if inb x3 100 then (if inb x3 100 then mX5_remove_31 f n (upd d x3.toNatClampNeg ((d x3.toNatClampNeg) - (iI 1))) lb kp kr x1 x2 (x3 + iI 1) else none) else none))
def mX5_remove (n : Int32) (d : Nat → Int32) (lb : Nat → Int32) (kp : Int32) (kr : Nat → Int32) (x1 : Int32) : Option (Int32 × Int32 × (Nat → Int32) × (Nat → Int32) × Int32 × (Nat → Int32)) := (if (mX5_noNode n x1) = 0 then (if x1 = 0 then some ((iI (-3)), n, d, lb, kp, kr) else ((mX5_keep n d lb kp kr).bind fun r3 => ((mX5_behind n d x1).bind fun r4 => mX5_remove_31 FU n d lb r3.1 r3.2 x1 r4 (x1 + (iI 1))))) else some ((iI (-1)), n, d, lb, kp, kr))
theorem hdX5_remove : yX5_remove.cls = RX5 ∧ yX5_remove.cls ≠ "java/lang/invoke/MethodHandle" ∧ yX5_remove.cls ≠ "java/lang/invoke/VarHandle" ∧ (parseMethodDescriptor yX5_remove.desc).map (fun d => d.parameters.length) = some 1 := by decide +kernel
theorem flX5_remove_29 : Cond.fieldLink RX5 29 "BracketTreeModel" "n" "I" ∈ wsX5_remove := by decide +kernel
theorem iwX5_remove_5 : ∀ w ∈ wsX50, w ∈ wsX5_remove := by decide +kernel
theorem flX5_remove_7 : Cond.fieldLink RX5 7 "BracketTreeModel" "depthOf" "[I" ∈ wsX5_remove := by decide +kernel
abbrev rmX5_remove : Room := { frames := 2, cells := 0, slots := 0, locals := 43 }
set_option maxHeartbeats 4000000 in
set_option maxRecDepth 100000 in
theorem kX5_remove_31 {p : Program} {l : Launch} {e : Env} {s : State} {m : MethodId} {args : Array Value} {below : List Frame} {meth : Method} {c : Code} {D : va_G} {cI cC : ClassId} {q : Nat → Nat} {ty : Int32} {tx : Nat → Int32} {rd : Nat → Int32} {rl : Nat → Int32} {wi : Int32} {r : Int32 × Int32 × (Nat → Int32) × (Nat → Int32) × Int32 × (Nat → Int32)} {A : Nat → Prop} (X : CX p s m args meth c wsX5_remove cX5_remove 4 (some .int) RX5) (hKK : KK D cI cC s) (hA : ∀ z, s.heap.size ≤ z → A z) : ∀ (f : Nat), ∀ (n : Int32) (d : Nat → Int32) (lb : Nat → Int32) (kp : Int32) (kr : Nat → Int32) (x1 : Int32) (x2 : Int32) (x3 : Int32) (H : Heap) (locs : List Loc) (ls : Array Slot), va_P D vwCl (wM cI cC q n d lb kp kr ty tx rd rl wi) H → va_D A (wM cI cC q n d lb kp kr ty tx rd rl wi) → va_S A s.heap H locs → lv_has ls 4 [(0, .ref (q 0)), (1, .int x1), (2, .int x2), (3, .int x3)] → mX5_remove_31 f n d lb kp kr x1 x2 x3 = some r → W p l e rmX5_remove s m args below meth c H locs 0 0 (MQ below (muQ D (some (.int r.1)) (wM cI cC q r.2.1 r.2.2.1 r.2.2.2.1 r.2.2.2.2.1 r.2.2.2.2.2 ty tx rd rl wi) A) args s 0 0 A) (F0 m 31 ls []) := by
  have hx := X.1
  have hb := X.2.1
  intro f
  induction f with
  | zero =>
    intro n d lb kp kr x1 x2 x3 H locs ls hP hD hS hl h
    exact absurd h (by unfold mX5_remove_31; intro h; cases h)
  | succ f ih =>
    intro n d lb kp kr x1 x2 x3 H locs ls hP hD hS hl h
    rw [mX5_remove_31] at h
    refine lv_iload_n hx hb dX5_remove_31 rfl (lv_at hl 3 rfl) ?_
    refine lv_iload_n hx hb dX5_remove_32 rfl (lv_at hl 2 rfl) ?_
    refine lv_icmp_ge (tgt := 52) hx hb dX5_remove_33 (by decide) (fun c5 => ?_) (fun c5 => ?_)
    · replace h := ifp c5 h
      refine lv_aload_n hx hb dX5_remove_52 rfl (lv_at hl 0 rfl) ?_
      refine lv_iload_n hx hb dX5_remove_53 rfl (lv_at hl 1 rfl) ?_
      refine lv_iconst (v := iI 1) hx hb dX5_remove_54 rfl ?_
      obtain ⟨r6, h_r6, h⟩ := obd h
      refine mcV (rest := []) (wld2 := (wM cI cC q r6.1 r6.2.1 r6.2.2 kp kr ty tx rd rl wi)) (wr := pickAt [] (wM cI cC q n d lb kp kr ty tx rd rl wi)) X hKK hP hD hS hA 2 (zX5_take l D cI cC q _ n d lb kp kr ty tx rd rl wi x1 (iI 1) r6 h_r6) gX5_remove_X5_take rfl rfl rfl hdX5_take ⟨Nat.le_of_ble_eq_true rfl, Nat.le_of_ble_eq_true rfl⟩ [0, 1, 2, 3, 4, 5, 6] [] rfl rfl rfl rfl rfl (by decide) rfl [0, 1, 2, 3, 4, 5, 6] rfl rfl rfl 0 rfl rfl rfl hl.1 rfl (Nat.le_of_ble_eq_true rfl) dX5_remove_55 ⟨Nat.zero_le _, Nat.zero_le _⟩ (fun H locs hP hD hS => ?_)
      refine lv_aload_n hx hb dX5_remove_58 rfl (lv_at hl 0 rfl) ?_
      refine va_get (D := D) (ci := 5) (v := .int r6.1) (C := RX5) (T := TX5) (N := 10) hx hb X.2.2.2.2.1 iwX5_remove_5 X.2.2.2.1 hKK.1 hP 0 rfl rfl 0 (by decide) (X.2.2.2.2.1 _ flX5_remove_29) (fun _ h9 => h9) rfl dX5_remove_59 ?_
      replace h := Option.some.inj h
      subst h
      exact mu_ret X rfl rfl hP rfl hS dX5_remove_62
    · replace h := ifn c5 h
      refine lv_aload_n hx hb dX5_remove_36 rfl (lv_at hl 0 rfl) ?_
      refine va_get (D := D) (ci := 5) (v := .ref (q 1)) (C := RX5) (T := TX5) (N := 10) hx hb X.2.2.2.2.1 iwX5_remove_5 X.2.2.2.1 hKK.1 hP 0 rfl rfl 1 (by decide) (X.2.2.2.2.1 _ flX5_remove_7) (fun _ h9 => h9) rfl dX5_remove_37 ?_
      refine lv_iload_n hx hb dX5_remove_40 rfl (lv_at hl 3 rfl) ?_
      refine lv_dup2_11 hx hb dX5_remove_41 rfl rfl ?_
      obtain ⟨g7, h⟩ := asr h
      refine va_iald hx hb hKK.1 hP 1 0 rfl rfl g7 dX5_remove_42 ?_
      refine lv_iconst (v := iI 1) hx hb dX5_remove_43 rfl ?_
      refine lv_isub hx hb dX5_remove_44 ?_
      obtain ⟨g8, h⟩ := asr h
      refine va_iast hx hb hKK.1 hP hD hS 1 0 rfl rfl g8 dX5_remove_45 (fun H locs hP hD hS => ?_)
      replace hP : va_P D vwCl (wM cI cC q n (upd d x3.toNatClampNeg ((d x3.toNatClampNeg) - (iI 1))) lb kp kr ty tx rd rl wi) H := hP
      replace hD : va_D A (wM cI cC q n (upd d x3.toNatClampNeg ((d x3.toNatClampNeg) - (iI 1))) lb kp kr ty tx rd rl wi) := hD
      refine lv_iinc (v := (x3 + iI 1)) (lv' := [(3, .int (x3 + iI 1)), (0, .ref (q 0)), (1, .int x1), (2, .int x2)]) hx hb dX5_remove_46 hl (k := 3) rfl rfl (by decide) rfl (fun ls hl => ?_)
      refine lv_goto (tgt := 31) hx hb dX5_remove_49 (by decide) ?_
      exact ih n (upd d x3.toNatClampNeg ((d x3.toNatClampNeg) - (iI 1))) lb kp kr x1 x2 (x3 + iI 1) _ _ ls hP hD hS (lv_sub hl [1, 2, 3, 0] rfl) h
set_option maxHeartbeats 4000000 in
set_option maxRecDepth 100000 in
theorem zX5_remove (l : Launch) (D : va_G) (cI cC : ClassId) (q : Nat → Nat) (sz : Nat) (n : Int32) (d : Nat → Int32) (lb : Nat → Int32) (kp : Int32) (kr : Nat → Int32) (ty : Int32) (tx : Nat → Int32) (rd : Nat → Int32) (rl : Nat → Int32) (wi : Int32) (x1 : Int32) (r : Int32 × Int32 × (Nat → Int32) × (Nat → Int32) × Int32 × (Nat → Int32)) (h : mX5_remove n d lb kp kr x1 = some r) : Met l yX5_remove wsX5_remove rmX5_remove (va_Pc [.ref (q 0), .int x1] (MB D cI cC sz (wM cI cC q n d lb kp kr ty tx rd rl wi))) (muQ D (some (.int r.1)) (wM cI cC q r.2.1 r.2.2.1 r.2.2.2.1 r.2.2.2.2.1 r.2.2.2.2.2 ty tx rd rl wi) (va_A (wM cI cC q n d lb kp kr ty tx rd rl wi) sz)) 0 0 (va_A (wM cI cC q n d lb kp kr ty tx rd rl wi) sz) := by
  refine MetI RX5 (by decide +kernel) rfl rfl (Nat.le_of_ble_eq_true rfl) ?_
  intro p e s m below meth c ls X _ hB hl
  obtain ⟨hsz, ⟨hP, hKK⟩, hD0⟩ := hB
  subst hsz
  have hD := hD0.self (sz := s.heap.size)
  generalize hAe : va_A (wM cI cC q n d lb kp kr ty tx rd rl wi) s.heap.size = A at hD ⊢
  have hA : ∀ z : Nat, s.heap.size ≤ z → A z := fun z hz => by rw [← hAe]; exact Or.inr hz
  have hS : va_S A s.heap s.heap [] := va_S.rf
  have hx := X.1
  have hb := X.2.1
  replace hl : lv_has ls 4 [(0, .ref (q 0)), (1, .int x1)] := hl
  replace hP : va_P D vwCl (wM cI cC q n d lb kp kr ty tx rd rl wi) s.heap := hP
  unfold mX5_remove at h
  refine lv_aload_n hx hb dX5_remove_0 rfl (lv_at hl 0 rfl) ?_
  refine lv_iload_n hx hb dX5_remove_1 rfl (lv_at hl 1 rfl) ?_
  refine rcV (rest := []) X hKK hP 1 (zX5_noNode l D cI cC q n d lb kp kr ty tx rd rl wi x1 _ rfl) gX5_remove_X5_noNode rfl rfl rfl hdX5_noNode ⟨Nat.le_of_ble_eq_true rfl, Nat.le_of_ble_eq_true rfl⟩ [0, 1, 2, 3, 4, 5, 6] rfl 0 rfl rfl rfl hl.1 rfl (Nat.le_of_ble_eq_true rfl) dX5_remove_2 ⟨Nat.zero_le _, Nat.zero_le _⟩ ?_
  refine lv_if_eq (tgt := 10) hx hb dX5_remove_5 (by decide) (fun c1 => ?_) (fun c1 => ?_)
  · replace h := ifp c1 h
    refine lv_iload_n hx hb dX5_remove_10 rfl (lv_at hl 1 rfl) ?_
    refine lv_if_ne (tgt := 17) hx hb dX5_remove_11 (by decide) (fun c2 => ?_) (fun c2 => ?_)
    · replace h := ifn c2 h
      refine lv_aload_n hx hb dX5_remove_17 rfl (lv_at hl 0 rfl) ?_
      obtain ⟨r3, h_r3, h⟩ := obd h
      refine mcV (rest := []) (wld2 := (wM cI cC q n d lb r3.1 r3.2 ty tx rd rl wi)) (wr := pickAt [] (wM cI cC q n d lb kp kr ty tx rd rl wi)) X hKK hP hD hS hA 0 (zX5_keep l D cI cC q _ n d lb kp kr ty tx rd rl wi r3 h_r3) gX5_remove_X5_keep rfl rfl rfl hdX5_keep ⟨Nat.le_of_ble_eq_true rfl, Nat.le_of_ble_eq_true rfl⟩ [0, 1, 2, 3, 4, 5, 6] [] rfl rfl rfl rfl rfl (by decide) rfl [0, 1, 2, 3, 4, 5, 6] rfl rfl rfl 0 rfl rfl rfl hl.1 rfl (Nat.le_of_ble_eq_true rfl) dX5_remove_18 ⟨Nat.zero_le _, Nat.zero_le _⟩ (fun H locs hP hD hS => ?_)
      refine lv_aload_n hx hb dX5_remove_21 rfl (lv_at hl 0 rfl) ?_
      refine lv_iload_n hx hb dX5_remove_22 rfl (lv_at hl 1 rfl) ?_
      obtain ⟨r4, h_r4, h⟩ := obd h
      refine rcV (rest := []) X hKK hP 1 (zX5_behind l D cI cC q n d lb r3.1 r3.2 ty tx rd rl wi x1 r4 h_r4) gX5_remove_X5_behind rfl rfl rfl hdX5_behind ⟨Nat.le_of_ble_eq_true rfl, Nat.le_of_ble_eq_true rfl⟩ [0, 1, 2, 3, 4, 5, 6] rfl 0 rfl rfl rfl hl.1 rfl (Nat.le_of_ble_eq_true rfl) dX5_remove_23 ⟨Nat.zero_le _, Nat.zero_le _⟩ ?_
      refine lv_istore_n (lv' := [(2, .int r4), (0, .ref (q 0)), (1, .int x1)]) hx hb dX5_remove_26 rfl hl (by decide) rfl (fun ls hl => ?_)
      refine lv_iload_n hx hb dX5_remove_27 rfl (lv_at hl 2 rfl) ?_
      refine lv_iconst (v := iI 1) hx hb dX5_remove_28 rfl ?_
      refine lv_iadd hx hb dX5_remove_29 ?_
      refine lv_istore_n (lv' := [(3, .int (x1 + (iI 1))), (2, .int r4), (0, .ref (q 0)), (1, .int x1)]) hx hb dX5_remove_30 rfl hl (by decide) rfl (fun ls hl => ?_)
      exact kX5_remove_31 X hKK hA FU n d lb r3.1 r3.2 x1 r4 (x1 + (iI 1)) _ _ ls hP hD hS (lv_sub hl [2, 3, 1, 0] rfl) h
    · replace h := ifp c2 h
      refine lv_bipush (v := iI (-3)) hx hb dX5_remove_14 (by decide) ?_
      replace h := Option.some.inj h
      subst h
      exact mu_ret X rfl rfl hP rfl hS dX5_remove_16
  · replace h := ifn c1 h
    refine lv_iconst (v := iI (-1)) hx hb dX5_remove_8 rfl ?_
    replace h := Option.some.inj h
    subst h
    exact mu_ret X rfl rfl hP rfl hS dX5_remove_9
def mX5_cut (n : Int32) (d : Nat → Int32) (lb : Nat → Int32) (kp : Int32) (kr : Nat → Int32) (x1 : Int32) : Option (Int32 × Int32 × (Nat → Int32) × (Nat → Int32) × Int32 × (Nat → Int32)) := (if (mX5_noNode n x1) = 0 then (if x1 = 0 then some ((iI (-3)), n, d, lb, kp, kr) else ((mX5_keep n d lb kp kr).bind fun r3 => ((mX5_behind n d x1).bind fun r4 => ((mX5_take n d lb x1 (r4 - x1)).bind fun r5 => some (r5.1, r5.1, r5.2.1, r5.2.2, r3.1, r3.2))))) else some ((iI (-1)), n, d, lb, kp, kr))
theorem hdX5_cut : yX5_cut.cls = RX5 ∧ yX5_cut.cls ≠ "java/lang/invoke/MethodHandle" ∧ yX5_cut.cls ≠ "java/lang/invoke/VarHandle" ∧ (parseMethodDescriptor yX5_cut.desc).map (fun d => d.parameters.length) = some 1 := by decide +kernel
theorem flX5_cut_29 : Cond.fieldLink RX5 29 "BracketTreeModel" "n" "I" ∈ wsX5_cut := by decide +kernel
theorem iwX5_cut_5 : ∀ w ∈ wsX50, w ∈ wsX5_cut := by decide +kernel
abbrev rmX5_cut : Room := { frames := 2, cells := 0, slots := 0, locals := 43 }
set_option maxHeartbeats 4000000 in
set_option maxRecDepth 100000 in
theorem zX5_cut (l : Launch) (D : va_G) (cI cC : ClassId) (q : Nat → Nat) (sz : Nat) (n : Int32) (d : Nat → Int32) (lb : Nat → Int32) (kp : Int32) (kr : Nat → Int32) (ty : Int32) (tx : Nat → Int32) (rd : Nat → Int32) (rl : Nat → Int32) (wi : Int32) (x1 : Int32) (r : Int32 × Int32 × (Nat → Int32) × (Nat → Int32) × Int32 × (Nat → Int32)) (h : mX5_cut n d lb kp kr x1 = some r) : Met l yX5_cut wsX5_cut rmX5_cut (va_Pc [.ref (q 0), .int x1] (MB D cI cC sz (wM cI cC q n d lb kp kr ty tx rd rl wi))) (muQ D (some (.int r.1)) (wM cI cC q r.2.1 r.2.2.1 r.2.2.2.1 r.2.2.2.2.1 r.2.2.2.2.2 ty tx rd rl wi) (va_A (wM cI cC q n d lb kp kr ty tx rd rl wi) sz)) 0 0 (va_A (wM cI cC q n d lb kp kr ty tx rd rl wi) sz) := by
  refine MetI RX5 (by decide +kernel) rfl rfl (Nat.le_of_ble_eq_true rfl) ?_
  intro p e s m below meth c ls X _ hB hl
  obtain ⟨hsz, ⟨hP, hKK⟩, hD0⟩ := hB
  subst hsz
  have hD := hD0.self (sz := s.heap.size)
  generalize hAe : va_A (wM cI cC q n d lb kp kr ty tx rd rl wi) s.heap.size = A at hD ⊢
  have hA : ∀ z : Nat, s.heap.size ≤ z → A z := fun z hz => by rw [← hAe]; exact Or.inr hz
  have hS : va_S A s.heap s.heap [] := va_S.rf
  have hx := X.1
  have hb := X.2.1
  replace hl : lv_has ls 2 [(0, .ref (q 0)), (1, .int x1)] := hl
  replace hP : va_P D vwCl (wM cI cC q n d lb kp kr ty tx rd rl wi) s.heap := hP
  unfold mX5_cut at h
  refine lv_aload_n hx hb dX5_cut_0 rfl (lv_at hl 0 rfl) ?_
  refine lv_iload_n hx hb dX5_cut_1 rfl (lv_at hl 1 rfl) ?_
  refine rcV (rest := []) X hKK hP 1 (zX5_noNode l D cI cC q n d lb kp kr ty tx rd rl wi x1 _ rfl) gX5_cut_X5_noNode rfl rfl rfl hdX5_noNode ⟨Nat.le_of_ble_eq_true rfl, Nat.le_of_ble_eq_true rfl⟩ [0, 1, 2, 3, 4, 5, 6] rfl 0 rfl rfl rfl hl.1 rfl (Nat.le_of_ble_eq_true rfl) dX5_cut_2 ⟨Nat.zero_le _, Nat.zero_le _⟩ ?_
  refine lv_if_eq (tgt := 10) hx hb dX5_cut_5 (by decide) (fun c1 => ?_) (fun c1 => ?_)
  · replace h := ifp c1 h
    refine lv_iload_n hx hb dX5_cut_10 rfl (lv_at hl 1 rfl) ?_
    refine lv_if_ne (tgt := 17) hx hb dX5_cut_11 (by decide) (fun c2 => ?_) (fun c2 => ?_)
    · replace h := ifn c2 h
      refine lv_aload_n hx hb dX5_cut_17 rfl (lv_at hl 0 rfl) ?_
      obtain ⟨r3, h_r3, h⟩ := obd h
      refine mcV (rest := []) (wld2 := (wM cI cC q n d lb r3.1 r3.2 ty tx rd rl wi)) (wr := pickAt [] (wM cI cC q n d lb kp kr ty tx rd rl wi)) X hKK hP hD hS hA 0 (zX5_keep l D cI cC q _ n d lb kp kr ty tx rd rl wi r3 h_r3) gX5_cut_X5_keep rfl rfl rfl hdX5_keep ⟨Nat.le_of_ble_eq_true rfl, Nat.le_of_ble_eq_true rfl⟩ [0, 1, 2, 3, 4, 5, 6] [] rfl rfl rfl rfl rfl (by decide) rfl [0, 1, 2, 3, 4, 5, 6] rfl rfl rfl 0 rfl rfl rfl hl.1 rfl (Nat.le_of_ble_eq_true rfl) dX5_cut_18 ⟨Nat.zero_le _, Nat.zero_le _⟩ (fun H locs hP hD hS => ?_)
      refine lv_aload_n hx hb dX5_cut_21 rfl (lv_at hl 0 rfl) ?_
      refine lv_iload_n hx hb dX5_cut_22 rfl (lv_at hl 1 rfl) ?_
      refine lv_aload_n hx hb dX5_cut_23 rfl (lv_at hl 0 rfl) ?_
      refine lv_iload_n hx hb dX5_cut_24 rfl (lv_at hl 1 rfl) ?_
      obtain ⟨r4, h_r4, h⟩ := obd h
      refine rcV (rest := [.int x1, .ref (q 0)]) X hKK hP 1 (zX5_behind l D cI cC q n d lb r3.1 r3.2 ty tx rd rl wi x1 r4 h_r4) gX5_cut_X5_behind rfl rfl rfl hdX5_behind ⟨Nat.le_of_ble_eq_true rfl, Nat.le_of_ble_eq_true rfl⟩ [0, 1, 2, 3, 4, 5, 6] rfl 0 rfl rfl rfl hl.1 rfl (Nat.le_of_ble_eq_true rfl) dX5_cut_25 ⟨Nat.zero_le _, Nat.zero_le _⟩ ?_
      refine lv_iload_n hx hb dX5_cut_28 rfl (lv_at hl 1 rfl) ?_
      refine lv_isub hx hb dX5_cut_29 ?_
      obtain ⟨r5, h_r5, h⟩ := obd h
      refine mcV (rest := []) (wld2 := (wM cI cC q r5.1 r5.2.1 r5.2.2 r3.1 r3.2 ty tx rd rl wi)) (wr := pickAt [] (wM cI cC q n d lb r3.1 r3.2 ty tx rd rl wi)) X hKK hP hD hS hA 2 (zX5_take l D cI cC q _ n d lb r3.1 r3.2 ty tx rd rl wi x1 (r4 - x1) r5 h_r5) gX5_cut_X5_take rfl rfl rfl hdX5_take ⟨Nat.le_of_ble_eq_true rfl, Nat.le_of_ble_eq_true rfl⟩ [0, 1, 2, 3, 4, 5, 6] [] rfl rfl rfl rfl rfl (by decide) rfl [0, 1, 2, 3, 4, 5, 6] rfl rfl rfl 0 rfl rfl rfl hl.1 rfl (Nat.le_of_ble_eq_true rfl) dX5_cut_30 ⟨Nat.zero_le _, Nat.zero_le _⟩ (fun H locs hP hD hS => ?_)
      refine lv_aload_n hx hb dX5_cut_33 rfl (lv_at hl 0 rfl) ?_
      refine va_get (D := D) (ci := 5) (v := .int r5.1) (C := RX5) (T := TX5) (N := 10) hx hb X.2.2.2.2.1 iwX5_cut_5 X.2.2.2.1 hKK.1 hP 0 rfl rfl 0 (by decide) (X.2.2.2.2.1 _ flX5_cut_29) (fun _ h9 => h9) rfl dX5_cut_34 ?_
      replace h := Option.some.inj h
      subst h
      exact mu_ret X rfl rfl hP rfl hS dX5_cut_37
    · replace h := ifp c2 h
      refine lv_bipush (v := iI (-3)) hx hb dX5_cut_14 (by decide) ?_
      replace h := Option.some.inj h
      subst h
      exact mu_ret X rfl rfl hP rfl hS dX5_cut_16
  · replace h := ifn c1 h
    refine lv_iconst (v := iI (-1)) hx hb dX5_cut_8 rfl ?_
    replace h := Option.some.inj h
    subst h
    exact mu_ret X rfl rfl hP rfl hS dX5_cut_9
def mX5_move_171 : Nat → Int32 → (Nat → Int32) → (Nat → Int32) → Int32 → (Nat → Int32) → (Nat → Int32) → (Nat → Int32) → Int32 → Int32 → Int32 → Int32 → Int32 → Int32 → Int32 → Int32 → Int32 → Option (Int32 × Int32 × (Nat → Int32) × (Nat → Int32) × Int32 × (Nat → Int32) × (Nat → Int32) × (Nat → Int32))
  | 0, _, _, _, _, _, _, _, _, _, _, _, _, _, _, _, _ => none
  | f + 1, n, d, lb, kp, kr, rd, rl, x1, x2, x3, x4, x5, x6, x7, x8, x9 => (if x5 ≤ x9 then some (x8, n, d, lb, kp, kr, rd, rl) else (if inb x9 100 then (if inb x7 100 then (if inb x9 100 then ((mX5_put n d lb (x8 + x9) (((rd x9.toNatClampNeg) + (d x7.toNatClampNeg)) + (iI 1)) (rl x9.toNatClampNeg)).bind fun r29 => mX5_move_171 f r29.1 r29.2.1 r29.2.2 kp kr rd rl x1 x2 x3 x4 x5 x6 x7 x8 (x9 + iI 1)) else none) else none) else none))
def mX5_move_89 : Nat → Int32 → (Nat → Int32) → (Nat → Int32) → Int32 → (Nat → Int32) → (Nat → Int32) → (Nat → Int32) → Int32 → Int32 → Int32 → Int32 → Int32 → Int32 → Int32 → Option (Int32 × Int32 × (Nat → Int32) × (Nat → Int32) × Int32 × (Nat → Int32) × (Nat → Int32) × (Nat → Int32))
  | 0, _, _, _, _, _, _, _, _, _, _, _, _, _, _ => none
  | f + 1, n, d, lb, kp, kr, rd, rl, x1, x2, x3, x4, x5, x6, x7 => (if x5 ≤ x7 then ((mX5_take n d lb x1 x5).bind fun r17 => (if x2 ≤ x1 then ((mX5_childOrEnd r17.1 r17.2.1 x2 x3).bind fun r19 => mX5_move_171 FU r17.1 r17.2.1 r17.2.2 kp kr rd rl x1 x2 x3 x4 x5 x6 x2 r19 (iI 0)) else ((mX5_childOrEnd r17.1 r17.2.1 (x2 - x5) x3).bind fun r20 => mX5_move_171 FU r17.1 r17.2.1 r17.2.2 kp kr rd rl x1 x2 x3 x4 x5 x6 (x2 - x5) r20 (iI 0)))) else (if inb (x1 + x7) 100 then (if inb x7 100 then (if inb (x1 + x7) 100 then (if inb x7 100 then mX5_move_89 f n d lb kp kr (upd rd x7.toNatClampNeg ((d (x1 + x7).toNatClampNeg) - x6)) (upd rl x7.toNatClampNeg (vp_nar .char (lb (x1 + x7).toNatClampNeg))) x1 x2 x3 x4 x5 x6 (x7 + iI 1) else none) else none) else none) else none))
def mX5_move (n : Int32) (d : Nat → Int32) (lb : Nat → Int32) (kp : Int32) (kr : Nat → Int32) (rd : Nat → Int32) (rl : Nat → Int32) (x1 : Int32) (x2 : Int32) (x3 : Int32) : Option (Int32 × Int32 × (Nat → Int32) × (Nat → Int32) × Int32 × (Nat → Int32) × (Nat → Int32) × (Nat → Int32)) := (if (mX5_noNode n x1) = 0 then (if (mX5_noNode n x2) = 0 then ((mX5_holds n d x1 x2).bind fun r3 => (if r3 = 0 then ((mX5_childCount n d x2).bind fun r5 => ((mX5_parentOf d x1).bind fun r6 => (if r6 = x2 then (if (mX5_in x3 (iI 0) (r5 - (iI 1))) = 0 then some ((iI (-2)), n, d, lb, kp, kr, rd, rl) else ((mX5_keep n d lb kp kr).bind fun r13 => ((mX5_behind n d x1).bind fun r14 => (if inb x1 100 then mX5_move_89 FU n d lb r13.1 r13.2 rd rl x1 x2 x3 (r5 - (iI 1)) (r14 - x1) (d x1.toNatClampNeg) (iI 0) else none)))) else (if (mX5_in x3 (iI 0) (r5 - (iI 0))) = 0 then some ((iI (-2)), n, d, lb, kp, kr, rd, rl) else ((mX5_keep n d lb kp kr).bind fun r9 => ((mX5_behind n d x1).bind fun r10 => (if inb x1 100 then mX5_move_89 FU n d lb r9.1 r9.2 rd rl x1 x2 x3 (r5 - (iI 0)) (r10 - x1) (d x1.toNatClampNeg) (iI 0) else none))))))) else some ((iI (-3)), n, d, lb, kp, kr, rd, rl))) else some ((iI (-1)), n, d, lb, kp, kr, rd, rl)) else some ((iI (-1)), n, d, lb, kp, kr, rd, rl))
theorem hdX5_move : yX5_move.cls = RX5 ∧ yX5_move.cls ≠ "java/lang/invoke/MethodHandle" ∧ yX5_move.cls ≠ "java/lang/invoke/VarHandle" ∧ (parseMethodDescriptor yX5_move.desc).map (fun d => d.parameters.length) = some 3 := by decide +kernel
theorem flX5_move_7 : Cond.fieldLink RX5 7 "BracketTreeModel" "depthOf" "[I" ∈ wsX5_move := by decide +kernel
theorem iwX5_move_5 : ∀ w ∈ wsX50, w ∈ wsX5_move := by decide +kernel
theorem flX5_move_23 : Cond.fieldLink RX5 23 "BracketTreeModel" "readDepth" "[I" ∈ wsX5_move := by decide +kernel
theorem flX5_move_26 : Cond.fieldLink RX5 26 "BracketTreeModel" "readLabel" "[C" ∈ wsX5_move := by decide +kernel
theorem flX5_move_13 : Cond.fieldLink RX5 13 "BracketTreeModel" "labelOf" "[C" ∈ wsX5_move := by decide +kernel
abbrev rmX5_move : Room := { frames := 2, cells := 0, slots := 0, locals := 47 }
set_option maxHeartbeats 4000000 in
set_option maxRecDepth 100000 in
theorem kX5_move_171 {p : Program} {l : Launch} {e : Env} {s : State} {m : MethodId} {args : Array Value} {below : List Frame} {meth : Method} {c : Code} {D : va_G} {cI cC : ClassId} {q : Nat → Nat} {ty : Int32} {tx : Nat → Int32} {wi : Int32} {r : Int32 × Int32 × (Nat → Int32) × (Nat → Int32) × Int32 × (Nat → Int32) × (Nat → Int32) × (Nat → Int32)} {A : Nat → Prop} (X : CX p s m args meth c wsX5_move cX5_move 10 (some .int) RX5) (hKK : KK D cI cC s) (hA : ∀ z, s.heap.size ≤ z → A z) : ∀ (f : Nat), ∀ (n : Int32) (d : Nat → Int32) (lb : Nat → Int32) (kp : Int32) (kr : Nat → Int32) (rd : Nat → Int32) (rl : Nat → Int32) (x1 : Int32) (x2 : Int32) (x3 : Int32) (x4 : Int32) (x5 : Int32) (x6 : Int32) (x7 : Int32) (x8 : Int32) (x9 : Int32) (H : Heap) (locs : List Loc) (ls : Array Slot), va_P D vwCl (wM cI cC q n d lb kp kr ty tx rd rl wi) H → va_D A (wM cI cC q n d lb kp kr ty tx rd rl wi) → va_S A s.heap H locs → lv_has ls 10 [(0, .ref (q 0)), (1, .int x1), (2, .int x2), (3, .int x3), (4, .int x4), (5, .int x5), (6, .int x6), (7, .int x7), (8, .int x8), (9, .int x9)] → mX5_move_171 f n d lb kp kr rd rl x1 x2 x3 x4 x5 x6 x7 x8 x9 = some r → W p l e rmX5_move s m args below meth c H locs 0 0 (MQ below (muQ D (some (.int r.1)) (wM cI cC q r.2.1 r.2.2.1 r.2.2.2.1 r.2.2.2.2.1 r.2.2.2.2.2.1 ty tx r.2.2.2.2.2.2.1 r.2.2.2.2.2.2.2 wi) A) args s 0 0 A) (F0 m 171 ls []) := by
  have hx := X.1
  have hb := X.2.1
  intro f
  induction f with
  | zero =>
    intro n d lb kp kr rd rl x1 x2 x3 x4 x5 x6 x7 x8 x9 H locs ls hP hD hS hl h
    exact absurd h (by unfold mX5_move_171; intro h; cases h)
  | succ f ih =>
    intro n d lb kp kr rd rl x1 x2 x3 x4 x5 x6 x7 x8 x9 H locs ls hP hD hS hl h
    rw [mX5_move_171] at h
    refine lv_iload hx hb dX5_move_171 (lv_at hl 9 rfl) ?_
    refine lv_iload hx hb dX5_move_173 (lv_at hl 5 rfl) ?_
    refine lv_icmp_ge (tgt := 217) hx hb dX5_move_175 (by decide) (fun c25 => ?_) (fun c25 => ?_)
    · replace h := ifp c25 h
      refine lv_iload hx hb dX5_move_217 (lv_at hl 8 rfl) ?_
      replace h := Option.some.inj h
      subst h
      exact mu_ret X rfl rfl hP rfl hS dX5_move_219
    · replace h := ifn c25 h
      refine lv_aload_n hx hb dX5_move_178 rfl (lv_at hl 0 rfl) ?_
      refine lv_iload hx hb dX5_move_179 (lv_at hl 8 rfl) ?_
      refine lv_iload hx hb dX5_move_181 (lv_at hl 9 rfl) ?_
      refine lv_iadd hx hb dX5_move_183 ?_
      refine lv_aload_n hx hb dX5_move_184 rfl (lv_at hl 0 rfl) ?_
      refine va_get (D := D) (ci := 5) (v := .ref (q 5)) (C := RX5) (T := TX5) (N := 10) hx hb X.2.2.2.2.1 iwX5_move_5 X.2.2.2.1 hKK.1 hP 0 rfl rfl 7 (by decide) (X.2.2.2.2.1 _ flX5_move_23) (fun _ h9 => h9) rfl dX5_move_185 ?_
      refine lv_iload hx hb dX5_move_188 (lv_at hl 9 rfl) ?_
      obtain ⟨g26, h⟩ := asr h
      refine va_iald hx hb hKK.1 hP 5 0 rfl rfl g26 dX5_move_190 ?_
      refine lv_aload_n hx hb dX5_move_191 rfl (lv_at hl 0 rfl) ?_
      refine va_get (D := D) (ci := 5) (v := .ref (q 1)) (C := RX5) (T := TX5) (N := 10) hx hb X.2.2.2.2.1 iwX5_move_5 X.2.2.2.1 hKK.1 hP 0 rfl rfl 1 (by decide) (X.2.2.2.2.1 _ flX5_move_7) (fun _ h9 => h9) rfl dX5_move_192 ?_
      refine lv_iload hx hb dX5_move_195 (lv_at hl 7 rfl) ?_
      obtain ⟨g27, h⟩ := asr h
      refine va_iald hx hb hKK.1 hP 1 0 rfl rfl g27 dX5_move_197 ?_
      refine lv_iadd hx hb dX5_move_198 ?_
      refine lv_iconst (v := iI 1) hx hb dX5_move_199 rfl ?_
      refine lv_iadd hx hb dX5_move_200 ?_
      refine lv_aload_n hx hb dX5_move_201 rfl (lv_at hl 0 rfl) ?_
      refine va_get (D := D) (ci := 5) (v := .ref (q 6)) (C := RX5) (T := TX5) (N := 10) hx hb X.2.2.2.2.1 iwX5_move_5 X.2.2.2.1 hKK.1 hP 0 rfl rfl 8 (by decide) (X.2.2.2.2.1 _ flX5_move_26) (fun _ h9 => h9) rfl dX5_move_202 ?_
      refine lv_iload hx hb dX5_move_205 (lv_at hl 9 rfl) ?_
      obtain ⟨g28, h⟩ := asr h
      refine va_cald hx hb hKK.1 hP 6 1 rfl rfl g28 dX5_move_207 ?_
      obtain ⟨r29, h_r29, h⟩ := obd h
      refine mcV (rest := []) (wld2 := (wM cI cC q r29.1 r29.2.1 r29.2.2 kp kr ty tx rd rl wi)) (wr := pickAt [] (wM cI cC q n d lb kp kr ty tx rd rl wi)) X hKK hP hD hS hA 3 (zX5_put l D cI cC q _ n d lb kp kr ty tx rd rl wi (x8 + x9) (((rd x9.toNatClampNeg) + (d x7.toNatClampNeg)) + (iI 1)) (rl x9.toNatClampNeg) r29 h_r29) gX5_move_X5_put rfl rfl rfl hdX5_put ⟨Nat.le_of_ble_eq_true rfl, Nat.le_of_ble_eq_true rfl⟩ [0, 1, 2, 3, 4, 5, 6] [] rfl rfl rfl rfl rfl (by decide) rfl [0, 1, 2, 3, 4, 5, 6] rfl rfl rfl 0 rfl rfl rfl hl.1 rfl (Nat.le_of_ble_eq_true rfl) dX5_move_208 ⟨Nat.zero_le _, Nat.zero_le _⟩ (fun H locs hP hD hS => ?_)
      refine lv_iinc (v := (x9 + iI 1)) (lv' := [(9, .int (x9 + iI 1)), (0, .ref (q 0)), (1, .int x1), (2, .int x2), (3, .int x3), (4, .int x4), (5, .int x5), (6, .int x6), (7, .int x7), (8, .int x8)]) hx hb dX5_move_211 hl (k := 9) rfl rfl (by decide) rfl (fun ls hl => ?_)
      refine lv_goto (tgt := 171) hx hb dX5_move_214 (by decide) ?_
      exact ih r29.1 r29.2.1 r29.2.2 kp kr rd rl x1 x2 x3 x4 x5 x6 x7 x8 (x9 + iI 1) _ _ ls hP hD hS (lv_sub hl [1, 2, 3, 4, 5, 6, 7, 8, 9, 0] rfl) h
set_option maxHeartbeats 4000000 in
set_option maxRecDepth 100000 in
theorem kX5_move_89 {p : Program} {l : Launch} {e : Env} {s : State} {m : MethodId} {args : Array Value} {below : List Frame} {meth : Method} {c : Code} {D : va_G} {cI cC : ClassId} {q : Nat → Nat} {ty : Int32} {tx : Nat → Int32} {wi : Int32} {r : Int32 × Int32 × (Nat → Int32) × (Nat → Int32) × Int32 × (Nat → Int32) × (Nat → Int32) × (Nat → Int32)} {A : Nat → Prop} (X : CX p s m args meth c wsX5_move cX5_move 10 (some .int) RX5) (hKK : KK D cI cC s) (hA : ∀ z, s.heap.size ≤ z → A z) : ∀ (f : Nat), ∀ (n : Int32) (d : Nat → Int32) (lb : Nat → Int32) (kp : Int32) (kr : Nat → Int32) (rd : Nat → Int32) (rl : Nat → Int32) (x1 : Int32) (x2 : Int32) (x3 : Int32) (x4 : Int32) (x5 : Int32) (x6 : Int32) (x7 : Int32) (H : Heap) (locs : List Loc) (ls : Array Slot), va_P D vwCl (wM cI cC q n d lb kp kr ty tx rd rl wi) H → va_D A (wM cI cC q n d lb kp kr ty tx rd rl wi) → va_S A s.heap H locs → lv_has ls 10 [(0, .ref (q 0)), (1, .int x1), (2, .int x2), (3, .int x3), (4, .int x4), (5, .int x5), (6, .int x6), (7, .int x7)] → mX5_move_89 f n d lb kp kr rd rl x1 x2 x3 x4 x5 x6 x7 = some r → W p l e rmX5_move s m args below meth c H locs 0 0 (MQ below (muQ D (some (.int r.1)) (wM cI cC q r.2.1 r.2.2.1 r.2.2.2.1 r.2.2.2.2.1 r.2.2.2.2.2.1 ty tx r.2.2.2.2.2.2.1 r.2.2.2.2.2.2.2 wi) A) args s 0 0 A) (F0 m 89 ls []) := by
  have hx := X.1
  have hb := X.2.1
  intro f
  induction f with
  | zero =>
    intro n d lb kp kr rd rl x1 x2 x3 x4 x5 x6 x7 H locs ls hP hD hS hl h
    exact absurd h (by unfold mX5_move_89; intro h; cases h)
  | succ f ih =>
    intro n d lb kp kr rd rl x1 x2 x3 x4 x5 x6 x7 H locs ls hP hD hS hl h
    rw [mX5_move_89] at h
    refine lv_iload hx hb dX5_move_89 (lv_at hl 7 rfl) ?_
    refine lv_iload hx hb dX5_move_91 (lv_at hl 5 rfl) ?_
    refine lv_icmp_ge (tgt := 137) hx hb dX5_move_93 (by decide) (fun c16 => ?_) (fun c16 => ?_)
    · replace h := ifp c16 h
      refine lv_aload_n hx hb dX5_move_137 rfl (lv_at hl 0 rfl) ?_
      refine lv_iload_n hx hb dX5_move_138 rfl (lv_at hl 1 rfl) ?_
      refine lv_iload hx hb dX5_move_139 (lv_at hl 5 rfl) ?_
      obtain ⟨r17, h_r17, h⟩ := obd h
      refine mcV (rest := []) (wld2 := (wM cI cC q r17.1 r17.2.1 r17.2.2 kp kr ty tx rd rl wi)) (wr := pickAt [] (wM cI cC q n d lb kp kr ty tx rd rl wi)) X hKK hP hD hS hA 2 (zX5_take l D cI cC q _ n d lb kp kr ty tx rd rl wi x1 x5 r17 h_r17) gX5_move_X5_take rfl rfl rfl hdX5_take ⟨Nat.le_of_ble_eq_true rfl, Nat.le_of_ble_eq_true rfl⟩ [0, 1, 2, 3, 4, 5, 6] [] rfl rfl rfl rfl rfl (by decide) rfl [0, 1, 2, 3, 4, 5, 6] rfl rfl rfl 0 rfl rfl rfl hl.1 rfl (Nat.le_of_ble_eq_true rfl) dX5_move_141 ⟨Nat.zero_le _, Nat.zero_le _⟩ (fun H locs hP hD hS => ?_)
      refine lv_iload_n hx hb dX5_move_144 rfl (lv_at hl 2 rfl) ?_
      refine lv_iload_n hx hb dX5_move_145 rfl (lv_at hl 1 rfl) ?_
      refine lv_icmp_le (tgt := 156) hx hb dX5_move_146 (by decide) (fun c18 => ?_) (fun c18 => ?_)
      · replace h := ifp c18 h
        refine lv_iload_n hx hb dX5_move_156 rfl (lv_at hl 2 rfl) ?_
        refine lv_istore (lv' := [(7, .int x2), (0, .ref (q 0)), (1, .int x1), (2, .int x2), (3, .int x3), (4, .int x4), (5, .int x5), (6, .int x6)]) hx hb dX5_move_157 hl (by decide) rfl (fun ls hl => ?_)
        refine lv_aload_n hx hb dX5_move_159 rfl (lv_at hl 1 rfl) ?_
        refine lv_iload hx hb dX5_move_160 (lv_at hl 0 rfl) ?_
        refine lv_iload_n hx hb dX5_move_162 rfl (lv_at hl 4 rfl) ?_
        obtain ⟨r19, h_r19, h⟩ := obd h
        refine rcV (rest := []) X hKK hP 2 (zX5_childOrEnd l D cI cC q r17.1 r17.2.1 r17.2.2 kp kr ty tx rd rl wi x2 x3 r19 h_r19) gX5_move_X5_childOrEnd rfl rfl rfl hdX5_childOrEnd ⟨Nat.le_of_ble_eq_true rfl, Nat.le_of_ble_eq_true rfl⟩ [0, 1, 2, 3, 4, 5, 6] rfl 0 rfl rfl rfl hl.1 rfl (Nat.le_of_ble_eq_true rfl) dX5_move_163 ⟨Nat.zero_le _, Nat.zero_le _⟩ ?_
        refine lv_istore (lv' := [(8, .int r19), (7, .int x2), (0, .ref (q 0)), (1, .int x1), (2, .int x2), (3, .int x3), (4, .int x4), (5, .int x5), (6, .int x6)]) hx hb dX5_move_166 hl (by decide) rfl (fun ls hl => ?_)
        refine lv_iconst (v := iI 0) hx hb dX5_move_168 rfl ?_
        refine lv_istore (lv' := [(9, .int (iI 0)), (8, .int r19), (7, .int x2), (0, .ref (q 0)), (1, .int x1), (2, .int x2), (3, .int x3), (4, .int x4), (5, .int x5), (6, .int x6)]) hx hb dX5_move_169 hl (by decide) rfl (fun ls hl => ?_)
        exact kX5_move_171 X hKK hA FU r17.1 r17.2.1 r17.2.2 kp kr rd rl x1 x2 x3 x4 x5 x6 x2 r19 (iI 0) _ _ ls hP hD hS (lv_sub hl [3, 4, 5, 6, 7, 8, 9, 2, 1, 0] rfl) h
      · replace h := ifn c18 h
        refine lv_iload_n hx hb dX5_move_149 rfl (lv_at hl 2 rfl) ?_
        refine lv_iload hx hb dX5_move_150 (lv_at hl 5 rfl) ?_
        refine lv_isub hx hb dX5_move_152 ?_
        refine lv_goto (tgt := 157) hx hb dX5_move_153 (by decide) ?_
        refine lv_istore (lv' := [(7, .int (x2 - x5)), (0, .ref (q 0)), (1, .int x1), (2, .int x2), (3, .int x3), (4, .int x4), (5, .int x5), (6, .int x6)]) hx hb dX5_move_157 hl (by decide) rfl (fun ls hl => ?_)
        refine lv_aload_n hx hb dX5_move_159 rfl (lv_at hl 1 rfl) ?_
        refine lv_iload hx hb dX5_move_160 (lv_at hl 0 rfl) ?_
        refine lv_iload_n hx hb dX5_move_162 rfl (lv_at hl 4 rfl) ?_
        obtain ⟨r20, h_r20, h⟩ := obd h
        refine rcV (rest := []) X hKK hP 2 (zX5_childOrEnd l D cI cC q r17.1 r17.2.1 r17.2.2 kp kr ty tx rd rl wi (x2 - x5) x3 r20 h_r20) gX5_move_X5_childOrEnd rfl rfl rfl hdX5_childOrEnd ⟨Nat.le_of_ble_eq_true rfl, Nat.le_of_ble_eq_true rfl⟩ [0, 1, 2, 3, 4, 5, 6] rfl 0 rfl rfl rfl hl.1 rfl (Nat.le_of_ble_eq_true rfl) dX5_move_163 ⟨Nat.zero_le _, Nat.zero_le _⟩ ?_
        refine lv_istore (lv' := [(8, .int r20), (7, .int (x2 - x5)), (0, .ref (q 0)), (1, .int x1), (2, .int x2), (3, .int x3), (4, .int x4), (5, .int x5), (6, .int x6)]) hx hb dX5_move_166 hl (by decide) rfl (fun ls hl => ?_)
        refine lv_iconst (v := iI 0) hx hb dX5_move_168 rfl ?_
        refine lv_istore (lv' := [(9, .int (iI 0)), (8, .int r20), (7, .int (x2 - x5)), (0, .ref (q 0)), (1, .int x1), (2, .int x2), (3, .int x3), (4, .int x4), (5, .int x5), (6, .int x6)]) hx hb dX5_move_169 hl (by decide) rfl (fun ls hl => ?_)
        exact kX5_move_171 X hKK hA FU r17.1 r17.2.1 r17.2.2 kp kr rd rl x1 x2 x3 x4 x5 x6 (x2 - x5) r20 (iI 0) _ _ ls hP hD hS (lv_sub hl [3, 4, 5, 6, 7, 8, 9, 2, 1, 0] rfl) h
    · replace h := ifn c16 h
      refine lv_aload_n hx hb dX5_move_96 rfl (lv_at hl 0 rfl) ?_
      refine va_get (D := D) (ci := 5) (v := .ref (q 5)) (C := RX5) (T := TX5) (N := 10) hx hb X.2.2.2.2.1 iwX5_move_5 X.2.2.2.1 hKK.1 hP 0 rfl rfl 7 (by decide) (X.2.2.2.2.1 _ flX5_move_23) (fun _ h9 => h9) rfl dX5_move_97 ?_
      refine lv_iload hx hb dX5_move_100 (lv_at hl 7 rfl) ?_
      refine lv_aload_n hx hb dX5_move_102 rfl (lv_at hl 0 rfl) ?_
      refine va_get (D := D) (ci := 5) (v := .ref (q 1)) (C := RX5) (T := TX5) (N := 10) hx hb X.2.2.2.2.1 iwX5_move_5 X.2.2.2.1 hKK.1 hP 0 rfl rfl 1 (by decide) (X.2.2.2.2.1 _ flX5_move_7) (fun _ h9 => h9) rfl dX5_move_103 ?_
      refine lv_iload_n hx hb dX5_move_106 rfl (lv_at hl 1 rfl) ?_
      refine lv_iload hx hb dX5_move_107 (lv_at hl 7 rfl) ?_
      refine lv_iadd hx hb dX5_move_109 ?_
      obtain ⟨g21, h⟩ := asr h
      refine va_iald hx hb hKK.1 hP 1 0 rfl rfl g21 dX5_move_110 ?_
      refine lv_iload hx hb dX5_move_111 (lv_at hl 6 rfl) ?_
      refine lv_isub hx hb dX5_move_113 ?_
      obtain ⟨g22, h⟩ := asr h
      refine va_iast hx hb hKK.1 hP hD hS 5 0 rfl rfl g22 dX5_move_114 (fun H locs hP hD hS => ?_)
      replace hP : va_P D vwCl (wM cI cC q n d lb kp kr ty tx (upd rd x7.toNatClampNeg ((d (x1 + x7).toNatClampNeg) - x6)) rl wi) H := hP
      replace hD : va_D A (wM cI cC q n d lb kp kr ty tx (upd rd x7.toNatClampNeg ((d (x1 + x7).toNatClampNeg) - x6)) rl wi) := hD
      refine lv_aload_n hx hb dX5_move_115 rfl (lv_at hl 0 rfl) ?_
      refine va_get (D := D) (ci := 5) (v := .ref (q 6)) (C := RX5) (T := TX5) (N := 10) hx hb X.2.2.2.2.1 iwX5_move_5 X.2.2.2.1 hKK.1 hP 0 rfl rfl 8 (by decide) (X.2.2.2.2.1 _ flX5_move_26) (fun _ h9 => h9) rfl dX5_move_116 ?_
      refine lv_iload hx hb dX5_move_119 (lv_at hl 7 rfl) ?_
      refine lv_aload_n hx hb dX5_move_121 rfl (lv_at hl 0 rfl) ?_
      refine va_get (D := D) (ci := 5) (v := .ref (q 2)) (C := RX5) (T := TX5) (N := 10) hx hb X.2.2.2.2.1 iwX5_move_5 X.2.2.2.1 hKK.1 hP 0 rfl rfl 2 (by decide) (X.2.2.2.2.1 _ flX5_move_13) (fun _ h9 => h9) rfl dX5_move_122 ?_
      refine lv_iload_n hx hb dX5_move_125 rfl (lv_at hl 1 rfl) ?_
      refine lv_iload hx hb dX5_move_126 (lv_at hl 7 rfl) ?_
      refine lv_iadd hx hb dX5_move_128 ?_
      obtain ⟨g23, h⟩ := asr h
      refine va_cald hx hb hKK.1 hP 2 1 rfl rfl g23 dX5_move_129 ?_
      obtain ⟨g24, h⟩ := asr h
      refine va_cast hx hb hKK.1 hP hD hS 6 1 rfl rfl g24 dX5_move_130 (fun H locs hP hD hS => ?_)
      replace hP : va_P D vwCl (wM cI cC q n d lb kp kr ty tx (upd rd x7.toNatClampNeg ((d (x1 + x7).toNatClampNeg) - x6)) (upd rl x7.toNatClampNeg (vp_nar .char (lb (x1 + x7).toNatClampNeg))) wi) H := hP
      replace hD : va_D A (wM cI cC q n d lb kp kr ty tx (upd rd x7.toNatClampNeg ((d (x1 + x7).toNatClampNeg) - x6)) (upd rl x7.toNatClampNeg (vp_nar .char (lb (x1 + x7).toNatClampNeg))) wi) := hD
      refine lv_iinc (v := (x7 + iI 1)) (lv' := [(7, .int (x7 + iI 1)), (0, .ref (q 0)), (1, .int x1), (2, .int x2), (3, .int x3), (4, .int x4), (5, .int x5), (6, .int x6)]) hx hb dX5_move_131 hl (k := 7) rfl rfl (by decide) rfl (fun ls hl => ?_)
      refine lv_goto (tgt := 89) hx hb dX5_move_134 (by decide) ?_
      exact ih n d lb kp kr (upd rd x7.toNatClampNeg ((d (x1 + x7).toNatClampNeg) - x6)) (upd rl x7.toNatClampNeg (vp_nar .char (lb (x1 + x7).toNatClampNeg))) x1 x2 x3 x4 x5 x6 (x7 + iI 1) _ _ ls hP hD hS (lv_sub hl [1, 2, 3, 4, 5, 6, 7, 0] rfl) h
set_option maxHeartbeats 4000000 in
set_option maxRecDepth 100000 in
theorem zX5_move (l : Launch) (D : va_G) (cI cC : ClassId) (q : Nat → Nat) (sz : Nat) (n : Int32) (d : Nat → Int32) (lb : Nat → Int32) (kp : Int32) (kr : Nat → Int32) (ty : Int32) (tx : Nat → Int32) (rd : Nat → Int32) (rl : Nat → Int32) (wi : Int32) (x1 : Int32) (x2 : Int32) (x3 : Int32) (r : Int32 × Int32 × (Nat → Int32) × (Nat → Int32) × Int32 × (Nat → Int32) × (Nat → Int32) × (Nat → Int32)) (h : mX5_move n d lb kp kr rd rl x1 x2 x3 = some r) : Met l yX5_move wsX5_move rmX5_move (va_Pc [.ref (q 0), .int x1, .int x2, .int x3] (MB D cI cC sz (wM cI cC q n d lb kp kr ty tx rd rl wi))) (muQ D (some (.int r.1)) (wM cI cC q r.2.1 r.2.2.1 r.2.2.2.1 r.2.2.2.2.1 r.2.2.2.2.2.1 ty tx r.2.2.2.2.2.2.1 r.2.2.2.2.2.2.2 wi) (va_A (wM cI cC q n d lb kp kr ty tx rd rl wi) sz)) 0 0 (va_A (wM cI cC q n d lb kp kr ty tx rd rl wi) sz) := by
  refine MetI RX5 (by decide +kernel) rfl rfl (Nat.le_of_ble_eq_true rfl) ?_
  intro p e s m below meth c ls X _ hB hl
  obtain ⟨hsz, ⟨hP, hKK⟩, hD0⟩ := hB
  subst hsz
  have hD := hD0.self (sz := s.heap.size)
  generalize hAe : va_A (wM cI cC q n d lb kp kr ty tx rd rl wi) s.heap.size = A at hD ⊢
  have hA : ∀ z : Nat, s.heap.size ≤ z → A z := fun z hz => by rw [← hAe]; exact Or.inr hz
  have hS : va_S A s.heap s.heap [] := va_S.rf
  have hx := X.1
  have hb := X.2.1
  replace hl : lv_has ls 10 [(0, .ref (q 0)), (1, .int x1), (2, .int x2), (3, .int x3)] := hl
  replace hP : va_P D vwCl (wM cI cC q n d lb kp kr ty tx rd rl wi) s.heap := hP
  unfold mX5_move at h
  refine lv_aload_n hx hb dX5_move_0 rfl (lv_at hl 0 rfl) ?_
  refine lv_iload_n hx hb dX5_move_1 rfl (lv_at hl 1 rfl) ?_
  refine rcV (rest := []) X hKK hP 1 (zX5_noNode l D cI cC q n d lb kp kr ty tx rd rl wi x1 _ rfl) gX5_move_X5_noNode rfl rfl rfl hdX5_noNode ⟨Nat.le_of_ble_eq_true rfl, Nat.le_of_ble_eq_true rfl⟩ [0, 1, 2, 3, 4, 5, 6] rfl 0 rfl rfl rfl hl.1 rfl (Nat.le_of_ble_eq_true rfl) dX5_move_2 ⟨Nat.zero_le _, Nat.zero_le _⟩ ?_
  refine lv_if_ne (tgt := 16) hx hb dX5_move_5 (by decide) (fun c1 => ?_) (fun c1 => ?_)
  · replace h := ifn c1 h
    refine lv_iconst (v := iI (-1)) hx hb dX5_move_16 rfl ?_
    replace h := Option.some.inj h
    subst h
    exact mu_ret X rfl rfl hP rfl hS dX5_move_17
  · replace h := ifp c1 h
    refine lv_aload_n hx hb dX5_move_8 rfl (lv_at hl 0 rfl) ?_
    refine lv_iload_n hx hb dX5_move_9 rfl (lv_at hl 2 rfl) ?_
    refine rcV (rest := []) X hKK hP 1 (zX5_noNode l D cI cC q n d lb kp kr ty tx rd rl wi x2 _ rfl) gX5_move_X5_noNode rfl rfl rfl hdX5_noNode ⟨Nat.le_of_ble_eq_true rfl, Nat.le_of_ble_eq_true rfl⟩ [0, 1, 2, 3, 4, 5, 6] rfl 0 rfl rfl rfl hl.1 rfl (Nat.le_of_ble_eq_true rfl) dX5_move_10 ⟨Nat.zero_le _, Nat.zero_le _⟩ ?_
    refine lv_if_eq (tgt := 18) hx hb dX5_move_13 (by decide) (fun c2 => ?_) (fun c2 => ?_)
    · replace h := ifp c2 h
      refine lv_aload_n hx hb dX5_move_18 rfl (lv_at hl 0 rfl) ?_
      refine lv_iload_n hx hb dX5_move_19 rfl (lv_at hl 1 rfl) ?_
      refine lv_iload_n hx hb dX5_move_20 rfl (lv_at hl 2 rfl) ?_
      obtain ⟨r3, h_r3, h⟩ := obd h
      refine rcV (rest := []) X hKK hP 2 (zX5_holds l D cI cC q n d lb kp kr ty tx rd rl wi x1 x2 r3 h_r3) gX5_move_X5_holds rfl rfl rfl hdX5_holds ⟨Nat.le_of_ble_eq_true rfl, Nat.le_of_ble_eq_true rfl⟩ [0, 1, 2, 3, 4, 5, 6] rfl 0 rfl rfl rfl hl.1 rfl (Nat.le_of_ble_eq_true rfl) dX5_move_21 ⟨Nat.zero_le _, Nat.zero_le _⟩ ?_
      refine lv_if_eq (tgt := 30) hx hb dX5_move_24 (by decide) (fun c4 => ?_) (fun c4 => ?_)
      · replace h := ifp c4 h
        refine lv_aload_n hx hb dX5_move_30 rfl (lv_at hl 0 rfl) ?_
        refine lv_iload_n hx hb dX5_move_31 rfl (lv_at hl 2 rfl) ?_
        obtain ⟨r5, h_r5, h⟩ := obd h
        refine rcV (rest := []) X hKK hP 1 (zX5_childCount l D cI cC q n d lb kp kr ty tx rd rl wi x2 r5 h_r5) gX5_move_X5_childCount rfl rfl rfl hdX5_childCount ⟨Nat.le_of_ble_eq_true rfl, Nat.le_of_ble_eq_true rfl⟩ [0, 1, 2, 3, 4, 5, 6] rfl 0 rfl rfl rfl hl.1 rfl (Nat.le_of_ble_eq_true rfl) dX5_move_32 ⟨Nat.zero_le _, Nat.zero_le _⟩ ?_
        refine lv_aload_n hx hb dX5_move_35 rfl (lv_at hl 0 rfl) ?_
        refine lv_iload_n hx hb dX5_move_36 rfl (lv_at hl 1 rfl) ?_
        obtain ⟨r6, h_r6, h⟩ := obd h
        refine rcV (rest := [.int r5]) X hKK hP 1 (zX5_parentOf l D cI cC q n d lb kp kr ty tx rd rl wi x1 r6 h_r6) gX5_move_X5_parentOf rfl rfl rfl hdX5_parentOf ⟨Nat.le_of_ble_eq_true rfl, Nat.le_of_ble_eq_true rfl⟩ [0, 1, 2, 3, 4, 5, 6] rfl 0 rfl rfl rfl hl.1 rfl (Nat.le_of_ble_eq_true rfl) dX5_move_37 ⟨Nat.zero_le _, Nat.zero_le _⟩ ?_
        refine lv_iload_n hx hb dX5_move_40 rfl (lv_at hl 2 rfl) ?_
        refine lv_icmp_ne (tgt := 48) hx hb dX5_move_41 (by decide) (fun c7 => ?_) (fun c7 => ?_)
        · replace h := ifn c7 h
          refine lv_iconst (v := iI 0) hx hb dX5_move_48 rfl ?_
          refine lv_isub hx hb dX5_move_49 ?_
          refine lv_istore (lv' := [(4, .int (r5 - (iI 0))), (0, .ref (q 0)), (1, .int x1), (2, .int x2), (3, .int x3)]) hx hb dX5_move_50 hl (by decide) rfl (fun ls hl => ?_)
          refine lv_iload_n hx hb dX5_move_52 rfl (lv_at hl 4 rfl) ?_
          refine lv_iconst (v := iI 0) hx hb dX5_move_53 rfl ?_
          refine lv_iload hx hb dX5_move_54 (lv_at hl 0 rfl) ?_
          refine rcS (rest := []) X hKK hP 3 (zX5_in l D cI cC x3 (iI 0) (r5 - (iI 0)) _ rfl) gX5_move_X5_in rfl rfl rfl hdX5_in ⟨Nat.le_of_ble_eq_true rfl, Nat.le_of_ble_eq_true rfl⟩ [] rfl rfl hl.1 rfl (Nat.le_of_ble_eq_true rfl) dX5_move_56 ⟨Nat.zero_le _, Nat.zero_le _⟩ ?_
          refine lv_if_ne (tgt := 65) hx hb dX5_move_59 (by decide) (fun c8 => ?_) (fun c8 => ?_)
          · replace h := ifn c8 h
            refine lv_aload_n hx hb dX5_move_65 rfl (lv_at hl 1 rfl) ?_
            obtain ⟨r9, h_r9, h⟩ := obd h
            refine mcV (rest := []) (wld2 := (wM cI cC q n d lb r9.1 r9.2 ty tx rd rl wi)) (wr := pickAt [] (wM cI cC q n d lb kp kr ty tx rd rl wi)) X hKK hP hD hS hA 0 (zX5_keep l D cI cC q _ n d lb kp kr ty tx rd rl wi r9 h_r9) gX5_move_X5_keep rfl rfl rfl hdX5_keep ⟨Nat.le_of_ble_eq_true rfl, Nat.le_of_ble_eq_true rfl⟩ [0, 1, 2, 3, 4, 5, 6] [] rfl rfl rfl rfl rfl (by decide) rfl [0, 1, 2, 3, 4, 5, 6] rfl rfl rfl 0 rfl rfl rfl hl.1 rfl (Nat.le_of_ble_eq_true rfl) dX5_move_66 ⟨Nat.zero_le _, Nat.zero_le _⟩ (fun H locs hP hD hS => ?_)
            refine lv_aload_n hx hb dX5_move_69 rfl (lv_at hl 1 rfl) ?_
            refine lv_iload_n hx hb dX5_move_70 rfl (lv_at hl 2 rfl) ?_
            obtain ⟨r10, h_r10, h⟩ := obd h
            refine rcV (rest := []) X hKK hP 1 (zX5_behind l D cI cC q n d lb r9.1 r9.2 ty tx rd rl wi x1 r10 h_r10) gX5_move_X5_behind rfl rfl rfl hdX5_behind ⟨Nat.le_of_ble_eq_true rfl, Nat.le_of_ble_eq_true rfl⟩ [0, 1, 2, 3, 4, 5, 6] rfl 0 rfl rfl rfl hl.1 rfl (Nat.le_of_ble_eq_true rfl) dX5_move_71 ⟨Nat.zero_le _, Nat.zero_le _⟩ ?_
            refine lv_iload_n hx hb dX5_move_74 rfl (lv_at hl 2 rfl) ?_
            refine lv_isub hx hb dX5_move_75 ?_
            refine lv_istore (lv' := [(5, .int (r10 - x1)), (4, .int (r5 - (iI 0))), (0, .ref (q 0)), (1, .int x1), (2, .int x2), (3, .int x3)]) hx hb dX5_move_76 hl (by decide) rfl (fun ls hl => ?_)
            refine lv_aload_n hx hb dX5_move_78 rfl (lv_at hl 2 rfl) ?_
            refine va_get (D := D) (ci := 5) (v := .ref (q 1)) (C := RX5) (T := TX5) (N := 10) hx hb X.2.2.2.2.1 iwX5_move_5 X.2.2.2.1 hKK.1 hP 0 rfl rfl 1 (by decide) (X.2.2.2.2.1 _ flX5_move_7) (fun _ h9 => h9) rfl dX5_move_79 ?_
            refine lv_iload_n hx hb dX5_move_82 rfl (lv_at hl 3 rfl) ?_
            obtain ⟨g11, h⟩ := asr h
            refine va_iald hx hb hKK.1 hP 1 0 rfl rfl g11 dX5_move_83 ?_
            refine lv_istore (lv' := [(6, .int (d x1.toNatClampNeg)), (5, .int (r10 - x1)), (4, .int (r5 - (iI 0))), (0, .ref (q 0)), (1, .int x1), (2, .int x2), (3, .int x3)]) hx hb dX5_move_84 hl (by decide) rfl (fun ls hl => ?_)
            refine lv_iconst (v := iI 0) hx hb dX5_move_86 rfl ?_
            refine lv_istore (lv' := [(7, .int (iI 0)), (6, .int (d x1.toNatClampNeg)), (5, .int (r10 - x1)), (4, .int (r5 - (iI 0))), (0, .ref (q 0)), (1, .int x1), (2, .int x2), (3, .int x3)]) hx hb dX5_move_87 hl (by decide) rfl (fun ls hl => ?_)
            exact kX5_move_89 X hKK hA FU n d lb r9.1 r9.2 rd rl x1 x2 x3 (r5 - (iI 0)) (r10 - x1) (d x1.toNatClampNeg) (iI 0) _ _ ls hP hD hS (lv_sub hl [4, 5, 6, 7, 3, 2, 1, 0] rfl) h
          · replace h := ifp c8 h
            refine lv_bipush (v := iI (-2)) hx hb dX5_move_62 (by decide) ?_
            replace h := Option.some.inj h
            subst h
            exact mu_ret X rfl rfl hP rfl hS dX5_move_64
        · replace h := ifp c7 h
          refine lv_iconst (v := iI 1) hx hb dX5_move_44 rfl ?_
          refine lv_goto (tgt := 49) hx hb dX5_move_45 (by decide) ?_
          refine lv_isub hx hb dX5_move_49 ?_
          refine lv_istore (lv' := [(4, .int (r5 - (iI 1))), (0, .ref (q 0)), (1, .int x1), (2, .int x2), (3, .int x3)]) hx hb dX5_move_50 hl (by decide) rfl (fun ls hl => ?_)
          refine lv_iload_n hx hb dX5_move_52 rfl (lv_at hl 4 rfl) ?_
          refine lv_iconst (v := iI 0) hx hb dX5_move_53 rfl ?_
          refine lv_iload hx hb dX5_move_54 (lv_at hl 0 rfl) ?_
          refine rcS (rest := []) X hKK hP 3 (zX5_in l D cI cC x3 (iI 0) (r5 - (iI 1)) _ rfl) gX5_move_X5_in rfl rfl rfl hdX5_in ⟨Nat.le_of_ble_eq_true rfl, Nat.le_of_ble_eq_true rfl⟩ [] rfl rfl hl.1 rfl (Nat.le_of_ble_eq_true rfl) dX5_move_56 ⟨Nat.zero_le _, Nat.zero_le _⟩ ?_
          refine lv_if_ne (tgt := 65) hx hb dX5_move_59 (by decide) (fun c12 => ?_) (fun c12 => ?_)
          · replace h := ifn c12 h
            refine lv_aload_n hx hb dX5_move_65 rfl (lv_at hl 1 rfl) ?_
            obtain ⟨r13, h_r13, h⟩ := obd h
            refine mcV (rest := []) (wld2 := (wM cI cC q n d lb r13.1 r13.2 ty tx rd rl wi)) (wr := pickAt [] (wM cI cC q n d lb kp kr ty tx rd rl wi)) X hKK hP hD hS hA 0 (zX5_keep l D cI cC q _ n d lb kp kr ty tx rd rl wi r13 h_r13) gX5_move_X5_keep rfl rfl rfl hdX5_keep ⟨Nat.le_of_ble_eq_true rfl, Nat.le_of_ble_eq_true rfl⟩ [0, 1, 2, 3, 4, 5, 6] [] rfl rfl rfl rfl rfl (by decide) rfl [0, 1, 2, 3, 4, 5, 6] rfl rfl rfl 0 rfl rfl rfl hl.1 rfl (Nat.le_of_ble_eq_true rfl) dX5_move_66 ⟨Nat.zero_le _, Nat.zero_le _⟩ (fun H locs hP hD hS => ?_)
            refine lv_aload_n hx hb dX5_move_69 rfl (lv_at hl 1 rfl) ?_
            refine lv_iload_n hx hb dX5_move_70 rfl (lv_at hl 2 rfl) ?_
            obtain ⟨r14, h_r14, h⟩ := obd h
            refine rcV (rest := []) X hKK hP 1 (zX5_behind l D cI cC q n d lb r13.1 r13.2 ty tx rd rl wi x1 r14 h_r14) gX5_move_X5_behind rfl rfl rfl hdX5_behind ⟨Nat.le_of_ble_eq_true rfl, Nat.le_of_ble_eq_true rfl⟩ [0, 1, 2, 3, 4, 5, 6] rfl 0 rfl rfl rfl hl.1 rfl (Nat.le_of_ble_eq_true rfl) dX5_move_71 ⟨Nat.zero_le _, Nat.zero_le _⟩ ?_
            refine lv_iload_n hx hb dX5_move_74 rfl (lv_at hl 2 rfl) ?_
            refine lv_isub hx hb dX5_move_75 ?_
            refine lv_istore (lv' := [(5, .int (r14 - x1)), (4, .int (r5 - (iI 1))), (0, .ref (q 0)), (1, .int x1), (2, .int x2), (3, .int x3)]) hx hb dX5_move_76 hl (by decide) rfl (fun ls hl => ?_)
            refine lv_aload_n hx hb dX5_move_78 rfl (lv_at hl 2 rfl) ?_
            refine va_get (D := D) (ci := 5) (v := .ref (q 1)) (C := RX5) (T := TX5) (N := 10) hx hb X.2.2.2.2.1 iwX5_move_5 X.2.2.2.1 hKK.1 hP 0 rfl rfl 1 (by decide) (X.2.2.2.2.1 _ flX5_move_7) (fun _ h9 => h9) rfl dX5_move_79 ?_
            refine lv_iload_n hx hb dX5_move_82 rfl (lv_at hl 3 rfl) ?_
            obtain ⟨g15, h⟩ := asr h
            refine va_iald hx hb hKK.1 hP 1 0 rfl rfl g15 dX5_move_83 ?_
            refine lv_istore (lv' := [(6, .int (d x1.toNatClampNeg)), (5, .int (r14 - x1)), (4, .int (r5 - (iI 1))), (0, .ref (q 0)), (1, .int x1), (2, .int x2), (3, .int x3)]) hx hb dX5_move_84 hl (by decide) rfl (fun ls hl => ?_)
            refine lv_iconst (v := iI 0) hx hb dX5_move_86 rfl ?_
            refine lv_istore (lv' := [(7, .int (iI 0)), (6, .int (d x1.toNatClampNeg)), (5, .int (r14 - x1)), (4, .int (r5 - (iI 1))), (0, .ref (q 0)), (1, .int x1), (2, .int x2), (3, .int x3)]) hx hb dX5_move_87 hl (by decide) rfl (fun ls hl => ?_)
            exact kX5_move_89 X hKK hA FU n d lb r13.1 r13.2 rd rl x1 x2 x3 (r5 - (iI 1)) (r14 - x1) (d x1.toNatClampNeg) (iI 0) _ _ ls hP hD hS (lv_sub hl [4, 5, 6, 7, 3, 2, 1, 0] rfl) h
          · replace h := ifp c12 h
            refine lv_bipush (v := iI (-2)) hx hb dX5_move_62 (by decide) ?_
            replace h := Option.some.inj h
            subst h
            exact mu_ret X rfl rfl hP rfl hS dX5_move_64
      · replace h := ifn c4 h
        refine lv_bipush (v := iI (-3)) hx hb dX5_move_27 (by decide) ?_
        replace h := Option.some.inj h
        subst h
        exact mu_ret X rfl rfl hP rfl hS dX5_move_29
    · replace h := ifn c2 h
      refine lv_iconst (v := iI (-1)) hx hb dX5_move_16 rfl ?_
      replace h := Option.some.inj h
      subst h
      exact mu_ret X rfl rfl hP rfl hS dX5_move_17
