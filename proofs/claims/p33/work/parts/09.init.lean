/-! 09: constructors (by program, wip/p33/initgen.py) -/
def inQ (D : va_G) (B : va_W → Prop) (A : Nat → Prop) : Array Value → State → Outcome → State → Prop := fun _ st oc t => (oc = .returned none ∧ ∃ w, B w ∧ va_P D vwCl w t.heap ∧ va_D A w) ∧ va_F A st t
section IN
variable {p : Program} {l : Launch} {e : Env} {R : Room} {s : State} {m : MethodId} {args : Array Value} {below : List Frame} {meth : Method} {c : Code} {H : Heap} {locs : List Loc} {cells slots : Nat} {Q : State → Prop}
variable {cc : ByteArray} {pc : Nat} {ls : Array Slot} {D : va_G} {cI cC : ClassId} {rest st0 : List Value} {A A0 : Nat → Prop} {H0 : Heap} {wld wc wr : va_W} {aa : Array Value} {mc ms : Nat}
theorem newI (hx : p.tables.exec = Jvm.exec) (hb : c.code = cc) (harr : (Cond.arrayClass .int).before args s = true) (hKK : KK D cI cC s) (hP : va_P D vwCl wld H) (hD : va_D A wld) (hS : va_S A H0 H locs) (hA : ∀ q, H0.size ≤ q → A q)
    {n : Int32} (N' : Nat) (hn : ¬ n < 0) (hN : n.toNatClampNeg = N') (hbytes : N' * componentBytes .int ≤ 536870912) (hcells : cells + 1 ≤ R.cells) (hslots : slots + N' ≤ R.slots) (hdg : decode cc pc = .ok (.newarray .int, 2))
    (kk : ∀ (q : Nat) (H1 : Heap), va_P D vwCl (wld ++ [(q, .inl (cI, N', .inl (fun _ => 0)))]) H1 → va_D A (wld ++ [(q, .inl (cI, N', .inl (fun _ => 0)))]) → va_S A H0 H1 locs → W p l e R s m args below meth c H1 locs (cells + 1) (slots + N') Q (F0 m (pc + 2) ls (.ref q :: rest))) : W p l e R s m args below meth c H locs cells slots Q (F0 m pc ls (.int n :: rest)) := by
  refine va_newa (atype := .int) (ty := .int) (a0 := (N', .inl (fun _ => 0))) hx hb harr rfl hKK.1 hP hD hS hA (fun cA => rfl) hn hN hbytes hcells hslots hdg (fun q cA H1 hK1 hP1 hD1 hS1 => ?_)
  have h1 : s.vm.findClass ("[" ++ FieldType.int.toString) = some cA := (hK1.2 1 (cA, .int) rfl).2
  have h2 : s.vm.findClass ("[" ++ FieldType.int.toString) = some cI := (hKK.1.2 0 (cI, .int) rfl).2
  have h3 : cA = cI := Option.some.inj (h1.symm.trans h2)
  subst h3
  exact kk q H1 hP1 hD1 hS1
/-- behind a constructor: its world comes behind the rest -/
theorem in_go {B : va_W → Prop} (hr : va_Run p l e R s m args below meth c H locs cells slots mc ms (F0 m pc ls st0) rest (inQ D B (va_A wc H.size) aa) (va_A wc H.size))
    (hP : va_P D vwCl wld H) (hD : va_D A0 wld) (hS : va_S A0 H0 H locs) (hA : ∀ q, H0.size ≤ q → A0 q) (isC isR : List Nat) (hC : isC.map (fun i => wld[i]?) = wc.map some) (hR : isR.map (fun i => wld[i]?) = wr.map some) (hnd : va_nd isR = true) (hdis : ∀ i ∈ isR, i ∉ isC)
    (kk : ∀ (w : va_W) (H1 : Heap) (locs1 : List Loc), B w → va_P D vwCl (wr ++ w) H1 → va_D A0 (wr ++ w) → va_S A0 H0 H1 locs1 → W p l e R s m args below meth c H1 locs1 (cells + mc) (slots + ms) Q (F0 m (pc + 3) ls rest)) : W p l e R s m args below meth c H locs cells slots Q (F0 m pc ls st0) := by
  have hF := va_free hD hS hA isC hC
  intro T hT X
  obtain ⟨v, st₀, t, T', L, h0, X', hL, e1, e2, ⟨⟨hv, w, hBw, hp, hD1⟩, hz, hk⟩, st⟩ := hr T hT X
  cases hv
  rw [h0] at hz hk
  rw [← e1] at hp hz hk
  obtain ⟨hP2, hD2⟩ := va_join hP hD isC isR hC hR hnd hdis hk hF hp hD1
  obtain ⟨t2, a1, b1⟩ := kk w T'.heap (locs ++ L) hBw hP2 hD2 ⟨Nat.le_trans hS.1 hz, fun q h1 h2 => by rw [hk q (Nat.lt_of_lt_of_le h1 hS.1) (fun z => h2 (hF q z))]; exact hS.2.1 q h1 h2, fun q hq => by
      rcases List.mem_append.mp hq with h | h
      · exact hS.2.2 q h
      · exact hF _ (hL q h)⟩ T' rfl X'
  exact ⟨t2, st t2 a1, b1⟩
variable {ws : List Cond} {nL : Nat} {own host : String} {ret0 : Option FieldType}
theorem in_ret (X : CX p s m args meth c ws cc nL none own) {w : va_W} {B : va_W → Prop} (hB : B w) (hP : va_P D vwCl w H) (hD : va_D A w) (hS : va_S A s.heap H locs) (hdg : decode cc pc = .ok (.return_, 1)) : W p l e R s m args below meth c H locs mc ms (MQ below (inQ D B A) args s mc ms A) (F0 m pc ls []) :=
  W.vret X.1 X.2.1 X.2.2.2.2.2.1 (fun t ht _ => ⟨⟨rfl, w, hB, by rw [ht]; exact hP, hD⟩, hS.F ht⟩) hS.2.2 hdg (hlocks := X.2.2.2.2.2.2)
variable {y : MethodName} {bytes : ByteArray} {maxL index : Nat} {wsY wsY' : List Cond} {rm : Room} {b : Addr}
theorem icI {B : va_W → Prop} (X : CX p s m args meth c ws cc nL ret0 own) (hKK : KK D cI cC s) (hP : va_P D vwCl wld H) (hD : va_D A0 wld) (hS : va_S A0 H0 H locs) (hA : ∀ q, H0.size ≤ q → A0 q)
    (hM : Met l y wsY rm (va_Pc [.ref b] (MB D cI cC H.size wc)) (inQ D B (va_A wc H.size)) mc ms (va_A wc H.size)) (hG : GoodIn ws wsY) (hw : wsY = Cond.code y bytes maxL none :: wsY') (hrc : rm.cells = mc) (hrs : rm.slots = ms)
    (hini : (Cond.initialized y.cls).before args s = true) (hlk : (Cond.methodLink own index y).before args s = true) (hin : (Cond.instanceMethod y).before args s = true) (hy1 : y.name = "<init>")
    (hd : y.cls ≠ "java/lang/invoke/MethodHandle" ∧ y.cls ≠ "java/lang/invoke/VarHandle" ∧ (parseMethodDescriptor y.desc).map (fun d => d.parameters.length) = some 0) (hR : rm.frames + 1 ≤ R.frames ∧ 8 + (maxL + 11) + rm.locals ≤ R.locals)
    (isC isR : List Nat) (hnC : va_nd isC = true) (hC2 : isC.filterMap (fun i => wld[i]?) = wc) (hC : isC.map (fun i => wld[i]?) = wc.map some) (hRr : isR.map (fun i => wld[i]?) = wr.map some) (hnd : va_nd isR = true) (hdis : ∀ i ∈ isR, i ∉ isC)
    (hl : ls.size = nL) (hst0 : st0 = .ref b :: rest) (hW : (rest.map fun v => v.category).sum ≤ 8) (hdg : decode cc pc = .ok (.invokespecial index, 3)) (hf : cells + mc ≤ R.cells ∧ slots + ms ≤ R.slots)
    (kk : ∀ (w : va_W) (H1 : Heap) (locs1 : List Loc), B w → va_P D vwCl (wr ++ w) H1 → va_D A0 (wr ++ w) → va_S A0 H0 H1 locs1 → W p l e R s m args below meth c H1 locs1 (cells + mc) (slots + ms) Q (F0 m (pc + 3) ls rest)) : W p l e R s m args below meth c H locs cells slots Q (F0 m pc ls st0) := by
  have hPc := hP.sub isC hC2
  have hDc : va_D (fun _ => True) wc := (hD.sub isC hnC hC).weaken (fun _ _ _ _ => trivial)
  exact in_go (va_runI (As := []) (rest := rest) ⟨X.1, X.2.1, X.2.2.1, X.2.2.2.1, X.2.2.2.2.1⟩ hM (cwI 0 X.2.2.2.2.1 hG hw hrc hrs hini hlk hin hy1 hd hR)
    ⟨MB.blind, fun U hU hW => ⟨rfl, by rw [hU], ⟨by rw [hU]; exact hPc, hKK.warm hW⟩, hDc⟩⟩ rfl rfl hl hst0 (lv_room hW) hdg hf) hP hD hS hA isC isR hC hRr hnd hdis kk
theorem icN {B : va_W → Prop} (X : CX p s m args meth c ws cc nL ret0 own) (hKK : KK D cI cC s) (hP : va_P D vwCl wld H) (hD : va_D A0 wld) (hS : va_S A0 H0 H locs) (hA : ∀ q, H0.size ≤ q → A0 q)
    (hM : Met l y wsY rm (va_Pc [.ref b] (MB D cI cC H.size wc)) (inQ D B (va_A wc H.size)) mc ms (va_A wc H.size)) (hG : GoodIn ws wsY) (hw : wsY = Cond.code y bytes maxL none :: wsY') (hrc : rm.cells = mc) (hrs : rm.slots = ms)
    (hl0 : Cond.methodLinkNest own index y host ∈ nestL) (hini : (Cond.initialized y.cls).before args s = true) (hin : (Cond.instanceMethod y).before args s = true) (hy1 : y.name = "<init>")
    (hd : y.cls ≠ "java/lang/invoke/MethodHandle" ∧ y.cls ≠ "java/lang/invoke/VarHandle" ∧ (parseMethodDescriptor y.desc).map (fun d => d.parameters.length) = some 0) (hR : rm.frames + 1 ≤ R.frames ∧ 8 + (maxL + 11) + rm.locals ≤ R.locals)
    (isC isR : List Nat) (hnC : va_nd isC = true) (hC2 : isC.filterMap (fun i => wld[i]?) = wc) (hC : isC.map (fun i => wld[i]?) = wc.map some) (hRr : isR.map (fun i => wld[i]?) = wr.map some) (hnd : va_nd isR = true) (hdis : ∀ i ∈ isR, i ∉ isC)
    (hl : ls.size = nL) (hst0 : st0 = .ref b :: rest) (hW : (rest.map fun v => v.category).sum ≤ 8) (hdg : decode cc pc = .ok (.invokespecial index, 3)) (hf : cells + mc ≤ R.cells ∧ slots + ms ≤ R.slots)
    (kk : ∀ (w : va_W) (H1 : Heap) (locs1 : List Loc), B w → va_P D vwCl (wr ++ w) H1 → va_D A0 (wr ++ w) → va_S A0 H0 H1 locs1 → W p l e R s m args below meth c H1 locs1 (cells + mc) (slots + ms) Q (F0 m (pc + 3) ls rest)) : W p l e R s m args below meth c H locs cells slots Q (F0 m pc ls st0) := by
  have hPc := hP.sub isC hC2
  have hDc : va_D (fun _ => True) wc := (hD.sub isC hnC hC).weaken (fun _ _ _ _ => trivial)
  exact in_go (va_runIN (As := []) (rest := rest) (host := host) ⟨X.1, X.2.1, X.2.2.1, X.2.2.2.1, X.2.2.2.2.1⟩ hM ⟨va_cnB 0 X.2.2.2.2.1 hG hw hrc hrs (hKK.2 _ hl0) hini hd hR, hy1, hin⟩
    ⟨MB.blind, fun U hU hW => ⟨rfl, by rw [hU], ⟨by rw [hU]; exact hPc, hKK.warm hW⟩, hDc⟩⟩ rfl rfl hl hst0 (lv_room hW) hdg hf) hP hD hS hA isC isR hC hRr hnd hdis kk
end IN

theorem oaX0_init : Cond.methodLink RX0 3 objectInit ∈ wsX0_init := by decide +kernel
theorem obX0_init : Cond.instanceMethod objectInit ∈ wsX0_init := by decide +kernel
theorem ocX0_init : Cond.code objectInit ⟨#[0xb1]⟩ 1 none ∈ wsX0_init := by decide +kernel
theorem flX0_init_9 : Cond.fieldLink RX0 9 "BracketTree$Blocks" "width" "I" ∈ wsX0_init := by decide +kernel
theorem iwX0_init_0 : ∀ w ∈ wsX00, w ∈ wsX0_init := by decide +kernel
theorem hdX0_init : yX0_init.cls ≠ "java/lang/invoke/MethodHandle" ∧ yX0_init.cls ≠ "java/lang/invoke/VarHandle" ∧ (parseMethodDescriptor yX0_init.desc).map (fun d => d.parameters.length) = some 0 := by decide +kernel
abbrev rmX0_init : Room := { frames := 1, cells := 0, slots := 0, locals := 12 }
def poX0_init (cI cC : ClassId) (h0 : Nat) (w : va_W) : Prop := w = [(h0, .inr (0, [.int (iI 8)]))]
set_option maxHeartbeats 4000000 in
set_option maxRecDepth 100000 in
theorem zX0_init (l : Launch) (D : va_G) (cI cC : ClassId) (h0 sz : Nat) : Met l yX0_init wsX0_init rmX0_init (va_Pc [.ref h0] (MB D cI cC sz [(h0, .inr (0, [.int 0]))])) (inQ D (poX0_init cI cC h0) (va_A [(h0, .inr (0, [.int 0]))] sz)) 0 0 (va_A [(h0, .inr (0, [.int 0]))] sz) := by
  refine MetI RX0 (by decide +kernel) rfl rfl (Nat.le_of_ble_eq_true rfl) ?_
  intro p e s m below meth c ls X hin hB hl
  obtain ⟨hsz, ⟨hP, hKK⟩, hD0⟩ := hB
  subst hsz
  have hD := hD0.self (sz := s.heap.size)
  generalize hAe : va_A [(h0, .inr (0, [.int 0]))] s.heap.size = A at hD ⊢
  have hA : ∀ z : Nat, s.heap.size ≤ z → A z := fun z hz => by rw [← hAe]; exact Or.inr hz
  have hS : va_S A s.heap s.heap [] := va_S.rf
  have hx := X.1
  have hb := X.2.1
  replace hl : lv_has ls 1 [(0, .ref h0)] := hl
  replace hin : meth.name = "<init>" := hin
  refine lv_aload_n hx hb dX0_init_0 rfl (lv_at hl 0 rfl) ?_
  refine W.objInit hx hb X.2.2.2.1 (X.2.2.2.2.1 _ oaX0_init) (X.2.2.2.2.1 _ obX0_init) (X.2.2.2.2.1 _ ocX0_init) rfl (by rw [X.2.2.1]; exact hl.1) rfl dX0_init_1 (Nat.le_of_ble_eq_true rfl) (Nat.le_of_ble_eq_true rfl) ?_
  refine W.eq (g2 := F0 m 4 ls []) rfl ?_
  refine lv_aload_n hx hb dX0_init_4 rfl (lv_at hl 0 rfl) ?_
  refine lv_bipush (v := iI 8) hx hb dX0_init_5 (by decide) ?_
  refine va_put (D := D) (ci := 0) (v := .int (iI 8)) (ty := .int) (C := RX0) (T := TX0) (N := 1) hx hb X.2.2.2.2.1 iwX0_init_0 tyX0 tyX0_ok nmX0 X.2.2.2.1 hKK.1 hP hD hS 0 rfl rfl 0 (by decide) (X.2.2.2.2.1 _ flX0_init_9) (fun _ h9 => h9) rfl (by decide +kernel) rfl rfl (Nat.le_of_ble_eq_true rfl) dX0_init_7 (fun H locs hP hD hS => ?_)
  replace hP : va_P D vwCl [(h0, .inr (0, [.int (iI 8)]))] H := hP
  replace hD : va_D A [(h0, .inr (0, [.int (iI 8)]))] := hD
  exact in_ret X rfl hP hD hS dX0_init_10
theorem oaX1_init : Cond.methodLink RX1 3 objectInit ∈ wsX1_init := by decide +kernel
theorem obX1_init : Cond.instanceMethod objectInit ∈ wsX1_init := by decide +kernel
theorem ocX1_init : Cond.code objectInit ⟨#[0xb1]⟩ 1 none ∈ wsX1_init := by decide +kernel
theorem acX1_init_int : Cond.arrayClass .int ∈ wsX1_init := by decide +kernel
theorem flX1_init_9 : Cond.fieldLink RX1 9 "BracketTree$History" "counts" "[I" ∈ wsX1_init := by decide +kernel
theorem iwX1_init_1 : ∀ w ∈ wsX10, w ∈ wsX1_init := by decide +kernel
theorem flX1_init_15 : Cond.fieldLink RX1 15 "BracketTree$History" "depths" "[I" ∈ wsX1_init := by decide +kernel
theorem flX1_init_18 : Cond.fieldLink RX1 18 "BracketTree$History" "labels" "[I" ∈ wsX1_init := by decide +kernel
theorem hdX1_init : yX1_init.cls ≠ "java/lang/invoke/MethodHandle" ∧ yX1_init.cls ≠ "java/lang/invoke/VarHandle" ∧ (parseMethodDescriptor yX1_init.desc).map (fun d => d.parameters.length) = some 0 := by decide +kernel
abbrev rmX1_init : Room := { frames := 1, cells := 3, slots := 3015, locals := 12 }
def poX1_init (cI cC : ClassId) (h0 : Nat) (w : va_W) : Prop := ∃ q7 q16 q25 : Nat, w = [(h0, .inr (1, [.ref q7, .ref q16, .ref q25, .int 0, .int 0])), (q7, .inl (cI, 15, .inl (fun _ => 0))), (q16, .inl (cI, 1500, .inl (fun _ => 0))), (q25, .inl (cI, 1500, .inl (fun _ => 0)))]
set_option maxHeartbeats 4000000 in
set_option maxRecDepth 100000 in
theorem zX1_init (l : Launch) (D : va_G) (cI cC : ClassId) (h0 sz : Nat) : Met l yX1_init wsX1_init rmX1_init (va_Pc [.ref h0] (MB D cI cC sz [(h0, .inr (1, [.null, .null, .null, .int 0, .int 0]))])) (inQ D (poX1_init cI cC h0) (va_A [(h0, .inr (1, [.null, .null, .null, .int 0, .int 0]))] sz)) 3 3015 (va_A [(h0, .inr (1, [.null, .null, .null, .int 0, .int 0]))] sz) := by
  refine MetI RX1 (by decide +kernel) rfl rfl (Nat.le_of_ble_eq_true rfl) ?_
  intro p e s m below meth c ls X hin hB hl
  obtain ⟨hsz, ⟨hP, hKK⟩, hD0⟩ := hB
  subst hsz
  have hD := hD0.self (sz := s.heap.size)
  generalize hAe : va_A [(h0, .inr (1, [.null, .null, .null, .int 0, .int 0]))] s.heap.size = A at hD ⊢
  have hA : ∀ z : Nat, s.heap.size ≤ z → A z := fun z hz => by rw [← hAe]; exact Or.inr hz
  have hS : va_S A s.heap s.heap [] := va_S.rf
  have hx := X.1
  have hb := X.2.1
  replace hl : lv_has ls 1 [(0, .ref h0)] := hl
  replace hin : meth.name = "<init>" := hin
  refine lv_aload_n hx hb dX1_init_0 rfl (lv_at hl 0 rfl) ?_
  refine W.objInit hx hb X.2.2.2.1 (X.2.2.2.2.1 _ oaX1_init) (X.2.2.2.2.1 _ obX1_init) (X.2.2.2.2.1 _ ocX1_init) rfl (by rw [X.2.2.1]; exact hl.1) rfl dX1_init_1 (Nat.le_of_ble_eq_true rfl) (Nat.le_of_ble_eq_true rfl) ?_
  refine W.eq (g2 := F0 m 4 ls []) rfl ?_
  refine lv_aload_n hx hb dX1_init_4 rfl (lv_at hl 0 rfl) ?_
  refine lv_bipush (v := iI 15) hx hb dX1_init_5 (by decide) ?_
  refine newI hx hb (X.2.2.2.2.1 _ acX1_init_int) hKK hP hD hS hA 15 (by decide) (by decide) (Nat.le_of_ble_eq_true rfl) (Nat.le_of_ble_eq_true rfl) (Nat.le_of_ble_eq_true rfl) dX1_init_7 (fun q7 H hP hD hS => ?_)
  replace hP : va_P D vwCl [(h0, .inr (1, [.null, .null, .null, .int 0, .int 0])), (q7, .inl (cI, 15, .inl (fun _ => 0)))] H := hP
  replace hD : va_D A [(h0, .inr (1, [.null, .null, .null, .int 0, .int 0])), (q7, .inl (cI, 15, .inl (fun _ => 0)))] := hD
  refine W.widen (k := 1) (n := 15) (Nat.le_of_ble_eq_true rfl) (Nat.le_of_ble_eq_true rfl) ?_
  refine va_putF (D := D) (ci := 1) (v := .ref q7) (ty := .array .int) (C := RX1) (T := TX1) (N := 5) hx hb X.2.2.2.2.1 iwX1_init_1 tyX1 tyX1_ok nmX1 X.2.2.2.1 hKK.1 hP hD hS 0 rfl rfl 0 (by decide) (X.2.2.2.2.1 _ flX1_init_9) (fun _ h9 => h9) rfl hin rfl (by decide +kernel) rfl rfl (Nat.le_of_ble_eq_true rfl) dX1_init_9 (fun H locs hP hD hS => ?_)
  replace hP : va_P D vwCl [(h0, .inr (1, [.ref q7, .null, .null, .int 0, .int 0])), (q7, .inl (cI, 15, .inl (fun _ => 0)))] H := hP
  replace hD : va_D A [(h0, .inr (1, [.ref q7, .null, .null, .int 0, .int 0])), (q7, .inl (cI, 15, .inl (fun _ => 0)))] := hD
  refine lv_aload_n hx hb dX1_init_12 rfl (lv_at hl 0 rfl) ?_
  refine lv_sipush (v := iI 1500) hx hb dX1_init_13 (by decide) ?_
  refine newI hx hb (X.2.2.2.2.1 _ acX1_init_int) hKK hP hD hS hA 1500 (by decide) (by decide) (Nat.le_of_ble_eq_true rfl) (Nat.le_of_ble_eq_true rfl) (Nat.le_of_ble_eq_true rfl) dX1_init_16 (fun q16 H hP hD hS => ?_)
  replace hP : va_P D vwCl [(h0, .inr (1, [.ref q7, .null, .null, .int 0, .int 0])), (q7, .inl (cI, 15, .inl (fun _ => 0))), (q16, .inl (cI, 1500, .inl (fun _ => 0)))] H := hP
  replace hD : va_D A [(h0, .inr (1, [.ref q7, .null, .null, .int 0, .int 0])), (q7, .inl (cI, 15, .inl (fun _ => 0))), (q16, .inl (cI, 1500, .inl (fun _ => 0)))] := hD
  refine W.widen (k := 2) (n := 1515) (Nat.le_of_ble_eq_true rfl) (Nat.le_of_ble_eq_true rfl) ?_
  refine va_putF (D := D) (ci := 1) (v := .ref q16) (ty := .array .int) (C := RX1) (T := TX1) (N := 5) hx hb X.2.2.2.2.1 iwX1_init_1 tyX1 tyX1_ok nmX1 X.2.2.2.1 hKK.1 hP hD hS 0 rfl rfl 1 (by decide) (X.2.2.2.2.1 _ flX1_init_15) (fun _ h9 => h9) rfl hin rfl (by decide +kernel) rfl rfl (Nat.le_of_ble_eq_true rfl) dX1_init_18 (fun H locs hP hD hS => ?_)
  replace hP : va_P D vwCl [(h0, .inr (1, [.ref q7, .ref q16, .null, .int 0, .int 0])), (q7, .inl (cI, 15, .inl (fun _ => 0))), (q16, .inl (cI, 1500, .inl (fun _ => 0)))] H := hP
  replace hD : va_D A [(h0, .inr (1, [.ref q7, .ref q16, .null, .int 0, .int 0])), (q7, .inl (cI, 15, .inl (fun _ => 0))), (q16, .inl (cI, 1500, .inl (fun _ => 0)))] := hD
  refine lv_aload_n hx hb dX1_init_21 rfl (lv_at hl 0 rfl) ?_
  refine lv_sipush (v := iI 1500) hx hb dX1_init_22 (by decide) ?_
  refine newI hx hb (X.2.2.2.2.1 _ acX1_init_int) hKK hP hD hS hA 1500 (by decide) (by decide) (Nat.le_of_ble_eq_true rfl) (Nat.le_of_ble_eq_true rfl) (Nat.le_of_ble_eq_true rfl) dX1_init_25 (fun q25 H hP hD hS => ?_)
  replace hP : va_P D vwCl [(h0, .inr (1, [.ref q7, .ref q16, .null, .int 0, .int 0])), (q7, .inl (cI, 15, .inl (fun _ => 0))), (q16, .inl (cI, 1500, .inl (fun _ => 0))), (q25, .inl (cI, 1500, .inl (fun _ => 0)))] H := hP
  replace hD : va_D A [(h0, .inr (1, [.ref q7, .ref q16, .null, .int 0, .int 0])), (q7, .inl (cI, 15, .inl (fun _ => 0))), (q16, .inl (cI, 1500, .inl (fun _ => 0))), (q25, .inl (cI, 1500, .inl (fun _ => 0)))] := hD
  refine W.widen (k := 3) (n := 3015) (Nat.le_of_ble_eq_true rfl) (Nat.le_of_ble_eq_true rfl) ?_
  refine va_putF (D := D) (ci := 1) (v := .ref q25) (ty := .array .int) (C := RX1) (T := TX1) (N := 5) hx hb X.2.2.2.2.1 iwX1_init_1 tyX1 tyX1_ok nmX1 X.2.2.2.1 hKK.1 hP hD hS 0 rfl rfl 2 (by decide) (X.2.2.2.2.1 _ flX1_init_18) (fun _ h9 => h9) rfl hin rfl (by decide +kernel) rfl rfl (Nat.le_of_ble_eq_true rfl) dX1_init_27 (fun H locs hP hD hS => ?_)
  replace hP : va_P D vwCl [(h0, .inr (1, [.ref q7, .ref q16, .ref q25, .int 0, .int 0])), (q7, .inl (cI, 15, .inl (fun _ => 0))), (q16, .inl (cI, 1500, .inl (fun _ => 0))), (q25, .inl (cI, 1500, .inl (fun _ => 0)))] H := hP
  replace hD : va_D A [(h0, .inr (1, [.ref q7, .ref q16, .ref q25, .int 0, .int 0])), (q7, .inl (cI, 15, .inl (fun _ => 0))), (q16, .inl (cI, 1500, .inl (fun _ => 0))), (q25, .inl (cI, 1500, .inl (fun _ => 0)))] := hD
  exact in_ret X ⟨q7, q16, q25, rfl⟩ hP hD hS dX1_init_30
theorem oaX2_init : Cond.methodLink RX2 3 objectInit ∈ wsX2_init := by decide +kernel
theorem obX2_init : Cond.instanceMethod objectInit ∈ wsX2_init := by decide +kernel
theorem ocX2_init : Cond.code objectInit ⟨#[0xb1]⟩ 1 none ∈ wsX2_init := by decide +kernel
theorem acX2_init_int : Cond.arrayClass .int ∈ wsX2_init := by decide +kernel
theorem flX2_init_9 : Cond.fieldLink RX2 9 "BracketTree$Text" "characters" "[I" ∈ wsX2_init := by decide +kernel
theorem iwX2_init_2 : ∀ w ∈ wsX20, w ∈ wsX2_init := by decide +kernel
theorem hdX2_init : yX2_init.cls ≠ "java/lang/invoke/MethodHandle" ∧ yX2_init.cls ≠ "java/lang/invoke/VarHandle" ∧ (parseMethodDescriptor yX2_init.desc).map (fun d => d.parameters.length) = some 0 := by decide +kernel
abbrev rmX2_init : Room := { frames := 1, cells := 1, slots := 300, locals := 12 }
def poX2_init (cI cC : ClassId) (h0 : Nat) (w : va_W) : Prop := ∃ q8 : Nat, w = [(h0, .inr (2, [.ref q8, .int 0])), (q8, .inl (cI, 300, .inl (fun _ => 0)))]
set_option maxHeartbeats 4000000 in
set_option maxRecDepth 100000 in
theorem zX2_init (l : Launch) (D : va_G) (cI cC : ClassId) (h0 sz : Nat) : Met l yX2_init wsX2_init rmX2_init (va_Pc [.ref h0] (MB D cI cC sz [(h0, .inr (2, [.null, .int 0]))])) (inQ D (poX2_init cI cC h0) (va_A [(h0, .inr (2, [.null, .int 0]))] sz)) 1 300 (va_A [(h0, .inr (2, [.null, .int 0]))] sz) := by
  refine MetI RX2 (by decide +kernel) rfl rfl (Nat.le_of_ble_eq_true rfl) ?_
  intro p e s m below meth c ls X hin hB hl
  obtain ⟨hsz, ⟨hP, hKK⟩, hD0⟩ := hB
  subst hsz
  have hD := hD0.self (sz := s.heap.size)
  generalize hAe : va_A [(h0, .inr (2, [.null, .int 0]))] s.heap.size = A at hD ⊢
  have hA : ∀ z : Nat, s.heap.size ≤ z → A z := fun z hz => by rw [← hAe]; exact Or.inr hz
  have hS : va_S A s.heap s.heap [] := va_S.rf
  have hx := X.1
  have hb := X.2.1
  replace hl : lv_has ls 1 [(0, .ref h0)] := hl
  replace hin : meth.name = "<init>" := hin
  refine lv_aload_n hx hb dX2_init_0 rfl (lv_at hl 0 rfl) ?_
  refine W.objInit hx hb X.2.2.2.1 (X.2.2.2.2.1 _ oaX2_init) (X.2.2.2.2.1 _ obX2_init) (X.2.2.2.2.1 _ ocX2_init) rfl (by rw [X.2.2.1]; exact hl.1) rfl dX2_init_1 (Nat.le_of_ble_eq_true rfl) (Nat.le_of_ble_eq_true rfl) ?_
  refine W.eq (g2 := F0 m 4 ls []) rfl ?_
  refine lv_aload_n hx hb dX2_init_4 rfl (lv_at hl 0 rfl) ?_
  refine lv_sipush (v := iI 300) hx hb dX2_init_5 (by decide) ?_
  refine newI hx hb (X.2.2.2.2.1 _ acX2_init_int) hKK hP hD hS hA 300 (by decide) (by decide) (Nat.le_of_ble_eq_true rfl) (Nat.le_of_ble_eq_true rfl) (Nat.le_of_ble_eq_true rfl) dX2_init_8 (fun q8 H hP hD hS => ?_)
  replace hP : va_P D vwCl [(h0, .inr (2, [.null, .int 0])), (q8, .inl (cI, 300, .inl (fun _ => 0)))] H := hP
  replace hD : va_D A [(h0, .inr (2, [.null, .int 0])), (q8, .inl (cI, 300, .inl (fun _ => 0)))] := hD
  refine W.widen (k := 1) (n := 300) (Nat.le_of_ble_eq_true rfl) (Nat.le_of_ble_eq_true rfl) ?_
  refine va_putF (D := D) (ci := 2) (v := .ref q8) (ty := .array .int) (C := RX2) (T := TX2) (N := 2) hx hb X.2.2.2.2.1 iwX2_init_2 tyX2 tyX2_ok nmX2 X.2.2.2.1 hKK.1 hP hD hS 0 rfl rfl 0 (by decide) (X.2.2.2.2.1 _ flX2_init_9) (fun _ h9 => h9) rfl hin rfl (by decide +kernel) rfl rfl (Nat.le_of_ble_eq_true rfl) dX2_init_10 (fun H locs hP hD hS => ?_)
  replace hP : va_P D vwCl [(h0, .inr (2, [.ref q8, .int 0])), (q8, .inl (cI, 300, .inl (fun _ => 0)))] H := hP
  replace hD : va_D A [(h0, .inr (2, [.ref q8, .int 0])), (q8, .inl (cI, 300, .inl (fun _ => 0)))] := hD
  exact in_ret X ⟨q8, rfl⟩ hP hD hS dX2_init_13
theorem oaX3_init : Cond.methodLink RX3 3 objectInit ∈ wsX3_init := by decide +kernel
theorem obX3_init : Cond.instanceMethod objectInit ∈ wsX3_init := by decide +kernel
theorem ocX3_init : Cond.code objectInit ⟨#[0xb1]⟩ 1 none ∈ wsX3_init := by decide +kernel
theorem acX3_init_int : Cond.arrayClass .int ∈ wsX3_init := by decide +kernel
theorem flX3_init_9 : Cond.fieldLink RX3 9 "BracketTree$Tree" "depths" "[I" ∈ wsX3_init := by decide +kernel
theorem iwX3_init_3 : ∀ w ∈ wsX30, w ∈ wsX3_init := by decide +kernel
theorem flX3_init_15 : Cond.fieldLink RX3 15 "BracketTree$Tree" "labels" "[I" ∈ wsX3_init := by decide +kernel
theorem flX3_init_18 : Cond.fieldLink RX3 18 "BracketTree$Tree" "heldDepths" "[I" ∈ wsX3_init := by decide +kernel
theorem flX3_init_21 : Cond.fieldLink RX3 21 "BracketTree$Tree" "heldLabels" "[I" ∈ wsX3_init := by decide +kernel
theorem niX3_init_X4_put : Cond.initialized RX4 ∈ wsX3_init := by decide +kernel
theorem nsX3_init_X4_put : Cond.static yX4_put ∈ wsX3_init := by decide +kernel
theorem flX3_init_28 : Cond.fieldLink RX3 28 "BracketTree$Tree" "count" "I" ∈ wsX3_init := by decide +kernel
theorem hdX3_init : yX3_init.cls ≠ "java/lang/invoke/MethodHandle" ∧ yX3_init.cls ≠ "java/lang/invoke/VarHandle" ∧ (parseMethodDescriptor yX3_init.desc).map (fun d => d.parameters.length) = some 0 := by decide +kernel
abbrev rmX3_init : Room := { frames := 1, cells := 4, slots := 400, locals := 22 }
def poX3_init (cI cC : ClassId) (h0 : Nat) (w : va_W) : Prop := ∃ q7 q15 q23 q31 : Nat, w = [(h0, .inr (3, [.ref q7, .ref q15, .ref q23, .ref q31, .int (iI 1)])), (q7, .inl (cI, 100, .inl (fun _ => 0))), (q15, .inl (cI, 100, .inl (mX4_put 100 (fun _ => 0) (iI 0) (iI 97)))), (q23, .inl (cI, 100, .inl (fun _ => 0))), (q31, .inl (cI, 100, .inl (fun _ => 0)))]
set_option maxHeartbeats 4000000 in
set_option maxRecDepth 100000 in
theorem zX3_init (l : Launch) (D : va_G) (cI cC : ClassId) (h0 sz : Nat) : Met l yX3_init wsX3_init rmX3_init (va_Pc [.ref h0] (MB D cI cC sz [(h0, .inr (3, [.null, .null, .null, .null, .int 0]))])) (inQ D (poX3_init cI cC h0) (va_A [(h0, .inr (3, [.null, .null, .null, .null, .int 0]))] sz)) 4 400 (va_A [(h0, .inr (3, [.null, .null, .null, .null, .int 0]))] sz) := by
  refine MetI RX3 (by decide +kernel) rfl rfl (Nat.le_of_ble_eq_true rfl) ?_
  intro p e s m below meth c ls X hin hB hl
  obtain ⟨hsz, ⟨hP, hKK⟩, hD0⟩ := hB
  subst hsz
  have hD := hD0.self (sz := s.heap.size)
  generalize hAe : va_A [(h0, .inr (3, [.null, .null, .null, .null, .int 0]))] s.heap.size = A at hD ⊢
  have hA : ∀ z : Nat, s.heap.size ≤ z → A z := fun z hz => by rw [← hAe]; exact Or.inr hz
  have hS : va_S A s.heap s.heap [] := va_S.rf
  have hx := X.1
  have hb := X.2.1
  replace hl : lv_has ls 1 [(0, .ref h0)] := hl
  replace hin : meth.name = "<init>" := hin
  refine lv_aload_n hx hb dX3_init_0 rfl (lv_at hl 0 rfl) ?_
  refine W.objInit hx hb X.2.2.2.1 (X.2.2.2.2.1 _ oaX3_init) (X.2.2.2.2.1 _ obX3_init) (X.2.2.2.2.1 _ ocX3_init) rfl (by rw [X.2.2.1]; exact hl.1) rfl dX3_init_1 (Nat.le_of_ble_eq_true rfl) (Nat.le_of_ble_eq_true rfl) ?_
  refine W.eq (g2 := F0 m 4 ls []) rfl ?_
  refine lv_aload_n hx hb dX3_init_4 rfl (lv_at hl 0 rfl) ?_
  refine lv_bipush (v := iI 100) hx hb dX3_init_5 (by decide) ?_
  refine newI hx hb (X.2.2.2.2.1 _ acX3_init_int) hKK hP hD hS hA 100 (by decide) (by decide) (Nat.le_of_ble_eq_true rfl) (Nat.le_of_ble_eq_true rfl) (Nat.le_of_ble_eq_true rfl) dX3_init_7 (fun q7 H hP hD hS => ?_)
  replace hP : va_P D vwCl [(h0, .inr (3, [.null, .null, .null, .null, .int 0])), (q7, .inl (cI, 100, .inl (fun _ => 0)))] H := hP
  replace hD : va_D A [(h0, .inr (3, [.null, .null, .null, .null, .int 0])), (q7, .inl (cI, 100, .inl (fun _ => 0)))] := hD
  refine W.widen (k := 1) (n := 100) (Nat.le_of_ble_eq_true rfl) (Nat.le_of_ble_eq_true rfl) ?_
  refine va_putF (D := D) (ci := 3) (v := .ref q7) (ty := .array .int) (C := RX3) (T := TX3) (N := 5) hx hb X.2.2.2.2.1 iwX3_init_3 tyX3 tyX3_ok nmX3 X.2.2.2.1 hKK.1 hP hD hS 0 rfl rfl 0 (by decide) (X.2.2.2.2.1 _ flX3_init_9) (fun _ h9 => h9) rfl hin rfl (by decide +kernel) rfl rfl (Nat.le_of_ble_eq_true rfl) dX3_init_9 (fun H locs hP hD hS => ?_)
  replace hP : va_P D vwCl [(h0, .inr (3, [.ref q7, .null, .null, .null, .int 0])), (q7, .inl (cI, 100, .inl (fun _ => 0)))] H := hP
  replace hD : va_D A [(h0, .inr (3, [.ref q7, .null, .null, .null, .int 0])), (q7, .inl (cI, 100, .inl (fun _ => 0)))] := hD
  refine lv_aload_n hx hb dX3_init_12 rfl (lv_at hl 0 rfl) ?_
  refine lv_bipush (v := iI 100) hx hb dX3_init_13 (by decide) ?_
  refine newI hx hb (X.2.2.2.2.1 _ acX3_init_int) hKK hP hD hS hA 100 (by decide) (by decide) (Nat.le_of_ble_eq_true rfl) (Nat.le_of_ble_eq_true rfl) (Nat.le_of_ble_eq_true rfl) dX3_init_15 (fun q15 H hP hD hS => ?_)
  replace hP : va_P D vwCl [(h0, .inr (3, [.ref q7, .null, .null, .null, .int 0])), (q7, .inl (cI, 100, .inl (fun _ => 0))), (q15, .inl (cI, 100, .inl (fun _ => 0)))] H := hP
  replace hD : va_D A [(h0, .inr (3, [.ref q7, .null, .null, .null, .int 0])), (q7, .inl (cI, 100, .inl (fun _ => 0))), (q15, .inl (cI, 100, .inl (fun _ => 0)))] := hD
  refine W.widen (k := 2) (n := 200) (Nat.le_of_ble_eq_true rfl) (Nat.le_of_ble_eq_true rfl) ?_
  refine va_putF (D := D) (ci := 3) (v := .ref q15) (ty := .array .int) (C := RX3) (T := TX3) (N := 5) hx hb X.2.2.2.2.1 iwX3_init_3 tyX3 tyX3_ok nmX3 X.2.2.2.1 hKK.1 hP hD hS 0 rfl rfl 1 (by decide) (X.2.2.2.2.1 _ flX3_init_15) (fun _ h9 => h9) rfl hin rfl (by decide +kernel) rfl rfl (Nat.le_of_ble_eq_true rfl) dX3_init_17 (fun H locs hP hD hS => ?_)
  replace hP : va_P D vwCl [(h0, .inr (3, [.ref q7, .ref q15, .null, .null, .int 0])), (q7, .inl (cI, 100, .inl (fun _ => 0))), (q15, .inl (cI, 100, .inl (fun _ => 0)))] H := hP
  replace hD : va_D A [(h0, .inr (3, [.ref q7, .ref q15, .null, .null, .int 0])), (q7, .inl (cI, 100, .inl (fun _ => 0))), (q15, .inl (cI, 100, .inl (fun _ => 0)))] := hD
  refine lv_aload_n hx hb dX3_init_20 rfl (lv_at hl 0 rfl) ?_
  refine lv_bipush (v := iI 100) hx hb dX3_init_21 (by decide) ?_
  refine newI hx hb (X.2.2.2.2.1 _ acX3_init_int) hKK hP hD hS hA 100 (by decide) (by decide) (Nat.le_of_ble_eq_true rfl) (Nat.le_of_ble_eq_true rfl) (Nat.le_of_ble_eq_true rfl) dX3_init_23 (fun q23 H hP hD hS => ?_)
  replace hP : va_P D vwCl [(h0, .inr (3, [.ref q7, .ref q15, .null, .null, .int 0])), (q7, .inl (cI, 100, .inl (fun _ => 0))), (q15, .inl (cI, 100, .inl (fun _ => 0))), (q23, .inl (cI, 100, .inl (fun _ => 0)))] H := hP
  replace hD : va_D A [(h0, .inr (3, [.ref q7, .ref q15, .null, .null, .int 0])), (q7, .inl (cI, 100, .inl (fun _ => 0))), (q15, .inl (cI, 100, .inl (fun _ => 0))), (q23, .inl (cI, 100, .inl (fun _ => 0)))] := hD
  refine W.widen (k := 3) (n := 300) (Nat.le_of_ble_eq_true rfl) (Nat.le_of_ble_eq_true rfl) ?_
  refine va_putF (D := D) (ci := 3) (v := .ref q23) (ty := .array .int) (C := RX3) (T := TX3) (N := 5) hx hb X.2.2.2.2.1 iwX3_init_3 tyX3 tyX3_ok nmX3 X.2.2.2.1 hKK.1 hP hD hS 0 rfl rfl 2 (by decide) (X.2.2.2.2.1 _ flX3_init_18) (fun _ h9 => h9) rfl hin rfl (by decide +kernel) rfl rfl (Nat.le_of_ble_eq_true rfl) dX3_init_25 (fun H locs hP hD hS => ?_)
  replace hP : va_P D vwCl [(h0, .inr (3, [.ref q7, .ref q15, .ref q23, .null, .int 0])), (q7, .inl (cI, 100, .inl (fun _ => 0))), (q15, .inl (cI, 100, .inl (fun _ => 0))), (q23, .inl (cI, 100, .inl (fun _ => 0)))] H := hP
  replace hD : va_D A [(h0, .inr (3, [.ref q7, .ref q15, .ref q23, .null, .int 0])), (q7, .inl (cI, 100, .inl (fun _ => 0))), (q15, .inl (cI, 100, .inl (fun _ => 0))), (q23, .inl (cI, 100, .inl (fun _ => 0)))] := hD
  refine lv_aload_n hx hb dX3_init_28 rfl (lv_at hl 0 rfl) ?_
  refine lv_bipush (v := iI 100) hx hb dX3_init_29 (by decide) ?_
  refine newI hx hb (X.2.2.2.2.1 _ acX3_init_int) hKK hP hD hS hA 100 (by decide) (by decide) (Nat.le_of_ble_eq_true rfl) (Nat.le_of_ble_eq_true rfl) (Nat.le_of_ble_eq_true rfl) dX3_init_31 (fun q31 H hP hD hS => ?_)
  replace hP : va_P D vwCl [(h0, .inr (3, [.ref q7, .ref q15, .ref q23, .null, .int 0])), (q7, .inl (cI, 100, .inl (fun _ => 0))), (q15, .inl (cI, 100, .inl (fun _ => 0))), (q23, .inl (cI, 100, .inl (fun _ => 0))), (q31, .inl (cI, 100, .inl (fun _ => 0)))] H := hP
  replace hD : va_D A [(h0, .inr (3, [.ref q7, .ref q15, .ref q23, .null, .int 0])), (q7, .inl (cI, 100, .inl (fun _ => 0))), (q15, .inl (cI, 100, .inl (fun _ => 0))), (q23, .inl (cI, 100, .inl (fun _ => 0))), (q31, .inl (cI, 100, .inl (fun _ => 0)))] := hD
  refine W.widen (k := 4) (n := 400) (Nat.le_of_ble_eq_true rfl) (Nat.le_of_ble_eq_true rfl) ?_
  refine va_putF (D := D) (ci := 3) (v := .ref q31) (ty := .array .int) (C := RX3) (T := TX3) (N := 5) hx hb X.2.2.2.2.1 iwX3_init_3 tyX3 tyX3_ok nmX3 X.2.2.2.1 hKK.1 hP hD hS 0 rfl rfl 3 (by decide) (X.2.2.2.2.1 _ flX3_init_21) (fun _ h9 => h9) rfl hin rfl (by decide +kernel) rfl rfl (Nat.le_of_ble_eq_true rfl) dX3_init_33 (fun H locs hP hD hS => ?_)
  replace hP : va_P D vwCl [(h0, .inr (3, [.ref q7, .ref q15, .ref q23, .ref q31, .int 0])), (q7, .inl (cI, 100, .inl (fun _ => 0))), (q15, .inl (cI, 100, .inl (fun _ => 0))), (q23, .inl (cI, 100, .inl (fun _ => 0))), (q31, .inl (cI, 100, .inl (fun _ => 0)))] H := hP
  replace hD : va_D A [(h0, .inr (3, [.ref q7, .ref q15, .ref q23, .ref q31, .int 0])), (q7, .inl (cI, 100, .inl (fun _ => 0))), (q15, .inl (cI, 100, .inl (fun _ => 0))), (q23, .inl (cI, 100, .inl (fun _ => 0))), (q31, .inl (cI, 100, .inl (fun _ => 0)))] := hD
  refine lv_aload_n hx hb dX3_init_36 rfl (lv_at hl 0 rfl) ?_
  refine va_get (D := D) (ci := 3) (v := .ref q15) (C := RX3) (T := TX3) (N := 5) hx hb X.2.2.2.2.1 iwX3_init_3 X.2.2.2.1 hKK.1 hP 0 rfl rfl 1 (by decide) (X.2.2.2.2.1 _ flX3_init_15) (fun _ h9 => h9) rfl dX3_init_37 ?_
  refine lv_iconst (v := iI 0) hx hb dX3_init_40 rfl ?_
  refine lv_bipush (v := iI 97) hx hb dX3_init_41 (by decide) ?_
  refine mcSN (host := "BracketTree") (rest := []) (wld2 := [(h0, .inr (3, [.ref q7, .ref q15, .ref q23, .ref q31, .int 0])), (q7, .inl (cI, 100, .inl (fun _ => 0))), (q15, .inl (cI, 100, .inl (mX4_put 100 (fun _ => 0) (iI 0) (iI 97)))), (q23, .inl (cI, 100, .inl (fun _ => 0))), (q31, .inl (cI, 100, .inl (fun _ => 0)))]) (wr := [(h0, .inr (3, [.ref q7, .ref q15, .ref q23, .ref q31, .int 0])), (q7, .inl (cI, 100, .inl (fun _ => 0))), (q23, .inl (cI, 100, .inl (fun _ => 0))), (q31, .inl (cI, 100, .inl (fun _ => 0)))]) X hKK hP hD hS hA 3 (zX4_put l D cI cC q15 100 (fun _ => 0) (iI 0) (iI 97) _) gX3_init_X4_put_n24 rfl rfl rfl (by decide +kernel) (X.2.2.2.2.1 _ niX3_init_X4_put) (X.2.2.2.2.1 _ nsX3_init_X4_put) hdX4_put ⟨Nat.le_of_ble_eq_true rfl, Nat.le_of_ble_eq_true rfl⟩ [2] [0, 1, 3, 4] rfl rfl rfl rfl rfl (by decide) rfl [0, 1, 4, 2, 3] rfl rfl rfl rfl hl.1 rfl (Nat.le_of_ble_eq_true rfl) dX3_init_43 ⟨Nat.le_of_ble_eq_true rfl, Nat.le_of_ble_eq_true rfl⟩ (fun H locs hP hD hS => ?_)
  refine lv_aload_n hx hb dX3_init_46 rfl (lv_at hl 0 rfl) ?_
  refine lv_iconst (v := iI 1) hx hb dX3_init_47 rfl ?_
  refine va_put (D := D) (ci := 3) (v := .int (iI 1)) (ty := .int) (C := RX3) (T := TX3) (N := 5) hx hb X.2.2.2.2.1 iwX3_init_3 tyX3 tyX3_ok nmX3 X.2.2.2.1 hKK.1 hP hD hS 0 rfl rfl 4 (by decide) (X.2.2.2.2.1 _ flX3_init_28) (fun _ h9 => h9) rfl (by decide +kernel) rfl rfl (Nat.le_of_ble_eq_true rfl) dX3_init_48 (fun H locs hP hD hS => ?_)
  replace hP : va_P D vwCl [(h0, .inr (3, [.ref q7, .ref q15, .ref q23, .ref q31, .int (iI 1)])), (q7, .inl (cI, 100, .inl (fun _ => 0))), (q15, .inl (cI, 100, .inl (mX4_put 100 (fun _ => 0) (iI 0) (iI 97)))), (q23, .inl (cI, 100, .inl (fun _ => 0))), (q31, .inl (cI, 100, .inl (fun _ => 0)))] H := hP
  replace hD : va_D A [(h0, .inr (3, [.ref q7, .ref q15, .ref q23, .ref q31, .int (iI 1)])), (q7, .inl (cI, 100, .inl (fun _ => 0))), (q15, .inl (cI, 100, .inl (mX4_put 100 (fun _ => 0) (iI 0) (iI 97)))), (q23, .inl (cI, 100, .inl (fun _ => 0))), (q31, .inl (cI, 100, .inl (fun _ => 0)))] := hD
  exact in_ret X ⟨q7, q15, q23, q31, rfl⟩ hP hD hS dX3_init_51
theorem oaX4_init : Cond.methodLink RX4 1 objectInit ∈ wsX4_init := by decide +kernel
theorem obX4_init : Cond.instanceMethod objectInit ∈ wsX4_init := by decide +kernel
theorem ocX4_init : Cond.code objectInit ⟨#[0xb1]⟩ 1 none ∈ wsX4_init := by decide +kernel
theorem caX4_init_3 : Cond.classLink RX4 7 RX3 ∈ wsX4_init := by decide +kernel
theorem cbX4_init_3 : Cond.instantiable RX3 5 ∈ wsX4_init := by decide +kernel
theorem ccX4_init_3 : Cond.initialized RX3 ∈ wsX4_init := by decide +kernel
theorem iwX4_init_3 : ∀ w ∈ wsX30, w ∈ wsX4_init := by decide +kernel
theorem niX4_init_X3_init : Cond.initialized RX3 ∈ wsX4_init := by decide +kernel
theorem njX4_init_X3_init : Cond.instanceMethod yX3_init ∈ wsX4_init := by decide +kernel
theorem nmX4_init_X3_init : Cond.methodLink RX4 9 yX3_init ∈ wsX4_init := by decide +kernel
theorem flX4_init_10 : Cond.fieldLink RX4 10 "BracketTree" "tree" "LBracketTree$Tree;" ∈ wsX4_init := by decide +kernel
theorem iwX4_init_4 : ∀ w ∈ wsX40, w ∈ wsX4_init := by decide +kernel
theorem caX4_init_0 : Cond.classLink RX4 16 RX0 ∈ wsX4_init := by decide +kernel
theorem cbX4_init_0 : Cond.instantiable RX0 1 ∈ wsX4_init := by decide +kernel
theorem ccX4_init_0 : Cond.initialized RX0 ∈ wsX4_init := by decide +kernel
theorem iwX4_init_0 : ∀ w ∈ wsX00, w ∈ wsX4_init := by decide +kernel
theorem niX4_init_X0_init : Cond.initialized RX0 ∈ wsX4_init := by decide +kernel
theorem njX4_init_X0_init : Cond.instanceMethod yX0_init ∈ wsX4_init := by decide +kernel
theorem flX4_init_19 : Cond.fieldLink RX4 19 "BracketTree" "blocks" "LBracketTree$Blocks;" ∈ wsX4_init := by decide +kernel
theorem caX4_init_1 : Cond.classLink RX4 23 RX1 ∈ wsX4_init := by decide +kernel
theorem cbX4_init_1 : Cond.instantiable RX1 5 ∈ wsX4_init := by decide +kernel
theorem ccX4_init_1 : Cond.initialized RX1 ∈ wsX4_init := by decide +kernel
theorem iwX4_init_1 : ∀ w ∈ wsX10, w ∈ wsX4_init := by decide +kernel
theorem niX4_init_X1_init : Cond.initialized RX1 ∈ wsX4_init := by decide +kernel
theorem njX4_init_X1_init : Cond.instanceMethod yX1_init ∈ wsX4_init := by decide +kernel
theorem flX4_init_26 : Cond.fieldLink RX4 26 "BracketTree" "history" "LBracketTree$History;" ∈ wsX4_init := by decide +kernel
theorem caX4_init_2 : Cond.classLink RX4 30 RX2 ∈ wsX4_init := by decide +kernel
theorem cbX4_init_2 : Cond.instantiable RX2 2 ∈ wsX4_init := by decide +kernel
theorem ccX4_init_2 : Cond.initialized RX2 ∈ wsX4_init := by decide +kernel
theorem iwX4_init_2 : ∀ w ∈ wsX20, w ∈ wsX4_init := by decide +kernel
theorem niX4_init_X2_init : Cond.initialized RX2 ∈ wsX4_init := by decide +kernel
theorem njX4_init_X2_init : Cond.instanceMethod yX2_init ∈ wsX4_init := by decide +kernel
theorem flX4_init_33 : Cond.fieldLink RX4 33 "BracketTree" "text" "LBracketTree$Text;" ∈ wsX4_init := by decide +kernel
theorem hdX4_init : yX4_init.cls ≠ "java/lang/invoke/MethodHandle" ∧ yX4_init.cls ≠ "java/lang/invoke/VarHandle" ∧ (parseMethodDescriptor yX4_init.desc).map (fun d => d.parameters.length) = some 0 := by decide +kernel
abbrev rmX4_init : Room := { frames := 2, cells := 12, slots := 3728, locals := 42 }
def poX4_init (cI cC : ClassId) (h0 : Nat) (w : va_W) : Prop := ∃ q5 q7_q5 q15_q5 q23_q5 q31_q5 q16 q27 q7_q27 q16_q27 q25_q27 q38 q8_q38 : Nat, w = [(h0, .inr (4, [.ref q5, .ref q16, .ref q27, .ref q38])), (q5, .inr (3, [.ref q7_q5, .ref q15_q5, .ref q23_q5, .ref q31_q5, .int (iI 1)])), (q7_q5, .inl (cI, 100, .inl (fun _ => 0))), (q15_q5, .inl (cI, 100, .inl (mX4_put 100 (fun _ => 0) (iI 0) (iI 97)))), (q23_q5, .inl (cI, 100, .inl (fun _ => 0))), (q31_q5, .inl (cI, 100, .inl (fun _ => 0))), (q16, .inr (0, [.int (iI 8)])), (q27, .inr (1, [.ref q7_q27, .ref q16_q27, .ref q25_q27, .int 0, .int 0])), (q7_q27, .inl (cI, 15, .inl (fun _ => 0))), (q16_q27, .inl (cI, 1500, .inl (fun _ => 0))), (q25_q27, .inl (cI, 1500, .inl (fun _ => 0))), (q38, .inr (2, [.ref q8_q38, .int 0])), (q8_q38, .inl (cI, 300, .inl (fun _ => 0)))]
set_option maxHeartbeats 4000000 in
set_option maxRecDepth 100000 in
theorem zX4_init (l : Launch) (D : va_G) (cI cC : ClassId) (h0 sz : Nat) : Met l yX4_init wsX4_init rmX4_init (va_Pc [.ref h0] (MB D cI cC sz [(h0, .inr (4, [.null, .null, .null, .null]))])) (inQ D (poX4_init cI cC h0) (va_A [(h0, .inr (4, [.null, .null, .null, .null]))] sz)) 12 3728 (va_A [(h0, .inr (4, [.null, .null, .null, .null]))] sz) := by
  refine MetI RX4 (by decide +kernel) rfl rfl (Nat.le_of_ble_eq_true rfl) ?_
  intro p e s m below meth c ls X hin hB hl
  obtain ⟨hsz, ⟨hP, hKK⟩, hD0⟩ := hB
  subst hsz
  have hD := hD0.self (sz := s.heap.size)
  generalize hAe : va_A [(h0, .inr (4, [.null, .null, .null, .null]))] s.heap.size = A at hD ⊢
  have hA : ∀ z : Nat, s.heap.size ≤ z → A z := fun z hz => by rw [← hAe]; exact Or.inr hz
  have hS : va_S A s.heap s.heap [] := va_S.rf
  have hx := X.1
  have hb := X.2.1
  replace hl : lv_has ls 1 [(0, .ref h0)] := hl
  replace hin : meth.name = "<init>" := hin
  refine lv_aload_n hx hb dX4_init_0 rfl (lv_at hl 0 rfl) ?_
  refine W.objInit hx hb X.2.2.2.1 (X.2.2.2.2.1 _ oaX4_init) (X.2.2.2.2.1 _ obX4_init) (X.2.2.2.2.1 _ ocX4_init) rfl (by rw [X.2.2.1]; exact hl.1) rfl dX4_init_1 (Nat.le_of_ble_eq_true rfl) (Nat.le_of_ble_eq_true rfl) ?_
  refine W.eq (g2 := F0 m 4 ls []) rfl ?_
  refine lv_aload_n hx hb dX4_init_4 rfl (lv_at hl 0 rfl) ?_
  refine va_new (ci := 3) (fs := [.null, .null, .null, .null, .int 0]) (C := RX3) (T := TX3) (N := 5) hx hb X.2.2.2.2.1 iwX4_init_3 tyX3 tyX3_ok X.2.2.2.1 (X.2.2.2.2.1 _ caX4_init_3) (X.2.2.2.2.1 _ cbX4_init_3) (X.2.2.2.2.1 _ ccX4_init_3) hKK.1 hP hD hS hA rfl (fun j hj => by rcases (show j = 0 ∨ j = 1 ∨ j = 2 ∨ j = 3 ∨ j = 4 by omega) with rfl | rfl | rfl | rfl | rfl <;> rfl) (Nat.le_of_ble_eq_true rfl) (Nat.le_of_ble_eq_true rfl) dX4_init_5 (fun q5 H hP hD hS => ?_)
  replace hP : va_P D vwCl [(h0, .inr (4, [.null, .null, .null, .null])), (q5, .inr (3, [.null, .null, .null, .null, .int 0]))] H := hP
  replace hD : va_D A [(h0, .inr (4, [.null, .null, .null, .null])), (q5, .inr (3, [.null, .null, .null, .null, .int 0]))] := hD
  refine W.widen (k := 1) (n := 5) (Nat.le_of_ble_eq_true rfl) (Nat.le_of_ble_eq_true rfl) ?_
  refine lv_dup hx hb dX4_init_8 rfl ?_
  refine icI (rest := [.ref q5, .ref h0]) (wr := [(h0, .inr (4, [.null, .null, .null, .null]))]) X hKK hP hD hS hA (zX3_init l D cI cC q5 _) gX4_init_X3_init rfl rfl rfl (X.2.2.2.2.1 _ niX4_init_X3_init) (X.2.2.2.2.1 _ nmX4_init_X3_init) (X.2.2.2.2.1 _ njX4_init_X3_init) rfl hdX3_init ⟨Nat.le_of_ble_eq_true rfl, Nat.le_of_ble_eq_true rfl⟩ [1] [0] rfl rfl rfl rfl rfl (by decide) hl.1 rfl (Nat.le_of_ble_eq_true rfl) dX4_init_9 ⟨Nat.le_of_ble_eq_true rfl, Nat.le_of_ble_eq_true rfl⟩ (fun w H locs hw hP hD hS => ?_)
  obtain ⟨q7_q5, q15_q5, q23_q5, q31_q5, rfl⟩ := hw
  replace hP : va_P D vwCl [(h0, .inr (4, [.null, .null, .null, .null])), (q5, .inr (3, [.ref q7_q5, .ref q15_q5, .ref q23_q5, .ref q31_q5, .int (iI 1)])), (q7_q5, .inl (cI, 100, .inl (fun _ => 0))), (q15_q5, .inl (cI, 100, .inl (mX4_put 100 (fun _ => 0) (iI 0) (iI 97)))), (q23_q5, .inl (cI, 100, .inl (fun _ => 0))), (q31_q5, .inl (cI, 100, .inl (fun _ => 0)))] H := hP
  replace hD : va_D A [(h0, .inr (4, [.null, .null, .null, .null])), (q5, .inr (3, [.ref q7_q5, .ref q15_q5, .ref q23_q5, .ref q31_q5, .int (iI 1)])), (q7_q5, .inl (cI, 100, .inl (fun _ => 0))), (q15_q5, .inl (cI, 100, .inl (mX4_put 100 (fun _ => 0) (iI 0) (iI 97)))), (q23_q5, .inl (cI, 100, .inl (fun _ => 0))), (q31_q5, .inl (cI, 100, .inl (fun _ => 0)))] := hD
  refine W.widen (k := 5) (n := 405) (Nat.le_of_ble_eq_true rfl) (Nat.le_of_ble_eq_true rfl) ?_
  refine va_putF (D := D) (ci := 4) (v := .ref q5) (ty := .object "BracketTree$Tree") (C := RX4) (T := TX4) (N := 4) hx hb X.2.2.2.2.1 iwX4_init_4 tyX4 tyX4_ok nmX4 X.2.2.2.1 hKK.1 hP hD hS 0 rfl rfl 0 (by decide) (X.2.2.2.2.1 _ flX4_init_10) (fun _ h9 => h9) rfl hin rfl (by decide +kernel) rfl rfl (Nat.le_of_ble_eq_true rfl) dX4_init_12 (fun H locs hP hD hS => ?_)
  replace hP : va_P D vwCl [(h0, .inr (4, [.ref q5, .null, .null, .null])), (q5, .inr (3, [.ref q7_q5, .ref q15_q5, .ref q23_q5, .ref q31_q5, .int (iI 1)])), (q7_q5, .inl (cI, 100, .inl (fun _ => 0))), (q15_q5, .inl (cI, 100, .inl (mX4_put 100 (fun _ => 0) (iI 0) (iI 97)))), (q23_q5, .inl (cI, 100, .inl (fun _ => 0))), (q31_q5, .inl (cI, 100, .inl (fun _ => 0)))] H := hP
  replace hD : va_D A [(h0, .inr (4, [.ref q5, .null, .null, .null])), (q5, .inr (3, [.ref q7_q5, .ref q15_q5, .ref q23_q5, .ref q31_q5, .int (iI 1)])), (q7_q5, .inl (cI, 100, .inl (fun _ => 0))), (q15_q5, .inl (cI, 100, .inl (mX4_put 100 (fun _ => 0) (iI 0) (iI 97)))), (q23_q5, .inl (cI, 100, .inl (fun _ => 0))), (q31_q5, .inl (cI, 100, .inl (fun _ => 0)))] := hD
  refine lv_aload_n hx hb dX4_init_15 rfl (lv_at hl 0 rfl) ?_
  refine va_new (ci := 0) (fs := [.int 0]) (C := RX0) (T := TX0) (N := 1) hx hb X.2.2.2.2.1 iwX4_init_0 tyX0 tyX0_ok X.2.2.2.1 (X.2.2.2.2.1 _ caX4_init_0) (X.2.2.2.2.1 _ cbX4_init_0) (X.2.2.2.2.1 _ ccX4_init_0) hKK.1 hP hD hS hA rfl (fun j hj => by rcases (show j = 0 by omega) with rfl <;> rfl) (Nat.le_of_ble_eq_true rfl) (Nat.le_of_ble_eq_true rfl) dX4_init_16 (fun q16 H hP hD hS => ?_)
  replace hP : va_P D vwCl [(h0, .inr (4, [.ref q5, .null, .null, .null])), (q5, .inr (3, [.ref q7_q5, .ref q15_q5, .ref q23_q5, .ref q31_q5, .int (iI 1)])), (q7_q5, .inl (cI, 100, .inl (fun _ => 0))), (q15_q5, .inl (cI, 100, .inl (mX4_put 100 (fun _ => 0) (iI 0) (iI 97)))), (q23_q5, .inl (cI, 100, .inl (fun _ => 0))), (q31_q5, .inl (cI, 100, .inl (fun _ => 0))), (q16, .inr (0, [.int 0]))] H := hP
  replace hD : va_D A [(h0, .inr (4, [.ref q5, .null, .null, .null])), (q5, .inr (3, [.ref q7_q5, .ref q15_q5, .ref q23_q5, .ref q31_q5, .int (iI 1)])), (q7_q5, .inl (cI, 100, .inl (fun _ => 0))), (q15_q5, .inl (cI, 100, .inl (mX4_put 100 (fun _ => 0) (iI 0) (iI 97)))), (q23_q5, .inl (cI, 100, .inl (fun _ => 0))), (q31_q5, .inl (cI, 100, .inl (fun _ => 0))), (q16, .inr (0, [.int 0]))] := hD
  refine W.widen (k := 6) (n := 406) (Nat.le_of_ble_eq_true rfl) (Nat.le_of_ble_eq_true rfl) ?_
  refine lv_dup hx hb dX4_init_19 rfl ?_
  refine icN (host := "BracketTree") (rest := [.ref q16, .ref h0]) (wr := [(h0, .inr (4, [.ref q5, .null, .null, .null])), (q5, .inr (3, [.ref q7_q5, .ref q15_q5, .ref q23_q5, .ref q31_q5, .int (iI 1)])), (q7_q5, .inl (cI, 100, .inl (fun _ => 0))), (q15_q5, .inl (cI, 100, .inl (mX4_put 100 (fun _ => 0) (iI 0) (iI 97)))), (q23_q5, .inl (cI, 100, .inl (fun _ => 0))), (q31_q5, .inl (cI, 100, .inl (fun _ => 0)))]) X hKK hP hD hS hA (zX0_init l D cI cC q16 _) gX4_init_X0_init_n18 rfl rfl rfl (by decide +kernel) (X.2.2.2.2.1 _ niX4_init_X0_init) (X.2.2.2.2.1 _ njX4_init_X0_init) rfl hdX0_init ⟨Nat.le_of_ble_eq_true rfl, Nat.le_of_ble_eq_true rfl⟩ [6] [0, 1, 2, 3, 4, 5] rfl rfl rfl rfl rfl (by decide) hl.1 rfl (Nat.le_of_ble_eq_true rfl) dX4_init_20 ⟨Nat.le_of_ble_eq_true rfl, Nat.le_of_ble_eq_true rfl⟩ (fun w H locs hw hP hD hS => ?_)
  obtain rfl := hw
  replace hP : va_P D vwCl [(h0, .inr (4, [.ref q5, .null, .null, .null])), (q5, .inr (3, [.ref q7_q5, .ref q15_q5, .ref q23_q5, .ref q31_q5, .int (iI 1)])), (q7_q5, .inl (cI, 100, .inl (fun _ => 0))), (q15_q5, .inl (cI, 100, .inl (mX4_put 100 (fun _ => 0) (iI 0) (iI 97)))), (q23_q5, .inl (cI, 100, .inl (fun _ => 0))), (q31_q5, .inl (cI, 100, .inl (fun _ => 0))), (q16, .inr (0, [.int (iI 8)]))] H := hP
  replace hD : va_D A [(h0, .inr (4, [.ref q5, .null, .null, .null])), (q5, .inr (3, [.ref q7_q5, .ref q15_q5, .ref q23_q5, .ref q31_q5, .int (iI 1)])), (q7_q5, .inl (cI, 100, .inl (fun _ => 0))), (q15_q5, .inl (cI, 100, .inl (mX4_put 100 (fun _ => 0) (iI 0) (iI 97)))), (q23_q5, .inl (cI, 100, .inl (fun _ => 0))), (q31_q5, .inl (cI, 100, .inl (fun _ => 0))), (q16, .inr (0, [.int (iI 8)]))] := hD
  refine W.widen (k := 6) (n := 406) (Nat.le_of_ble_eq_true rfl) (Nat.le_of_ble_eq_true rfl) ?_
  refine va_putF (D := D) (ci := 4) (v := .ref q16) (ty := .object "BracketTree$Blocks") (C := RX4) (T := TX4) (N := 4) hx hb X.2.2.2.2.1 iwX4_init_4 tyX4 tyX4_ok nmX4 X.2.2.2.1 hKK.1 hP hD hS 0 rfl rfl 1 (by decide) (X.2.2.2.2.1 _ flX4_init_19) (fun _ h9 => h9) rfl hin rfl (by decide +kernel) rfl rfl (Nat.le_of_ble_eq_true rfl) dX4_init_23 (fun H locs hP hD hS => ?_)
  replace hP : va_P D vwCl [(h0, .inr (4, [.ref q5, .ref q16, .null, .null])), (q5, .inr (3, [.ref q7_q5, .ref q15_q5, .ref q23_q5, .ref q31_q5, .int (iI 1)])), (q7_q5, .inl (cI, 100, .inl (fun _ => 0))), (q15_q5, .inl (cI, 100, .inl (mX4_put 100 (fun _ => 0) (iI 0) (iI 97)))), (q23_q5, .inl (cI, 100, .inl (fun _ => 0))), (q31_q5, .inl (cI, 100, .inl (fun _ => 0))), (q16, .inr (0, [.int (iI 8)]))] H := hP
  replace hD : va_D A [(h0, .inr (4, [.ref q5, .ref q16, .null, .null])), (q5, .inr (3, [.ref q7_q5, .ref q15_q5, .ref q23_q5, .ref q31_q5, .int (iI 1)])), (q7_q5, .inl (cI, 100, .inl (fun _ => 0))), (q15_q5, .inl (cI, 100, .inl (mX4_put 100 (fun _ => 0) (iI 0) (iI 97)))), (q23_q5, .inl (cI, 100, .inl (fun _ => 0))), (q31_q5, .inl (cI, 100, .inl (fun _ => 0))), (q16, .inr (0, [.int (iI 8)]))] := hD
  refine lv_aload_n hx hb dX4_init_26 rfl (lv_at hl 0 rfl) ?_
  refine va_new (ci := 1) (fs := [.null, .null, .null, .int 0, .int 0]) (C := RX1) (T := TX1) (N := 5) hx hb X.2.2.2.2.1 iwX4_init_1 tyX1 tyX1_ok X.2.2.2.1 (X.2.2.2.2.1 _ caX4_init_1) (X.2.2.2.2.1 _ cbX4_init_1) (X.2.2.2.2.1 _ ccX4_init_1) hKK.1 hP hD hS hA rfl (fun j hj => by rcases (show j = 0 ∨ j = 1 ∨ j = 2 ∨ j = 3 ∨ j = 4 by omega) with rfl | rfl | rfl | rfl | rfl <;> rfl) (Nat.le_of_ble_eq_true rfl) (Nat.le_of_ble_eq_true rfl) dX4_init_27 (fun q27 H hP hD hS => ?_)
  replace hP : va_P D vwCl [(h0, .inr (4, [.ref q5, .ref q16, .null, .null])), (q5, .inr (3, [.ref q7_q5, .ref q15_q5, .ref q23_q5, .ref q31_q5, .int (iI 1)])), (q7_q5, .inl (cI, 100, .inl (fun _ => 0))), (q15_q5, .inl (cI, 100, .inl (mX4_put 100 (fun _ => 0) (iI 0) (iI 97)))), (q23_q5, .inl (cI, 100, .inl (fun _ => 0))), (q31_q5, .inl (cI, 100, .inl (fun _ => 0))), (q16, .inr (0, [.int (iI 8)])), (q27, .inr (1, [.null, .null, .null, .int 0, .int 0]))] H := hP
  replace hD : va_D A [(h0, .inr (4, [.ref q5, .ref q16, .null, .null])), (q5, .inr (3, [.ref q7_q5, .ref q15_q5, .ref q23_q5, .ref q31_q5, .int (iI 1)])), (q7_q5, .inl (cI, 100, .inl (fun _ => 0))), (q15_q5, .inl (cI, 100, .inl (mX4_put 100 (fun _ => 0) (iI 0) (iI 97)))), (q23_q5, .inl (cI, 100, .inl (fun _ => 0))), (q31_q5, .inl (cI, 100, .inl (fun _ => 0))), (q16, .inr (0, [.int (iI 8)])), (q27, .inr (1, [.null, .null, .null, .int 0, .int 0]))] := hD
  refine W.widen (k := 7) (n := 411) (Nat.le_of_ble_eq_true rfl) (Nat.le_of_ble_eq_true rfl) ?_
  refine lv_dup hx hb dX4_init_30 rfl ?_
  refine icN (host := "BracketTree") (rest := [.ref q27, .ref h0]) (wr := [(h0, .inr (4, [.ref q5, .ref q16, .null, .null])), (q5, .inr (3, [.ref q7_q5, .ref q15_q5, .ref q23_q5, .ref q31_q5, .int (iI 1)])), (q7_q5, .inl (cI, 100, .inl (fun _ => 0))), (q15_q5, .inl (cI, 100, .inl (mX4_put 100 (fun _ => 0) (iI 0) (iI 97)))), (q23_q5, .inl (cI, 100, .inl (fun _ => 0))), (q31_q5, .inl (cI, 100, .inl (fun _ => 0))), (q16, .inr (0, [.int (iI 8)]))]) X hKK hP hD hS hA (zX1_init l D cI cC q27 _) gX4_init_X1_init_n25 rfl rfl rfl (by decide +kernel) (X.2.2.2.2.1 _ niX4_init_X1_init) (X.2.2.2.2.1 _ njX4_init_X1_init) rfl hdX1_init ⟨Nat.le_of_ble_eq_true rfl, Nat.le_of_ble_eq_true rfl⟩ [7] [0, 1, 2, 3, 4, 5, 6] rfl rfl rfl rfl rfl (by decide) hl.1 rfl (Nat.le_of_ble_eq_true rfl) dX4_init_31 ⟨Nat.le_of_ble_eq_true rfl, Nat.le_of_ble_eq_true rfl⟩ (fun w H locs hw hP hD hS => ?_)
  obtain ⟨q7_q27, q16_q27, q25_q27, rfl⟩ := hw
  replace hP : va_P D vwCl [(h0, .inr (4, [.ref q5, .ref q16, .null, .null])), (q5, .inr (3, [.ref q7_q5, .ref q15_q5, .ref q23_q5, .ref q31_q5, .int (iI 1)])), (q7_q5, .inl (cI, 100, .inl (fun _ => 0))), (q15_q5, .inl (cI, 100, .inl (mX4_put 100 (fun _ => 0) (iI 0) (iI 97)))), (q23_q5, .inl (cI, 100, .inl (fun _ => 0))), (q31_q5, .inl (cI, 100, .inl (fun _ => 0))), (q16, .inr (0, [.int (iI 8)])), (q27, .inr (1, [.ref q7_q27, .ref q16_q27, .ref q25_q27, .int 0, .int 0])), (q7_q27, .inl (cI, 15, .inl (fun _ => 0))), (q16_q27, .inl (cI, 1500, .inl (fun _ => 0))), (q25_q27, .inl (cI, 1500, .inl (fun _ => 0)))] H := hP
  replace hD : va_D A [(h0, .inr (4, [.ref q5, .ref q16, .null, .null])), (q5, .inr (3, [.ref q7_q5, .ref q15_q5, .ref q23_q5, .ref q31_q5, .int (iI 1)])), (q7_q5, .inl (cI, 100, .inl (fun _ => 0))), (q15_q5, .inl (cI, 100, .inl (mX4_put 100 (fun _ => 0) (iI 0) (iI 97)))), (q23_q5, .inl (cI, 100, .inl (fun _ => 0))), (q31_q5, .inl (cI, 100, .inl (fun _ => 0))), (q16, .inr (0, [.int (iI 8)])), (q27, .inr (1, [.ref q7_q27, .ref q16_q27, .ref q25_q27, .int 0, .int 0])), (q7_q27, .inl (cI, 15, .inl (fun _ => 0))), (q16_q27, .inl (cI, 1500, .inl (fun _ => 0))), (q25_q27, .inl (cI, 1500, .inl (fun _ => 0)))] := hD
  refine W.widen (k := 10) (n := 3426) (Nat.le_of_ble_eq_true rfl) (Nat.le_of_ble_eq_true rfl) ?_
  refine va_putF (D := D) (ci := 4) (v := .ref q27) (ty := .object "BracketTree$History") (C := RX4) (T := TX4) (N := 4) hx hb X.2.2.2.2.1 iwX4_init_4 tyX4 tyX4_ok nmX4 X.2.2.2.1 hKK.1 hP hD hS 0 rfl rfl 2 (by decide) (X.2.2.2.2.1 _ flX4_init_26) (fun _ h9 => h9) rfl hin rfl (by decide +kernel) rfl rfl (Nat.le_of_ble_eq_true rfl) dX4_init_34 (fun H locs hP hD hS => ?_)
  replace hP : va_P D vwCl [(h0, .inr (4, [.ref q5, .ref q16, .ref q27, .null])), (q5, .inr (3, [.ref q7_q5, .ref q15_q5, .ref q23_q5, .ref q31_q5, .int (iI 1)])), (q7_q5, .inl (cI, 100, .inl (fun _ => 0))), (q15_q5, .inl (cI, 100, .inl (mX4_put 100 (fun _ => 0) (iI 0) (iI 97)))), (q23_q5, .inl (cI, 100, .inl (fun _ => 0))), (q31_q5, .inl (cI, 100, .inl (fun _ => 0))), (q16, .inr (0, [.int (iI 8)])), (q27, .inr (1, [.ref q7_q27, .ref q16_q27, .ref q25_q27, .int 0, .int 0])), (q7_q27, .inl (cI, 15, .inl (fun _ => 0))), (q16_q27, .inl (cI, 1500, .inl (fun _ => 0))), (q25_q27, .inl (cI, 1500, .inl (fun _ => 0)))] H := hP
  replace hD : va_D A [(h0, .inr (4, [.ref q5, .ref q16, .ref q27, .null])), (q5, .inr (3, [.ref q7_q5, .ref q15_q5, .ref q23_q5, .ref q31_q5, .int (iI 1)])), (q7_q5, .inl (cI, 100, .inl (fun _ => 0))), (q15_q5, .inl (cI, 100, .inl (mX4_put 100 (fun _ => 0) (iI 0) (iI 97)))), (q23_q5, .inl (cI, 100, .inl (fun _ => 0))), (q31_q5, .inl (cI, 100, .inl (fun _ => 0))), (q16, .inr (0, [.int (iI 8)])), (q27, .inr (1, [.ref q7_q27, .ref q16_q27, .ref q25_q27, .int 0, .int 0])), (q7_q27, .inl (cI, 15, .inl (fun _ => 0))), (q16_q27, .inl (cI, 1500, .inl (fun _ => 0))), (q25_q27, .inl (cI, 1500, .inl (fun _ => 0)))] := hD
  refine lv_aload_n hx hb dX4_init_37 rfl (lv_at hl 0 rfl) ?_
  refine va_new (ci := 2) (fs := [.null, .int 0]) (C := RX2) (T := TX2) (N := 2) hx hb X.2.2.2.2.1 iwX4_init_2 tyX2 tyX2_ok X.2.2.2.1 (X.2.2.2.2.1 _ caX4_init_2) (X.2.2.2.2.1 _ cbX4_init_2) (X.2.2.2.2.1 _ ccX4_init_2) hKK.1 hP hD hS hA rfl (fun j hj => by rcases (show j = 0 ∨ j = 1 by omega) with rfl | rfl <;> rfl) (Nat.le_of_ble_eq_true rfl) (Nat.le_of_ble_eq_true rfl) dX4_init_38 (fun q38 H hP hD hS => ?_)
  replace hP : va_P D vwCl [(h0, .inr (4, [.ref q5, .ref q16, .ref q27, .null])), (q5, .inr (3, [.ref q7_q5, .ref q15_q5, .ref q23_q5, .ref q31_q5, .int (iI 1)])), (q7_q5, .inl (cI, 100, .inl (fun _ => 0))), (q15_q5, .inl (cI, 100, .inl (mX4_put 100 (fun _ => 0) (iI 0) (iI 97)))), (q23_q5, .inl (cI, 100, .inl (fun _ => 0))), (q31_q5, .inl (cI, 100, .inl (fun _ => 0))), (q16, .inr (0, [.int (iI 8)])), (q27, .inr (1, [.ref q7_q27, .ref q16_q27, .ref q25_q27, .int 0, .int 0])), (q7_q27, .inl (cI, 15, .inl (fun _ => 0))), (q16_q27, .inl (cI, 1500, .inl (fun _ => 0))), (q25_q27, .inl (cI, 1500, .inl (fun _ => 0))), (q38, .inr (2, [.null, .int 0]))] H := hP
  replace hD : va_D A [(h0, .inr (4, [.ref q5, .ref q16, .ref q27, .null])), (q5, .inr (3, [.ref q7_q5, .ref q15_q5, .ref q23_q5, .ref q31_q5, .int (iI 1)])), (q7_q5, .inl (cI, 100, .inl (fun _ => 0))), (q15_q5, .inl (cI, 100, .inl (mX4_put 100 (fun _ => 0) (iI 0) (iI 97)))), (q23_q5, .inl (cI, 100, .inl (fun _ => 0))), (q31_q5, .inl (cI, 100, .inl (fun _ => 0))), (q16, .inr (0, [.int (iI 8)])), (q27, .inr (1, [.ref q7_q27, .ref q16_q27, .ref q25_q27, .int 0, .int 0])), (q7_q27, .inl (cI, 15, .inl (fun _ => 0))), (q16_q27, .inl (cI, 1500, .inl (fun _ => 0))), (q25_q27, .inl (cI, 1500, .inl (fun _ => 0))), (q38, .inr (2, [.null, .int 0]))] := hD
  refine W.widen (k := 11) (n := 3428) (Nat.le_of_ble_eq_true rfl) (Nat.le_of_ble_eq_true rfl) ?_
  refine lv_dup hx hb dX4_init_41 rfl ?_
  refine icN (host := "BracketTree") (rest := [.ref q38, .ref h0]) (wr := [(h0, .inr (4, [.ref q5, .ref q16, .ref q27, .null])), (q5, .inr (3, [.ref q7_q5, .ref q15_q5, .ref q23_q5, .ref q31_q5, .int (iI 1)])), (q7_q5, .inl (cI, 100, .inl (fun _ => 0))), (q15_q5, .inl (cI, 100, .inl (mX4_put 100 (fun _ => 0) (iI 0) (iI 97)))), (q23_q5, .inl (cI, 100, .inl (fun _ => 0))), (q31_q5, .inl (cI, 100, .inl (fun _ => 0))), (q16, .inr (0, [.int (iI 8)])), (q27, .inr (1, [.ref q7_q27, .ref q16_q27, .ref q25_q27, .int 0, .int 0])), (q7_q27, .inl (cI, 15, .inl (fun _ => 0))), (q16_q27, .inl (cI, 1500, .inl (fun _ => 0))), (q25_q27, .inl (cI, 1500, .inl (fun _ => 0)))]) X hKK hP hD hS hA (zX2_init l D cI cC q38 _) gX4_init_X2_init_n32 rfl rfl rfl (by decide +kernel) (X.2.2.2.2.1 _ niX4_init_X2_init) (X.2.2.2.2.1 _ njX4_init_X2_init) rfl hdX2_init ⟨Nat.le_of_ble_eq_true rfl, Nat.le_of_ble_eq_true rfl⟩ [11] [0, 1, 2, 3, 4, 5, 6, 7, 8, 9, 10] rfl rfl rfl rfl rfl (by decide) hl.1 rfl (Nat.le_of_ble_eq_true rfl) dX4_init_42 ⟨Nat.le_of_ble_eq_true rfl, Nat.le_of_ble_eq_true rfl⟩ (fun w H locs hw hP hD hS => ?_)
  obtain ⟨q8_q38, rfl⟩ := hw
  replace hP : va_P D vwCl [(h0, .inr (4, [.ref q5, .ref q16, .ref q27, .null])), (q5, .inr (3, [.ref q7_q5, .ref q15_q5, .ref q23_q5, .ref q31_q5, .int (iI 1)])), (q7_q5, .inl (cI, 100, .inl (fun _ => 0))), (q15_q5, .inl (cI, 100, .inl (mX4_put 100 (fun _ => 0) (iI 0) (iI 97)))), (q23_q5, .inl (cI, 100, .inl (fun _ => 0))), (q31_q5, .inl (cI, 100, .inl (fun _ => 0))), (q16, .inr (0, [.int (iI 8)])), (q27, .inr (1, [.ref q7_q27, .ref q16_q27, .ref q25_q27, .int 0, .int 0])), (q7_q27, .inl (cI, 15, .inl (fun _ => 0))), (q16_q27, .inl (cI, 1500, .inl (fun _ => 0))), (q25_q27, .inl (cI, 1500, .inl (fun _ => 0))), (q38, .inr (2, [.ref q8_q38, .int 0])), (q8_q38, .inl (cI, 300, .inl (fun _ => 0)))] H := hP
  replace hD : va_D A [(h0, .inr (4, [.ref q5, .ref q16, .ref q27, .null])), (q5, .inr (3, [.ref q7_q5, .ref q15_q5, .ref q23_q5, .ref q31_q5, .int (iI 1)])), (q7_q5, .inl (cI, 100, .inl (fun _ => 0))), (q15_q5, .inl (cI, 100, .inl (mX4_put 100 (fun _ => 0) (iI 0) (iI 97)))), (q23_q5, .inl (cI, 100, .inl (fun _ => 0))), (q31_q5, .inl (cI, 100, .inl (fun _ => 0))), (q16, .inr (0, [.int (iI 8)])), (q27, .inr (1, [.ref q7_q27, .ref q16_q27, .ref q25_q27, .int 0, .int 0])), (q7_q27, .inl (cI, 15, .inl (fun _ => 0))), (q16_q27, .inl (cI, 1500, .inl (fun _ => 0))), (q25_q27, .inl (cI, 1500, .inl (fun _ => 0))), (q38, .inr (2, [.ref q8_q38, .int 0])), (q8_q38, .inl (cI, 300, .inl (fun _ => 0)))] := hD
  refine W.widen (k := 12) (n := 3728) (Nat.le_of_ble_eq_true rfl) (Nat.le_of_ble_eq_true rfl) ?_
  refine va_putF (D := D) (ci := 4) (v := .ref q38) (ty := .object "BracketTree$Text") (C := RX4) (T := TX4) (N := 4) hx hb X.2.2.2.2.1 iwX4_init_4 tyX4 tyX4_ok nmX4 X.2.2.2.1 hKK.1 hP hD hS 0 rfl rfl 3 (by decide) (X.2.2.2.2.1 _ flX4_init_33) (fun _ h9 => h9) rfl hin rfl (by decide +kernel) rfl rfl (Nat.le_of_ble_eq_true rfl) dX4_init_45 (fun H locs hP hD hS => ?_)
  replace hP : va_P D vwCl [(h0, .inr (4, [.ref q5, .ref q16, .ref q27, .ref q38])), (q5, .inr (3, [.ref q7_q5, .ref q15_q5, .ref q23_q5, .ref q31_q5, .int (iI 1)])), (q7_q5, .inl (cI, 100, .inl (fun _ => 0))), (q15_q5, .inl (cI, 100, .inl (mX4_put 100 (fun _ => 0) (iI 0) (iI 97)))), (q23_q5, .inl (cI, 100, .inl (fun _ => 0))), (q31_q5, .inl (cI, 100, .inl (fun _ => 0))), (q16, .inr (0, [.int (iI 8)])), (q27, .inr (1, [.ref q7_q27, .ref q16_q27, .ref q25_q27, .int 0, .int 0])), (q7_q27, .inl (cI, 15, .inl (fun _ => 0))), (q16_q27, .inl (cI, 1500, .inl (fun _ => 0))), (q25_q27, .inl (cI, 1500, .inl (fun _ => 0))), (q38, .inr (2, [.ref q8_q38, .int 0])), (q8_q38, .inl (cI, 300, .inl (fun _ => 0)))] H := hP
  replace hD : va_D A [(h0, .inr (4, [.ref q5, .ref q16, .ref q27, .ref q38])), (q5, .inr (3, [.ref q7_q5, .ref q15_q5, .ref q23_q5, .ref q31_q5, .int (iI 1)])), (q7_q5, .inl (cI, 100, .inl (fun _ => 0))), (q15_q5, .inl (cI, 100, .inl (mX4_put 100 (fun _ => 0) (iI 0) (iI 97)))), (q23_q5, .inl (cI, 100, .inl (fun _ => 0))), (q31_q5, .inl (cI, 100, .inl (fun _ => 0))), (q16, .inr (0, [.int (iI 8)])), (q27, .inr (1, [.ref q7_q27, .ref q16_q27, .ref q25_q27, .int 0, .int 0])), (q7_q27, .inl (cI, 15, .inl (fun _ => 0))), (q16_q27, .inl (cI, 1500, .inl (fun _ => 0))), (q25_q27, .inl (cI, 1500, .inl (fun _ => 0))), (q38, .inr (2, [.ref q8_q38, .int 0])), (q8_q38, .inl (cI, 300, .inl (fun _ => 0)))] := hD
  exact in_ret X ⟨q5, q7_q5, q15_q5, q23_q5, q31_q5, q16, q27, q7_q27, q16_q27, q25_q27, q38, q8_q38, rfl⟩ hP hD hS dX4_init_48
