/-! 02.base (by program out of whole's, wip/p33/base.py): the words of this proof: contexts, read-only contracts (rdQ), writing contracts (muQ), rows of calls -/
def iI (z : Int) : Int32 := Int32.ofInt z
abbrev inb (i : Int32) (n : Nat) : Prop := ¬ (i < 0 ∨ n ≤ i.toNatClampNeg)
abbrev c16 (x : Int32) : Int32 := (x.toUInt32 % 65536).toInt32
abbrev iMax (x y : Int32) : Int32 := if x < y then y else x
abbrev iMin (x y : Int32) : Int32 := if y < x then y else x
def FU : Nat := 4096
abbrev pickAt (is : List Nat) (ws : va_W) : va_W := is.filterMap (fun i => ws[i]?)
theorem nbool {v : Int32} (h : v = iI 0 ∨ v = iI 1) : narrow .boolean (.int v) = .int v := by rcases h with rfl | rfl <;> rfl
theorem sw_ne {x : Int32} {k : Int} (h : ¬ x = iI k) (hk : (iI k).toInt = k) : x.toInt ≠ k := fun e => h (Int32.toInt_inj.mp (by rw [e, hk]))
theorem sw3 {x : Int32} (h0 : ¬ x = iI 0) (h1 : ¬ x = iI 1) (h2 : ¬ x = iI 2) (h3 : ¬ x = iI 3) : x.toInt < 0 ∨ 3 < x.toInt := by
  have e0 := sw_ne h0 (by decide)
  have e1 := sw_ne h1 (by decide)
  have e2 := sw_ne h2 (by decide)
  have e3 := sw_ne h3 (by decide)
  omega
theorem sw4 {x : Int32} (h0 : ¬ x = iI 0) (h1 : ¬ x = iI 1) (h2 : ¬ x = iI 2) (h3 : ¬ x = iI 3) (h4 : ¬ x = iI 4) : x.toInt < 0 ∨ 4 < x.toInt := by
  have e0 := sw_ne h0 (by decide)
  have e1 := sw_ne h1 (by decide)
  have e2 := sw_ne h2 (by decide)
  have e3 := sw_ne h3 (by decide)
  have e4 := sw_ne h4 (by decide)
  omega
theorem sw5 {x : Int32} (h0 : ¬ x = iI 0) (h1 : ¬ x = iI 1) (h2 : ¬ x = iI 2) (h3 : ¬ x = iI 3) (h4 : ¬ x = iI 4) (h5 : ¬ x = iI 5) : x.toInt < 0 ∨ 5 < x.toInt := by
  have e0 := sw_ne h0 (by decide)
  have e1 := sw_ne h1 (by decide)
  have e2 := sw_ne h2 (by decide)
  have e3 := sw_ne h3 (by decide)
  have e4 := sw_ne h4 (by decide)
  have e5 := sw_ne h5 (by decide)
  omega
theorem sw10 {x : Int32} (h0 : ¬ x = iI 0) (h1 : ¬ x = iI 1) (h2 : ¬ x = iI 2) (h3 : ¬ x = iI 3) (h4 : ¬ x = iI 4) (h5 : ¬ x = iI 5) (h6 : ¬ x = iI 6) (h7 : ¬ x = iI 7) (h8 : ¬ x = iI 8) (h9 : ¬ x = iI 9) (h10 : ¬ x = iI 10) : x.toInt < 0 ∨ 10 < x.toInt := by
  have e0 := sw_ne h0 (by decide)
  have e1 := sw_ne h1 (by decide)
  have e2 := sw_ne h2 (by decide)
  have e3 := sw_ne h3 (by decide)
  have e4 := sw_ne h4 (by decide)
  have e5 := sw_ne h5 (by decide)
  have e6 := sw_ne h6 (by decide)
  have e7 := sw_ne h7 (by decide)
  have e8 := sw_ne h8 (by decide)
  have e9 := sw_ne h9 (by decide)
  have e10 := sw_ne h10 (by decide)
  omega
abbrev nestL : List Cond := [.methodLinkNest RX4 18 yX0_init "BracketTree", .methodLinkNest RX4 25 yX1_init "BracketTree", .methodLinkNest RX4 32 yX2_init "BracketTree", .methodLinkNest RX1 34 yX4_put "BracketTree", .methodLinkNest RX1 54 yX4_get "BracketTree", .methodLinkNest RX2 19 yX4_put "BracketTree", .methodLinkNest RX2 31 yX4_get "BracketTree", .methodLinkNest RX2 35 yX4_isLetter "BracketTree", .methodLinkNest RX3 24 yX4_put "BracketTree", .methodLinkNest RX3 36 yX4_get "BracketTree"]
theorem nest_form : ∀ w ∈ nestL, ∃ a i x h, w = Cond.methodLinkNest a i x h := by
  intro w hw
  simp only [nestL, List.mem_cons, List.not_mem_nil, or_false] at hw
  rcases hw with h | h | h | h | h | h | h | h | h | h <;> exact ⟨_, _, _, _, h⟩
/-- what a method takes from the tables beside its words -/
def KK (D : va_G) (cI cC : ClassId) (U : State) : Prop := va_K D vwCl [(cI, .int)] U ∧ ∀ w ∈ nestL, va_Nw w U
theorem KK.same {D : va_G} {cI cC : ClassId} {u U : State} (hvm : u.vm = U.vm) (h : KK D cI cC u) : KK D cI cC U :=
  ⟨va_K.moved (by rw [← hvm]; exact Vm.Alike.refl u.vm) h.1, fun w hw => by
    obtain ⟨a, i, x, ho, rfl⟩ := nest_form w hw
    exact va_Nw.same rfl hvm (h.2 _ hw)⟩
theorem KK.warm {D : va_G} {cI cC : ClassId} {s U : State} (hW : s.WarmedH U.vm) (h : KK D cI cC s) : KK D cI cC U :=
  ⟨va_K.moved hW.alike h.1, fun w hw => by
    obtain ⟨a, i, x, ho, rfl⟩ := nest_form w hw
    exact va_Nw.warmM hW (h.2 _ hw)⟩
def BW (D : va_G) (cI cC : ClassId) (ws : va_W) (U : State) : Prop := va_P D vwCl ws U.heap ∧ KK D cI cC U
def MB (D : va_G) (cI cC : ClassId) (sz : Nat) (ws : va_W) (U : State) : Prop := U.heap.size = sz ∧ BW D cI cC ws U ∧ va_D (fun _ => True) ws
theorem BW.blind {as : List Value} {D : va_G} {cI cC : ClassId} {ws : va_W} : FrameBlind (va_Pc as (BW D cI cC ws)) := by
  intro a U g mk h
  obtain ⟨h0, h1, h2⟩ := h
  exact ⟨h0, h1, KK.same (u := U) (U := U.calling g mk a) rfl h2⟩
theorem MB.blind {as : List Value} {D : va_G} {cI cC : ClassId} {sz : Nat} {ws : va_W} : FrameBlind (va_Pc as (MB D cI cC sz ws)) := by
  intro a U g mk h
  obtain ⟨h0, h3, ⟨h1, h2⟩, h4⟩ := h
  exact ⟨h0, h3, ⟨h1, KK.same (u := U) (U := U.calling g mk a) rfl h2⟩, h4⟩
def rdQ (r : Int32) : Array Value → State → Outcome → State → Prop := fun _ st oc t => oc = .returned (some (.int r)) ∧ t.heap = st.heap
def rdQL (r : Int64) : Array Value → State → Outcome → State → Prop := fun _ st oc t => oc = .returned (some (.long r)) ∧ t.heap = st.heap
def muQ (D : va_G) (ov : Option Value) (w2 : va_W) (A : Nat → Prop) : Array Value → State → Outcome → State → Prop := fun _ st oc t => (oc = .returned ov ∧ va_P D vwCl w2 t.heap) ∧ va_F A st t
def CX (p : Program) (s : State) (m : MethodId) (args : Array Value) (meth : Method) (c : Code) (ws : List Cond) (cc : ByteArray) (nL : Nat) (ret : Option FieldType) (own : String) : Prop :=
  p.tables.exec = Jvm.exec ∧ c.code = cc ∧ c.maxLocals = nL ∧ s.vm.findClass own = some m.cls ∧ (∀ w ∈ ws, w.before args s = true) ∧ meth.sig.returnType = ret ∧ meth.locks = false
/-- a contract out of a walk of the body -/
theorem MetI {l : Launch} {y : MethodName} {ws ws' : List Cond} {rm : Room} {as : List Value} {B : State → Prop} {Qc : Array Value → State → Outcome → State → Prop} {mc ms : Nat} {free : Addr → Prop} {cc : ByteArray} {maxL : Nat} {ret : Option FieldType} (own : String)
    (hy : plainName y.cls = true) (hw : ws = Cond.code y cc maxL ret :: ws') (hown : y.cls = own) (hlen : (lg_sl as).length ≤ maxL)
    (body : ∀ (p : Program) (e : Env) (s : State) (m : MethodId) (below : List Frame) (meth : Method) (c : Code) (ls : Array Slot), CX p s m as.toArray meth c ws cc maxL ret own → meth.name = y.name → B s → lv_has ls maxL (lv_args 0 as) →
      W p l e rm s m as.toArray below meth c s.heap [] 0 0 (MQ below Qc as.toArray s mc ms free) (F0 m 0 ls [])) : Met l y ws rm (va_Pc as B) Qc mc ms free := by
  refine Met.ofW (cc := cc) (maxL := maxL) (ret := ret) hy hw ?_
  intro p e s m args below meth c s₁ B' hml hv
  obtain ⟨rfl, hB⟩ := hv
  rw [lg_entry_eq]
  exact body p e s m below meth c _ ⟨B'.exec, B'.bytes, hml, by rw [← hown]; exact findClass_of_methodNamed B'.named, atoms_spec (ws := ws) B'.pre, B'.returns, B'.notSynchronized⟩ (name_of_methodNamed B'.named B'.method).1 hB (lv_entry as hlen)
/-- branches of a mirror -/
theorem ifp {α : Sort _} {c : Prop} {i : Decidable c} {a b r : α} (hc : c) (h : @ite α c i a b = r) : a = r := by rw [if_pos hc] at h; exact h
theorem ifn {α : Sort _} {c : Prop} {i : Decidable c} {a b r : α} (hc : ¬ c) (h : @ite α c i a b = r) : b = r := by rw [if_neg hc] at h; exact h
theorem asr {α : Type _} {c : Prop} {i : Decidable c} {a : Option α} {r : α} (h : @ite (Option α) c i a none = some r) : c ∧ a = some r := by
  by_cases hc : c
  · rw [if_pos hc] at h; exact ⟨hc, h⟩
  · rw [if_neg hc] at h; cases h
theorem obd {α β : Type _} {o : Option α} {f : α → Option β} {r : β} (h : o.bind f = some r) : ∃ x, o = some x ∧ f x = some r := Option.bind_eq_some_iff.mp h
section RD
variable {p : Program} {l : Launch} {e : Env} {R : Room} {s : State} {m : MethodId} {args : Array Value} {below : List Frame} {meth : Method} {c : Code} {H : Heap} {locs : List Loc} {cells slots : Nat} {Q : State → Prop}
variable {ws : List Cond} {cc : ByteArray} {nL : Nat} {ty : FieldType} {own : String} {pc : Nat} {ls : Array Slot} {D : va_G} {cI cC : ClassId}
theorem rd_ret (X : CX p s m args meth c ws cc nL (some ty) own) {v r : Int32} (hn : narrow ty (.int v) = .int v) (h : v = r) (hdg : decode cc pc = .ok (.ireturn, 1)) : W p l e R s m args below meth c s.heap [] 0 0 (MQ below (rdQ r) args s 0 0 (fun _ => False)) (F0 m pc ls [.int v]) :=
  W.zret X.1 X.2.1 X.2.2.2.2.2.1 hn (fun t ht _ => by subst h; exact ⟨rfl, ht⟩) (fun q hq => by cases hq) hdg (hlocks := X.2.2.2.2.2.2)
theorem rd_retL (X : CX p s m args meth c ws cc nL (some .long) own) {v r : Int64} (h : v = r) (hdg : decode cc pc = .ok (.lreturn, 1)) : W p l e R s m args below meth c s.heap [] 0 0 (MQ below (rdQL r) args s 0 0 (fun _ => False)) (F0 m pc ls [.long v]) :=
  W.lret X.1 X.2.1 X.2.2.2.2.2.1 (fun t ht _ => by subst h; exact ⟨rfl, ht⟩) (fun q hq => by cases hq) hdg (hlocks := X.2.2.2.2.2.2)
theorem mu_ret (X : CX p s m args meth c ws cc nL (some ty) own) {v r : Int32} {w w2 : va_W} {A : Nat → Prop} (hn : narrow ty (.int v) = .int v) (h : v = r) (hP : va_P D vwCl w H) (hw : w = w2) (hS : va_S A s.heap H locs) (hdg : decode cc pc = .ok (.ireturn, 1)) : W p l e R s m args below meth c H locs 0 0 (MQ below (muQ D (some (.int r)) w2 A) args s 0 0 A) (F0 m pc ls [.int v]) :=
  W.zret X.1 X.2.1 X.2.2.2.2.2.1 hn (fun t ht _ => by subst h; subst hw; exact ⟨⟨rfl, by rw [ht]; exact hP⟩, hS.F ht⟩) hS.2.2 hdg (hlocks := X.2.2.2.2.2.2)
theorem mu_vret (X : CX p s m args meth c ws cc nL none own) {w w2 : va_W} {A : Nat → Prop} (hP : va_P D vwCl w H) (hw : w = w2) (hS : va_S A s.heap H locs) (hdg : decode cc pc = .ok (.return_, 1)) : W p l e R s m args below meth c H locs 0 0 (MQ below (muQ D none w2 A) args s 0 0 A) (F0 m pc ls []) :=
  W.vret X.1 X.2.1 X.2.2.2.2.2.1 (fun t ht _ => by subst hw; exact ⟨⟨rfl, by rw [ht]; exact hP⟩, hS.F ht⟩) hS.2.2 hdg (hlocks := X.2.2.2.2.2.2)
variable {ret0 : Option FieldType} {wld wc : va_W} {y : MethodName} {bytes : ByteArray} {maxL index : Nat} {ret : Option FieldType} {wsY wsY' : List Cond} {rm : Room} {C host : String} {b : Addr} {As rest st0 : List Value} {r : Int32}
/-- behind a call of a method that only reads -/
theorem rd_go (hr : va_Run p l e R s m args below meth c H locs cells slots 0 0 (F0 m pc ls st0) rest (rdQ r (Value.ref b :: As).toArray) (fun _ => False))
    (kk : W p l e R s m args below meth c H locs cells slots Q (F0 m (pc + 3) ls (.int r :: rest))) : W p l e R s m args below meth c H locs cells slots Q (F0 m pc ls st0) := by
  intro T hT X
  obtain ⟨v, st₀, t, T', L, h0, X', hL, e1, e2, ⟨hv, hh⟩, st⟩ := hr T hT X
  cases hv
  obtain ⟨t2, a1, b1⟩ := kk T' (by rw [e1, hh, h0]) (Stand.forget X' (fun q h => (hL q h).elim))
  exact ⟨t2, st t2 a1, b1⟩
theorem rd_goS (hr : va_Run p l e R s m args below meth c H locs cells slots 0 0 (F0 m pc ls st0) rest (rdQ r As.toArray) (fun _ => False))
    (kk : W p l e R s m args below meth c H locs cells slots Q (F0 m (pc + 3) ls (.int r :: rest))) : W p l e R s m args below meth c H locs cells slots Q (F0 m pc ls st0) := by
  intro T hT X
  obtain ⟨v, st₀, t, T', L, h0, X', hL, e1, e2, ⟨hv, hh⟩, st⟩ := hr T hT X
  cases hv
  obtain ⟨t2, a1, b1⟩ := kk T' (by rw [e1, hh, h0]) (Stand.forget X' (fun q h => (hL q h).elim))
  exact ⟨t2, st t2 a1, b1⟩
/-- a virtual call of a method that only reads -/
theorem rcV (X : CX p s m args meth c ws cc nL ret0 own) (hKK : KK D cI cC s) (hP : va_P D vwCl wld H) (n : Nat)
    (hM : Met l y wsY rm (va_Pc (.ref b :: As) (BW D cI cC wc)) (rdQ r) 0 0 (fun _ => False)) (hG : GoodIn ws (wsV own index C y wsY)) (hw : wsY = Cond.code y bytes maxL ret :: wsY') (hrc : rm.cells = 0) (hrs : rm.slots = 0)
    (hd : y.cls = C ∧ y.cls ≠ "java/lang/invoke/MethodHandle" ∧ y.cls ≠ "java/lang/invoke/VarHandle" ∧ (parseMethodDescriptor y.desc).map (fun d => d.parameters.length) = some n) (hR : rm.frames + 1 ≤ R.frames ∧ 8 + (maxL + 11) + rm.locals ≤ R.locals)
    (isC : List Nat) (hC : isC.filterMap (fun i => wld[i]?) = wc) (q0 : Nat) {ci : Nat} {fs : List Value} (he : wc[q0]? = some (b, .inr (ci, fs))) {T : u_T} {N : Nat} (hci : vwCl[ci]? = some (C, T, N))
    (hn : As.length = n) (hl : ls.size = nL) (hst : st0 = As.reverse ++ .ref b :: rest) (hW : (rest.map fun v => v.category).sum ≤ 8) (hdg : decode cc pc = .ok (.invokevirtual index, 3)) (hf : cells ≤ R.cells ∧ slots ≤ R.slots)
    (kk : W p l e R s m args below meth c H locs cells slots Q (F0 m (pc + 3) ls (.int r :: rest))) : W p l e R s m args below meth c H locs cells slots Q (F0 m pc ls st0) := by
  have hPc := hP.sub isC hC
  exact rd_go (va_runV (As := As) (rest := rest) ⟨X.1, X.2.1, X.2.2.1, X.2.2.2.1, X.2.2.2.2.1⟩ hM (cwV n X.2.2.2.2.1 hG hw hrc hrs hd hR)
    ⟨BW.blind, va_recv hKK.1 hPc hci he, fun U hU hW => ⟨rfl, by rw [hU]; exact hPc, hKK.warm hW⟩⟩ rfl hn hl hst (lv_room hW) hdg hf) kk
/-- a static call among nest mates of a method that only reads -/
theorem rcSN (X : CX p s m args meth c ws cc nL ret0 own) (hKK : KK D cI cC s) (hP : va_P D vwCl wld H) (n : Nat)
    (hM : Met l y wsY rm (va_Pc As (BW D cI cC wc)) (rdQ r) 0 0 (fun _ => False)) (hG : GoodIn ws wsY) (hw : wsY = Cond.code y bytes maxL ret :: wsY') (hrc : rm.cells = 0) (hrs : rm.slots = 0)
    (hl0 : Cond.methodLinkNest own index y host ∈ nestL) (hini : (Cond.initialized y.cls).before args s = true) (hst : (Cond.static y).before args s = true)
    (hd : y.cls ≠ "java/lang/invoke/MethodHandle" ∧ y.cls ≠ "java/lang/invoke/VarHandle" ∧ (parseMethodDescriptor y.desc).map (fun d => d.parameters.length) = some n) (hR : rm.frames + 1 ≤ R.frames ∧ 8 + (maxL + 11) + rm.locals ≤ R.locals)
    (isC : List Nat) (hC : isC.filterMap (fun i => wld[i]?) = wc)
    (hn : As.length = n) (hl : ls.size = nL) (hst0 : st0 = As.reverse ++ rest) (hW : (rest.map fun v => v.category).sum ≤ 8) (hdg : decode cc pc = .ok (.invokestatic index, 3)) (hf : cells ≤ R.cells ∧ slots ≤ R.slots)
    (kk : W p l e R s m args below meth c H locs cells slots Q (F0 m (pc + 3) ls (.int r :: rest))) : W p l e R s m args below meth c H locs cells slots Q (F0 m pc ls st0) := by
  have hPc := hP.sub isC hC
  exact rd_goS (va_runSN (As := As) (rest := rest) (host := host) ⟨X.1, X.2.1, X.2.2.1, X.2.2.2.1, X.2.2.2.2.1⟩ hM ⟨va_cnB n X.2.2.2.2.1 hG hw hrc hrs (hKK.2 _ hl0) hini hd hR, hst, trivial⟩
    ⟨BW.blind, fun U hU hW => ⟨rfl, by rw [hU]; exact hPc, hKK.warm hW⟩⟩ rfl hn hl hst0 (lv_room hW) hdg hf) kk
/-- a static call, of a method of one's own, that only reads -/
theorem rcS (X : CX p s m args meth c ws cc nL ret0 own) (hKK : KK D cI cC s) (hP : va_P D vwCl wld H) (n : Nat)
    (hM : Met l y wsY rm (va_Pc As (BW D cI cC wc)) (rdQ r) 0 0 (fun _ => False)) (hG : GoodIn ws (wsS own index y wsY)) (hw : wsY = Cond.code y bytes maxL ret :: wsY') (hrc : rm.cells = 0) (hrs : rm.slots = 0)
    (hd : y.cls = own ∧ y.cls ≠ "java/lang/invoke/MethodHandle" ∧ y.cls ≠ "java/lang/invoke/VarHandle" ∧ (parseMethodDescriptor y.desc).map (fun d => d.parameters.length) = some n) (hR : rm.frames + 1 ≤ R.frames ∧ 8 + (maxL + 11) + rm.locals ≤ R.locals)
    (isC : List Nat) (hC : isC.filterMap (fun i => wld[i]?) = wc)
    (hn : As.length = n) (hl : ls.size = nL) (hst0 : st0 = As.reverse ++ rest) (hW : (rest.map fun v => v.category).sum ≤ 8) (hdg : decode cc pc = .ok (.invokestatic index, 3)) (hf : cells ≤ R.cells ∧ slots ≤ R.slots)
    (kk : W p l e R s m args below meth c H locs cells slots Q (F0 m (pc + 3) ls (.int r :: rest))) : W p l e R s m args below meth c H locs cells slots Q (F0 m pc ls st0) := by
  have hPc := hP.sub isC hC
  exact rd_goS (va_runS (As := As) (rest := rest) ⟨X.1, X.2.1, X.2.2.1, X.2.2.2.1, X.2.2.2.2.1⟩ hM (cwS n X.2.2.2.2.1 hG hw hrc hrs hd hR)
    ⟨BW.blind, fun U hU hW => ⟨rfl, by rw [hU]; exact hPc, hKK.warm hW⟩⟩ rfl hn hl hst0 (lv_room hW) hdg hf) kk
/-- the same, by other words of the tables; and one that answers a long -/
theorem rcS2 (X : CX p s m args meth c ws cc nL ret0 own) (hKK : KK D cI cC s) (hP : va_P D vwCl wld H) (n : Nat)
    (hM : Met l y wsY rm (va_Pc As (BW D cI cC wc)) (rdQ r) 0 0 (fun _ => False)) (hG : GoodIn ws (va_wsS own index y wsY)) (hw : wsY = Cond.code y bytes maxL ret :: wsY') (hrc : rm.cells = 0) (hrs : rm.slots = 0)
    (hd : y.cls ≠ "java/lang/invoke/MethodHandle" ∧ y.cls ≠ "java/lang/invoke/VarHandle" ∧ (parseMethodDescriptor y.desc).map (fun d => d.parameters.length) = some n) (hR : rm.frames + 1 ≤ R.frames ∧ 8 + (maxL + 11) + rm.locals ≤ R.locals)
    (isC : List Nat) (hC : isC.filterMap (fun i => wld[i]?) = wc)
    (hn : As.length = n) (hl : ls.size = nL) (hst0 : st0 = As.reverse ++ rest) (hW : (rest.map fun v => v.category).sum ≤ 8) (hdg : decode cc pc = .ok (.invokestatic index, 3)) (hf : cells ≤ R.cells ∧ slots ≤ R.slots)
    (kk : W p l e R s m args below meth c H locs cells slots Q (F0 m (pc + 3) ls (.int r :: rest))) : W p l e R s m args below meth c H locs cells slots Q (F0 m pc ls st0) := by
  have hPc := hP.sub isC hC
  exact rd_goS (va_runS (As := As) (rest := rest) ⟨X.1, X.2.1, X.2.2.1, X.2.2.2.1, X.2.2.2.2.1⟩ hM (va_cwS n X.2.2.2.2.1 hG hw hrc hrs hd hR)
    ⟨BW.blind, fun U hU hW => ⟨rfl, by rw [hU]; exact hPc, hKK.warm hW⟩⟩ rfl hn hl hst0 (lv_room hW) hdg hf) kk
theorem rd_goSL {r8 : Int64} (hr : va_Run p l e R s m args below meth c H locs cells slots 0 0 (F0 m pc ls st0) rest (rdQL r8 As.toArray) (fun _ => False))
    (kk : W p l e R s m args below meth c H locs cells slots Q (F0 m (pc + 3) ls (.long r8 :: rest))) : W p l e R s m args below meth c H locs cells slots Q (F0 m pc ls st0) := by
  intro T hT X
  obtain ⟨v, st₀, t, T', L, h0, X', hL, e1, e2, ⟨hv, hh⟩, st⟩ := hr T hT X
  cases hv
  obtain ⟨t2, a1, b1⟩ := kk T' (by rw [e1, hh, h0]) (Stand.forget X' (fun q h => (hL q h).elim))
  exact ⟨t2, st t2 a1, b1⟩
theorem rcL2 {r8 : Int64} (X : CX p s m args meth c ws cc nL ret0 own) (hKK : KK D cI cC s) (hP : va_P D vwCl wld H) (n : Nat)
    (hM : Met l y wsY rm (va_Pc As (BW D cI cC wc)) (rdQL r8) 0 0 (fun _ => False)) (hG : GoodIn ws (va_wsS own index y wsY)) (hw : wsY = Cond.code y bytes maxL ret :: wsY') (hrc : rm.cells = 0) (hrs : rm.slots = 0)
    (hd : y.cls ≠ "java/lang/invoke/MethodHandle" ∧ y.cls ≠ "java/lang/invoke/VarHandle" ∧ (parseMethodDescriptor y.desc).map (fun d => d.parameters.length) = some n) (hR : rm.frames + 1 ≤ R.frames ∧ 8 + (maxL + 11) + rm.locals ≤ R.locals)
    (isC : List Nat) (hC : isC.filterMap (fun i => wld[i]?) = wc)
    (hn : As.length = n) (hl : ls.size = nL) (hst0 : st0 = As.reverse ++ rest) (hW : (rest.map fun v => v.category).sum ≤ 8) (hdg : decode cc pc = .ok (.invokestatic index, 3)) (hf : cells ≤ R.cells ∧ slots ≤ R.slots)
    (kk : W p l e R s m args below meth c H locs cells slots Q (F0 m (pc + 3) ls (.long r8 :: rest))) : W p l e R s m args below meth c H locs cells slots Q (F0 m pc ls st0) := by
  have hPc := hP.sub isC hC
  exact rd_goSL (va_runS (As := As) (rest := rest) ⟨X.1, X.2.1, X.2.2.1, X.2.2.2.1, X.2.2.2.2.1⟩ hM (va_cwS n X.2.2.2.2.1 hG hw hrc hrs hd hR)
    ⟨BW.blind, fun U hU hW => ⟨rfl, by rw [hU]; exact hPc, hKK.warm hW⟩⟩ rfl hn hl hst0 (lv_room hW) hdg hf) kk
variable {A0 : Nat → Prop} {H0 : Heap} {ov : Option Value} {w2 wr wld2 : va_W} {aa : Array Value}
/-- behind a call of a method that writes: its cells come back with new contents at their places -/
theorem mu_go (hr : va_Run p l e R s m args below meth c H locs cells slots 0 0 (F0 m pc ls st0) rest (muQ D ov w2 (va_A wc H.size) aa) (va_A wc H.size))
    (hP : va_P D vwCl wld H) (hD : va_D A0 wld) (hS : va_S A0 H0 H locs) (hA : ∀ q, H0.size ≤ q → A0 q) (isC isR : List Nat) (hC : isC.map (fun i => wld[i]?) = wc.map some) (hR : isR.map (fun i => wld[i]?) = wr.map some) (hnd : va_nd isR = true) (hdis : ∀ i ∈ isR, i ∉ isC)
    (hDc : va_D (fun _ => True) wc) (had : w2.map (·.1) = wc.map (·.1)) (pm : List Nat) (hpn : va_nd pm = true) (hpm : pm.map (fun i => (wr ++ w2)[i]?) = wld2.map some) (hpm2 : pm.filterMap (fun i => (wr ++ w2)[i]?) = wld2)
    (kk : ∀ (H1 : Heap) (locs1 : List Loc), va_P D vwCl wld2 H1 → va_D A0 wld2 → va_S A0 H0 H1 locs1 → W p l e R s m args below meth c H1 locs1 cells slots Q (F0 m (pc + 3) ls (ov.toList ++ rest))) : W p l e R s m args below meth c H locs cells slots Q (F0 m pc ls st0) := by
  have hF := va_free hD hS hA isC hC
  intro T hT X
  obtain ⟨v, st₀, t, T', L, h0, X', hL, e1, e2, ⟨⟨hv, hp⟩, hz, hk⟩, st⟩ := hr T hT X
  cases hv
  rw [h0] at hz hk
  rw [← e1] at hp hz hk
  have hD1 : va_D (va_A wc H.size) w2 := by
    refine ⟨fun i j x y hx hy hxy => ?_, fun k x hx => ?_⟩
    · have gx : (wc.map (·.1))[i]? = some x.1 := by rw [← had, List.getElem?_map, hx]; rfl
      have gy : (wc.map (·.1))[j]? = some y.1 := by rw [← had, List.getElem?_map, hy]; rfl
      rw [List.getElem?_map] at gx gy
      cases hi : wc[i]? with
      | none => rw [hi] at gx; cases gx
      | some u =>
        cases hj : wc[j]? with
        | none => rw [hj] at gy; cases gy
        | some z =>
          rw [hi] at gx; rw [hj] at gy
          exact hDc.1 i j u z hi hj ((Option.some.inj gx).trans (hxy.trans (Option.some.inj gy).symm))
    · have gx : (wc.map (·.1))[k]? = some x.1 := by rw [← had, List.getElem?_map, hx]; rfl
      rw [List.getElem?_map] at gx
      cases hi : wc[k]? with
      | none => rw [hi] at gx; cases gx
      | some u =>
        rw [hi] at gx
        have := va_A.in (sz := H.size) hi
        rw [← Option.some.inj gx]
        exact this
  obtain ⟨hP2, hD2⟩ := va_join hP hD isC isR hC hR hnd hdis hk hF hp hD1
  obtain ⟨t2, a1, b1⟩ := kk T'.heap (locs ++ L) (hP2.sub pm hpm2) (hD2.sub pm hpn hpm) ⟨Nat.le_trans hS.1 hz, fun q h1 h2 => by rw [hk q (Nat.lt_of_lt_of_le h1 hS.1) (fun z => h2 (hF q z))]; exact hS.2.1 q h1 h2, fun q hq => by
      rcases List.mem_append.mp hq with h | h
      · exact hS.2.2 q h
      · exact hF _ (hL q h)⟩ T' rfl X'
  exact ⟨t2, st t2 a1, b1⟩
/-- a virtual call of a method that writes -/
theorem mcV (X : CX p s m args meth c ws cc nL ret0 own) (hKK : KK D cI cC s) (hP : va_P D vwCl wld H) (hD : va_D A0 wld) (hS : va_S A0 H0 H locs) (hA : ∀ q, H0.size ≤ q → A0 q) (n : Nat)
    (hM : Met l y wsY rm (va_Pc (.ref b :: As) (MB D cI cC H.size wc)) (muQ D ov w2 (va_A wc H.size)) 0 0 (va_A wc H.size)) (hG : GoodIn ws (wsV own index C y wsY)) (hw : wsY = Cond.code y bytes maxL ret :: wsY') (hrc : rm.cells = 0) (hrs : rm.slots = 0)
    (hd : y.cls = C ∧ y.cls ≠ "java/lang/invoke/MethodHandle" ∧ y.cls ≠ "java/lang/invoke/VarHandle" ∧ (parseMethodDescriptor y.desc).map (fun d => d.parameters.length) = some n) (hR : rm.frames + 1 ≤ R.frames ∧ 8 + (maxL + 11) + rm.locals ≤ R.locals)
    (isC isR : List Nat) (hnC : va_nd isC = true) (hC2 : isC.filterMap (fun i => wld[i]?) = wc) (hC : isC.map (fun i => wld[i]?) = wc.map some) (hRr : isR.map (fun i => wld[i]?) = wr.map some) (hnd : va_nd isR = true) (hdis : ∀ i ∈ isR, i ∉ isC)
    (had : w2.map (·.1) = wc.map (·.1)) (pm : List Nat) (hpn : va_nd pm = true) (hpm : pm.map (fun i => (wr ++ w2)[i]?) = wld2.map some) (hpm2 : pm.filterMap (fun i => (wr ++ w2)[i]?) = wld2)
    (q0 : Nat) {ci : Nat} {fs : List Value} (he : wc[q0]? = some (b, .inr (ci, fs))) {T : u_T} {N : Nat} (hci : vwCl[ci]? = some (C, T, N))
    (hn : As.length = n) (hl : ls.size = nL) (hst : st0 = As.reverse ++ .ref b :: rest) (hW : (rest.map fun v => v.category).sum ≤ 8) (hdg : decode cc pc = .ok (.invokevirtual index, 3)) (hf : cells ≤ R.cells ∧ slots ≤ R.slots)
    (kk : ∀ (H1 : Heap) (locs1 : List Loc), va_P D vwCl wld2 H1 → va_D A0 wld2 → va_S A0 H0 H1 locs1 → W p l e R s m args below meth c H1 locs1 cells slots Q (F0 m (pc + 3) ls (ov.toList ++ rest))) : W p l e R s m args below meth c H locs cells slots Q (F0 m pc ls st0) := by
  have hPc := hP.sub isC hC2
  have hDc : va_D (fun _ => True) wc := (hD.sub isC hnC hC).weaken (fun _ _ _ _ => trivial)
  exact mu_go (va_runV (As := As) (rest := rest) ⟨X.1, X.2.1, X.2.2.1, X.2.2.2.1, X.2.2.2.2.1⟩ hM (cwV n X.2.2.2.2.1 hG hw hrc hrs hd hR)
    ⟨MB.blind, va_recv hKK.1 hPc hci he, fun U hU hW => ⟨rfl, by rw [hU], ⟨by rw [hU]; exact hPc, hKK.warm hW⟩, hDc⟩⟩ rfl hn hl hst (lv_room hW) hdg hf) hP hD hS hA isC isR hC hRr hnd hdis hDc had pm hpn hpm hpm2 kk
/-- a static call among nest mates of a method that writes -/
theorem mcSN (X : CX p s m args meth c ws cc nL ret0 own) (hKK : KK D cI cC s) (hP : va_P D vwCl wld H) (hD : va_D A0 wld) (hS : va_S A0 H0 H locs) (hA : ∀ q, H0.size ≤ q → A0 q) (n : Nat)
    (hM : Met l y wsY rm (va_Pc As (MB D cI cC H.size wc)) (muQ D ov w2 (va_A wc H.size)) 0 0 (va_A wc H.size)) (hG : GoodIn ws wsY) (hw : wsY = Cond.code y bytes maxL ret :: wsY') (hrc : rm.cells = 0) (hrs : rm.slots = 0)
    (hl0 : Cond.methodLinkNest own index y host ∈ nestL) (hini : (Cond.initialized y.cls).before args s = true) (hst : (Cond.static y).before args s = true)
    (hd : y.cls ≠ "java/lang/invoke/MethodHandle" ∧ y.cls ≠ "java/lang/invoke/VarHandle" ∧ (parseMethodDescriptor y.desc).map (fun d => d.parameters.length) = some n) (hR : rm.frames + 1 ≤ R.frames ∧ 8 + (maxL + 11) + rm.locals ≤ R.locals)
    (isC isR : List Nat) (hnC : va_nd isC = true) (hC2 : isC.filterMap (fun i => wld[i]?) = wc) (hC : isC.map (fun i => wld[i]?) = wc.map some) (hRr : isR.map (fun i => wld[i]?) = wr.map some) (hnd : va_nd isR = true) (hdis : ∀ i ∈ isR, i ∉ isC)
    (had : w2.map (·.1) = wc.map (·.1)) (pm : List Nat) (hpn : va_nd pm = true) (hpm : pm.map (fun i => (wr ++ w2)[i]?) = wld2.map some) (hpm2 : pm.filterMap (fun i => (wr ++ w2)[i]?) = wld2)
    (hn : As.length = n) (hl : ls.size = nL) (hst0 : st0 = As.reverse ++ rest) (hW : (rest.map fun v => v.category).sum ≤ 8) (hdg : decode cc pc = .ok (.invokestatic index, 3)) (hf : cells ≤ R.cells ∧ slots ≤ R.slots)
    (kk : ∀ (H1 : Heap) (locs1 : List Loc), va_P D vwCl wld2 H1 → va_D A0 wld2 → va_S A0 H0 H1 locs1 → W p l e R s m args below meth c H1 locs1 cells slots Q (F0 m (pc + 3) ls (ov.toList ++ rest))) : W p l e R s m args below meth c H locs cells slots Q (F0 m pc ls st0) := by
  have hPc := hP.sub isC hC2
  have hDc : va_D (fun _ => True) wc := (hD.sub isC hnC hC).weaken (fun _ _ _ _ => trivial)
  exact mu_go (va_runSN (As := As) (rest := rest) (host := host) ⟨X.1, X.2.1, X.2.2.1, X.2.2.2.1, X.2.2.2.2.1⟩ hM ⟨va_cnB n X.2.2.2.2.1 hG hw hrc hrs (hKK.2 _ hl0) hini hd hR, hst, trivial⟩
    ⟨MB.blind, fun U hU hW => ⟨rfl, by rw [hU], ⟨by rw [hU]; exact hPc, hKK.warm hW⟩, hDc⟩⟩ rfl hn hl hst0 (lv_room hW) hdg hf) hP hD hS hA isC isR hC hRr hnd hdis hDc had pm hpn hpm hpm2 kk
theorem mcS2 (X : CX p s m args meth c ws cc nL ret0 own) (hKK : KK D cI cC s) (hP : va_P D vwCl wld H) (hD : va_D A0 wld) (hS : va_S A0 H0 H locs) (hA : ∀ q, H0.size ≤ q → A0 q) (n : Nat)
    (hM : Met l y wsY rm (va_Pc As (MB D cI cC H.size wc)) (muQ D ov w2 (va_A wc H.size)) 0 0 (va_A wc H.size)) (hG : GoodIn ws (va_wsS own index y wsY)) (hw : wsY = Cond.code y bytes maxL ret :: wsY') (hrc : rm.cells = 0) (hrs : rm.slots = 0)
    (hd : y.cls ≠ "java/lang/invoke/MethodHandle" ∧ y.cls ≠ "java/lang/invoke/VarHandle" ∧ (parseMethodDescriptor y.desc).map (fun d => d.parameters.length) = some n) (hR : rm.frames + 1 ≤ R.frames ∧ 8 + (maxL + 11) + rm.locals ≤ R.locals)
    (isC isR : List Nat) (hnC : va_nd isC = true) (hC2 : isC.filterMap (fun i => wld[i]?) = wc) (hC : isC.map (fun i => wld[i]?) = wc.map some) (hRr : isR.map (fun i => wld[i]?) = wr.map some) (hnd : va_nd isR = true) (hdis : ∀ i ∈ isR, i ∉ isC)
    (had : w2.map (·.1) = wc.map (·.1)) (pm : List Nat) (hpn : va_nd pm = true) (hpm : pm.map (fun i => (wr ++ w2)[i]?) = wld2.map some) (hpm2 : pm.filterMap (fun i => (wr ++ w2)[i]?) = wld2)
    (hn : As.length = n) (hl : ls.size = nL) (hst0 : st0 = As.reverse ++ rest) (hW : (rest.map fun v => v.category).sum ≤ 8) (hdg : decode cc pc = .ok (.invokestatic index, 3)) (hf : cells ≤ R.cells ∧ slots ≤ R.slots)
    (kk : ∀ (H1 : Heap) (locs1 : List Loc), va_P D vwCl wld2 H1 → va_D A0 wld2 → va_S A0 H0 H1 locs1 → W p l e R s m args below meth c H1 locs1 cells slots Q (F0 m (pc + 3) ls (ov.toList ++ rest))) : W p l e R s m args below meth c H locs cells slots Q (F0 m pc ls st0) := by
  have hPc := hP.sub isC hC2
  have hDc : va_D (fun _ => True) wc := (hD.sub isC hnC hC).weaken (fun _ _ _ _ => trivial)
  exact mu_go (va_runS (As := As) (rest := rest) ⟨X.1, X.2.1, X.2.2.1, X.2.2.2.1, X.2.2.2.2.1⟩ hM (va_cwS n X.2.2.2.2.1 hG hw hrc hrs hd hR)
    ⟨MB.blind, fun U hU hW => ⟨rfl, by rw [hU], ⟨by rw [hU]; exact hPc, hKK.warm hW⟩, hDc⟩⟩ rfl hn hl hst0 (lv_room hW) hdg hf) hP hD hS hA isC isR hC hRr hnd hdis hDc had pm hpn hpm hpm2 kk
/-- a static call with any start that the frames don't touch -/
theorem rcB (X : CX p s m args meth c ws cc nL ret0 own) {B : State → Prop} (hbl : FrameBlind (va_Pc As B)) (hBU : ∀ U : State, U.heap = H → s.WarmedH U.vm → B U) (n : Nat)
    (hM : Met l y wsY rm (va_Pc As B) (rdQ r) 0 0 (fun _ => False)) (hG : GoodIn ws (va_wsS own index y wsY)) (hw : wsY = Cond.code y bytes maxL ret :: wsY') (hrc : rm.cells = 0) (hrs : rm.slots = 0)
    (hd : y.cls ≠ "java/lang/invoke/MethodHandle" ∧ y.cls ≠ "java/lang/invoke/VarHandle" ∧ (parseMethodDescriptor y.desc).map (fun d => d.parameters.length) = some n) (hR : rm.frames + 1 ≤ R.frames ∧ 8 + (maxL + 11) + rm.locals ≤ R.locals)
    (hn : As.length = n) (hl : ls.size = nL) (hst0 : st0 = As.reverse ++ rest) (hW : (rest.map fun v => v.category).sum ≤ 8) (hdg : decode cc pc = .ok (.invokestatic index, 3)) (hf : cells ≤ R.cells ∧ slots ≤ R.slots)
    (kk : W p l e R s m args below meth c H locs cells slots Q (F0 m (pc + 3) ls (.int r :: rest))) : W p l e R s m args below meth c H locs cells slots Q (F0 m pc ls st0) :=
  rd_goS (va_runS (As := As) (rest := rest) ⟨X.1, X.2.1, X.2.2.1, X.2.2.2.1, X.2.2.2.2.1⟩ hM (va_cwS n X.2.2.2.2.1 hG hw hrc hrs hd hR)
    ⟨hbl, fun U hU hW => ⟨rfl, hBU U hU hW⟩⟩ rfl hn hl hst0 (lv_room hW) hdg hf) kk
end RD
