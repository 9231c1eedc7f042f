/-! 90: the law from its entry (by program, wip/p33/start.py) -/
theorem nest_tbl : ∀ w ∈ nestL, w ∈ lw_tbl := lw_places [43, 53, 75, 212, 250, 493, 506, 507, 21, 123] (by decide +kernel)
theorem nest_on : ∀ w ∈ nestL, w.onTables = true := by
  intro w hw
  obtain ⟨a, i, x, h, rfl⟩ := nest_form w hw
  rfl
set_option maxHeartbeats 8000000 in
set_option maxRecDepth 100000 in
theorem whole_start {p : Program} {e : Env} {s : State} {m : MethodId} {below : List Frame} {meth : Method} {c : Code} (l : Launch) (hflags : l.flags = flags0) {b L : Nat} {xs : Nat → Int32} (hL : L ≤ 260) (C0 : lw_At p s m meth c b L xs) : W p l e room_1 s m #[Value.ref b] below meth c s.heap [] 0 0 (lw_Z below #[Value.ref b] s) (entryFrame m ([Value.ref b] : List Value).toArray 10) := by
  obtain ⟨hx, hb, hr, hml, hown, hts, hX, hbl, hlocks, hgv⟩ := id C0
  have X : CX p s m #[Value.ref b] meth c wsL_law cL_law 10 ret RL := ⟨hx, hb, hml, hown, fun w h => hts w (wsL_law_in w h), hr, hlocks⟩
  have hA : ∀ q : Nat, s.heap.size ≤ q → (fun q : Nat => s.heap.size ≤ q) q := fun _ h => h
  obtain ⟨c0, i0, hKn0⟩ := u_known (C := RX0) (T := TX0) (N := 1) (n := 1) hts inX0 (hts (.instantiable RX0 1) (List.mem_of_getElem? (i := 42) (by decide +kernel)))
  obtain ⟨c1, i1, hKn1⟩ := u_known (C := RX1) (T := TX1) (N := 5) (n := 5) hts inX1 (hts (.instantiable RX1 5) (List.mem_of_getElem? (i := 52) (by decide +kernel)))
  obtain ⟨c2, i2, hKn2⟩ := u_known (C := RX2) (T := TX2) (N := 2) (n := 2) hts inX2 (hts (.instantiable RX2 2) (List.mem_of_getElem? (i := 74) (by decide +kernel)))
  obtain ⟨c3, i3, hKn3⟩ := u_known (C := RX3) (T := TX3) (N := 5) (n := 5) hts inX3 (hts (.instantiable RX3 5) (List.mem_of_getElem? (i := 16) (by decide +kernel)))
  obtain ⟨c4, i4, hKn4⟩ := u_known (C := RX4) (T := TX4) (N := 4) (n := 4) hts inX4 (hts (.instantiable RX4 4) (List.mem_of_getElem? (i := 8) (by decide +kernel)))
  obtain ⟨dC, dI, hKc⟩ : ∃ (dC : Nat → ClassId) (dI : Nat → Nat → Nat), ∀ (k : Nat) (q : vw_C), vwCl[k]? = some q → u_Kn s q.1 q.2.1 q.2.2 (dC k) (dI k) := by
    refine ⟨fun k => match k with | 0 => c0 | 1 => c1 | 2 => c2 | 3 => c3 | _ => c4, fun k => match k with | 0 => i0 | 1 => i1 | 2 => i2 | 3 => i3 | _ => i4, ?_⟩
    intro k q hq
    match k, hq with
    | 0, hq => cases hq; exact hKn0
    | 1, hq => cases hq; exact hKn1
    | 2, hq => cases hq; exact hKn2
    | 3, hq => cases hq; exact hKn3
    | 4, hq => cases hq; exact hKn4
    | k + 5, hq => simp [vwCl] at hq
  obtain ⟨cI, kI, compI, hI1, hI2, hI3⟩ := Cond.arrayClass_spec (hts (.arrayClass .int) (List.mem_of_getElem? (i := 40) (by decide +kernel)))
  have cC : ClassId := cI
  have hKK : KK (dC, dI) cI cC s := by
    refine ⟨⟨hKc, ?_⟩, fun w hw => va_Nw.of (nest_on w hw) (hts w (nest_tbl w hw))⟩
    intro k q hq
    match k, hq with
    | 0, hq => cases hq; exact ⟨fun n z => ⟨fun k h => (by cases h), kI, hI2, compI, hI3⟩, hI1⟩
    | k + 1, hq => simp at hq
  have hS : va_S (fun q : Nat => s.heap.size ≤ q) s.heap s.heap [] := va_S.rf
  have hP : va_P (dC, dI) vwCl [] s.heap := fun k q h => by simp at h
  have hD : va_D (fun q : Nat => s.heap.size ≤ q) [] := ⟨fun i j p q h => by simp at h, fun k q h => by simp at h⟩
  have hl := lv_entry ([.ref b]) (n := 10) (Nat.le_of_ble_eq_true rfl)
  rw [lg_entry_eq]
  generalize (lg_sl ([.ref b]) ++ List.replicate (10 - (lg_sl ([.ref b])).length) Slot.unset).toArray = ls at hl ⊢
  replace hl : lv_has ls 10 [(0, .ref b)] := hl
  refine va_new (D := (dC, dI)) (ci := 4) (fs := [.null, .null, .null, .null]) (C := RX4) (T := TX4) (N := 4) hx hb hts inX4 tyX4 tyX4_ok hown (hts (.classLink RL 10 RX4) (wsL_law_in _ (by decide +kernel))) (hts (.instantiable RX4 4) (wsL_law_in _ (by decide +kernel))) (hts (.initialized RX4) (wsL_law_in _ (by decide +kernel))) hKK.1 hP hD hS hA rfl (fun j hj => by rcases (show j = 0 ∨ j = 1 ∨ j = 2 ∨ j = 3 by omega) with rfl | rfl | rfl | rfl <;> rfl) (Nat.le_of_ble_eq_true rfl) (Nat.le_of_ble_eq_true rfl) dL_law_0 (fun ha H hP hD hS => ?_)
  replace hP : va_P (dC, dI) vwCl [(ha, .inr (4, [.null, .null, .null, .null]))] H := hP
  replace hD : va_D (fun q : Nat => s.heap.size ≤ q) [(ha, .inr (4, [.null, .null, .null, .null]))] := hD
  refine W.widen (k := 1) (n := 4) (Nat.le_of_ble_eq_true rfl) (Nat.le_of_ble_eq_true rfl) ?_
  refine lv_dup hx hb dL_law_3 rfl ?_
  refine icI (rest := [.ref ha]) (wr := []) X hKK hP hD hS hA (zX4_init l (dC, dI) cI cC ha _) gL_law_X4_init rfl rfl rfl (hts (.initialized RX4) (wsL_law_in _ (by decide +kernel))) (hts (.methodLink RL 123 yX4_init) (wsL_law_in _ (by decide +kernel))) (hts (.instanceMethod yX4_init) (wsL_law_in _ (by decide +kernel))) rfl hdX4_init ⟨Nat.le_of_ble_eq_true rfl, Nat.le_of_ble_eq_true rfl⟩ [0] [] rfl rfl rfl rfl rfl (by decide) hl.1 rfl (Nat.le_of_ble_eq_true rfl) dL_law_4 ⟨Nat.le_of_ble_eq_true rfl, Nat.le_of_ble_eq_true rfl⟩ (fun w H locs hw hP hD hS => ?_)
  obtain ⟨q5_ha, q7_q5_ha, q15_q5_ha, q23_q5_ha, q31_q5_ha, q16_ha, q27_ha, q7_q27_ha, q16_q27_ha, q25_q27_ha, q38_ha, q8_q38_ha, rfl⟩ := hw
  replace hP : va_P (dC, dI) vwCl [(ha, .inr (4, [.ref q5_ha, .ref q16_ha, .ref q27_ha, .ref q38_ha])), (q5_ha, .inr (3, [.ref q7_q5_ha, .ref q15_q5_ha, .ref q23_q5_ha, .ref q31_q5_ha, .int (iI 1)])), (q7_q5_ha, .inl (cI, 100, .inl (fun _ => 0))), (q15_q5_ha, .inl (cI, 100, .inl (mX4_put 100 (fun _ => 0) (iI 0) (iI 97)))), (q23_q5_ha, .inl (cI, 100, .inl (fun _ => 0))), (q31_q5_ha, .inl (cI, 100, .inl (fun _ => 0))), (q16_ha, .inr (0, [.int (iI 8)])), (q27_ha, .inr (1, [.ref q7_q27_ha, .ref q16_q27_ha, .ref q25_q27_ha, .int 0, .int 0])), (q7_q27_ha, .inl (cI, 15, .inl (fun _ => 0))), (q16_q27_ha, .inl (cI, 1500, .inl (fun _ => 0))), (q25_q27_ha, .inl (cI, 1500, .inl (fun _ => 0))), (q38_ha, .inr (2, [.ref q8_q38_ha, .int 0])), (q8_q38_ha, .inl (cI, 300, .inl (fun _ => 0)))] H := hP
  replace hD : va_D (fun q : Nat => s.heap.size ≤ q) [(ha, .inr (4, [.ref q5_ha, .ref q16_ha, .ref q27_ha, .ref q38_ha])), (q5_ha, .inr (3, [.ref q7_q5_ha, .ref q15_q5_ha, .ref q23_q5_ha, .ref q31_q5_ha, .int (iI 1)])), (q7_q5_ha, .inl (cI, 100, .inl (fun _ => 0))), (q15_q5_ha, .inl (cI, 100, .inl (mX4_put 100 (fun _ => 0) (iI 0) (iI 97)))), (q23_q5_ha, .inl (cI, 100, .inl (fun _ => 0))), (q31_q5_ha, .inl (cI, 100, .inl (fun _ => 0))), (q16_ha, .inr (0, [.int (iI 8)])), (q27_ha, .inr (1, [.ref q7_q27_ha, .ref q16_q27_ha, .ref q25_q27_ha, .int 0, .int 0])), (q7_q27_ha, .inl (cI, 15, .inl (fun _ => 0))), (q16_q27_ha, .inl (cI, 1500, .inl (fun _ => 0))), (q25_q27_ha, .inl (cI, 1500, .inl (fun _ => 0))), (q38_ha, .inr (2, [.ref q8_q38_ha, .int 0])), (q8_q38_ha, .inl (cI, 300, .inl (fun _ => 0)))] := hD
  refine W.widen (k := 13) (n := 3732) (Nat.le_of_ble_eq_true rfl) (Nat.le_of_ble_eq_true rfl) ?_
  refine lv_astore_n (lv' := [(1, .ref ha), (0, .ref b)]) hx hb dL_law_7 rfl hl (by decide) rfl (fun ls hl => ?_)
  exact zL_law (q := (fun k => match k with | 0 => ha | 1 => q16_ha | 2 => q27_ha | 3 => q7_q27_ha | 4 => q16_q27_ha | 5 => q25_q27_ha | 6 => q38_ha | 7 => q8_q38_ha | 8 => q5_ha | 9 => q7_q5_ha | 10 => q15_q5_ha | 11 => q23_q5_ha | _ => q31_q5_ha)) X hKK hA hX hbl (iI 1) (fun _ => 0) (mX4_put 100 (fun _ => 0) (iI 0) (iI 97)) (fun _ => 0) (fun _ => 0) (iI 8) 0 0 (fun _ => 0) (fun _ => 0) (fun _ => 0) 0 (fun _ => 0) H locs ls (hP.sub [0, 6, 7, 8, 9, 10, 11, 12, 1, 2, 3, 4, 5] rfl) (hD.sub [0, 6, 7, 8, 9, 10, 11, 12, 1, 2, 3, 4, 5] (by decide) rfl) hS hl (law_init hL)
