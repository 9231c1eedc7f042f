/-! 40: the law's walk (by program, wip/whole/lawgen.py) -/
theorem scr_in {x3 : Int32} {i L : Nat} (hi5 : i + 5 ≤ L ∧ L ≤ 2560) (ex3 : x3 = nI i) (k : Nat) (hk : k < 5) : vp_in (x3 + iI k) L := by
  have h : x3 + iI k = nI (i + k) := by rw [ex3]; exact nI_add i k
  rw [h]
  exact vp_in_nI (by omega) (by omega)
theorem scr_in0 {x3 : Int32} {i L : Nat} (hi5 : i + 5 ≤ L ∧ L ≤ 2560) (ex3 : x3 = nI i) : vp_in x3 L := by
  rw [ex3]
  exact vp_in_nI (by omega) (by omega)
theorem law_end {i L : Nat} {x3 : Int32} (hL : L ≤ 2560) (hi : i ≤ L) (ex3 : x3 = nI i) (h : ¬ nI L - iI 5 < x3) : i + 5 ≤ L ∧ L ≤ 2560 := by
  refine ⟨?_, hL⟩
  rw [ex3] at h
  have h1 : nI L - iI 5 = iI ((L : Int) - 5) := by rw [show nI L = iI (L : Int) from (iI_nat L).symm]; exact (Int32.ofInt_sub _ _).symm
  have h2 : nI i = iI (i : Int) := (iI_nat i).symm
  rw [h1, h2, Int32.lt_iff_toInt_lt] at h
  have e1 : (iI ((L : Int) - 5)).toInt = (L : Int) - 5 := Int32.toInt_ofInt_of_le (by omega) (by omega)
  have e2 : (iI (i : Int)).toInt = (i : Int) := Int32.toInt_ofInt_of_le (by omega) (by omega)
  rw [e1, e2] at h
  omega
set_option maxHeartbeats 8000000 in
set_option maxRecDepth 100000 in
theorem law_loop {p : Program} {l : Launch} {e : Env} {s : State} {m : MethodId} {below : List Frame} {meth : Method} {c : Code} {D : va_G} {cI cC : ClassId} {b L : Nat} {xs : Nat → Int32} (hL : L ≤ 2560) (C0 : lw_At p s m meth c b L xs) (hKK : KK D cI cC s) :
    ∀ (f i : Nat) (x3 : Int32), L + 1 ≤ i + f → i ≤ L → x3 = nI i → ∀ (n : Int32) (d : Nat → Int32) (lb : Nat → Int32) (xd : Nat → Int32) (xl : Nat → Int32) (wi : Int32) (sl : Int32) (kp : Int32) (ct : Nat → Int32) (gd : Nat → Int32) (gl : Nat → Int32) (ln : Int32) (ch : Nat → Int32) (mn : Int32) (md : Nat → Int32) (ml : Nat → Int32) (mk : Int32) (mr : Nat → Int32) (mt : Int32) (mx : Nat → Int32) (me : Nat → Int32) (mg : Nat → Int32) (mw : Int32), Inv n d lb wi sl kp ct gd gl ln ch mn md ml mk mr mt mx mw → ∀ (qa qm : Nat → Nat) (H : Heap) (locs : List Loc), va_P D vwCl (wA cI qa n d lb xd xl wi sl kp ct gd gl ln ch ++ wM cI cC qm mn md ml mk mr mt mx me mg mw) H → va_D (fun q : Nat => s.heap.size ≤ q) (wA cI qa n d lb xd xl wi sl kp ct gd gl ln ch ++ wM cI cC qm mn md ml mk mr mt mx me mg mw) → va_S (fun q : Nat => s.heap.size ≤ q) s.heap H locs → ∀ (ls : Array Slot), lv_has ls 4 [(0, .ref b), (1, .ref (qa 0)), (2, .ref (qm 0)), (3, .int x3)] → W p l e room_1 s m #[Value.ref b] below meth c H locs 20 7457 (lw_Z below #[Value.ref b] s) (F0 m 18 ls []) := by
  obtain ⟨hx, hb, hr, hml, hown, hts, hX, hbl, hlocks, hgv⟩ := C0
  have X : CX p s m #[Value.ref b] meth c wsL_law cL_law 4 ret RL := ⟨hx, hb, hml, hown, fun w h => hts w (wsL_law_in w h), hr, hlocks⟩
  have hA : ∀ q : Nat, s.heap.size ≤ q → (fun q : Nat => s.heap.size ≤ q) q := fun _ h => h
  have hbA : ¬ (fun q : Nat => s.heap.size ≤ q) b := Nat.not_le.mpr hbl
  intro f
  induction f with
  | zero =>
    intro i x3 h1 h2
    exact absurd h1 (by omega)
  | succ f ih =>
    intro i x3 hf hi ex3 n d lb xd xl wi sl kp ct gd gl ln ch mn md ml mk mr mt mx me mg mw I qa qm H locs hP hD hS ls hl
    refine lv_iload_n hx hb dL_law_18 rfl (lv_at hl 3 rfl) ?_
    refine lv_aload_n hx hb dL_law_19 rfl (lv_at hl 0 rfl) ?_
    refine va_slen hx hb hX hbl hbA hS dL_law_20 ?_
    refine lv_iconst (v := iI 5) hx hb dL_law_21 rfl ?_
    refine lv_isub hx hb dL_law_22 ?_
    refine lv_icmp_gt (tgt := 1068) hx hb dL_law_23 (by decide) (fun _ => ?_) (fun c1 => ?_)
    · refine lv_iconst (v := 1) hx hb dL_law_1068 (by decide) ?_
      refine va_forget (fun q hq => hS.2.2 q hq) ?_
      exact lw_ret hx hb hr hlocks dL_law_1069
    have hi5 := law_end hL hi ex3 c1
    refine lv_aload_n hx hb dL_law_26 rfl (lv_at hl 0 rfl) ?_
    refine lv_iload_n hx hb dL_law_27 rfl (lv_at hl 3 rfl) ?_
    refine va_sld hx hb hX hbl hbA hS (scr_in0 hi5 ex3) dL_law_28 ?_
    refine lv_bipush (v := iI 31) hx hb dL_law_29 (by decide) ?_
    refine lv_iand hx hb dL_law_31 ?_
    obtain ⟨sw, hsw⟩ : ∃ sw : Int32, sw = xs x3.toNatClampNeg &&& iI 31 := ⟨_, rfl⟩
    rw [← hsw]
    by_cases k0 : sw = iI 0
    · refine lv_tableIn (tgt := 168) hx hb dL_law_32 (by rw [k0]; decide) (by rw [k0]; decide) (by rw [k0]; rfl) (by decide) ?_
      obtain ⟨RA, RM, hRA, hRM, hE, hI⟩ := st_type I (xs (x3 + iI 1).toNatClampNeg)
      refine lv_aload_n hx hb dL_law_168 rfl (lv_at hl 1 rfl) ?_
      refine lv_aload_n hx hb dL_law_169 rfl (lv_at hl 0 rfl) ?_
      refine lv_iload_n hx hb dL_law_170 rfl (lv_at hl 3 rfl) ?_
      refine lv_iconst (v := iI 1) hx hb dL_law_171 rfl ?_
      refine lv_iadd hx hb dL_law_172 ?_
      refine va_sld hx hb hX hbl hbA hS (scr_in hi5 ex3 1 (by omega)) dL_law_173 ?_
      refine lv_i2c (v := c16 (xs (x3 + iI 1).toNatClampNeg)) hx hb dL_law_174 rfl ?_
      refine mcV (rest := []) (wld2 := (wA cI qa n d lb xd xl wi sl kp ct gd gl RA.2.1 RA.2.2 ++ wM cI cC qm mn md ml mk mr mt mx me mg mw)) (wr := pickAt [13, 14, 15, 16, 17, 18, 19] (wA cI qa n d lb xd xl wi sl kp ct gd gl ln ch ++ wM cI cC qm mn md ml mk mr mt mx me mg mw)) X hKK hP hD hS hA 1 (zX4_type l D cI cC qa _ n d lb xd xl wi sl kp ct gd gl ln ch (c16 (xs (x3 + iI 1).toNatClampNeg)) RA hRA) gL_law_X4_type rfl rfl rfl hdX4_type ⟨Nat.le_of_ble_eq_true rfl, Nat.le_of_ble_eq_true rfl⟩ [0, 1, 2, 3, 4, 5, 6, 7, 8, 9, 10, 11, 12] [13, 14, 15, 16, 17, 18, 19] rfl rfl rfl rfl rfl (by decide) rfl [7, 8, 9, 10, 11, 12, 13, 14, 15, 16, 17, 18, 19, 0, 1, 2, 3, 4, 5, 6] rfl rfl rfl 0 rfl rfl rfl hl.1 rfl (Nat.le_of_ble_eq_true rfl) dL_law_175 ⟨Nat.le_of_ble_eq_true rfl, Nat.le_of_ble_eq_true rfl⟩ (fun H locs hP hD hS => ?_)
      refine lv_aload_n hx hb dL_law_178 rfl (lv_at hl 2 rfl) ?_
      refine lv_aload_n hx hb dL_law_179 rfl (lv_at hl 0 rfl) ?_
      refine lv_iload_n hx hb dL_law_180 rfl (lv_at hl 3 rfl) ?_
      refine lv_iconst (v := iI 1) hx hb dL_law_181 rfl ?_
      refine lv_iadd hx hb dL_law_182 ?_
      refine va_sld hx hb hX hbl hbA hS (scr_in hi5 ex3 1 (by omega)) dL_law_183 ?_
      refine lv_i2c (v := c16 (xs (x3 + iI 1).toNatClampNeg)) hx hb dL_law_184 rfl ?_
      refine mcV (rest := [.int RA.1]) (wld2 := (wA cI qa n d lb xd xl wi sl kp ct gd gl RA.2.1 RA.2.2 ++ wM cI cC qm mn md ml mk mr RM.2.1 RM.2.2 me mg mw)) (wr := pickAt [0, 1, 2, 3, 4, 5, 6, 7, 8, 9, 10, 11, 12] (wA cI qa n d lb xd xl wi sl kp ct gd gl RA.2.1 RA.2.2 ++ wM cI cC qm mn md ml mk mr mt mx me mg mw)) X hKK hP hD hS hA 1 (zX5_type l D cI cC qm _ mn md ml mk mr mt mx me mg mw (c16 (xs (x3 + iI 1).toNatClampNeg)) RM hRM) gL_law_X5_type rfl rfl rfl hdX5_type ⟨Nat.le_of_ble_eq_true rfl, Nat.le_of_ble_eq_true rfl⟩ [13, 14, 15, 16, 17, 18, 19] [0, 1, 2, 3, 4, 5, 6, 7, 8, 9, 10, 11, 12] rfl rfl rfl rfl rfl (by decide) rfl [0, 1, 2, 3, 4, 5, 6, 7, 8, 9, 10, 11, 12, 13, 14, 15, 16, 17, 18, 19] rfl rfl rfl 0 rfl rfl rfl hl.1 rfl (Nat.le_of_ble_eq_true rfl) dL_law_185 ⟨Nat.le_of_ble_eq_true rfl, Nat.le_of_ble_eq_true rfl⟩ (fun H locs hP hD hS => ?_)
      refine lv_icmp_eq (tgt := 1062) hx hb dL_law_188 (by decide) (fun _ => ?_) (fun cE => absurd hE cE)
      refine lv_iinc (v := x3 + iI 5) (lv' := [(3, .int (x3 + iI 5)), (0, .ref b), (1, .ref (qa 0)), (2, .ref (qm 0))]) hx hb dL_law_1062 hl (k := 3) rfl rfl (by decide) rfl (fun ls hl => ?_)
      refine lv_goto (tgt := 18) hx hb dL_law_1065 (by decide) ?_
      exact ih (i + 5) (x3 + iI 5) (by omega) (by omega) (by rw [ex3]; exact nI_add i 5) n d lb xd xl wi sl kp ct gd gl RA.2.1 RA.2.2 mn md ml mk mr RM.2.1 RM.2.2 me mg mw hI qa qm H locs hP hD hS ls (lv_sub hl [1, 2, 3, 0] rfl)
    by_cases k1 : sw = iI 1
    · refine lv_tableIn (tgt := 193) hx hb dL_law_32 (by rw [k1]; decide) (by rw [k1]; decide) (by rw [k1]; rfl) (by decide) ?_
      obtain ⟨RA, RM, hRA, hRM, hE, hI⟩ := st_clearText I 
      refine lv_aload_n hx hb dL_law_193 rfl (lv_at hl 1 rfl) ?_
      refine mcV (rest := []) (wld2 := (wA cI qa n d lb xd xl wi sl kp ct gd gl RA.2 ch ++ wM cI cC qm mn md ml mk mr mt mx me mg mw)) (wr := pickAt [13, 14, 15, 16, 17, 18, 19] (wA cI qa n d lb xd xl wi sl kp ct gd gl ln ch ++ wM cI cC qm mn md ml mk mr mt mx me mg mw)) X hKK hP hD hS hA 0 (zX4_clearText l D cI cC qa _ n d lb xd xl wi sl kp ct gd gl ln ch  RA hRA) gL_law_X4_clearText rfl rfl rfl hdX4_clearText ⟨Nat.le_of_ble_eq_true rfl, Nat.le_of_ble_eq_true rfl⟩ [0, 1, 2, 3, 4, 5, 6, 7, 8, 9, 10, 11, 12] [13, 14, 15, 16, 17, 18, 19] rfl rfl rfl rfl rfl (by decide) rfl [7, 8, 9, 10, 11, 12, 13, 14, 15, 16, 17, 18, 19, 0, 1, 2, 3, 4, 5, 6] rfl rfl rfl 0 rfl rfl rfl hl.1 rfl (Nat.le_of_ble_eq_true rfl) dL_law_194 ⟨Nat.le_of_ble_eq_true rfl, Nat.le_of_ble_eq_true rfl⟩ (fun H locs hP hD hS => ?_)
      refine lv_aload_n hx hb dL_law_197 rfl (lv_at hl 2 rfl) ?_
      refine mcV (rest := [.int RA.1]) (wld2 := (wA cI qa n d lb xd xl wi sl kp ct gd gl RA.2 ch ++ wM cI cC qm mn md ml mk mr RM.2 mx me mg mw)) (wr := pickAt [0, 1, 2, 3, 4, 5, 6, 7, 8, 9, 10, 11, 12] (wA cI qa n d lb xd xl wi sl kp ct gd gl RA.2 ch ++ wM cI cC qm mn md ml mk mr mt mx me mg mw)) X hKK hP hD hS hA 0 (zX5_clearText l D cI cC qm _ mn md ml mk mr mt mx me mg mw  RM hRM) gL_law_X5_clearText rfl rfl rfl hdX5_clearText ⟨Nat.le_of_ble_eq_true rfl, Nat.le_of_ble_eq_true rfl⟩ [13, 14, 15, 16, 17, 18, 19] [0, 1, 2, 3, 4, 5, 6, 7, 8, 9, 10, 11, 12] rfl rfl rfl rfl rfl (by decide) rfl [0, 1, 2, 3, 4, 5, 6, 7, 8, 9, 10, 11, 12, 13, 14, 15, 16, 17, 18, 19] rfl rfl rfl 0 rfl rfl rfl hl.1 rfl (Nat.le_of_ble_eq_true rfl) dL_law_198 ⟨Nat.le_of_ble_eq_true rfl, Nat.le_of_ble_eq_true rfl⟩ (fun H locs hP hD hS => ?_)
      refine lv_icmp_eq (tgt := 1062) hx hb dL_law_201 (by decide) (fun _ => ?_) (fun cE => absurd hE cE)
      refine lv_iinc (v := x3 + iI 5) (lv' := [(3, .int (x3 + iI 5)), (0, .ref b), (1, .ref (qa 0)), (2, .ref (qm 0))]) hx hb dL_law_1062 hl (k := 3) rfl rfl (by decide) rfl (fun ls hl => ?_)
      refine lv_goto (tgt := 18) hx hb dL_law_1065 (by decide) ?_
      exact ih (i + 5) (x3 + iI 5) (by omega) (by omega) (by rw [ex3]; exact nI_add i 5) n d lb xd xl wi sl kp ct gd gl RA.2 ch mn md ml mk mr RM.2 mx me mg mw hI qa qm H locs hP hD hS ls (lv_sub hl [1, 2, 3, 0] rfl)
    by_cases k2 : sw = iI 2
    · refine lv_tableIn (tgt := 206) hx hb dL_law_32 (by rw [k2]; decide) (by rw [k2]; decide) (by rw [k2]; rfl) (by decide) ?_
      obtain ⟨RA, RM, hRA, hRM, hE, hI⟩ := st_read I 
      refine lv_aload_n hx hb dL_law_206 rfl (lv_at hl 1 rfl) ?_
      refine mcV (rest := []) (wld2 := (wA cI qa RA.2.1 RA.2.2.1 RA.2.2.2.1 xd xl wi RA.2.2.2.2.1 RA.2.2.2.2.2.1 RA.2.2.2.2.2.2.1 RA.2.2.2.2.2.2.2.1 RA.2.2.2.2.2.2.2.2 ln ch ++ wM cI cC qm mn md ml mk mr mt mx me mg mw)) (wr := pickAt [13, 14, 15, 16, 17, 18, 19] (wA cI qa n d lb xd xl wi sl kp ct gd gl ln ch ++ wM cI cC qm mn md ml mk mr mt mx me mg mw)) X hKK hP hD hS hA 0 (zX4_read l D cI cC qa _ n d lb xd xl wi sl kp ct gd gl ln ch  RA hRA) gL_law_X4_read rfl rfl rfl hdX4_read ⟨Nat.le_of_ble_eq_true rfl, Nat.le_of_ble_eq_true rfl⟩ [0, 1, 2, 3, 4, 5, 6, 7, 8, 9, 10, 11, 12] [13, 14, 15, 16, 17, 18, 19] rfl rfl rfl rfl rfl (by decide) rfl [7, 8, 9, 10, 11, 12, 13, 14, 15, 16, 17, 18, 19, 0, 1, 2, 3, 4, 5, 6] rfl rfl rfl 0 rfl rfl rfl hl.1 rfl (Nat.le_of_ble_eq_true rfl) dL_law_207 ⟨Nat.le_of_ble_eq_true rfl, Nat.le_of_ble_eq_true rfl⟩ (fun H locs hP hD hS => ?_)
      refine lv_aload_n hx hb dL_law_210 rfl (lv_at hl 2 rfl) ?_
      refine mcV (rest := [.int RA.1]) (wld2 := (wA cI qa RA.2.1 RA.2.2.1 RA.2.2.2.1 xd xl wi RA.2.2.2.2.1 RA.2.2.2.2.2.1 RA.2.2.2.2.2.2.1 RA.2.2.2.2.2.2.2.1 RA.2.2.2.2.2.2.2.2 ln ch ++ wM cI cC qm RM.2.1 RM.2.2.1 RM.2.2.2.1 RM.2.2.2.2.1 RM.2.2.2.2.2.1 mt mx RM.2.2.2.2.2.2.1 RM.2.2.2.2.2.2.2 mw)) (wr := pickAt [0, 1, 2, 3, 4, 5, 6, 7, 8, 9, 10, 11, 12] (wA cI qa RA.2.1 RA.2.2.1 RA.2.2.2.1 xd xl wi RA.2.2.2.2.1 RA.2.2.2.2.2.1 RA.2.2.2.2.2.2.1 RA.2.2.2.2.2.2.2.1 RA.2.2.2.2.2.2.2.2 ln ch ++ wM cI cC qm mn md ml mk mr mt mx me mg mw)) X hKK hP hD hS hA 0 (zX5_read l D cI cC qm _ mn md ml mk mr mt mx me mg mw  RM hRM) gL_law_X5_read rfl rfl rfl hdX5_read ⟨Nat.le_of_ble_eq_true rfl, Nat.le_of_ble_eq_true rfl⟩ [13, 14, 15, 16, 17, 18, 19] [0, 1, 2, 3, 4, 5, 6, 7, 8, 9, 10, 11, 12] rfl rfl rfl rfl rfl (by decide) rfl [0, 1, 2, 3, 4, 5, 6, 7, 8, 9, 10, 11, 12, 13, 14, 15, 16, 17, 18, 19] rfl rfl rfl 0 rfl rfl rfl hl.1 rfl (Nat.le_of_ble_eq_true rfl) dL_law_211 ⟨Nat.le_of_ble_eq_true rfl, Nat.le_of_ble_eq_true rfl⟩ (fun H locs hP hD hS => ?_)
      refine lv_icmp_eq (tgt := 1062) hx hb dL_law_214 (by decide) (fun _ => ?_) (fun cE => absurd hE cE)
      refine lv_iinc (v := x3 + iI 5) (lv' := [(3, .int (x3 + iI 5)), (0, .ref b), (1, .ref (qa 0)), (2, .ref (qm 0))]) hx hb dL_law_1062 hl (k := 3) rfl rfl (by decide) rfl (fun ls hl => ?_)
      refine lv_goto (tgt := 18) hx hb dL_law_1065 (by decide) ?_
      exact ih (i + 5) (x3 + iI 5) (by omega) (by omega) (by rw [ex3]; exact nI_add i 5) RA.2.1 RA.2.2.1 RA.2.2.2.1 xd xl wi RA.2.2.2.2.1 RA.2.2.2.2.2.1 RA.2.2.2.2.2.2.1 RA.2.2.2.2.2.2.2.1 RA.2.2.2.2.2.2.2.2 ln ch RM.2.1 RM.2.2.1 RM.2.2.2.1 RM.2.2.2.2.1 RM.2.2.2.2.2.1 mt mx RM.2.2.2.2.2.2.1 RM.2.2.2.2.2.2.2 mw hI qa qm H locs hP hD hS ls (lv_sub hl [1, 2, 3, 0] rfl)
    by_cases k3 : sw = iI 3
    · refine lv_tableIn (tgt := 219) hx hb dL_law_32 (by rw [k3]; decide) (by rw [k3]; decide) (by rw [k3]; rfl) (by decide) ?_
      obtain ⟨r, hRA, hRM⟩ := st_written I (xs (x3 + iI 1).toNatClampNeg)
      refine lv_aload_n hx hb dL_law_219 rfl (lv_at hl 1 rfl) ?_
      refine lv_aload_n hx hb dL_law_220 rfl (lv_at hl 0 rfl) ?_
      refine lv_iload_n hx hb dL_law_221 rfl (lv_at hl 3 rfl) ?_
      refine lv_iconst (v := iI 1) hx hb dL_law_222 rfl ?_
      refine lv_iadd hx hb dL_law_223 ?_
      refine va_sld hx hb hX hbl hbA hS (scr_in hi5 ex3 1 (by omega)) dL_law_224 ?_
      refine rcV (rest := []) X hKK hP 1 (zX4_written l D cI cC qa n d lb xd xl wi sl kp ct gd gl ln ch (xs (x3 + iI 1).toNatClampNeg) r hRA) gL_law_X4_written rfl rfl rfl hdX4_written ⟨Nat.le_of_ble_eq_true rfl, Nat.le_of_ble_eq_true rfl⟩ [0, 1, 2, 3, 4, 5, 6, 7, 8, 9, 10, 11, 12] rfl 0 rfl rfl rfl hl.1 rfl (Nat.le_of_ble_eq_true rfl) dL_law_225 ⟨Nat.le_of_ble_eq_true rfl, Nat.le_of_ble_eq_true rfl⟩ ?_
      refine lv_aload_n hx hb dL_law_228 rfl (lv_at hl 2 rfl) ?_
      refine lv_aload_n hx hb dL_law_229 rfl (lv_at hl 0 rfl) ?_
      refine lv_iload_n hx hb dL_law_230 rfl (lv_at hl 3 rfl) ?_
      refine lv_iconst (v := iI 1) hx hb dL_law_231 rfl ?_
      refine lv_iadd hx hb dL_law_232 ?_
      refine va_sld hx hb hX hbl hbA hS (scr_in hi5 ex3 1 (by omega)) dL_law_233 ?_
      refine rcV (rest := [.int r]) X hKK hP 1 (zX5_written l D cI cC qm mn md ml mk mr mt mx me mg mw (xs (x3 + iI 1).toNatClampNeg) r hRM) gL_law_X5_written rfl rfl rfl hdX5_written ⟨Nat.le_of_ble_eq_true rfl, Nat.le_of_ble_eq_true rfl⟩ [13, 14, 15, 16, 17, 18, 19] rfl 0 rfl rfl rfl hl.1 rfl (Nat.le_of_ble_eq_true rfl) dL_law_234 ⟨Nat.le_of_ble_eq_true rfl, Nat.le_of_ble_eq_true rfl⟩ ?_
      refine lv_icmp_eq (tgt := 1062) hx hb dL_law_237 (by decide) (fun _ => ?_) (fun cE => absurd rfl cE)
      refine lv_iinc (v := x3 + iI 5) (lv' := [(3, .int (x3 + iI 5)), (0, .ref b), (1, .ref (qa 0)), (2, .ref (qm 0))]) hx hb dL_law_1062 hl (k := 3) rfl rfl (by decide) rfl (fun ls hl => ?_)
      refine lv_goto (tgt := 18) hx hb dL_law_1065 (by decide) ?_
      exact ih (i + 5) (x3 + iI 5) (by omega) (by omega) (by rw [ex3]; exact nI_add i 5) n d lb xd xl wi sl kp ct gd gl ln ch mn md ml mk mr mt mx me mg mw I qa qm H locs hP hD hS ls (lv_sub hl [1, 2, 3, 0] rfl)
    by_cases k4 : sw = iI 4
    · refine lv_tableIn (tgt := 242) hx hb dL_law_32 (by rw [k4]; decide) (by rw [k4]; decide) (by rw [k4]; rfl) (by decide) ?_
      obtain ⟨r, hRA, hRM⟩ := st_size I 
      refine lv_aload_n hx hb dL_law_242 rfl (lv_at hl 1 rfl) ?_
      refine rcV (rest := []) X hKK hP 0 (zX4_size l D cI cC qa n d lb xd xl wi sl kp ct gd gl ln ch  r hRA) gL_law_X4_size rfl rfl rfl hdX4_size ⟨Nat.le_of_ble_eq_true rfl, Nat.le_of_ble_eq_true rfl⟩ [0, 1, 2, 3, 4, 5, 6, 7, 8, 9, 10, 11, 12] rfl 0 rfl rfl rfl hl.1 rfl (Nat.le_of_ble_eq_true rfl) dL_law_243 ⟨Nat.le_of_ble_eq_true rfl, Nat.le_of_ble_eq_true rfl⟩ ?_
      refine lv_aload_n hx hb dL_law_246 rfl (lv_at hl 2 rfl) ?_
      refine rcV (rest := [.int r]) X hKK hP 0 (zX5_size l D cI cC qm mn md ml mk mr mt mx me mg mw  r hRM) gL_law_X5_size rfl rfl rfl hdX5_size ⟨Nat.le_of_ble_eq_true rfl, Nat.le_of_ble_eq_true rfl⟩ [13, 14, 15, 16, 17, 18, 19] rfl 0 rfl rfl rfl hl.1 rfl (Nat.le_of_ble_eq_true rfl) dL_law_247 ⟨Nat.le_of_ble_eq_true rfl, Nat.le_of_ble_eq_true rfl⟩ ?_
      refine lv_icmp_eq (tgt := 1062) hx hb dL_law_250 (by decide) (fun _ => ?_) (fun cE => absurd rfl cE)
      refine lv_iinc (v := x3 + iI 5) (lv' := [(3, .int (x3 + iI 5)), (0, .ref b), (1, .ref (qa 0)), (2, .ref (qm 0))]) hx hb dL_law_1062 hl (k := 3) rfl rfl (by decide) rfl (fun ls hl => ?_)
      refine lv_goto (tgt := 18) hx hb dL_law_1065 (by decide) ?_
      exact ih (i + 5) (x3 + iI 5) (by omega) (by omega) (by rw [ex3]; exact nI_add i 5) n d lb xd xl wi sl kp ct gd gl ln ch mn md ml mk mr mt mx me mg mw I qa qm H locs hP hD hS ls (lv_sub hl [1, 2, 3, 0] rfl)
    by_cases k5 : sw = iI 5
    · refine lv_tableIn (tgt := 255) hx hb dL_law_32 (by rw [k5]; decide) (by rw [k5]; decide) (by rw [k5]; rfl) (by decide) ?_
      obtain ⟨r, hRA, hRM⟩ := st_node I (xs (x3 + iI 1).toNatClampNeg) (xs (x3 + iI 2).toNatClampNeg)
      refine lv_aload_n hx hb dL_law_255 rfl (lv_at hl 1 rfl) ?_
      refine lv_aload_n hx hb dL_law_256 rfl (lv_at hl 0 rfl) ?_
      refine lv_iload_n hx hb dL_law_257 rfl (lv_at hl 3 rfl) ?_
      refine lv_iconst (v := iI 1) hx hb dL_law_258 rfl ?_
      refine lv_iadd hx hb dL_law_259 ?_
      refine va_sld hx hb hX hbl hbA hS (scr_in hi5 ex3 1 (by omega)) dL_law_260 ?_
      refine lv_aload_n hx hb dL_law_261 rfl (lv_at hl 0 rfl) ?_
      refine lv_iload_n hx hb dL_law_262 rfl (lv_at hl 3 rfl) ?_
      refine lv_iconst (v := iI 2) hx hb dL_law_263 rfl ?_
      refine lv_iadd hx hb dL_law_264 ?_
      refine va_sld hx hb hX hbl hbA hS (scr_in hi5 ex3 2 (by omega)) dL_law_265 ?_
      refine rcV (rest := []) X hKK hP 2 (zX4_node l D cI cC qa n d lb xd xl wi sl kp ct gd gl ln ch (xs (x3 + iI 1).toNatClampNeg) (xs (x3 + iI 2).toNatClampNeg) r hRA) gL_law_X4_node rfl rfl rfl hdX4_node ⟨Nat.le_of_ble_eq_true rfl, Nat.le_of_ble_eq_true rfl⟩ [0, 1, 2, 3, 4, 5, 6, 7, 8, 9, 10, 11, 12] rfl 0 rfl rfl rfl hl.1 rfl (Nat.le_of_ble_eq_true rfl) dL_law_266 ⟨Nat.le_of_ble_eq_true rfl, Nat.le_of_ble_eq_true rfl⟩ ?_
      refine lv_aload_n hx hb dL_law_269 rfl (lv_at hl 2 rfl) ?_
      refine lv_aload_n hx hb dL_law_270 rfl (lv_at hl 0 rfl) ?_
      refine lv_iload_n hx hb dL_law_271 rfl (lv_at hl 3 rfl) ?_
      refine lv_iconst (v := iI 1) hx hb dL_law_272 rfl ?_
      refine lv_iadd hx hb dL_law_273 ?_
      refine va_sld hx hb hX hbl hbA hS (scr_in hi5 ex3 1 (by omega)) dL_law_274 ?_
      refine lv_aload_n hx hb dL_law_275 rfl (lv_at hl 0 rfl) ?_
      refine lv_iload_n hx hb dL_law_276 rfl (lv_at hl 3 rfl) ?_
      refine lv_iconst (v := iI 2) hx hb dL_law_277 rfl ?_
      refine lv_iadd hx hb dL_law_278 ?_
      refine va_sld hx hb hX hbl hbA hS (scr_in hi5 ex3 2 (by omega)) dL_law_279 ?_
      refine rcV (rest := [.int r]) X hKK hP 2 (zX5_node l D cI cC qm mn md ml mk mr mt mx me mg mw (xs (x3 + iI 1).toNatClampNeg) (xs (x3 + iI 2).toNatClampNeg) r hRM) gL_law_X5_node rfl rfl rfl hdX5_node ⟨Nat.le_of_ble_eq_true rfl, Nat.le_of_ble_eq_true rfl⟩ [13, 14, 15, 16, 17, 18, 19] rfl 0 rfl rfl rfl hl.1 rfl (Nat.le_of_ble_eq_true rfl) dL_law_280 ⟨Nat.le_of_ble_eq_true rfl, Nat.le_of_ble_eq_true rfl⟩ ?_
      refine lv_icmp_eq (tgt := 1062) hx hb dL_law_283 (by decide) (fun _ => ?_) (fun cE => absurd rfl cE)
      refine lv_iinc (v := x3 + iI 5) (lv' := [(3, .int (x3 + iI 5)), (0, .ref b), (1, .ref (qa 0)), (2, .ref (qm 0))]) hx hb dL_law_1062 hl (k := 3) rfl rfl (by decide) rfl (fun ls hl => ?_)
      refine lv_goto (tgt := 18) hx hb dL_law_1065 (by decide) ?_
      exact ih (i + 5) (x3 + iI 5) (by omega) (by omega) (by rw [ex3]; exact nI_add i 5) n d lb xd xl wi sl kp ct gd gl ln ch mn md ml mk mr mt mx me mg mw I qa qm H locs hP hD hS ls (lv_sub hl [1, 2, 3, 0] rfl)
    by_cases k6 : sw = iI 6
    · refine lv_tableIn (tgt := 288) hx hb dL_law_32 (by rw [k6]; decide) (by rw [k6]; decide) (by rw [k6]; rfl) (by decide) ?_
      obtain ⟨r, hRA, hRM⟩ := st_child I (xs (x3 + iI 1).toNatClampNeg) (xs (x3 + iI 2).toNatClampNeg)
      refine lv_aload_n hx hb dL_law_288 rfl (lv_at hl 1 rfl) ?_
      refine lv_aload_n hx hb dL_law_289 rfl (lv_at hl 0 rfl) ?_
      refine lv_iload_n hx hb dL_law_290 rfl (lv_at hl 3 rfl) ?_
      refine lv_iconst (v := iI 1) hx hb dL_law_291 rfl ?_
      refine lv_iadd hx hb dL_law_292 ?_
      refine va_sld hx hb hX hbl hbA hS (scr_in hi5 ex3 1 (by omega)) dL_law_293 ?_
      refine lv_aload_n hx hb dL_law_294 rfl (lv_at hl 0 rfl) ?_
      refine lv_iload_n hx hb dL_law_295 rfl (lv_at hl 3 rfl) ?_
      refine lv_iconst (v := iI 2) hx hb dL_law_296 rfl ?_
      refine lv_iadd hx hb dL_law_297 ?_
      refine va_sld hx hb hX hbl hbA hS (scr_in hi5 ex3 2 (by omega)) dL_law_298 ?_
      refine rcV (rest := []) X hKK hP 2 (zX4_child l D cI cC qa n d lb xd xl wi sl kp ct gd gl ln ch (xs (x3 + iI 1).toNatClampNeg) (xs (x3 + iI 2).toNatClampNeg) r hRA) gL_law_X4_child rfl rfl rfl hdX4_child ⟨Nat.le_of_ble_eq_true rfl, Nat.le_of_ble_eq_true rfl⟩ [0, 1, 2, 3, 4, 5, 6, 7, 8, 9, 10, 11, 12] rfl 0 rfl rfl rfl hl.1 rfl (Nat.le_of_ble_eq_true rfl) dL_law_299 ⟨Nat.le_of_ble_eq_true rfl, Nat.le_of_ble_eq_true rfl⟩ ?_
      refine lv_aload_n hx hb dL_law_302 rfl (lv_at hl 2 rfl) ?_
      refine lv_aload_n hx hb dL_law_303 rfl (lv_at hl 0 rfl) ?_
      refine lv_iload_n hx hb dL_law_304 rfl (lv_at hl 3 rfl) ?_
      refine lv_iconst (v := iI 1) hx hb dL_law_305 rfl ?_
      refine lv_iadd hx hb dL_law_306 ?_
      refine va_sld hx hb hX hbl hbA hS (scr_in hi5 ex3 1 (by omega)) dL_law_307 ?_
      refine lv_aload_n hx hb dL_law_308 rfl (lv_at hl 0 rfl) ?_
      refine lv_iload_n hx hb dL_law_309 rfl (lv_at hl 3 rfl) ?_
      refine lv_iconst (v := iI 2) hx hb dL_law_310 rfl ?_
      refine lv_iadd hx hb dL_law_311 ?_
      refine va_sld hx hb hX hbl hbA hS (scr_in hi5 ex3 2 (by omega)) dL_law_312 ?_
      refine rcV (rest := [.int r]) X hKK hP 2 (zX5_child l D cI cC qm mn md ml mk mr mt mx me mg mw (xs (x3 + iI 1).toNatClampNeg) (xs (x3 + iI 2).toNatClampNeg) r hRM) gL_law_X5_child rfl rfl rfl hdX5_child ⟨Nat.le_of_ble_eq_true rfl, Nat.le_of_ble_eq_true rfl⟩ [13, 14, 15, 16, 17, 18, 19] rfl 0 rfl rfl rfl hl.1 rfl (Nat.le_of_ble_eq_true rfl) dL_law_313 ⟨Nat.le_of_ble_eq_true rfl, Nat.le_of_ble_eq_true rfl⟩ ?_
      refine lv_icmp_eq (tgt := 1062) hx hb dL_law_316 (by decide) (fun _ => ?_) (fun cE => absurd rfl cE)
      refine lv_iinc (v := x3 + iI 5) (lv' := [(3, .int (x3 + iI 5)), (0, .ref b), (1, .ref (qa 0)), (2, .ref (qm 0))]) hx hb dL_law_1062 hl (k := 3) rfl rfl (by decide) rfl (fun ls hl => ?_)
      refine lv_goto (tgt := 18) hx hb dL_law_1065 (by decide) ?_
      exact ih (i + 5) (x3 + iI 5) (by omega) (by omega) (by rw [ex3]; exact nI_add i 5) n d lb xd xl wi sl kp ct gd gl ln ch mn md ml mk mr mt mx me mg mw I qa qm H locs hP hD hS ls (lv_sub hl [1, 2, 3, 0] rfl)
    by_cases k7 : sw = iI 7
    · refine lv_tableIn (tgt := 321) hx hb dL_law_32 (by rw [k7]; decide) (by rw [k7]; decide) (by rw [k7]; rfl) (by decide) ?_
      obtain ⟨r, hRA, hRM⟩ := st_neighbour I (xs (x3 + iI 1).toNatClampNeg) (xs (x3 + iI 2).toNatClampNeg)
      refine lv_aload_n hx hb dL_law_321 rfl (lv_at hl 1 rfl) ?_
      refine lv_aload_n hx hb dL_law_322 rfl (lv_at hl 0 rfl) ?_
      refine lv_iload_n hx hb dL_law_323 rfl (lv_at hl 3 rfl) ?_
      refine lv_iconst (v := iI 1) hx hb dL_law_324 rfl ?_
      refine lv_iadd hx hb dL_law_325 ?_
      refine va_sld hx hb hX hbl hbA hS (scr_in hi5 ex3 1 (by omega)) dL_law_326 ?_
      refine lv_aload_n hx hb dL_law_327 rfl (lv_at hl 0 rfl) ?_
      refine lv_iload_n hx hb dL_law_328 rfl (lv_at hl 3 rfl) ?_
      refine lv_iconst (v := iI 2) hx hb dL_law_329 rfl ?_
      refine lv_iadd hx hb dL_law_330 ?_
      refine va_sld hx hb hX hbl hbA hS (scr_in hi5 ex3 2 (by omega)) dL_law_331 ?_
      refine rcV (rest := []) X hKK hP 2 (zX4_neighbour l D cI cC qa n d lb xd xl wi sl kp ct gd gl ln ch (xs (x3 + iI 1).toNatClampNeg) (xs (x3 + iI 2).toNatClampNeg) r hRA) gL_law_X4_neighbour rfl rfl rfl hdX4_neighbour ⟨Nat.le_of_ble_eq_true rfl, Nat.le_of_ble_eq_true rfl⟩ [0, 1, 2, 3, 4, 5, 6, 7, 8, 9, 10, 11, 12] rfl 0 rfl rfl rfl hl.1 rfl (Nat.le_of_ble_eq_true rfl) dL_law_332 ⟨Nat.le_of_ble_eq_true rfl, Nat.le_of_ble_eq_true rfl⟩ ?_
      refine lv_aload_n hx hb dL_law_335 rfl (lv_at hl 2 rfl) ?_
      refine lv_aload_n hx hb dL_law_336 rfl (lv_at hl 0 rfl) ?_
      refine lv_iload_n hx hb dL_law_337 rfl (lv_at hl 3 rfl) ?_
      refine lv_iconst (v := iI 1) hx hb dL_law_338 rfl ?_
      refine lv_iadd hx hb dL_law_339 ?_
      refine va_sld hx hb hX hbl hbA hS (scr_in hi5 ex3 1 (by omega)) dL_law_340 ?_
      refine lv_aload_n hx hb dL_law_341 rfl (lv_at hl 0 rfl) ?_
      refine lv_iload_n hx hb dL_law_342 rfl (lv_at hl 3 rfl) ?_
      refine lv_iconst (v := iI 2) hx hb dL_law_343 rfl ?_
      refine lv_iadd hx hb dL_law_344 ?_
      refine va_sld hx hb hX hbl hbA hS (scr_in hi5 ex3 2 (by omega)) dL_law_345 ?_
      refine rcV (rest := [.int r]) X hKK hP 2 (zX5_neighbour l D cI cC qm mn md ml mk mr mt mx me mg mw (xs (x3 + iI 1).toNatClampNeg) (xs (x3 + iI 2).toNatClampNeg) r hRM) gL_law_X5_neighbour rfl rfl rfl hdX5_neighbour ⟨Nat.le_of_ble_eq_true rfl, Nat.le_of_ble_eq_true rfl⟩ [13, 14, 15, 16, 17, 18, 19] rfl 0 rfl rfl rfl hl.1 rfl (Nat.le_of_ble_eq_true rfl) dL_law_346 ⟨Nat.le_of_ble_eq_true rfl, Nat.le_of_ble_eq_true rfl⟩ ?_
      refine lv_icmp_eq (tgt := 1062) hx hb dL_law_349 (by decide) (fun _ => ?_) (fun cE => absurd rfl cE)
      refine lv_iinc (v := x3 + iI 5) (lv' := [(3, .int (x3 + iI 5)), (0, .ref b), (1, .ref (qa 0)), (2, .ref (qm 0))]) hx hb dL_law_1062 hl (k := 3) rfl rfl (by decide) rfl (fun ls hl => ?_)
      refine lv_goto (tgt := 18) hx hb dL_law_1065 (by decide) ?_
      exact ih (i + 5) (x3 + iI 5) (by omega) (by omega) (by rw [ex3]; exact nI_add i 5) n d lb xd xl wi sl kp ct gd gl ln ch mn md ml mk mr mt mx me mg mw I qa qm H locs hP hD hS ls (lv_sub hl [1, 2, 3, 0] rfl)
    by_cases k8 : sw = iI 8
    · refine lv_tableIn (tgt := 354) hx hb dL_law_32 (by rw [k8]; decide) (by rw [k8]; decide) (by rw [k8]; rfl) (by decide) ?_
      obtain ⟨r, hRA, hRM⟩ := st_ancestorAt I (xs (x3 + iI 1).toNatClampNeg) (xs (x3 + iI 2).toNatClampNeg)
      refine lv_aload_n hx hb dL_law_354 rfl (lv_at hl 1 rfl) ?_
      refine lv_aload_n hx hb dL_law_355 rfl (lv_at hl 0 rfl) ?_
      refine lv_iload_n hx hb dL_law_356 rfl (lv_at hl 3 rfl) ?_
      refine lv_iconst (v := iI 1) hx hb dL_law_357 rfl ?_
      refine lv_iadd hx hb dL_law_358 ?_
      refine va_sld hx hb hX hbl hbA hS (scr_in hi5 ex3 1 (by omega)) dL_law_359 ?_
      refine lv_aload_n hx hb dL_law_360 rfl (lv_at hl 0 rfl) ?_
      refine lv_iload_n hx hb dL_law_361 rfl (lv_at hl 3 rfl) ?_
      refine lv_iconst (v := iI 2) hx hb dL_law_362 rfl ?_
      refine lv_iadd hx hb dL_law_363 ?_
      refine va_sld hx hb hX hbl hbA hS (scr_in hi5 ex3 2 (by omega)) dL_law_364 ?_
      refine rcV (rest := []) X hKK hP 2 (zX4_ancestorAt l D cI cC qa n d lb xd xl wi sl kp ct gd gl ln ch (xs (x3 + iI 1).toNatClampNeg) (xs (x3 + iI 2).toNatClampNeg) r hRA) gL_law_X4_ancestorAt rfl rfl rfl hdX4_ancestorAt ⟨Nat.le_of_ble_eq_true rfl, Nat.le_of_ble_eq_true rfl⟩ [0, 1, 2, 3, 4, 5, 6, 7, 8, 9, 10, 11, 12] rfl 0 rfl rfl rfl hl.1 rfl (Nat.le_of_ble_eq_true rfl) dL_law_365 ⟨Nat.le_of_ble_eq_true rfl, Nat.le_of_ble_eq_true rfl⟩ ?_
      refine lv_aload_n hx hb dL_law_368 rfl (lv_at hl 2 rfl) ?_
      refine lv_aload_n hx hb dL_law_369 rfl (lv_at hl 0 rfl) ?_
      refine lv_iload_n hx hb dL_law_370 rfl (lv_at hl 3 rfl) ?_
      refine lv_iconst (v := iI 1) hx hb dL_law_371 rfl ?_
      refine lv_iadd hx hb dL_law_372 ?_
      refine va_sld hx hb hX hbl hbA hS (scr_in hi5 ex3 1 (by omega)) dL_law_373 ?_
      refine lv_aload_n hx hb dL_law_374 rfl (lv_at hl 0 rfl) ?_
      refine lv_iload_n hx hb dL_law_375 rfl (lv_at hl 3 rfl) ?_
      refine lv_iconst (v := iI 2) hx hb dL_law_376 rfl ?_
      refine lv_iadd hx hb dL_law_377 ?_
      refine va_sld hx hb hX hbl hbA hS (scr_in hi5 ex3 2 (by omega)) dL_law_378 ?_
      refine rcV (rest := [.int r]) X hKK hP 2 (zX5_ancestorAt l D cI cC qm mn md ml mk mr mt mx me mg mw (xs (x3 + iI 1).toNatClampNeg) (xs (x3 + iI 2).toNatClampNeg) r hRM) gL_law_X5_ancestorAt rfl rfl rfl hdX5_ancestorAt ⟨Nat.le_of_ble_eq_true rfl, Nat.le_of_ble_eq_true rfl⟩ [13, 14, 15, 16, 17, 18, 19] rfl 0 rfl rfl rfl hl.1 rfl (Nat.le_of_ble_eq_true rfl) dL_law_379 ⟨Nat.le_of_ble_eq_true rfl, Nat.le_of_ble_eq_true rfl⟩ ?_
      refine lv_icmp_eq (tgt := 1062) hx hb dL_law_382 (by decide) (fun _ => ?_) (fun cE => absurd rfl cE)
      refine lv_iinc (v := x3 + iI 5) (lv' := [(3, .int (x3 + iI 5)), (0, .ref b), (1, .ref (qa 0)), (2, .ref (qm 0))]) hx hb dL_law_1062 hl (k := 3) rfl rfl (by decide) rfl (fun ls hl => ?_)
      refine lv_goto (tgt := 18) hx hb dL_law_1065 (by decide) ?_
      exact ih (i + 5) (x3 + iI 5) (by omega) (by omega) (by rw [ex3]; exact nI_add i 5) n d lb xd xl wi sl kp ct gd gl ln ch mn md ml mk mr mt mx me mg mw I qa qm H locs hP hD hS ls (lv_sub hl [1, 2, 3, 0] rfl)
    by_cases k9 : sw = iI 9
    · refine lv_tableIn (tgt := 387) hx hb dL_law_32 (by rw [k9]; decide) (by rw [k9]; decide) (by rw [k9]; rfl) (by decide) ?_
      obtain ⟨r, hRA, hRM⟩ := st_common I (xs (x3 + iI 1).toNatClampNeg) (xs (x3 + iI 2).toNatClampNeg)
      refine lv_aload_n hx hb dL_law_387 rfl (lv_at hl 1 rfl) ?_
      refine lv_aload_n hx hb dL_law_388 rfl (lv_at hl 0 rfl) ?_
      refine lv_iload_n hx hb dL_law_389 rfl (lv_at hl 3 rfl) ?_
      refine lv_iconst (v := iI 1) hx hb dL_law_390 rfl ?_
      refine lv_iadd hx hb dL_law_391 ?_
      refine va_sld hx hb hX hbl hbA hS (scr_in hi5 ex3 1 (by omega)) dL_law_392 ?_
      refine lv_aload_n hx hb dL_law_393 rfl (lv_at hl 0 rfl) ?_
      refine lv_iload_n hx hb dL_law_394 rfl (lv_at hl 3 rfl) ?_
      refine lv_iconst (v := iI 2) hx hb dL_law_395 rfl ?_
      refine lv_iadd hx hb dL_law_396 ?_
      refine va_sld hx hb hX hbl hbA hS (scr_in hi5 ex3 2 (by omega)) dL_law_397 ?_
      refine rcV (rest := []) X hKK hP 2 (zX4_common l D cI cC qa n d lb xd xl wi sl kp ct gd gl ln ch (xs (x3 + iI 1).toNatClampNeg) (xs (x3 + iI 2).toNatClampNeg) r hRA) gL_law_X4_common rfl rfl rfl hdX4_common ⟨Nat.le_of_ble_eq_true rfl, Nat.le_of_ble_eq_true rfl⟩ [0, 1, 2, 3, 4, 5, 6, 7, 8, 9, 10, 11, 12] rfl 0 rfl rfl rfl hl.1 rfl (Nat.le_of_ble_eq_true rfl) dL_law_398 ⟨Nat.le_of_ble_eq_true rfl, Nat.le_of_ble_eq_true rfl⟩ ?_
      refine lv_aload_n hx hb dL_law_401 rfl (lv_at hl 2 rfl) ?_
      refine lv_aload_n hx hb dL_law_402 rfl (lv_at hl 0 rfl) ?_
      refine lv_iload_n hx hb dL_law_403 rfl (lv_at hl 3 rfl) ?_
      refine lv_iconst (v := iI 1) hx hb dL_law_404 rfl ?_
      refine lv_iadd hx hb dL_law_405 ?_
      refine va_sld hx hb hX hbl hbA hS (scr_in hi5 ex3 1 (by omega)) dL_law_406 ?_
      refine lv_aload_n hx hb dL_law_407 rfl (lv_at hl 0 rfl) ?_
      refine lv_iload_n hx hb dL_law_408 rfl (lv_at hl 3 rfl) ?_
      refine lv_iconst (v := iI 2) hx hb dL_law_409 rfl ?_
      refine lv_iadd hx hb dL_law_410 ?_
      refine va_sld hx hb hX hbl hbA hS (scr_in hi5 ex3 2 (by omega)) dL_law_411 ?_
      refine rcV (rest := [.int r]) X hKK hP 2 (zX5_common l D cI cC qm mn md ml mk mr mt mx me mg mw (xs (x3 + iI 1).toNatClampNeg) (xs (x3 + iI 2).toNatClampNeg) r hRM) gL_law_X5_common rfl rfl rfl hdX5_common ⟨Nat.le_of_ble_eq_true rfl, Nat.le_of_ble_eq_true rfl⟩ [13, 14, 15, 16, 17, 18, 19] rfl 0 rfl rfl rfl hl.1 rfl (Nat.le_of_ble_eq_true rfl) dL_law_412 ⟨Nat.le_of_ble_eq_true rfl, Nat.le_of_ble_eq_true rfl⟩ ?_
      refine lv_icmp_eq (tgt := 1062) hx hb dL_law_415 (by decide) (fun _ => ?_) (fun cE => absurd rfl cE)
      refine lv_iinc (v := x3 + iI 5) (lv' := [(3, .int (x3 + iI 5)), (0, .ref b), (1, .ref (qa 0)), (2, .ref (qm 0))]) hx hb dL_law_1062 hl (k := 3) rfl rfl (by decide) rfl (fun ls hl => ?_)
      refine lv_goto (tgt := 18) hx hb dL_law_1065 (by decide) ?_
      exact ih (i + 5) (x3 + iI 5) (by omega) (by omega) (by rw [ex3]; exact nI_add i 5) n d lb xd xl wi sl kp ct gd gl ln ch mn md ml mk mr mt mx me mg mw I qa qm H locs hP hD hS ls (lv_sub hl [1, 2, 3, 0] rfl)
    by_cases k10 : sw = iI 10
    · refine lv_tableIn (tgt := 420) hx hb dL_law_32 (by rw [k10]; decide) (by rw [k10]; decide) (by rw [k10]; rfl) (by decide) ?_
      obtain ⟨r, hRA, hRM⟩ := st_way I (xs (x3 + iI 1).toNatClampNeg) (xs (x3 + iI 2).toNatClampNeg) (xs (x3 + iI 3).toNatClampNeg)
      refine lv_aload_n hx hb dL_law_420 rfl (lv_at hl 1 rfl) ?_
      refine lv_aload_n hx hb dL_law_421 rfl (lv_at hl 0 rfl) ?_
      refine lv_iload_n hx hb dL_law_422 rfl (lv_at hl 3 rfl) ?_
      refine lv_iconst (v := iI 1) hx hb dL_law_423 rfl ?_
      refine lv_iadd hx hb dL_law_424 ?_
      refine va_sld hx hb hX hbl hbA hS (scr_in hi5 ex3 1 (by omega)) dL_law_425 ?_
      refine lv_aload_n hx hb dL_law_426 rfl (lv_at hl 0 rfl) ?_
      refine lv_iload_n hx hb dL_law_427 rfl (lv_at hl 3 rfl) ?_
      refine lv_iconst (v := iI 2) hx hb dL_law_428 rfl ?_
      refine lv_iadd hx hb dL_law_429 ?_
      refine va_sld hx hb hX hbl hbA hS (scr_in hi5 ex3 2 (by omega)) dL_law_430 ?_
      refine lv_aload_n hx hb dL_law_431 rfl (lv_at hl 0 rfl) ?_
      refine lv_iload_n hx hb dL_law_432 rfl (lv_at hl 3 rfl) ?_
      refine lv_iconst (v := iI 3) hx hb dL_law_433 rfl ?_
      refine lv_iadd hx hb dL_law_434 ?_
      refine va_sld hx hb hX hbl hbA hS (scr_in hi5 ex3 3 (by omega)) dL_law_435 ?_
      refine rcV (rest := []) X hKK hP 3 (zX4_way l D cI cC qa n d lb xd xl wi sl kp ct gd gl ln ch (xs (x3 + iI 1).toNatClampNeg) (xs (x3 + iI 2).toNatClampNeg) (xs (x3 + iI 3).toNatClampNeg) r hRA) gL_law_X4_way rfl rfl rfl hdX4_way ⟨Nat.le_of_ble_eq_true rfl, Nat.le_of_ble_eq_true rfl⟩ [0, 1, 2, 3, 4, 5, 6, 7, 8, 9, 10, 11, 12] rfl 0 rfl rfl rfl hl.1 rfl (Nat.le_of_ble_eq_true rfl) dL_law_436 ⟨Nat.le_of_ble_eq_true rfl, Nat.le_of_ble_eq_true rfl⟩ ?_
      refine lv_aload_n hx hb dL_law_439 rfl (lv_at hl 2 rfl) ?_
      refine lv_aload_n hx hb dL_law_440 rfl (lv_at hl 0 rfl) ?_
      refine lv_iload_n hx hb dL_law_441 rfl (lv_at hl 3 rfl) ?_
      refine lv_iconst (v := iI 1) hx hb dL_law_442 rfl ?_
      refine lv_iadd hx hb dL_law_443 ?_
      refine va_sld hx hb hX hbl hbA hS (scr_in hi5 ex3 1 (by omega)) dL_law_444 ?_
      refine lv_aload_n hx hb dL_law_445 rfl (lv_at hl 0 rfl) ?_
      refine lv_iload_n hx hb dL_law_446 rfl (lv_at hl 3 rfl) ?_
      refine lv_iconst (v := iI 2) hx hb dL_law_447 rfl ?_
      refine lv_iadd hx hb dL_law_448 ?_
      refine va_sld hx hb hX hbl hbA hS (scr_in hi5 ex3 2 (by omega)) dL_law_449 ?_
      refine lv_aload_n hx hb dL_law_450 rfl (lv_at hl 0 rfl) ?_
      refine lv_iload_n hx hb dL_law_451 rfl (lv_at hl 3 rfl) ?_
      refine lv_iconst (v := iI 3) hx hb dL_law_452 rfl ?_
      refine lv_iadd hx hb dL_law_453 ?_
      refine va_sld hx hb hX hbl hbA hS (scr_in hi5 ex3 3 (by omega)) dL_law_454 ?_
      refine rcV (rest := [.int r]) X hKK hP 3 (zX5_way l D cI cC qm mn md ml mk mr mt mx me mg mw (xs (x3 + iI 1).toNatClampNeg) (xs (x3 + iI 2).toNatClampNeg) (xs (x3 + iI 3).toNatClampNeg) r hRM) gL_law_X5_way rfl rfl rfl hdX5_way ⟨Nat.le_of_ble_eq_true rfl, Nat.le_of_ble_eq_true rfl⟩ [13, 14, 15, 16, 17, 18, 19] rfl 0 rfl rfl rfl hl.1 rfl (Nat.le_of_ble_eq_true rfl) dL_law_455 ⟨Nat.le_of_ble_eq_true rfl, Nat.le_of_ble_eq_true rfl⟩ ?_
      refine lv_icmp_eq (tgt := 1062) hx hb dL_law_458 (by decide) (fun _ => ?_) (fun cE => absurd rfl cE)
      refine lv_iinc (v := x3 + iI 5) (lv' := [(3, .int (x3 + iI 5)), (0, .ref b), (1, .ref (qa 0)), (2, .ref (qm 0))]) hx hb dL_law_1062 hl (k := 3) rfl rfl (by decide) rfl (fun ls hl => ?_)
      refine lv_goto (tgt := 18) hx hb dL_law_1065 (by decide) ?_
      exact ih (i + 5) (x3 + iI 5) (by omega) (by omega) (by rw [ex3]; exact nI_add i 5) n d lb xd xl wi sl kp ct gd gl ln ch mn md ml mk mr mt mx me mg mw I qa qm H locs hP hD hS ls (lv_sub hl [1, 2, 3, 0] rfl)
    by_cases k11 : sw = iI 11
    · refine lv_tableIn (tgt := 463) hx hb dL_law_32 (by rw [k11]; decide) (by rw [k11]; decide) (by rw [k11]; rfl) (by decide) ?_
      obtain ⟨r, hRA, hRM⟩ := st_level I (xs (x3 + iI 1).toNatClampNeg) (xs (x3 + iI 2).toNatClampNeg)
      refine lv_aload_n hx hb dL_law_463 rfl (lv_at hl 1 rfl) ?_
      refine lv_aload_n hx hb dL_law_464 rfl (lv_at hl 0 rfl) ?_
      refine lv_iload_n hx hb dL_law_465 rfl (lv_at hl 3 rfl) ?_
      refine lv_iconst (v := iI 1) hx hb dL_law_466 rfl ?_
      refine lv_iadd hx hb dL_law_467 ?_
      refine va_sld hx hb hX hbl hbA hS (scr_in hi5 ex3 1 (by omega)) dL_law_468 ?_
      refine lv_aload_n hx hb dL_law_469 rfl (lv_at hl 0 rfl) ?_
      refine lv_iload_n hx hb dL_law_470 rfl (lv_at hl 3 rfl) ?_
      refine lv_iconst (v := iI 2) hx hb dL_law_471 rfl ?_
      refine lv_iadd hx hb dL_law_472 ?_
      refine va_sld hx hb hX hbl hbA hS (scr_in hi5 ex3 2 (by omega)) dL_law_473 ?_
      refine rcV (rest := []) X hKK hP 2 (zX4_level l D cI cC qa n d lb xd xl wi sl kp ct gd gl ln ch (xs (x3 + iI 1).toNatClampNeg) (xs (x3 + iI 2).toNatClampNeg) r hRA) gL_law_X4_level rfl rfl rfl hdX4_level ⟨Nat.le_of_ble_eq_true rfl, Nat.le_of_ble_eq_true rfl⟩ [0, 1, 2, 3, 4, 5, 6, 7, 8, 9, 10, 11, 12] rfl 0 rfl rfl rfl hl.1 rfl (Nat.le_of_ble_eq_true rfl) dL_law_474 ⟨Nat.le_of_ble_eq_true rfl, Nat.le_of_ble_eq_true rfl⟩ ?_
      refine lv_aload_n hx hb dL_law_477 rfl (lv_at hl 2 rfl) ?_
      refine lv_aload_n hx hb dL_law_478 rfl (lv_at hl 0 rfl) ?_
      refine lv_iload_n hx hb dL_law_479 rfl (lv_at hl 3 rfl) ?_
      refine lv_iconst (v := iI 1) hx hb dL_law_480 rfl ?_
      refine lv_iadd hx hb dL_law_481 ?_
      refine va_sld hx hb hX hbl hbA hS (scr_in hi5 ex3 1 (by omega)) dL_law_482 ?_
      refine lv_aload_n hx hb dL_law_483 rfl (lv_at hl 0 rfl) ?_
      refine lv_iload_n hx hb dL_law_484 rfl (lv_at hl 3 rfl) ?_
      refine lv_iconst (v := iI 2) hx hb dL_law_485 rfl ?_
      refine lv_iadd hx hb dL_law_486 ?_
      refine va_sld hx hb hX hbl hbA hS (scr_in hi5 ex3 2 (by omega)) dL_law_487 ?_
      refine rcV (rest := [.int r]) X hKK hP 2 (zX5_level l D cI cC qm mn md ml mk mr mt mx me mg mw (xs (x3 + iI 1).toNatClampNeg) (xs (x3 + iI 2).toNatClampNeg) r hRM) gL_law_X5_level rfl rfl rfl hdX5_level ⟨Nat.le_of_ble_eq_true rfl, Nat.le_of_ble_eq_true rfl⟩ [13, 14, 15, 16, 17, 18, 19] rfl 0 rfl rfl rfl hl.1 rfl (Nat.le_of_ble_eq_true rfl) dL_law_488 ⟨Nat.le_of_ble_eq_true rfl, Nat.le_of_ble_eq_true rfl⟩ ?_
      refine lv_icmp_eq (tgt := 1062) hx hb dL_law_491 (by decide) (fun _ => ?_) (fun cE => absurd rfl cE)
      refine lv_iinc (v := x3 + iI 5) (lv' := [(3, .int (x3 + iI 5)), (0, .ref b), (1, .ref (qa 0)), (2, .ref (qm 0))]) hx hb dL_law_1062 hl (k := 3) rfl rfl (by decide) rfl (fun ls hl => ?_)
      refine lv_goto (tgt := 18) hx hb dL_law_1065 (by decide) ?_
      exact ih (i + 5) (x3 + iI 5) (by omega) (by omega) (by rw [ex3]; exact nI_add i 5) n d lb xd xl wi sl kp ct gd gl ln ch mn md ml mk mr mt mx me mg mw I qa qm H locs hP hD hS ls (lv_sub hl [1, 2, 3, 0] rfl)
    by_cases k12 : sw = iI 12
    · refine lv_tableIn (tgt := 496) hx hb dL_law_32 (by rw [k12]; decide) (by rw [k12]; decide) (by rw [k12]; rfl) (by decide) ?_
      obtain ⟨r, hRA, hRM⟩ := st_byPostorder I (xs (x3 + iI 1).toNatClampNeg)
      refine lv_aload_n hx hb dL_law_496 rfl (lv_at hl 1 rfl) ?_
      refine lv_aload_n hx hb dL_law_497 rfl (lv_at hl 0 rfl) ?_
      refine lv_iload_n hx hb dL_law_498 rfl (lv_at hl 3 rfl) ?_
      refine lv_iconst (v := iI 1) hx hb dL_law_499 rfl ?_
      refine lv_iadd hx hb dL_law_500 ?_
      refine va_sld hx hb hX hbl hbA hS (scr_in hi5 ex3 1 (by omega)) dL_law_501 ?_
      refine rcV (rest := []) X hKK hP 1 (zX4_byPostorder l D cI cC qa n d lb xd xl wi sl kp ct gd gl ln ch (xs (x3 + iI 1).toNatClampNeg) r hRA) gL_law_X4_byPostorder rfl rfl rfl hdX4_byPostorder ⟨Nat.le_of_ble_eq_true rfl, Nat.le_of_ble_eq_true rfl⟩ [0, 1, 2, 3, 4, 5, 6, 7, 8, 9, 10, 11, 12] rfl 0 rfl rfl rfl hl.1 rfl (Nat.le_of_ble_eq_true rfl) dL_law_502 ⟨Nat.le_of_ble_eq_true rfl, Nat.le_of_ble_eq_true rfl⟩ ?_
      refine lv_aload_n hx hb dL_law_505 rfl (lv_at hl 2 rfl) ?_
      refine lv_aload_n hx hb dL_law_506 rfl (lv_at hl 0 rfl) ?_
      refine lv_iload_n hx hb dL_law_507 rfl (lv_at hl 3 rfl) ?_
      refine lv_iconst (v := iI 1) hx hb dL_law_508 rfl ?_
      refine lv_iadd hx hb dL_law_509 ?_
      refine va_sld hx hb hX hbl hbA hS (scr_in hi5 ex3 1 (by omega)) dL_law_510 ?_
      refine rcV (rest := [.int r]) X hKK hP 1 (zX5_byPostorder l D cI cC qm mn md ml mk mr mt mx me mg mw (xs (x3 + iI 1).toNatClampNeg) r hRM) gL_law_X5_byPostorder rfl rfl rfl hdX5_byPostorder ⟨Nat.le_of_ble_eq_true rfl, Nat.le_of_ble_eq_true rfl⟩ [13, 14, 15, 16, 17, 18, 19] rfl 0 rfl rfl rfl hl.1 rfl (Nat.le_of_ble_eq_true rfl) dL_law_511 ⟨Nat.le_of_ble_eq_true rfl, Nat.le_of_ble_eq_true rfl⟩ ?_
      refine lv_icmp_eq (tgt := 1062) hx hb dL_law_514 (by decide) (fun _ => ?_) (fun cE => absurd rfl cE)
      refine lv_iinc (v := x3 + iI 5) (lv' := [(3, .int (x3 + iI 5)), (0, .ref b), (1, .ref (qa 0)), (2, .ref (qm 0))]) hx hb dL_law_1062 hl (k := 3) rfl rfl (by decide) rfl (fun ls hl => ?_)
      refine lv_goto (tgt := 18) hx hb dL_law_1065 (by decide) ?_
      exact ih (i + 5) (x3 + iI 5) (by omega) (by omega) (by rw [ex3]; exact nI_add i 5) n d lb xd xl wi sl kp ct gd gl ln ch mn md ml mk mr mt mx me mg mw I qa qm H locs hP hD hS ls (lv_sub hl [1, 2, 3, 0] rfl)
    by_cases k13 : sw = iI 13
    · refine lv_tableIn (tgt := 519) hx hb dL_law_32 (by rw [k13]; decide) (by rw [k13]; decide) (by rw [k13]; rfl) (by decide) ?_
      obtain ⟨r, hRA, hRM⟩ := st_deepest I (xs (x3 + iI 1).toNatClampNeg)
      refine lv_aload_n hx hb dL_law_519 rfl (lv_at hl 1 rfl) ?_
      refine lv_aload_n hx hb dL_law_520 rfl (lv_at hl 0 rfl) ?_
      refine lv_iload_n hx hb dL_law_521 rfl (lv_at hl 3 rfl) ?_
      refine lv_iconst (v := iI 1) hx hb dL_law_522 rfl ?_
      refine lv_iadd hx hb dL_law_523 ?_
      refine va_sld hx hb hX hbl hbA hS (scr_in hi5 ex3 1 (by omega)) dL_law_524 ?_
      refine rcV (rest := []) X hKK hP 1 (zX4_deepest l D cI cC qa n d lb xd xl wi sl kp ct gd gl ln ch (xs (x3 + iI 1).toNatClampNeg) r hRA) gL_law_X4_deepest rfl rfl rfl hdX4_deepest ⟨Nat.le_of_ble_eq_true rfl, Nat.le_of_ble_eq_true rfl⟩ [0, 1, 2, 3, 4, 5, 6, 7, 8, 9, 10, 11, 12] rfl 0 rfl rfl rfl hl.1 rfl (Nat.le_of_ble_eq_true rfl) dL_law_525 ⟨Nat.le_of_ble_eq_true rfl, Nat.le_of_ble_eq_true rfl⟩ ?_
      refine lv_aload_n hx hb dL_law_528 rfl (lv_at hl 2 rfl) ?_
      refine lv_aload_n hx hb dL_law_529 rfl (lv_at hl 0 rfl) ?_
      refine lv_iload_n hx hb dL_law_530 rfl (lv_at hl 3 rfl) ?_
      refine lv_iconst (v := iI 1) hx hb dL_law_531 rfl ?_
      refine lv_iadd hx hb dL_law_532 ?_
      refine va_sld hx hb hX hbl hbA hS (scr_in hi5 ex3 1 (by omega)) dL_law_533 ?_
      refine rcV (rest := [.int r]) X hKK hP 1 (zX5_deepest l D cI cC qm mn md ml mk mr mt mx me mg mw (xs (x3 + iI 1).toNatClampNeg) r hRM) gL_law_X5_deepest rfl rfl rfl hdX5_deepest ⟨Nat.le_of_ble_eq_true rfl, Nat.le_of_ble_eq_true rfl⟩ [13, 14, 15, 16, 17, 18, 19] rfl 0 rfl rfl rfl hl.1 rfl (Nat.le_of_ble_eq_true rfl) dL_law_534 ⟨Nat.le_of_ble_eq_true rfl, Nat.le_of_ble_eq_true rfl⟩ ?_
      refine lv_icmp_eq (tgt := 1062) hx hb dL_law_537 (by decide) (fun _ => ?_) (fun cE => absurd rfl cE)
      refine lv_iinc (v := x3 + iI 5) (lv' := [(3, .int (x3 + iI 5)), (0, .ref b), (1, .ref (qa 0)), (2, .ref (qm 0))]) hx hb dL_law_1062 hl (k := 3) rfl rfl (by decide) rfl (fun ls hl => ?_)
      refine lv_goto (tgt := 18) hx hb dL_law_1065 (by decide) ?_
      exact ih (i + 5) (x3 + iI 5) (by omega) (by omega) (by rw [ex3]; exact nI_add i 5) n d lb xd xl wi sl kp ct gd gl ln ch mn md ml mk mr mt mx me mg mw I qa qm H locs hP hD hS ls (lv_sub hl [1, 2, 3, 0] rfl)
    by_cases k14 : sw = iI 14
    · refine lv_tableIn (tgt := 542) hx hb dL_law_32 (by rw [k14]; decide) (by rw [k14]; decide) (by rw [k14]; rfl) (by decide) ?_
      obtain ⟨r, hRA, hRM⟩ := st_bracket I (xs (x3 + iI 1).toNatClampNeg) (xs (x3 + iI 2).toNatClampNeg)
      refine lv_aload_n hx hb dL_law_542 rfl (lv_at hl 1 rfl) ?_
      refine lv_aload_n hx hb dL_law_543 rfl (lv_at hl 0 rfl) ?_
      refine lv_iload_n hx hb dL_law_544 rfl (lv_at hl 3 rfl) ?_
      refine lv_iconst (v := iI 1) hx hb dL_law_545 rfl ?_
      refine lv_iadd hx hb dL_law_546 ?_
      refine va_sld hx hb hX hbl hbA hS (scr_in hi5 ex3 1 (by omega)) dL_law_547 ?_
      refine lv_aload_n hx hb dL_law_548 rfl (lv_at hl 0 rfl) ?_
      refine lv_iload_n hx hb dL_law_549 rfl (lv_at hl 3 rfl) ?_
      refine lv_iconst (v := iI 2) hx hb dL_law_550 rfl ?_
      refine lv_iadd hx hb dL_law_551 ?_
      refine va_sld hx hb hX hbl hbA hS (scr_in hi5 ex3 2 (by omega)) dL_law_552 ?_
      refine rcV (rest := []) X hKK hP 2 (zX4_bracket l D cI cC qa n d lb xd xl wi sl kp ct gd gl ln ch (xs (x3 + iI 1).toNatClampNeg) (xs (x3 + iI 2).toNatClampNeg) r hRA) gL_law_X4_bracket rfl rfl rfl hdX4_bracket ⟨Nat.le_of_ble_eq_true rfl, Nat.le_of_ble_eq_true rfl⟩ [0, 1, 2, 3, 4, 5, 6, 7, 8, 9, 10, 11, 12] rfl 0 rfl rfl rfl hl.1 rfl (Nat.le_of_ble_eq_true rfl) dL_law_553 ⟨Nat.le_of_ble_eq_true rfl, Nat.le_of_ble_eq_true rfl⟩ ?_
      refine lv_aload_n hx hb dL_law_556 rfl (lv_at hl 2 rfl) ?_
      refine lv_aload_n hx hb dL_law_557 rfl (lv_at hl 0 rfl) ?_
      refine lv_iload_n hx hb dL_law_558 rfl (lv_at hl 3 rfl) ?_
      refine lv_iconst (v := iI 1) hx hb dL_law_559 rfl ?_
      refine lv_iadd hx hb dL_law_560 ?_
      refine va_sld hx hb hX hbl hbA hS (scr_in hi5 ex3 1 (by omega)) dL_law_561 ?_
      refine lv_aload_n hx hb dL_law_562 rfl (lv_at hl 0 rfl) ?_
      refine lv_iload_n hx hb dL_law_563 rfl (lv_at hl 3 rfl) ?_
      refine lv_iconst (v := iI 2) hx hb dL_law_564 rfl ?_
      refine lv_iadd hx hb dL_law_565 ?_
      refine va_sld hx hb hX hbl hbA hS (scr_in hi5 ex3 2 (by omega)) dL_law_566 ?_
      refine rcV (rest := [.int r]) X hKK hP 2 (zX5_bracket l D cI cC qm mn md ml mk mr mt mx me mg mw (xs (x3 + iI 1).toNatClampNeg) (xs (x3 + iI 2).toNatClampNeg) r hRM) gL_law_X5_bracket rfl rfl rfl hdX5_bracket ⟨Nat.le_of_ble_eq_true rfl, Nat.le_of_ble_eq_true rfl⟩ [13, 14, 15, 16, 17, 18, 19] rfl 0 rfl rfl rfl hl.1 rfl (Nat.le_of_ble_eq_true rfl) dL_law_567 ⟨Nat.le_of_ble_eq_true rfl, Nat.le_of_ble_eq_true rfl⟩ ?_
      refine lv_icmp_eq (tgt := 1062) hx hb dL_law_570 (by decide) (fun _ => ?_) (fun cE => absurd rfl cE)
      refine lv_iinc (v := x3 + iI 5) (lv' := [(3, .int (x3 + iI 5)), (0, .ref b), (1, .ref (qa 0)), (2, .ref (qm 0))]) hx hb dL_law_1062 hl (k := 3) rfl rfl (by decide) rfl (fun ls hl => ?_)
      refine lv_goto (tgt := 18) hx hb dL_law_1065 (by decide) ?_
      exact ih (i + 5) (x3 + iI 5) (by omega) (by omega) (by rw [ex3]; exact nI_add i 5) n d lb xd xl wi sl kp ct gd gl ln ch mn md ml mk mr mt mx me mg mw I qa qm H locs hP hD hS ls (lv_sub hl [1, 2, 3, 0] rfl)
    by_cases k15 : sw = iI 15
    · refine lv_tableIn (tgt := 575) hx hb dL_law_32 (by rw [k15]; decide) (by rw [k15]; decide) (by rw [k15]; rfl) (by decide) ?_
      obtain ⟨RA, RM, hRA, hRM, hE, hI⟩ := st_setWidth I (xs (x3 + iI 1).toNatClampNeg)
      refine lv_aload_n hx hb dL_law_575 rfl (lv_at hl 1 rfl) ?_
      refine lv_aload_n hx hb dL_law_576 rfl (lv_at hl 0 rfl) ?_
      refine lv_iload_n hx hb dL_law_577 rfl (lv_at hl 3 rfl) ?_
      refine lv_iconst (v := iI 1) hx hb dL_law_578 rfl ?_
      refine lv_iadd hx hb dL_law_579 ?_
      refine va_sld hx hb hX hbl hbA hS (scr_in hi5 ex3 1 (by omega)) dL_law_580 ?_
      refine mcV (rest := []) (wld2 := (wA cI qa n d lb xd xl RA.2 sl kp ct gd gl ln ch ++ wM cI cC qm mn md ml mk mr mt mx me mg mw)) (wr := pickAt [13, 14, 15, 16, 17, 18, 19] (wA cI qa n d lb xd xl wi sl kp ct gd gl ln ch ++ wM cI cC qm mn md ml mk mr mt mx me mg mw)) X hKK hP hD hS hA 1 (zX4_setWidth l D cI cC qa _ n d lb xd xl wi sl kp ct gd gl ln ch (xs (x3 + iI 1).toNatClampNeg) RA hRA) gL_law_X4_setWidth rfl rfl rfl hdX4_setWidth ⟨Nat.le_of_ble_eq_true rfl, Nat.le_of_ble_eq_true rfl⟩ [0, 1, 2, 3, 4, 5, 6, 7, 8, 9, 10, 11, 12] [13, 14, 15, 16, 17, 18, 19] rfl rfl rfl rfl rfl (by decide) rfl [7, 8, 9, 10, 11, 12, 13, 14, 15, 16, 17, 18, 19, 0, 1, 2, 3, 4, 5, 6] rfl rfl rfl 0 rfl rfl rfl hl.1 rfl (Nat.le_of_ble_eq_true rfl) dL_law_581 ⟨Nat.le_of_ble_eq_true rfl, Nat.le_of_ble_eq_true rfl⟩ (fun H locs hP hD hS => ?_)
      refine lv_aload_n hx hb dL_law_584 rfl (lv_at hl 2 rfl) ?_
      refine lv_aload_n hx hb dL_law_585 rfl (lv_at hl 0 rfl) ?_
      refine lv_iload_n hx hb dL_law_586 rfl (lv_at hl 3 rfl) ?_
      refine lv_iconst (v := iI 1) hx hb dL_law_587 rfl ?_
      refine lv_iadd hx hb dL_law_588 ?_
      refine va_sld hx hb hX hbl hbA hS (scr_in hi5 ex3 1 (by omega)) dL_law_589 ?_
      refine mcV (rest := [.int RA.1]) (wld2 := (wA cI qa n d lb xd xl RA.2 sl kp ct gd gl ln ch ++ wM cI cC qm mn md ml mk mr mt mx me mg RM.2)) (wr := pickAt [0, 1, 2, 3, 4, 5, 6, 7, 8, 9, 10, 11, 12] (wA cI qa n d lb xd xl RA.2 sl kp ct gd gl ln ch ++ wM cI cC qm mn md ml mk mr mt mx me mg mw)) X hKK hP hD hS hA 1 (zX5_setWidth l D cI cC qm _ mn md ml mk mr mt mx me mg mw (xs (x3 + iI 1).toNatClampNeg) RM hRM) gL_law_X5_setWidth rfl rfl rfl hdX5_setWidth ⟨Nat.le_of_ble_eq_true rfl, Nat.le_of_ble_eq_true rfl⟩ [13, 14, 15, 16, 17, 18, 19] [0, 1, 2, 3, 4, 5, 6, 7, 8, 9, 10, 11, 12] rfl rfl rfl rfl rfl (by decide) rfl [0, 1, 2, 3, 4, 5, 6, 7, 8, 9, 10, 11, 12, 13, 14, 15, 16, 17, 18, 19] rfl rfl rfl 0 rfl rfl rfl hl.1 rfl (Nat.le_of_ble_eq_true rfl) dL_law_590 ⟨Nat.le_of_ble_eq_true rfl, Nat.le_of_ble_eq_true rfl⟩ (fun H locs hP hD hS => ?_)
      refine lv_icmp_eq (tgt := 1062) hx hb dL_law_593 (by decide) (fun _ => ?_) (fun cE => absurd hE cE)
      refine lv_iinc (v := x3 + iI 5) (lv' := [(3, .int (x3 + iI 5)), (0, .ref b), (1, .ref (qa 0)), (2, .ref (qm 0))]) hx hb dL_law_1062 hl (k := 3) rfl rfl (by decide) rfl (fun ls hl => ?_)
      refine lv_goto (tgt := 18) hx hb dL_law_1065 (by decide) ?_
      exact ih (i + 5) (x3 + iI 5) (by omega) (by omega) (by rw [ex3]; exact nI_add i 5) n d lb xd xl RA.2 sl kp ct gd gl ln ch mn md ml mk mr mt mx me mg RM.2 hI qa qm H locs hP hD hS ls (lv_sub hl [1, 2, 3, 0] rfl)
    by_cases k16 : sw = iI 16
    · refine lv_tableIn (tgt := 598) hx hb dL_law_32 (by rw [k16]; decide) (by rw [k16]; decide) (by rw [k16]; rfl) (by decide) ?_
      obtain ⟨r, hRA, hRM⟩ := st_block I (xs (x3 + iI 1).toNatClampNeg) (xs (x3 + iI 2).toNatClampNeg)
      refine lv_aload_n hx hb dL_law_598 rfl (lv_at hl 1 rfl) ?_
      refine lv_aload_n hx hb dL_law_599 rfl (lv_at hl 0 rfl) ?_
      refine lv_iload_n hx hb dL_law_600 rfl (lv_at hl 3 rfl) ?_
      refine lv_iconst (v := iI 1) hx hb dL_law_601 rfl ?_
      refine lv_iadd hx hb dL_law_602 ?_
      refine va_sld hx hb hX hbl hbA hS (scr_in hi5 ex3 1 (by omega)) dL_law_603 ?_
      refine lv_aload_n hx hb dL_law_604 rfl (lv_at hl 0 rfl) ?_
      refine lv_iload_n hx hb dL_law_605 rfl (lv_at hl 3 rfl) ?_
      refine lv_iconst (v := iI 2) hx hb dL_law_606 rfl ?_
      refine lv_iadd hx hb dL_law_607 ?_
      refine va_sld hx hb hX hbl hbA hS (scr_in hi5 ex3 2 (by omega)) dL_law_608 ?_
      refine rcV (rest := []) X hKK hP 2 (zX4_block l D cI cC qa n d lb xd xl wi sl kp ct gd gl ln ch (xs (x3 + iI 1).toNatClampNeg) (xs (x3 + iI 2).toNatClampNeg) r hRA) gL_law_X4_block rfl rfl rfl hdX4_block ⟨Nat.le_of_ble_eq_true rfl, Nat.le_of_ble_eq_true rfl⟩ [0, 1, 2, 3, 4, 5, 6, 7, 8, 9, 10, 11, 12] rfl 0 rfl rfl rfl hl.1 rfl (Nat.le_of_ble_eq_true rfl) dL_law_609 ⟨Nat.le_of_ble_eq_true rfl, Nat.le_of_ble_eq_true rfl⟩ ?_
      refine lv_aload_n hx hb dL_law_612 rfl (lv_at hl 2 rfl) ?_
      refine lv_aload_n hx hb dL_law_613 rfl (lv_at hl 0 rfl) ?_
      refine lv_iload_n hx hb dL_law_614 rfl (lv_at hl 3 rfl) ?_
      refine lv_iconst (v := iI 1) hx hb dL_law_615 rfl ?_
      refine lv_iadd hx hb dL_law_616 ?_
      refine va_sld hx hb hX hbl hbA hS (scr_in hi5 ex3 1 (by omega)) dL_law_617 ?_
      refine lv_aload_n hx hb dL_law_618 rfl (lv_at hl 0 rfl) ?_
      refine lv_iload_n hx hb dL_law_619 rfl (lv_at hl 3 rfl) ?_
      refine lv_iconst (v := iI 2) hx hb dL_law_620 rfl ?_
      refine lv_iadd hx hb dL_law_621 ?_
      refine va_sld hx hb hX hbl hbA hS (scr_in hi5 ex3 2 (by omega)) dL_law_622 ?_
      refine rcV (rest := [.int r]) X hKK hP 2 (zX5_block l D cI cC qm mn md ml mk mr mt mx me mg mw (xs (x3 + iI 1).toNatClampNeg) (xs (x3 + iI 2).toNatClampNeg) r hRM) gL_law_X5_block rfl rfl rfl hdX5_block ⟨Nat.le_of_ble_eq_true rfl, Nat.le_of_ble_eq_true rfl⟩ [13, 14, 15, 16, 17, 18, 19] rfl 0 rfl rfl rfl hl.1 rfl (Nat.le_of_ble_eq_true rfl) dL_law_623 ⟨Nat.le_of_ble_eq_true rfl, Nat.le_of_ble_eq_true rfl⟩ ?_
      refine lv_icmp_eq (tgt := 1062) hx hb dL_law_626 (by decide) (fun _ => ?_) (fun cE => absurd rfl cE)
      refine lv_iinc (v := x3 + iI 5) (lv' := [(3, .int (x3 + iI 5)), (0, .ref b), (1, .ref (qa 0)), (2, .ref (qm 0))]) hx hb dL_law_1062 hl (k := 3) rfl rfl (by decide) rfl (fun ls hl => ?_)
      refine lv_goto (tgt := 18) hx hb dL_law_1065 (by decide) ?_
      exact ih (i + 5) (x3 + iI 5) (by omega) (by omega) (by rw [ex3]; exact nI_add i 5) n d lb xd xl wi sl kp ct gd gl ln ch mn md ml mk mr mt mx me mg mw I qa qm H locs hP hD hS ls (lv_sub hl [1, 2, 3, 0] rfl)
    by_cases k17 : sw = iI 17
    · refine lv_tableIn (tgt := 631) hx hb dL_law_32 (by rw [k17]; decide) (by rw [k17]; decide) (by rw [k17]; rfl) (by decide) ?_
      obtain ⟨r, hRA, hRM⟩ := st_space I (xs (x3 + iI 1).toNatClampNeg)
      refine lv_aload_n hx hb dL_law_631 rfl (lv_at hl 1 rfl) ?_
      refine lv_aload_n hx hb dL_law_632 rfl (lv_at hl 0 rfl) ?_
      refine lv_iload_n hx hb dL_law_633 rfl (lv_at hl 3 rfl) ?_
      refine lv_iconst (v := iI 1) hx hb dL_law_634 rfl ?_
      refine lv_iadd hx hb dL_law_635 ?_
      refine va_sld hx hb hX hbl hbA hS (scr_in hi5 ex3 1 (by omega)) dL_law_636 ?_
      refine rcV (rest := []) X hKK hP 1 (zX4_space l D cI cC qa n d lb xd xl wi sl kp ct gd gl ln ch (xs (x3 + iI 1).toNatClampNeg) r hRA) gL_law_X4_space rfl rfl rfl hdX4_space ⟨Nat.le_of_ble_eq_true rfl, Nat.le_of_ble_eq_true rfl⟩ [0, 1, 2, 3, 4, 5, 6, 7, 8, 9, 10, 11, 12] rfl 0 rfl rfl rfl hl.1 rfl (Nat.le_of_ble_eq_true rfl) dL_law_637 ⟨Nat.le_of_ble_eq_true rfl, Nat.le_of_ble_eq_true rfl⟩ ?_
      refine lv_aload_n hx hb dL_law_640 rfl (lv_at hl 2 rfl) ?_
      refine lv_aload_n hx hb dL_law_641 rfl (lv_at hl 0 rfl) ?_
      refine lv_iload_n hx hb dL_law_642 rfl (lv_at hl 3 rfl) ?_
      refine lv_iconst (v := iI 1) hx hb dL_law_643 rfl ?_
      refine lv_iadd hx hb dL_law_644 ?_
      refine va_sld hx hb hX hbl hbA hS (scr_in hi5 ex3 1 (by omega)) dL_law_645 ?_
      refine rcV (rest := [.int r]) X hKK hP 1 (zX5_space l D cI cC qm mn md ml mk mr mt mx me mg mw (xs (x3 + iI 1).toNatClampNeg) r hRM) gL_law_X5_space rfl rfl rfl hdX5_space ⟨Nat.le_of_ble_eq_true rfl, Nat.le_of_ble_eq_true rfl⟩ [13, 14, 15, 16, 17, 18, 19] rfl 0 rfl rfl rfl hl.1 rfl (Nat.le_of_ble_eq_true rfl) dL_law_646 ⟨Nat.le_of_ble_eq_true rfl, Nat.le_of_ble_eq_true rfl⟩ ?_
      refine lv_icmp_eq (tgt := 1062) hx hb dL_law_649 (by decide) (fun _ => ?_) (fun cE => absurd rfl cE)
      refine lv_iinc (v := x3 + iI 5) (lv' := [(3, .int (x3 + iI 5)), (0, .ref b), (1, .ref (qa 0)), (2, .ref (qm 0))]) hx hb dL_law_1062 hl (k := 3) rfl rfl (by decide) rfl (fun ls hl => ?_)
      refine lv_goto (tgt := 18) hx hb dL_law_1065 (by decide) ?_
      exact ih (i + 5) (x3 + iI 5) (by omega) (by omega) (by rw [ex3]; exact nI_add i 5) n d lb xd xl wi sl kp ct gd gl ln ch mn md ml mk mr mt mx me mg mw I qa qm H locs hP hD hS ls (lv_sub hl [1, 2, 3, 0] rfl)
    by_cases k18 : sw = iI 18
    · refine lv_tableIn (tgt := 654) hx hb dL_law_32 (by rw [k18]; decide) (by rw [k18]; decide) (by rw [k18]; rfl) (by decide) ?_
      obtain ⟨RA, RM, hRA, hRM, hE, hI⟩ := st_setLabel I (xs (x3 + iI 1).toNatClampNeg) (xs (x3 + iI 2).toNatClampNeg)
      refine lv_aload_n hx hb dL_law_654 rfl (lv_at hl 1 rfl) ?_
      refine lv_aload_n hx hb dL_law_655 rfl (lv_at hl 0 rfl) ?_
      refine lv_iload_n hx hb dL_law_656 rfl (lv_at hl 3 rfl) ?_
      refine lv_iconst (v := iI 1) hx hb dL_law_657 rfl ?_
      refine lv_iadd hx hb dL_law_658 ?_
      refine va_sld hx hb hX hbl hbA hS (scr_in hi5 ex3 1 (by omega)) dL_law_659 ?_
      refine lv_aload_n hx hb dL_law_660 rfl (lv_at hl 0 rfl) ?_
      refine lv_iload_n hx hb dL_law_661 rfl (lv_at hl 3 rfl) ?_
      refine lv_iconst (v := iI 2) hx hb dL_law_662 rfl ?_
      refine lv_iadd hx hb dL_law_663 ?_
      refine va_sld hx hb hX hbl hbA hS (scr_in hi5 ex3 2 (by omega)) dL_law_664 ?_
      refine lv_i2c (v := c16 (xs (x3 + iI 2).toNatClampNeg)) hx hb dL_law_665 rfl ?_
      refine mcV (rest := []) (wld2 := (wA cI qa n RA.2.1 RA.2.2.1 xd xl wi RA.2.2.2.1 RA.2.2.2.2.1 RA.2.2.2.2.2.1 RA.2.2.2.2.2.2.1 RA.2.2.2.2.2.2.2 ln ch ++ wM cI cC qm mn md ml mk mr mt mx me mg mw)) (wr := pickAt [13, 14, 15, 16, 17, 18, 19] (wA cI qa n d lb xd xl wi sl kp ct gd gl ln ch ++ wM cI cC qm mn md ml mk mr mt mx me mg mw)) X hKK hP hD hS hA 2 (zX4_setLabel l D cI cC qa _ n d lb xd xl wi sl kp ct gd gl ln ch (xs (x3 + iI 1).toNatClampNeg) (c16 (xs (x3 + iI 2).toNatClampNeg)) RA hRA) gL_law_X4_setLabel rfl rfl rfl hdX4_setLabel ⟨Nat.le_of_ble_eq_true rfl, Nat.le_of_ble_eq_true rfl⟩ [0, 1, 2, 3, 4, 5, 6, 7, 8, 9, 10, 11, 12] [13, 14, 15, 16, 17, 18, 19] rfl rfl rfl rfl rfl (by decide) rfl [7, 8, 9, 10, 11, 12, 13, 14, 15, 16, 17, 18, 19, 0, 1, 2, 3, 4, 5, 6] rfl rfl rfl 0 rfl rfl rfl hl.1 rfl (Nat.le_of_ble_eq_true rfl) dL_law_666 ⟨Nat.le_of_ble_eq_true rfl, Nat.le_of_ble_eq_true rfl⟩ (fun H locs hP hD hS => ?_)
      refine lv_aload_n hx hb dL_law_669 rfl (lv_at hl 2 rfl) ?_
      refine lv_aload_n hx hb dL_law_670 rfl (lv_at hl 0 rfl) ?_
      refine lv_iload_n hx hb dL_law_671 rfl (lv_at hl 3 rfl) ?_
      refine lv_iconst (v := iI 1) hx hb dL_law_672 rfl ?_
      refine lv_iadd hx hb dL_law_673 ?_
      refine va_sld hx hb hX hbl hbA hS (scr_in hi5 ex3 1 (by omega)) dL_law_674 ?_
      refine lv_aload_n hx hb dL_law_675 rfl (lv_at hl 0 rfl) ?_
      refine lv_iload_n hx hb dL_law_676 rfl (lv_at hl 3 rfl) ?_
      refine lv_iconst (v := iI 2) hx hb dL_law_677 rfl ?_
      refine lv_iadd hx hb dL_law_678 ?_
      refine va_sld hx hb hX hbl hbA hS (scr_in hi5 ex3 2 (by omega)) dL_law_679 ?_
      refine lv_i2c (v := c16 (xs (x3 + iI 2).toNatClampNeg)) hx hb dL_law_680 rfl ?_
      refine mcV (rest := [.int RA.1]) (wld2 := (wA cI qa n RA.2.1 RA.2.2.1 xd xl wi RA.2.2.2.1 RA.2.2.2.2.1 RA.2.2.2.2.2.1 RA.2.2.2.2.2.2.1 RA.2.2.2.2.2.2.2 ln ch ++ wM cI cC qm mn md RM.2.1 RM.2.2.1 RM.2.2.2 mt mx me mg mw)) (wr := pickAt [0, 1, 2, 3, 4, 5, 6, 7, 8, 9, 10, 11, 12] (wA cI qa n RA.2.1 RA.2.2.1 xd xl wi RA.2.2.2.1 RA.2.2.2.2.1 RA.2.2.2.2.2.1 RA.2.2.2.2.2.2.1 RA.2.2.2.2.2.2.2 ln ch ++ wM cI cC qm mn md ml mk mr mt mx me mg mw)) X hKK hP hD hS hA 2 (zX5_setLabel l D cI cC qm _ mn md ml mk mr mt mx me mg mw (xs (x3 + iI 1).toNatClampNeg) (c16 (xs (x3 + iI 2).toNatClampNeg)) RM hRM) gL_law_X5_setLabel rfl rfl rfl hdX5_setLabel ⟨Nat.le_of_ble_eq_true rfl, Nat.le_of_ble_eq_true rfl⟩ [13, 14, 15, 16, 17, 18, 19] [0, 1, 2, 3, 4, 5, 6, 7, 8, 9, 10, 11, 12] rfl rfl rfl rfl rfl (by decide) rfl [0, 1, 2, 3, 4, 5, 6, 7, 8, 9, 10, 11, 12, 13, 14, 15, 16, 17, 18, 19] rfl rfl rfl 0 rfl rfl rfl hl.1 rfl (Nat.le_of_ble_eq_true rfl) dL_law_681 ⟨Nat.le_of_ble_eq_true rfl, Nat.le_of_ble_eq_true rfl⟩ (fun H locs hP hD hS => ?_)
      refine lv_icmp_eq (tgt := 1062) hx hb dL_law_684 (by decide) (fun _ => ?_) (fun cE => absurd hE cE)
      refine lv_iinc (v := x3 + iI 5) (lv' := [(3, .int (x3 + iI 5)), (0, .ref b), (1, .ref (qa 0)), (2, .ref (qm 0))]) hx hb dL_law_1062 hl (k := 3) rfl rfl (by decide) rfl (fun ls hl => ?_)
      refine lv_goto (tgt := 18) hx hb dL_law_1065 (by decide) ?_
      exact ih (i + 5) (x3 + iI 5) (by omega) (by omega) (by rw [ex3]; exact nI_add i 5) n RA.2.1 RA.2.2.1 xd xl wi RA.2.2.2.1 RA.2.2.2.2.1 RA.2.2.2.2.2.1 RA.2.2.2.2.2.2.1 RA.2.2.2.2.2.2.2 ln ch mn md RM.2.1 RM.2.2.1 RM.2.2.2 mt mx me mg mw hI qa qm H locs hP hD hS ls (lv_sub hl [1, 2, 3, 0] rfl)
    by_cases k19 : sw = iI 19
    · refine lv_tableIn (tgt := 689) hx hb dL_law_32 (by rw [k19]; decide) (by rw [k19]; decide) (by rw [k19]; rfl) (by decide) ?_
      obtain ⟨r, hRA, hRM⟩ := st_labelled I (xs (x3 + iI 1).toNatClampNeg) (xs (x3 + iI 2).toNatClampNeg)
      refine lv_aload_n hx hb dL_law_689 rfl (lv_at hl 1 rfl) ?_
      refine lv_aload_n hx hb dL_law_690 rfl (lv_at hl 0 rfl) ?_
      refine lv_iload_n hx hb dL_law_691 rfl (lv_at hl 3 rfl) ?_
      refine lv_iconst (v := iI 1) hx hb dL_law_692 rfl ?_
      refine lv_iadd hx hb dL_law_693 ?_
      refine va_sld hx hb hX hbl hbA hS (scr_in hi5 ex3 1 (by omega)) dL_law_694 ?_
      refine lv_aload_n hx hb dL_law_695 rfl (lv_at hl 0 rfl) ?_
      refine lv_iload_n hx hb dL_law_696 rfl (lv_at hl 3 rfl) ?_
      refine lv_iconst (v := iI 2) hx hb dL_law_697 rfl ?_
      refine lv_iadd hx hb dL_law_698 ?_
      refine va_sld hx hb hX hbl hbA hS (scr_in hi5 ex3 2 (by omega)) dL_law_699 ?_
      refine lv_i2c (v := c16 (xs (x3 + iI 2).toNatClampNeg)) hx hb dL_law_700 rfl ?_
      refine rcV (rest := []) X hKK hP 2 (zX4_labelled l D cI cC qa n d lb xd xl wi sl kp ct gd gl ln ch (xs (x3 + iI 1).toNatClampNeg) (c16 (xs (x3 + iI 2).toNatClampNeg)) r hRA) gL_law_X4_labelled rfl rfl rfl hdX4_labelled ⟨Nat.le_of_ble_eq_true rfl, Nat.le_of_ble_eq_true rfl⟩ [0, 1, 2, 3, 4, 5, 6, 7, 8, 9, 10, 11, 12] rfl 0 rfl rfl rfl hl.1 rfl (Nat.le_of_ble_eq_true rfl) dL_law_701 ⟨Nat.le_of_ble_eq_true rfl, Nat.le_of_ble_eq_true rfl⟩ ?_
      refine lv_aload_n hx hb dL_law_704 rfl (lv_at hl 2 rfl) ?_
      refine lv_aload_n hx hb dL_law_705 rfl (lv_at hl 0 rfl) ?_
      refine lv_iload_n hx hb dL_law_706 rfl (lv_at hl 3 rfl) ?_
      refine lv_iconst (v := iI 1) hx hb dL_law_707 rfl ?_
      refine lv_iadd hx hb dL_law_708 ?_
      refine va_sld hx hb hX hbl hbA hS (scr_in hi5 ex3 1 (by omega)) dL_law_709 ?_
      refine lv_aload_n hx hb dL_law_710 rfl (lv_at hl 0 rfl) ?_
      refine lv_iload_n hx hb dL_law_711 rfl (lv_at hl 3 rfl) ?_
      refine lv_iconst (v := iI 2) hx hb dL_law_712 rfl ?_
      refine lv_iadd hx hb dL_law_713 ?_
      refine va_sld hx hb hX hbl hbA hS (scr_in hi5 ex3 2 (by omega)) dL_law_714 ?_
      refine lv_i2c (v := c16 (xs (x3 + iI 2).toNatClampNeg)) hx hb dL_law_715 rfl ?_
      refine rcV (rest := [.int r]) X hKK hP 2 (zX5_labelled l D cI cC qm mn md ml mk mr mt mx me mg mw (xs (x3 + iI 1).toNatClampNeg) (c16 (xs (x3 + iI 2).toNatClampNeg)) r hRM) gL_law_X5_labelled rfl rfl rfl hdX5_labelled ⟨Nat.le_of_ble_eq_true rfl, Nat.le_of_ble_eq_true rfl⟩ [13, 14, 15, 16, 17, 18, 19] rfl 0 rfl rfl rfl hl.1 rfl (Nat.le_of_ble_eq_true rfl) dL_law_716 ⟨Nat.le_of_ble_eq_true rfl, Nat.le_of_ble_eq_true rfl⟩ ?_
      refine lv_icmp_eq (tgt := 1062) hx hb dL_law_719 (by decide) (fun _ => ?_) (fun cE => absurd rfl cE)
      refine lv_iinc (v := x3 + iI 5) (lv' := [(3, .int (x3 + iI 5)), (0, .ref b), (1, .ref (qa 0)), (2, .ref (qm 0))]) hx hb dL_law_1062 hl (k := 3) rfl rfl (by decide) rfl (fun ls hl => ?_)
      refine lv_goto (tgt := 18) hx hb dL_law_1065 (by decide) ?_
      exact ih (i + 5) (x3 + iI 5) (by omega) (by omega) (by rw [ex3]; exact nI_add i 5) n d lb xd xl wi sl kp ct gd gl ln ch mn md ml mk mr mt mx me mg mw I qa qm H locs hP hD hS ls (lv_sub hl [1, 2, 3, 0] rfl)
    by_cases k20 : sw = iI 20
    · refine lv_tableIn (tgt := 724) hx hb dL_law_32 (by rw [k20]; decide) (by rw [k20]; decide) (by rw [k20]; rfl) (by decide) ?_
      obtain ⟨r, hRA, hRM⟩ := st_select I (xs (x3 + iI 1).toNatClampNeg) (xs (x3 + iI 2).toNatClampNeg) (xs (x3 + iI 3).toNatClampNeg)
      refine lv_aload_n hx hb dL_law_724 rfl (lv_at hl 1 rfl) ?_
      refine lv_aload_n hx hb dL_law_725 rfl (lv_at hl 0 rfl) ?_
      refine lv_iload_n hx hb dL_law_726 rfl (lv_at hl 3 rfl) ?_
      refine lv_iconst (v := iI 1) hx hb dL_law_727 rfl ?_
      refine lv_iadd hx hb dL_law_728 ?_
      refine va_sld hx hb hX hbl hbA hS (scr_in hi5 ex3 1 (by omega)) dL_law_729 ?_
      refine lv_aload_n hx hb dL_law_730 rfl (lv_at hl 0 rfl) ?_
      refine lv_iload_n hx hb dL_law_731 rfl (lv_at hl 3 rfl) ?_
      refine lv_iconst (v := iI 2) hx hb dL_law_732 rfl ?_
      refine lv_iadd hx hb dL_law_733 ?_
      refine va_sld hx hb hX hbl hbA hS (scr_in hi5 ex3 2 (by omega)) dL_law_734 ?_
      refine lv_i2c (v := c16 (xs (x3 + iI 2).toNatClampNeg)) hx hb dL_law_735 rfl ?_
      refine lv_aload_n hx hb dL_law_736 rfl (lv_at hl 0 rfl) ?_
      refine lv_iload_n hx hb dL_law_737 rfl (lv_at hl 3 rfl) ?_
      refine lv_iconst (v := iI 3) hx hb dL_law_738 rfl ?_
      refine lv_iadd hx hb dL_law_739 ?_
      refine va_sld hx hb hX hbl hbA hS (scr_in hi5 ex3 3 (by omega)) dL_law_740 ?_
      refine rcV (rest := []) X hKK hP 3 (zX4_select l D cI cC qa n d lb xd xl wi sl kp ct gd gl ln ch (xs (x3 + iI 1).toNatClampNeg) (c16 (xs (x3 + iI 2).toNatClampNeg)) (xs (x3 + iI 3).toNatClampNeg) r hRA) gL_law_X4_select rfl rfl rfl hdX4_select ⟨Nat.le_of_ble_eq_true rfl, Nat.le_of_ble_eq_true rfl⟩ [0, 1, 2, 3, 4, 5, 6, 7, 8, 9, 10, 11, 12] rfl 0 rfl rfl rfl hl.1 rfl (Nat.le_of_ble_eq_true rfl) dL_law_741 ⟨Nat.le_of_ble_eq_true rfl, Nat.le_of_ble_eq_true rfl⟩ ?_
      refine lv_aload_n hx hb dL_law_744 rfl (lv_at hl 2 rfl) ?_
      refine lv_aload_n hx hb dL_law_745 rfl (lv_at hl 0 rfl) ?_
      refine lv_iload_n hx hb dL_law_746 rfl (lv_at hl 3 rfl) ?_
      refine lv_iconst (v := iI 1) hx hb dL_law_747 rfl ?_
      refine lv_iadd hx hb dL_law_748 ?_
      refine va_sld hx hb hX hbl hbA hS (scr_in hi5 ex3 1 (by omega)) dL_law_749 ?_
      refine lv_aload_n hx hb dL_law_750 rfl (lv_at hl 0 rfl) ?_
      refine lv_iload_n hx hb dL_law_751 rfl (lv_at hl 3 rfl) ?_
      refine lv_iconst (v := iI 2) hx hb dL_law_752 rfl ?_
      refine lv_iadd hx hb dL_law_753 ?_
      refine va_sld hx hb hX hbl hbA hS (scr_in hi5 ex3 2 (by omega)) dL_law_754 ?_
      refine lv_i2c (v := c16 (xs (x3 + iI 2).toNatClampNeg)) hx hb dL_law_755 rfl ?_
      refine lv_aload_n hx hb dL_law_756 rfl (lv_at hl 0 rfl) ?_
      refine lv_iload_n hx hb dL_law_757 rfl (lv_at hl 3 rfl) ?_
      refine lv_iconst (v := iI 3) hx hb dL_law_758 rfl ?_
      refine lv_iadd hx hb dL_law_759 ?_
      refine va_sld hx hb hX hbl hbA hS (scr_in hi5 ex3 3 (by omega)) dL_law_760 ?_
      refine rcV (rest := [.int r]) X hKK hP 3 (zX5_select l D cI cC qm mn md ml mk mr mt mx me mg mw (xs (x3 + iI 1).toNatClampNeg) (c16 (xs (x3 + iI 2).toNatClampNeg)) (xs (x3 + iI 3).toNatClampNeg) r hRM) gL_law_X5_select rfl rfl rfl hdX5_select ⟨Nat.le_of_ble_eq_true rfl, Nat.le_of_ble_eq_true rfl⟩ [13, 14, 15, 16, 17, 18, 19] rfl 0 rfl rfl rfl hl.1 rfl (Nat.le_of_ble_eq_true rfl) dL_law_761 ⟨Nat.le_of_ble_eq_true rfl, Nat.le_of_ble_eq_true rfl⟩ ?_
      refine lv_icmp_eq (tgt := 1062) hx hb dL_law_764 (by decide) (fun _ => ?_) (fun cE => absurd rfl cE)
      refine lv_iinc (v := x3 + iI 5) (lv' := [(3, .int (x3 + iI 5)), (0, .ref b), (1, .ref (qa 0)), (2, .ref (qm 0))]) hx hb dL_law_1062 hl (k := 3) rfl rfl (by decide) rfl (fun ls hl => ?_)
      refine lv_goto (tgt := 18) hx hb dL_law_1065 (by decide) ?_
      exact ih (i + 5) (x3 + iI 5) (by omega) (by omega) (by rw [ex3]; exact nI_add i 5) n d lb xd xl wi sl kp ct gd gl ln ch mn md ml mk mr mt mx me mg mw I qa qm H locs hP hD hS ls (lv_sub hl [1, 2, 3, 0] rfl)
    by_cases k21 : sw = iI 21
    · refine lv_tableIn (tgt := 769) hx hb dL_law_32 (by rw [k21]; decide) (by rw [k21]; decide) (by rw [k21]; rfl) (by decide) ?_
      obtain ⟨r, hRA, hRM⟩ := st_ancestorWith I (xs (x3 + iI 1).toNatClampNeg) (xs (x3 + iI 2).toNatClampNeg)
      refine lv_aload_n hx hb dL_law_769 rfl (lv_at hl 1 rfl) ?_
      refine lv_aload_n hx hb dL_law_770 rfl (lv_at hl 0 rfl) ?_
      refine lv_iload_n hx hb dL_law_771 rfl (lv_at hl 3 rfl) ?_
      refine lv_iconst (v := iI 1) hx hb dL_law_772 rfl ?_
      refine lv_iadd hx hb dL_law_773 ?_
      refine va_sld hx hb hX hbl hbA hS (scr_in hi5 ex3 1 (by omega)) dL_law_774 ?_
      refine lv_aload_n hx hb dL_law_775 rfl (lv_at hl 0 rfl) ?_
      refine lv_iload_n hx hb dL_law_776 rfl (lv_at hl 3 rfl) ?_
      refine lv_iconst (v := iI 2) hx hb dL_law_777 rfl ?_
      refine lv_iadd hx hb dL_law_778 ?_
      refine va_sld hx hb hX hbl hbA hS (scr_in hi5 ex3 2 (by omega)) dL_law_779 ?_
      refine lv_i2c (v := c16 (xs (x3 + iI 2).toNatClampNeg)) hx hb dL_law_780 rfl ?_
      refine rcV (rest := []) X hKK hP 2 (zX4_ancestorWith l D cI cC qa n d lb xd xl wi sl kp ct gd gl ln ch (xs (x3 + iI 1).toNatClampNeg) (c16 (xs (x3 + iI 2).toNatClampNeg)) r hRA) gL_law_X4_ancestorWith rfl rfl rfl hdX4_ancestorWith ⟨Nat.le_of_ble_eq_true rfl, Nat.le_of_ble_eq_true rfl⟩ [0, 1, 2, 3, 4, 5, 6, 7, 8, 9, 10, 11, 12] rfl 0 rfl rfl rfl hl.1 rfl (Nat.le_of_ble_eq_true rfl) dL_law_781 ⟨Nat.le_of_ble_eq_true rfl, Nat.le_of_ble_eq_true rfl⟩ ?_
      refine lv_aload_n hx hb dL_law_784 rfl (lv_at hl 2 rfl) ?_
      refine lv_aload_n hx hb dL_law_785 rfl (lv_at hl 0 rfl) ?_
      refine lv_iload_n hx hb dL_law_786 rfl (lv_at hl 3 rfl) ?_
      refine lv_iconst (v := iI 1) hx hb dL_law_787 rfl ?_
      refine lv_iadd hx hb dL_law_788 ?_
      refine va_sld hx hb hX hbl hbA hS (scr_in hi5 ex3 1 (by omega)) dL_law_789 ?_
      refine lv_aload_n hx hb dL_law_790 rfl (lv_at hl 0 rfl) ?_
      refine lv_iload_n hx hb dL_law_791 rfl (lv_at hl 3 rfl) ?_
      refine lv_iconst (v := iI 2) hx hb dL_law_792 rfl ?_
      refine lv_iadd hx hb dL_law_793 ?_
      refine va_sld hx hb hX hbl hbA hS (scr_in hi5 ex3 2 (by omega)) dL_law_794 ?_
      refine lv_i2c (v := c16 (xs (x3 + iI 2).toNatClampNeg)) hx hb dL_law_795 rfl ?_
      refine rcV (rest := [.int r]) X hKK hP 2 (zX5_ancestorWith l D cI cC qm mn md ml mk mr mt mx me mg mw (xs (x3 + iI 1).toNatClampNeg) (c16 (xs (x3 + iI 2).toNatClampNeg)) r hRM) gL_law_X5_ancestorWith rfl rfl rfl hdX5_ancestorWith ⟨Nat.le_of_ble_eq_true rfl, Nat.le_of_ble_eq_true rfl⟩ [13, 14, 15, 16, 17, 18, 19] rfl 0 rfl rfl rfl hl.1 rfl (Nat.le_of_ble_eq_true rfl) dL_law_796 ⟨Nat.le_of_ble_eq_true rfl, Nat.le_of_ble_eq_true rfl⟩ ?_
      refine lv_icmp_eq (tgt := 1062) hx hb dL_law_799 (by decide) (fun _ => ?_) (fun cE => absurd rfl cE)
      refine lv_iinc (v := x3 + iI 5) (lv' := [(3, .int (x3 + iI 5)), (0, .ref b), (1, .ref (qa 0)), (2, .ref (qm 0))]) hx hb dL_law_1062 hl (k := 3) rfl rfl (by decide) rfl (fun ls hl => ?_)
      refine lv_goto (tgt := 18) hx hb dL_law_1065 (by decide) ?_
      exact ih (i + 5) (x3 + iI 5) (by omega) (by omega) (by rw [ex3]; exact nI_add i 5) n d lb xd xl wi sl kp ct gd gl ln ch mn md ml mk mr mt mx me mg mw I qa qm H locs hP hD hS ls (lv_sub hl [1, 2, 3, 0] rfl)
    by_cases k22 : sw = iI 22
    · refine lv_tableIn (tgt := 804) hx hb dL_law_32 (by rw [k22]; decide) (by rw [k22]; decide) (by rw [k22]; rfl) (by decide) ?_
      obtain ⟨r, hRA, hRM⟩ := st_areEqual I (xs (x3 + iI 1).toNatClampNeg) (xs (x3 + iI 2).toNatClampNeg)
      refine lv_aload_n hx hb dL_law_804 rfl (lv_at hl 1 rfl) ?_
      refine lv_aload_n hx hb dL_law_805 rfl (lv_at hl 0 rfl) ?_
      refine lv_iload_n hx hb dL_law_806 rfl (lv_at hl 3 rfl) ?_
      refine lv_iconst (v := iI 1) hx hb dL_law_807 rfl ?_
      refine lv_iadd hx hb dL_law_808 ?_
      refine va_sld hx hb hX hbl hbA hS (scr_in hi5 ex3 1 (by omega)) dL_law_809 ?_
      refine lv_aload_n hx hb dL_law_810 rfl (lv_at hl 0 rfl) ?_
      refine lv_iload_n hx hb dL_law_811 rfl (lv_at hl 3 rfl) ?_
      refine lv_iconst (v := iI 2) hx hb dL_law_812 rfl ?_
      refine lv_iadd hx hb dL_law_813 ?_
      refine va_sld hx hb hX hbl hbA hS (scr_in hi5 ex3 2 (by omega)) dL_law_814 ?_
      refine rcV (rest := []) X hKK hP 2 (zX4_areEqual l D cI cC qa n d lb xd xl wi sl kp ct gd gl ln ch (xs (x3 + iI 1).toNatClampNeg) (xs (x3 + iI 2).toNatClampNeg) r hRA) gL_law_X4_areEqual rfl rfl rfl hdX4_areEqual ⟨Nat.le_of_ble_eq_true rfl, Nat.le_of_ble_eq_true rfl⟩ [0, 1, 2, 3, 4, 5, 6, 7, 8, 9, 10, 11, 12] rfl 0 rfl rfl rfl hl.1 rfl (Nat.le_of_ble_eq_true rfl) dL_law_815 ⟨Nat.le_of_ble_eq_true rfl, Nat.le_of_ble_eq_true rfl⟩ ?_
      refine lv_aload_n hx hb dL_law_818 rfl (lv_at hl 2 rfl) ?_
      refine lv_aload_n hx hb dL_law_819 rfl (lv_at hl 0 rfl) ?_
      refine lv_iload_n hx hb dL_law_820 rfl (lv_at hl 3 rfl) ?_
      refine lv_iconst (v := iI 1) hx hb dL_law_821 rfl ?_
      refine lv_iadd hx hb dL_law_822 ?_
      refine va_sld hx hb hX hbl hbA hS (scr_in hi5 ex3 1 (by omega)) dL_law_823 ?_
      refine lv_aload_n hx hb dL_law_824 rfl (lv_at hl 0 rfl) ?_
      refine lv_iload_n hx hb dL_law_825 rfl (lv_at hl 3 rfl) ?_
      refine lv_iconst (v := iI 2) hx hb dL_law_826 rfl ?_
      refine lv_iadd hx hb dL_law_827 ?_
      refine va_sld hx hb hX hbl hbA hS (scr_in hi5 ex3 2 (by omega)) dL_law_828 ?_
      refine rcV (rest := [.int r]) X hKK hP 2 (zX5_areEqual l D cI cC qm mn md ml mk mr mt mx me mg mw (xs (x3 + iI 1).toNatClampNeg) (xs (x3 + iI 2).toNatClampNeg) r hRM) gL_law_X5_areEqual rfl rfl rfl hdX5_areEqual ⟨Nat.le_of_ble_eq_true rfl, Nat.le_of_ble_eq_true rfl⟩ [13, 14, 15, 16, 17, 18, 19] rfl 0 rfl rfl rfl hl.1 rfl (Nat.le_of_ble_eq_true rfl) dL_law_829 ⟨Nat.le_of_ble_eq_true rfl, Nat.le_of_ble_eq_true rfl⟩ ?_
      refine lv_icmp_eq (tgt := 1062) hx hb dL_law_832 (by decide) (fun _ => ?_) (fun cE => absurd rfl cE)
      refine lv_iinc (v := x3 + iI 5) (lv' := [(3, .int (x3 + iI 5)), (0, .ref b), (1, .ref (qa 0)), (2, .ref (qm 0))]) hx hb dL_law_1062 hl (k := 3) rfl rfl (by decide) rfl (fun ls hl => ?_)
      refine lv_goto (tgt := 18) hx hb dL_law_1065 (by decide) ?_
      exact ih (i + 5) (x3 + iI 5) (by omega) (by omega) (by rw [ex3]; exact nI_add i 5) n d lb xd xl wi sl kp ct gd gl ln ch mn md ml mk mr mt mx me mg mw I qa qm H locs hP hD hS ls (lv_sub hl [1, 2, 3, 0] rfl)
    by_cases k23 : sw = iI 23
    · refine lv_tableIn (tgt := 837) hx hb dL_law_32 (by rw [k23]; decide) (by rw [k23]; decide) (by rw [k23]; rfl) (by decide) ?_
      obtain ⟨r, hRA, hRM⟩ := st_copies I (xs (x3 + iI 1).toNatClampNeg)
      refine lv_aload_n hx hb dL_law_837 rfl (lv_at hl 1 rfl) ?_
      refine lv_aload_n hx hb dL_law_838 rfl (lv_at hl 0 rfl) ?_
      refine lv_iload_n hx hb dL_law_839 rfl (lv_at hl 3 rfl) ?_
      refine lv_iconst (v := iI 1) hx hb dL_law_840 rfl ?_
      refine lv_iadd hx hb dL_law_841 ?_
      refine va_sld hx hb hX hbl hbA hS (scr_in hi5 ex3 1 (by omega)) dL_law_842 ?_
      refine rcV (rest := []) X hKK hP 1 (zX4_copies l D cI cC qa n d lb xd xl wi sl kp ct gd gl ln ch (xs (x3 + iI 1).toNatClampNeg) r hRA) gL_law_X4_copies rfl rfl rfl hdX4_copies ⟨Nat.le_of_ble_eq_true rfl, Nat.le_of_ble_eq_true rfl⟩ [0, 1, 2, 3, 4, 5, 6, 7, 8, 9, 10, 11, 12] rfl 0 rfl rfl rfl hl.1 rfl (Nat.le_of_ble_eq_true rfl) dL_law_843 ⟨Nat.le_of_ble_eq_true rfl, Nat.le_of_ble_eq_true rfl⟩ ?_
      refine lv_aload_n hx hb dL_law_846 rfl (lv_at hl 2 rfl) ?_
      refine lv_aload_n hx hb dL_law_847 rfl (lv_at hl 0 rfl) ?_
      refine lv_iload_n hx hb dL_law_848 rfl (lv_at hl 3 rfl) ?_
      refine lv_iconst (v := iI 1) hx hb dL_law_849 rfl ?_
      refine lv_iadd hx hb dL_law_850 ?_
      refine va_sld hx hb hX hbl hbA hS (scr_in hi5 ex3 1 (by omega)) dL_law_851 ?_
      refine rcV (rest := [.int r]) X hKK hP 1 (zX5_copies l D cI cC qm mn md ml mk mr mt mx me mg mw (xs (x3 + iI 1).toNatClampNeg) r hRM) gL_law_X5_copies rfl rfl rfl hdX5_copies ⟨Nat.le_of_ble_eq_true rfl, Nat.le_of_ble_eq_true rfl⟩ [13, 14, 15, 16, 17, 18, 19] rfl 0 rfl rfl rfl hl.1 rfl (Nat.le_of_ble_eq_true rfl) dL_law_852 ⟨Nat.le_of_ble_eq_true rfl, Nat.le_of_ble_eq_true rfl⟩ ?_
      refine lv_icmp_eq (tgt := 1062) hx hb dL_law_855 (by decide) (fun _ => ?_) (fun cE => absurd rfl cE)
      refine lv_iinc (v := x3 + iI 5) (lv' := [(3, .int (x3 + iI 5)), (0, .ref b), (1, .ref (qa 0)), (2, .ref (qm 0))]) hx hb dL_law_1062 hl (k := 3) rfl rfl (by decide) rfl (fun ls hl => ?_)
      refine lv_goto (tgt := 18) hx hb dL_law_1065 (by decide) ?_
      exact ih (i + 5) (x3 + iI 5) (by omega) (by omega) (by rw [ex3]; exact nI_add i 5) n d lb xd xl wi sl kp ct gd gl ln ch mn md ml mk mr mt mx me mg mw I qa qm H locs hP hD hS ls (lv_sub hl [1, 2, 3, 0] rfl)
    by_cases k24 : sw = iI 24
    · refine lv_tableIn (tgt := 860) hx hb dL_law_32 (by rw [k24]; decide) (by rw [k24]; decide) (by rw [k24]; rfl) (by decide) ?_
      obtain ⟨RA, RM, hRA, hRM, hE, hI⟩ := st_insert I (xs (x3 + iI 1).toNatClampNeg) (xs (x3 + iI 2).toNatClampNeg) (xs (x3 + iI 3).toNatClampNeg)
      refine lv_aload_n hx hb dL_law_860 rfl (lv_at hl 1 rfl) ?_
      refine lv_aload_n hx hb dL_law_861 rfl (lv_at hl 0 rfl) ?_
      refine lv_iload_n hx hb dL_law_862 rfl (lv_at hl 3 rfl) ?_
      refine lv_iconst (v := iI 1) hx hb dL_law_863 rfl ?_
      refine lv_iadd hx hb dL_law_864 ?_
      refine va_sld hx hb hX hbl hbA hS (scr_in hi5 ex3 1 (by omega)) dL_law_865 ?_
      refine lv_aload_n hx hb dL_law_866 rfl (lv_at hl 0 rfl) ?_
      refine lv_iload_n hx hb dL_law_867 rfl (lv_at hl 3 rfl) ?_
      refine lv_iconst (v := iI 2) hx hb dL_law_868 rfl ?_
      refine lv_iadd hx hb dL_law_869 ?_
      refine va_sld hx hb hX hbl hbA hS (scr_in hi5 ex3 2 (by omega)) dL_law_870 ?_
      refine lv_aload_n hx hb dL_law_871 rfl (lv_at hl 0 rfl) ?_
      refine lv_iload_n hx hb dL_law_872 rfl (lv_at hl 3 rfl) ?_
      refine lv_iconst (v := iI 3) hx hb dL_law_873 rfl ?_
      refine lv_iadd hx hb dL_law_874 ?_
      refine va_sld hx hb hX hbl hbA hS (scr_in hi5 ex3 3 (by omega)) dL_law_875 ?_
      refine lv_i2c (v := c16 (xs (x3 + iI 3).toNatClampNeg)) hx hb dL_law_876 rfl ?_
      refine mcV (rest := []) (wld2 := (wA cI qa RA.2.1 RA.2.2.1 RA.2.2.2.1 xd xl wi RA.2.2.2.2.1 RA.2.2.2.2.2.1 RA.2.2.2.2.2.2.1 RA.2.2.2.2.2.2.2.1 RA.2.2.2.2.2.2.2.2 ln ch ++ wM cI cC qm mn md ml mk mr mt mx me mg mw)) (wr := pickAt [13, 14, 15, 16, 17, 18, 19] (wA cI qa n d lb xd xl wi sl kp ct gd gl ln ch ++ wM cI cC qm mn md ml mk mr mt mx me mg mw)) X hKK hP hD hS hA 3 (zX4_insert l D cI cC qa _ n d lb xd xl wi sl kp ct gd gl ln ch (xs (x3 + iI 1).toNatClampNeg) (xs (x3 + iI 2).toNatClampNeg) (c16 (xs (x3 + iI 3).toNatClampNeg)) RA hRA) gL_law_X4_insert rfl rfl rfl hdX4_insert ⟨Nat.le_of_ble_eq_true rfl, Nat.le_of_ble_eq_true rfl⟩ [0, 1, 2, 3, 4, 5, 6, 7, 8, 9, 10, 11, 12] [13, 14, 15, 16, 17, 18, 19] rfl rfl rfl rfl rfl (by decide) rfl [7, 8, 9, 10, 11, 12, 13, 14, 15, 16, 17, 18, 19, 0, 1, 2, 3, 4, 5, 6] rfl rfl rfl 0 rfl rfl rfl hl.1 rfl (Nat.le_of_ble_eq_true rfl) dL_law_877 ⟨Nat.le_of_ble_eq_true rfl, Nat.le_of_ble_eq_true rfl⟩ (fun H locs hP hD hS => ?_)
      refine lv_aload_n hx hb dL_law_880 rfl (lv_at hl 2 rfl) ?_
      refine lv_aload_n hx hb dL_law_881 rfl (lv_at hl 0 rfl) ?_
      refine lv_iload_n hx hb dL_law_882 rfl (lv_at hl 3 rfl) ?_
      refine lv_iconst (v := iI 1) hx hb dL_law_883 rfl ?_
      refine lv_iadd hx hb dL_law_884 ?_
      refine va_sld hx hb hX hbl hbA hS (scr_in hi5 ex3 1 (by omega)) dL_law_885 ?_
      refine lv_aload_n hx hb dL_law_886 rfl (lv_at hl 0 rfl) ?_
      refine lv_iload_n hx hb dL_law_887 rfl (lv_at hl 3 rfl) ?_
      refine lv_iconst (v := iI 2) hx hb dL_law_888 rfl ?_
      refine lv_iadd hx hb dL_law_889 ?_
      refine va_sld hx hb hX hbl hbA hS (scr_in hi5 ex3 2 (by omega)) dL_law_890 ?_
      refine lv_aload_n hx hb dL_law_891 rfl (lv_at hl 0 rfl) ?_
      refine lv_iload_n hx hb dL_law_892 rfl (lv_at hl 3 rfl) ?_
      refine lv_iconst (v := iI 3) hx hb dL_law_893 rfl ?_
      refine lv_iadd hx hb dL_law_894 ?_
      refine va_sld hx hb hX hbl hbA hS (scr_in hi5 ex3 3 (by omega)) dL_law_895 ?_
      refine lv_i2c (v := c16 (xs (x3 + iI 3).toNatClampNeg)) hx hb dL_law_896 rfl ?_
      refine mcV (rest := [.int RA.1]) (wld2 := (wA cI qa RA.2.1 RA.2.2.1 RA.2.2.2.1 xd xl wi RA.2.2.2.2.1 RA.2.2.2.2.2.1 RA.2.2.2.2.2.2.1 RA.2.2.2.2.2.2.2.1 RA.2.2.2.2.2.2.2.2 ln ch ++ wM cI cC qm RM.2.1 RM.2.2.1 RM.2.2.2.1 RM.2.2.2.2.1 RM.2.2.2.2.2 mt mx me mg mw)) (wr := pickAt [0, 1, 2, 3, 4, 5, 6, 7, 8, 9, 10, 11, 12] (wA cI qa RA.2.1 RA.2.2.1 RA.2.2.2.1 xd xl wi RA.2.2.2.2.1 RA.2.2.2.2.2.1 RA.2.2.2.2.2.2.1 RA.2.2.2.2.2.2.2.1 RA.2.2.2.2.2.2.2.2 ln ch ++ wM cI cC qm mn md ml mk mr mt mx me mg mw)) X hKK hP hD hS hA 3 (zX5_insert l D cI cC qm _ mn md ml mk mr mt mx me mg mw (xs (x3 + iI 1).toNatClampNeg) (xs (x3 + iI 2).toNatClampNeg) (c16 (xs (x3 + iI 3).toNatClampNeg)) RM hRM) gL_law_X5_insert rfl rfl rfl hdX5_insert ⟨Nat.le_of_ble_eq_true rfl, Nat.le_of_ble_eq_true rfl⟩ [13, 14, 15, 16, 17, 18, 19] [0, 1, 2, 3, 4, 5, 6, 7, 8, 9, 10, 11, 12] rfl rfl rfl rfl rfl (by decide) rfl [0, 1, 2, 3, 4, 5, 6, 7, 8, 9, 10, 11, 12, 13, 14, 15, 16, 17, 18, 19] rfl rfl rfl 0 rfl rfl rfl hl.1 rfl (Nat.le_of_ble_eq_true rfl) dL_law_897 ⟨Nat.le_of_ble_eq_true rfl, Nat.le_of_ble_eq_true rfl⟩ (fun H locs hP hD hS => ?_)
      refine lv_icmp_eq (tgt := 1062) hx hb dL_law_900 (by decide) (fun _ => ?_) (fun cE => absurd hE cE)
      refine lv_iinc (v := x3 + iI 5) (lv' := [(3, .int (x3 + iI 5)), (0, .ref b), (1, .ref (qa 0)), (2, .ref (qm 0))]) hx hb dL_law_1062 hl (k := 3) rfl rfl (by decide) rfl (fun ls hl => ?_)
      refine lv_goto (tgt := 18) hx hb dL_law_1065 (by decide) ?_
      exact ih (i + 5) (x3 + iI 5) (by omega) (by omega) (by rw [ex3]; exact nI_add i 5) RA.2.1 RA.2.2.1 RA.2.2.2.1 xd xl wi RA.2.2.2.2.1 RA.2.2.2.2.2.1 RA.2.2.2.2.2.2.1 RA.2.2.2.2.2.2.2.1 RA.2.2.2.2.2.2.2.2 ln ch RM.2.1 RM.2.2.1 RM.2.2.2.1 RM.2.2.2.2.1 RM.2.2.2.2.2 mt mx me mg mw hI qa qm H locs hP hD hS ls (lv_sub hl [1, 2, 3, 0] rfl)
    by_cases k25 : sw = iI 25
    · refine lv_tableIn (tgt := 905) hx hb dL_law_32 (by rw [k25]; decide) (by rw [k25]; decide) (by rw [k25]; rfl) (by decide) ?_
      obtain ⟨RA, RM, hRA, hRM, hE, hI⟩ := st_wrap I (xs (x3 + iI 1).toNatClampNeg) (xs (x3 + iI 2).toNatClampNeg) (xs (x3 + iI 3).toNatClampNeg) (xs (x3 + iI 4).toNatClampNeg)
      refine lv_aload_n hx hb dL_law_905 rfl (lv_at hl 1 rfl) ?_
      refine lv_aload_n hx hb dL_law_906 rfl (lv_at hl 0 rfl) ?_
      refine lv_iload_n hx hb dL_law_907 rfl (lv_at hl 3 rfl) ?_
      refine lv_iconst (v := iI 1) hx hb dL_law_908 rfl ?_
      refine lv_iadd hx hb dL_law_909 ?_
      refine va_sld hx hb hX hbl hbA hS (scr_in hi5 ex3 1 (by omega)) dL_law_910 ?_
      refine lv_aload_n hx hb dL_law_911 rfl (lv_at hl 0 rfl) ?_
      refine lv_iload_n hx hb dL_law_912 rfl (lv_at hl 3 rfl) ?_
      refine lv_iconst (v := iI 2) hx hb dL_law_913 rfl ?_
      refine lv_iadd hx hb dL_law_914 ?_
      refine va_sld hx hb hX hbl hbA hS (scr_in hi5 ex3 2 (by omega)) dL_law_915 ?_
      refine lv_aload_n hx hb dL_law_916 rfl (lv_at hl 0 rfl) ?_
      refine lv_iload_n hx hb dL_law_917 rfl (lv_at hl 3 rfl) ?_
      refine lv_iconst (v := iI 3) hx hb dL_law_918 rfl ?_
      refine lv_iadd hx hb dL_law_919 ?_
      refine va_sld hx hb hX hbl hbA hS (scr_in hi5 ex3 3 (by omega)) dL_law_920 ?_
      refine lv_aload_n hx hb dL_law_921 rfl (lv_at hl 0 rfl) ?_
      refine lv_iload_n hx hb dL_law_922 rfl (lv_at hl 3 rfl) ?_
      refine lv_iconst (v := iI 4) hx hb dL_law_923 rfl ?_
      refine lv_iadd hx hb dL_law_924 ?_
      refine va_sld hx hb hX hbl hbA hS (scr_in hi5 ex3 4 (by omega)) dL_law_925 ?_
      refine lv_i2c (v := c16 (xs (x3 + iI 4).toNatClampNeg)) hx hb dL_law_926 rfl ?_
      refine mcV (rest := []) (wld2 := (wA cI qa RA.2.1 RA.2.2.1 RA.2.2.2.1 xd xl wi RA.2.2.2.2.1 RA.2.2.2.2.2.1 RA.2.2.2.2.2.2.1 RA.2.2.2.2.2.2.2.1 RA.2.2.2.2.2.2.2.2 ln ch ++ wM cI cC qm mn md ml mk mr mt mx me mg mw)) (wr := pickAt [13, 14, 15, 16, 17, 18, 19] (wA cI qa n d lb xd xl wi sl kp ct gd gl ln ch ++ wM cI cC qm mn md ml mk mr mt mx me mg mw)) X hKK hP hD hS hA 4 (zX4_wrap l D cI cC qa _ n d lb xd xl wi sl kp ct gd gl ln ch (xs (x3 + iI 1).toNatClampNeg) (xs (x3 + iI 2).toNatClampNeg) (xs (x3 + iI 3).toNatClampNeg) (c16 (xs (x3 + iI 4).toNatClampNeg)) RA hRA) gL_law_X4_wrap rfl rfl rfl hdX4_wrap ⟨Nat.le_of_ble_eq_true rfl, Nat.le_of_ble_eq_true rfl⟩ [0, 1, 2, 3, 4, 5, 6, 7, 8, 9, 10, 11, 12] [13, 14, 15, 16, 17, 18, 19] rfl rfl rfl rfl rfl (by decide) rfl [7, 8, 9, 10, 11, 12, 13, 14, 15, 16, 17, 18, 19, 0, 1, 2, 3, 4, 5, 6] rfl rfl rfl 0 rfl rfl rfl hl.1 rfl (Nat.le_of_ble_eq_true rfl) dL_law_927 ⟨Nat.le_of_ble_eq_true rfl, Nat.le_of_ble_eq_true rfl⟩ (fun H locs hP hD hS => ?_)
      refine lv_aload_n hx hb dL_law_930 rfl (lv_at hl 2 rfl) ?_
      refine lv_aload_n hx hb dL_law_931 rfl (lv_at hl 0 rfl) ?_
      refine lv_iload_n hx hb dL_law_932 rfl (lv_at hl 3 rfl) ?_
      refine lv_iconst (v := iI 1) hx hb dL_law_933 rfl ?_
      refine lv_iadd hx hb dL_law_934 ?_
      refine va_sld hx hb hX hbl hbA hS (scr_in hi5 ex3 1 (by omega)) dL_law_935 ?_
      refine lv_aload_n hx hb dL_law_936 rfl (lv_at hl 0 rfl) ?_
      refine lv_iload_n hx hb dL_law_937 rfl (lv_at hl 3 rfl) ?_
      refine lv_iconst (v := iI 2) hx hb dL_law_938 rfl ?_
      refine lv_iadd hx hb dL_law_939 ?_
      refine va_sld hx hb hX hbl hbA hS (scr_in hi5 ex3 2 (by omega)) dL_law_940 ?_
      refine lv_aload_n hx hb dL_law_941 rfl (lv_at hl 0 rfl) ?_
      refine lv_iload_n hx hb dL_law_942 rfl (lv_at hl 3 rfl) ?_
      refine lv_iconst (v := iI 3) hx hb dL_law_943 rfl ?_
      refine lv_iadd hx hb dL_law_944 ?_
      refine va_sld hx hb hX hbl hbA hS (scr_in hi5 ex3 3 (by omega)) dL_law_945 ?_
      refine lv_aload_n hx hb dL_law_946 rfl (lv_at hl 0 rfl) ?_
      refine lv_iload_n hx hb dL_law_947 rfl (lv_at hl 3 rfl) ?_
      refine lv_iconst (v := iI 4) hx hb dL_law_948 rfl ?_
      refine lv_iadd hx hb dL_law_949 ?_
      refine va_sld hx hb hX hbl hbA hS (scr_in hi5 ex3 4 (by omega)) dL_law_950 ?_
      refine lv_i2c (v := c16 (xs (x3 + iI 4).toNatClampNeg)) hx hb dL_law_951 rfl ?_
      refine mcV (rest := [.int RA.1]) (wld2 := (wA cI qa RA.2.1 RA.2.2.1 RA.2.2.2.1 xd xl wi RA.2.2.2.2.1 RA.2.2.2.2.2.1 RA.2.2.2.2.2.2.1 RA.2.2.2.2.2.2.2.1 RA.2.2.2.2.2.2.2.2 ln ch ++ wM cI cC qm RM.2.1 RM.2.2.1 RM.2.2.2.1 RM.2.2.2.2.1 RM.2.2.2.2.2 mt mx me mg mw)) (wr := pickAt [0, 1, 2, 3, 4, 5, 6, 7, 8, 9, 10, 11, 12] (wA cI qa RA.2.1 RA.2.2.1 RA.2.2.2.1 xd xl wi RA.2.2.2.2.1 RA.2.2.2.2.2.1 RA.2.2.2.2.2.2.1 RA.2.2.2.2.2.2.2.1 RA.2.2.2.2.2.2.2.2 ln ch ++ wM cI cC qm mn md ml mk mr mt mx me mg mw)) X hKK hP hD hS hA 4 (zX5_wrap l D cI cC qm _ mn md ml mk mr mt mx me mg mw (xs (x3 + iI 1).toNatClampNeg) (xs (x3 + iI 2).toNatClampNeg) (xs (x3 + iI 3).toNatClampNeg) (c16 (xs (x3 + iI 4).toNatClampNeg)) RM hRM) gL_law_X5_wrap rfl rfl rfl hdX5_wrap ⟨Nat.le_of_ble_eq_true rfl, Nat.le_of_ble_eq_true rfl⟩ [13, 14, 15, 16, 17, 18, 19] [0, 1, 2, 3, 4, 5, 6, 7, 8, 9, 10, 11, 12] rfl rfl rfl rfl rfl (by decide) rfl [0, 1, 2, 3, 4, 5, 6, 7, 8, 9, 10, 11, 12, 13, 14, 15, 16, 17, 18, 19] rfl rfl rfl 0 rfl rfl rfl hl.1 rfl (Nat.le_of_ble_eq_true rfl) dL_law_952 ⟨Nat.le_of_ble_eq_true rfl, Nat.le_of_ble_eq_true rfl⟩ (fun H locs hP hD hS => ?_)
      refine lv_icmp_eq (tgt := 1062) hx hb dL_law_955 (by decide) (fun _ => ?_) (fun cE => absurd hE cE)
      refine lv_iinc (v := x3 + iI 5) (lv' := [(3, .int (x3 + iI 5)), (0, .ref b), (1, .ref (qa 0)), (2, .ref (qm 0))]) hx hb dL_law_1062 hl (k := 3) rfl rfl (by decide) rfl (fun ls hl => ?_)
      refine lv_goto (tgt := 18) hx hb dL_law_1065 (by decide) ?_
      exact ih (i + 5) (x3 + iI 5) (by omega) (by omega) (by rw [ex3]; exact nI_add i 5) RA.2.1 RA.2.2.1 RA.2.2.2.1 xd xl wi RA.2.2.2.2.1 RA.2.2.2.2.2.1 RA.2.2.2.2.2.2.1 RA.2.2.2.2.2.2.2.1 RA.2.2.2.2.2.2.2.2 ln ch RM.2.1 RM.2.2.1 RM.2.2.2.1 RM.2.2.2.2.1 RM.2.2.2.2.2 mt mx me mg mw hI qa qm H locs hP hD hS ls (lv_sub hl [1, 2, 3, 0] rfl)
    by_cases k26 : sw = iI 26
    · refine lv_tableIn (tgt := 960) hx hb dL_law_32 (by rw [k26]; decide) (by rw [k26]; decide) (by rw [k26]; rfl) (by decide) ?_
      obtain ⟨RA, RM, hRA, hRM, hE, hI⟩ := st_remove I (xs (x3 + iI 1).toNatClampNeg)
      refine lv_aload_n hx hb dL_law_960 rfl (lv_at hl 1 rfl) ?_
      refine lv_aload_n hx hb dL_law_961 rfl (lv_at hl 0 rfl) ?_
      refine lv_iload_n hx hb dL_law_962 rfl (lv_at hl 3 rfl) ?_
      refine lv_iconst (v := iI 1) hx hb dL_law_963 rfl ?_
      refine lv_iadd hx hb dL_law_964 ?_
      refine va_sld hx hb hX hbl hbA hS (scr_in hi5 ex3 1 (by omega)) dL_law_965 ?_
      refine mcV (rest := []) (wld2 := (wA cI qa RA.2.1 RA.2.2.1 RA.2.2.2.1 xd xl wi RA.2.2.2.2.1 RA.2.2.2.2.2.1 RA.2.2.2.2.2.2.1 RA.2.2.2.2.2.2.2.1 RA.2.2.2.2.2.2.2.2 ln ch ++ wM cI cC qm mn md ml mk mr mt mx me mg mw)) (wr := pickAt [13, 14, 15, 16, 17, 18, 19] (wA cI qa n d lb xd xl wi sl kp ct gd gl ln ch ++ wM cI cC qm mn md ml mk mr mt mx me mg mw)) X hKK hP hD hS hA 1 (zX4_remove l D cI cC qa _ n d lb xd xl wi sl kp ct gd gl ln ch (xs (x3 + iI 1).toNatClampNeg) RA hRA) gL_law_X4_remove rfl rfl rfl hdX4_remove ⟨Nat.le_of_ble_eq_true rfl, Nat.le_of_ble_eq_true rfl⟩ [0, 1, 2, 3, 4, 5, 6, 7, 8, 9, 10, 11, 12] [13, 14, 15, 16, 17, 18, 19] rfl rfl rfl rfl rfl (by decide) rfl [7, 8, 9, 10, 11, 12, 13, 14, 15, 16, 17, 18, 19, 0, 1, 2, 3, 4, 5, 6] rfl rfl rfl 0 rfl rfl rfl hl.1 rfl (Nat.le_of_ble_eq_true rfl) dL_law_966 ⟨Nat.le_of_ble_eq_true rfl, Nat.le_of_ble_eq_true rfl⟩ (fun H locs hP hD hS => ?_)
      refine lv_aload_n hx hb dL_law_969 rfl (lv_at hl 2 rfl) ?_
      refine lv_aload_n hx hb dL_law_970 rfl (lv_at hl 0 rfl) ?_
      refine lv_iload_n hx hb dL_law_971 rfl (lv_at hl 3 rfl) ?_
      refine lv_iconst (v := iI 1) hx hb dL_law_972 rfl ?_
      refine lv_iadd hx hb dL_law_973 ?_
      refine va_sld hx hb hX hbl hbA hS (scr_in hi5 ex3 1 (by omega)) dL_law_974 ?_
      refine mcV (rest := [.int RA.1]) (wld2 := (wA cI qa RA.2.1 RA.2.2.1 RA.2.2.2.1 xd xl wi RA.2.2.2.2.1 RA.2.2.2.2.2.1 RA.2.2.2.2.2.2.1 RA.2.2.2.2.2.2.2.1 RA.2.2.2.2.2.2.2.2 ln ch ++ wM cI cC qm RM.2.1 RM.2.2.1 RM.2.2.2.1 RM.2.2.2.2.1 RM.2.2.2.2.2 mt mx me mg mw)) (wr := pickAt [0, 1, 2, 3, 4, 5, 6, 7, 8, 9, 10, 11, 12] (wA cI qa RA.2.1 RA.2.2.1 RA.2.2.2.1 xd xl wi RA.2.2.2.2.1 RA.2.2.2.2.2.1 RA.2.2.2.2.2.2.1 RA.2.2.2.2.2.2.2.1 RA.2.2.2.2.2.2.2.2 ln ch ++ wM cI cC qm mn md ml mk mr mt mx me mg mw)) X hKK hP hD hS hA 1 (zX5_remove l D cI cC qm _ mn md ml mk mr mt mx me mg mw (xs (x3 + iI 1).toNatClampNeg) RM hRM) gL_law_X5_remove rfl rfl rfl hdX5_remove ⟨Nat.le_of_ble_eq_true rfl, Nat.le_of_ble_eq_true rfl⟩ [13, 14, 15, 16, 17, 18, 19] [0, 1, 2, 3, 4, 5, 6, 7, 8, 9, 10, 11, 12] rfl rfl rfl rfl rfl (by decide) rfl [0, 1, 2, 3, 4, 5, 6, 7, 8, 9, 10, 11, 12, 13, 14, 15, 16, 17, 18, 19] rfl rfl rfl 0 rfl rfl rfl hl.1 rfl (Nat.le_of_ble_eq_true rfl) dL_law_975 ⟨Nat.le_of_ble_eq_true rfl, Nat.le_of_ble_eq_true rfl⟩ (fun H locs hP hD hS => ?_)
      refine lv_icmp_eq (tgt := 1062) hx hb dL_law_978 (by decide) (fun _ => ?_) (fun cE => absurd hE cE)
      refine lv_iinc (v := x3 + iI 5) (lv' := [(3, .int (x3 + iI 5)), (0, .ref b), (1, .ref (qa 0)), (2, .ref (qm 0))]) hx hb dL_law_1062 hl (k := 3) rfl rfl (by decide) rfl (fun ls hl => ?_)
      refine lv_goto (tgt := 18) hx hb dL_law_1065 (by decide) ?_
      exact ih (i + 5) (x3 + iI 5) (by omega) (by omega) (by rw [ex3]; exact nI_add i 5) RA.2.1 RA.2.2.1 RA.2.2.2.1 xd xl wi RA.2.2.2.2.1 RA.2.2.2.2.2.1 RA.2.2.2.2.2.2.1 RA.2.2.2.2.2.2.2.1 RA.2.2.2.2.2.2.2.2 ln ch RM.2.1 RM.2.2.1 RM.2.2.2.1 RM.2.2.2.2.1 RM.2.2.2.2.2 mt mx me mg mw hI qa qm H locs hP hD hS ls (lv_sub hl [1, 2, 3, 0] rfl)
    by_cases k27 : sw = iI 27
    · refine lv_tableIn (tgt := 983) hx hb dL_law_32 (by rw [k27]; decide) (by rw [k27]; decide) (by rw [k27]; rfl) (by decide) ?_
      obtain ⟨RA, RM, hRA, hRM, hE, hI⟩ := st_cut I (xs (x3 + iI 1).toNatClampNeg)
      refine lv_aload_n hx hb dL_law_983 rfl (lv_at hl 1 rfl) ?_
      refine lv_aload_n hx hb dL_law_984 rfl (lv_at hl 0 rfl) ?_
      refine lv_iload_n hx hb dL_law_985 rfl (lv_at hl 3 rfl) ?_
      refine lv_iconst (v := iI 1) hx hb dL_law_986 rfl ?_
      refine lv_iadd hx hb dL_law_987 ?_
      refine va_sld hx hb hX hbl hbA hS (scr_in hi5 ex3 1 (by omega)) dL_law_988 ?_
      refine mcV (rest := []) (wld2 := (wA cI qa RA.2.1 RA.2.2.1 RA.2.2.2.1 xd xl wi RA.2.2.2.2.1 RA.2.2.2.2.2.1 RA.2.2.2.2.2.2.1 RA.2.2.2.2.2.2.2.1 RA.2.2.2.2.2.2.2.2 ln ch ++ wM cI cC qm mn md ml mk mr mt mx me mg mw)) (wr := pickAt [13, 14, 15, 16, 17, 18, 19] (wA cI qa n d lb xd xl wi sl kp ct gd gl ln ch ++ wM cI cC qm mn md ml mk mr mt mx me mg mw)) X hKK hP hD hS hA 1 (zX4_cut l D cI cC qa _ n d lb xd xl wi sl kp ct gd gl ln ch (xs (x3 + iI 1).toNatClampNeg) RA hRA) gL_law_X4_cut rfl rfl rfl hdX4_cut ⟨Nat.le_of_ble_eq_true rfl, Nat.le_of_ble_eq_true rfl⟩ [0, 1, 2, 3, 4, 5, 6, 7, 8, 9, 10, 11, 12] [13, 14, 15, 16, 17, 18, 19] rfl rfl rfl rfl rfl (by decide) rfl [7, 8, 9, 10, 11, 12, 13, 14, 15, 16, 17, 18, 19, 0, 1, 2, 3, 4, 5, 6] rfl rfl rfl 0 rfl rfl rfl hl.1 rfl (Nat.le_of_ble_eq_true rfl) dL_law_989 ⟨Nat.le_of_ble_eq_true rfl, Nat.le_of_ble_eq_true rfl⟩ (fun H locs hP hD hS => ?_)
      refine lv_aload_n hx hb dL_law_992 rfl (lv_at hl 2 rfl) ?_
      refine lv_aload_n hx hb dL_law_993 rfl (lv_at hl 0 rfl) ?_
      refine lv_iload_n hx hb dL_law_994 rfl (lv_at hl 3 rfl) ?_
      refine lv_iconst (v := iI 1) hx hb dL_law_995 rfl ?_
      refine lv_iadd hx hb dL_law_996 ?_
      refine va_sld hx hb hX hbl hbA hS (scr_in hi5 ex3 1 (by omega)) dL_law_997 ?_
      refine mcV (rest := [.int RA.1]) (wld2 := (wA cI qa RA.2.1 RA.2.2.1 RA.2.2.2.1 xd xl wi RA.2.2.2.2.1 RA.2.2.2.2.2.1 RA.2.2.2.2.2.2.1 RA.2.2.2.2.2.2.2.1 RA.2.2.2.2.2.2.2.2 ln ch ++ wM cI cC qm RM.2.1 RM.2.2.1 RM.2.2.2.1 RM.2.2.2.2.1 RM.2.2.2.2.2 mt mx me mg mw)) (wr := pickAt [0, 1, 2, 3, 4, 5, 6, 7, 8, 9, 10, 11, 12] (wA cI qa RA.2.1 RA.2.2.1 RA.2.2.2.1 xd xl wi RA.2.2.2.2.1 RA.2.2.2.2.2.1 RA.2.2.2.2.2.2.1 RA.2.2.2.2.2.2.2.1 RA.2.2.2.2.2.2.2.2 ln ch ++ wM cI cC qm mn md ml mk mr mt mx me mg mw)) X hKK hP hD hS hA 1 (zX5_cut l D cI cC qm _ mn md ml mk mr mt mx me mg mw (xs (x3 + iI 1).toNatClampNeg) RM hRM) gL_law_X5_cut rfl rfl rfl hdX5_cut ⟨Nat.le_of_ble_eq_true rfl, Nat.le_of_ble_eq_true rfl⟩ [13, 14, 15, 16, 17, 18, 19] [0, 1, 2, 3, 4, 5, 6, 7, 8, 9, 10, 11, 12] rfl rfl rfl rfl rfl (by decide) rfl [0, 1, 2, 3, 4, 5, 6, 7, 8, 9, 10, 11, 12, 13, 14, 15, 16, 17, 18, 19] rfl rfl rfl 0 rfl rfl rfl hl.1 rfl (Nat.le_of_ble_eq_true rfl) dL_law_998 ⟨Nat.le_of_ble_eq_true rfl, Nat.le_of_ble_eq_true rfl⟩ (fun H locs hP hD hS => ?_)
      refine lv_icmp_eq (tgt := 1062) hx hb dL_law_1001 (by decide) (fun _ => ?_) (fun cE => absurd hE cE)
      refine lv_iinc (v := x3 + iI 5) (lv' := [(3, .int (x3 + iI 5)), (0, .ref b), (1, .ref (qa 0)), (2, .ref (qm 0))]) hx hb dL_law_1062 hl (k := 3) rfl rfl (by decide) rfl (fun ls hl => ?_)
      refine lv_goto (tgt := 18) hx hb dL_law_1065 (by decide) ?_
      exact ih (i + 5) (x3 + iI 5) (by omega) (by omega) (by rw [ex3]; exact nI_add i 5) RA.2.1 RA.2.2.1 RA.2.2.2.1 xd xl wi RA.2.2.2.2.1 RA.2.2.2.2.2.1 RA.2.2.2.2.2.2.1 RA.2.2.2.2.2.2.2.1 RA.2.2.2.2.2.2.2.2 ln ch RM.2.1 RM.2.2.1 RM.2.2.2.1 RM.2.2.2.2.1 RM.2.2.2.2.2 mt mx me mg mw hI qa qm H locs hP hD hS ls (lv_sub hl [1, 2, 3, 0] rfl)
    by_cases k28 : sw = iI 28
    · refine lv_tableIn (tgt := 1006) hx hb dL_law_32 (by rw [k28]; decide) (by rw [k28]; decide) (by rw [k28]; rfl) (by decide) ?_
      obtain ⟨RA, RM, hRA, hRM, hE, hI⟩ := st_move I (xs (x3 + iI 1).toNatClampNeg) (xs (x3 + iI 2).toNatClampNeg) (xs (x3 + iI 3).toNatClampNeg)
      refine lv_aload_n hx hb dL_law_1006 rfl (lv_at hl 1 rfl) ?_
      refine lv_aload_n hx hb dL_law_1007 rfl (lv_at hl 0 rfl) ?_
      refine lv_iload_n hx hb dL_law_1008 rfl (lv_at hl 3 rfl) ?_
      refine lv_iconst (v := iI 1) hx hb dL_law_1009 rfl ?_
      refine lv_iadd hx hb dL_law_1010 ?_
      refine va_sld hx hb hX hbl hbA hS (scr_in hi5 ex3 1 (by omega)) dL_law_1011 ?_
      refine lv_aload_n hx hb dL_law_1012 rfl (lv_at hl 0 rfl) ?_
      refine lv_iload_n hx hb dL_law_1013 rfl (lv_at hl 3 rfl) ?_
      refine lv_iconst (v := iI 2) hx hb dL_law_1014 rfl ?_
      refine lv_iadd hx hb dL_law_1015 ?_
      refine va_sld hx hb hX hbl hbA hS (scr_in hi5 ex3 2 (by omega)) dL_law_1016 ?_
      refine lv_aload_n hx hb dL_law_1017 rfl (lv_at hl 0 rfl) ?_
      refine lv_iload_n hx hb dL_law_1018 rfl (lv_at hl 3 rfl) ?_
      refine lv_iconst (v := iI 3) hx hb dL_law_1019 rfl ?_
      refine lv_iadd hx hb dL_law_1020 ?_
      refine va_sld hx hb hX hbl hbA hS (scr_in hi5 ex3 3 (by omega)) dL_law_1021 ?_
      refine mcV (rest := []) (wld2 := (wA cI qa RA.2.1 RA.2.2.1 RA.2.2.2.1 RA.2.2.2.2.1 RA.2.2.2.2.2.1 wi RA.2.2.2.2.2.2.1 RA.2.2.2.2.2.2.2.1 RA.2.2.2.2.2.2.2.2.1 RA.2.2.2.2.2.2.2.2.2.1 RA.2.2.2.2.2.2.2.2.2.2 ln ch ++ wM cI cC qm mn md ml mk mr mt mx me mg mw)) (wr := pickAt [13, 14, 15, 16, 17, 18, 19] (wA cI qa n d lb xd xl wi sl kp ct gd gl ln ch ++ wM cI cC qm mn md ml mk mr mt mx me mg mw)) X hKK hP hD hS hA 3 (zX4_move l D cI cC qa _ n d lb xd xl wi sl kp ct gd gl ln ch (xs (x3 + iI 1).toNatClampNeg) (xs (x3 + iI 2).toNatClampNeg) (xs (x3 + iI 3).toNatClampNeg) RA hRA) gL_law_X4_move rfl rfl rfl hdX4_move ⟨Nat.le_of_ble_eq_true rfl, Nat.le_of_ble_eq_true rfl⟩ [0, 1, 2, 3, 4, 5, 6, 7, 8, 9, 10, 11, 12] [13, 14, 15, 16, 17, 18, 19] rfl rfl rfl rfl rfl (by decide) rfl [7, 8, 9, 10, 11, 12, 13, 14, 15, 16, 17, 18, 19, 0, 1, 2, 3, 4, 5, 6] rfl rfl rfl 0 rfl rfl rfl hl.1 rfl (Nat.le_of_ble_eq_true rfl) dL_law_1022 ⟨Nat.le_of_ble_eq_true rfl, Nat.le_of_ble_eq_true rfl⟩ (fun H locs hP hD hS => ?_)
      refine lv_aload_n hx hb dL_law_1025 rfl (lv_at hl 2 rfl) ?_
      refine lv_aload_n hx hb dL_law_1026 rfl (lv_at hl 0 rfl) ?_
      refine lv_iload_n hx hb dL_law_1027 rfl (lv_at hl 3 rfl) ?_
      refine lv_iconst (v := iI 1) hx hb dL_law_1028 rfl ?_
      refine lv_iadd hx hb dL_law_1029 ?_
      refine va_sld hx hb hX hbl hbA hS (scr_in hi5 ex3 1 (by omega)) dL_law_1030 ?_
      refine lv_aload_n hx hb dL_law_1031 rfl (lv_at hl 0 rfl) ?_
      refine lv_iload_n hx hb dL_law_1032 rfl (lv_at hl 3 rfl) ?_
      refine lv_iconst (v := iI 2) hx hb dL_law_1033 rfl ?_
      refine lv_iadd hx hb dL_law_1034 ?_
      refine va_sld hx hb hX hbl hbA hS (scr_in hi5 ex3 2 (by omega)) dL_law_1035 ?_
      refine lv_aload_n hx hb dL_law_1036 rfl (lv_at hl 0 rfl) ?_
      refine lv_iload_n hx hb dL_law_1037 rfl (lv_at hl 3 rfl) ?_
      refine lv_iconst (v := iI 3) hx hb dL_law_1038 rfl ?_
      refine lv_iadd hx hb dL_law_1039 ?_
      refine va_sld hx hb hX hbl hbA hS (scr_in hi5 ex3 3 (by omega)) dL_law_1040 ?_
      refine mcV (rest := [.int RA.1]) (wld2 := (wA cI qa RA.2.1 RA.2.2.1 RA.2.2.2.1 RA.2.2.2.2.1 RA.2.2.2.2.2.1 wi RA.2.2.2.2.2.2.1 RA.2.2.2.2.2.2.2.1 RA.2.2.2.2.2.2.2.2.1 RA.2.2.2.2.2.2.2.2.2.1 RA.2.2.2.2.2.2.2.2.2.2 ln ch ++ wM cI cC qm RM.2.1 RM.2.2.1 RM.2.2.2.1 RM.2.2.2.2.1 RM.2.2.2.2.2.1 mt mx RM.2.2.2.2.2.2.1 RM.2.2.2.2.2.2.2 mw)) (wr := pickAt [0, 1, 2, 3, 4, 5, 6, 7, 8, 9, 10, 11, 12] (wA cI qa RA.2.1 RA.2.2.1 RA.2.2.2.1 RA.2.2.2.2.1 RA.2.2.2.2.2.1 wi RA.2.2.2.2.2.2.1 RA.2.2.2.2.2.2.2.1 RA.2.2.2.2.2.2.2.2.1 RA.2.2.2.2.2.2.2.2.2.1 RA.2.2.2.2.2.2.2.2.2.2 ln ch ++ wM cI cC qm mn md ml mk mr mt mx me mg mw)) X hKK hP hD hS hA 3 (zX5_move l D cI cC qm _ mn md ml mk mr mt mx me mg mw (xs (x3 + iI 1).toNatClampNeg) (xs (x3 + iI 2).toNatClampNeg) (xs (x3 + iI 3).toNatClampNeg) RM hRM) gL_law_X5_move rfl rfl rfl hdX5_move ⟨Nat.le_of_ble_eq_true rfl, Nat.le_of_ble_eq_true rfl⟩ [13, 14, 15, 16, 17, 18, 19] [0, 1, 2, 3, 4, 5, 6, 7, 8, 9, 10, 11, 12] rfl rfl rfl rfl rfl (by decide) rfl [0, 1, 2, 3, 4, 5, 6, 7, 8, 9, 10, 11, 12, 13, 14, 15, 16, 17, 18, 19] rfl rfl rfl 0 rfl rfl rfl hl.1 rfl (Nat.le_of_ble_eq_true rfl) dL_law_1041 ⟨Nat.le_of_ble_eq_true rfl, Nat.le_of_ble_eq_true rfl⟩ (fun H locs hP hD hS => ?_)
      refine lv_icmp_eq (tgt := 1062) hx hb dL_law_1044 (by decide) (fun _ => ?_) (fun cE => absurd hE cE)
      refine lv_iinc (v := x3 + iI 5) (lv' := [(3, .int (x3 + iI 5)), (0, .ref b), (1, .ref (qa 0)), (2, .ref (qm 0))]) hx hb dL_law_1062 hl (k := 3) rfl rfl (by decide) rfl (fun ls hl => ?_)
      refine lv_goto (tgt := 18) hx hb dL_law_1065 (by decide) ?_
      exact ih (i + 5) (x3 + iI 5) (by omega) (by omega) (by rw [ex3]; exact nI_add i 5) RA.2.1 RA.2.2.1 RA.2.2.2.1 RA.2.2.2.2.1 RA.2.2.2.2.2.1 wi RA.2.2.2.2.2.2.1 RA.2.2.2.2.2.2.2.1 RA.2.2.2.2.2.2.2.2.1 RA.2.2.2.2.2.2.2.2.2.1 RA.2.2.2.2.2.2.2.2.2.2 ln ch RM.2.1 RM.2.2.1 RM.2.2.2.1 RM.2.2.2.2.1 RM.2.2.2.2.2.1 mt mx RM.2.2.2.2.2.2.1 RM.2.2.2.2.2.2.2 mw hI qa qm H locs hP hD hS ls (lv_sub hl [1, 2, 3, 0] rfl)
    by_cases k29 : sw = iI 29
    · refine lv_tableIn (tgt := 1049) hx hb dL_law_32 (by rw [k29]; decide) (by rw [k29]; decide) (by rw [k29]; rfl) (by decide) ?_
      obtain ⟨RA, RM, hRA, hRM, hE, hI⟩ := st_undo I 
      refine lv_aload_n hx hb dL_law_1049 rfl (lv_at hl 1 rfl) ?_
      refine mcV (rest := []) (wld2 := (wA cI qa RA.2.1 RA.2.2.1 RA.2.2.2.1 xd xl wi RA.2.2.2.2.1 RA.2.2.2.2.2 ct gd gl ln ch ++ wM cI cC qm mn md ml mk mr mt mx me mg mw)) (wr := pickAt [13, 14, 15, 16, 17, 18, 19] (wA cI qa n d lb xd xl wi sl kp ct gd gl ln ch ++ wM cI cC qm mn md ml mk mr mt mx me mg mw)) X hKK hP hD hS hA 0 (zX4_undo l D cI cC qa _ n d lb xd xl wi sl kp ct gd gl ln ch  RA hRA) gL_law_X4_undo rfl rfl rfl hdX4_undo ⟨Nat.le_of_ble_eq_true rfl, Nat.le_of_ble_eq_true rfl⟩ [0, 1, 2, 3, 4, 5, 6, 7, 8, 9, 10, 11, 12] [13, 14, 15, 16, 17, 18, 19] rfl rfl rfl rfl rfl (by decide) rfl [7, 8, 9, 10, 11, 12, 13, 14, 15, 16, 17, 18, 19, 0, 1, 2, 3, 4, 5, 6] rfl rfl rfl 0 rfl rfl rfl hl.1 rfl (Nat.le_of_ble_eq_true rfl) dL_law_1050 ⟨Nat.le_of_ble_eq_true rfl, Nat.le_of_ble_eq_true rfl⟩ (fun H locs hP hD hS => ?_)
      refine lv_aload_n hx hb dL_law_1053 rfl (lv_at hl 2 rfl) ?_
      refine mcV (rest := [.int RA.1]) (wld2 := (wA cI qa RA.2.1 RA.2.2.1 RA.2.2.2.1 xd xl wi RA.2.2.2.2.1 RA.2.2.2.2.2 ct gd gl ln ch ++ wM cI cC qm RM.2.1 RM.2.2.1 RM.2.2.2.1 RM.2.2.2.2 mr mt mx me mg mw)) (wr := pickAt [0, 1, 2, 3, 4, 5, 6, 7, 8, 9, 10, 11, 12] (wA cI qa RA.2.1 RA.2.2.1 RA.2.2.2.1 xd xl wi RA.2.2.2.2.1 RA.2.2.2.2.2 ct gd gl ln ch ++ wM cI cC qm mn md ml mk mr mt mx me mg mw)) X hKK hP hD hS hA 0 (zX5_undo l D cI cC qm _ mn md ml mk mr mt mx me mg mw  RM hRM) gL_law_X5_undo rfl rfl rfl hdX5_undo ⟨Nat.le_of_ble_eq_true rfl, Nat.le_of_ble_eq_true rfl⟩ [13, 14, 15, 16, 17, 18, 19] [0, 1, 2, 3, 4, 5, 6, 7, 8, 9, 10, 11, 12] rfl rfl rfl rfl rfl (by decide) rfl [0, 1, 2, 3, 4, 5, 6, 7, 8, 9, 10, 11, 12, 13, 14, 15, 16, 17, 18, 19] rfl rfl rfl 0 rfl rfl rfl hl.1 rfl (Nat.le_of_ble_eq_true rfl) dL_law_1054 ⟨Nat.le_of_ble_eq_true rfl, Nat.le_of_ble_eq_true rfl⟩ (fun H locs hP hD hS => ?_)
      refine lv_icmp_eq (tgt := 1062) hx hb dL_law_1057 (by decide) (fun _ => ?_) (fun cE => absurd hE cE)
      refine lv_iinc (v := x3 + iI 5) (lv' := [(3, .int (x3 + iI 5)), (0, .ref b), (1, .ref (qa 0)), (2, .ref (qm 0))]) hx hb dL_law_1062 hl (k := 3) rfl rfl (by decide) rfl (fun ls hl => ?_)
      refine lv_goto (tgt := 18) hx hb dL_law_1065 (by decide) ?_
      exact ih (i + 5) (x3 + iI 5) (by omega) (by omega) (by rw [ex3]; exact nI_add i 5) RA.2.1 RA.2.2.1 RA.2.2.2.1 xd xl wi RA.2.2.2.2.1 RA.2.2.2.2.2 ct gd gl ln ch RM.2.1 RM.2.2.1 RM.2.2.2.1 RM.2.2.2.2 mr mt mx me mg mw hI qa qm H locs hP hD hS ls (lv_sub hl [1, 2, 3, 0] rfl)
    refine lv_tableOut (tgt := 1062) hx hb dL_law_32 (sw29 k0 k1 k2 k3 k4 k5 k6 k7 k8 k9 k10 k11 k12 k13 k14 k15 k16 k17 k18 k19 k20 k21 k22 k23 k24 k25 k26 k27 k28 k29) (by decide) ?_
    refine lv_iinc (v := x3 + iI 5) (lv' := [(3, .int (x3 + iI 5)), (0, .ref b), (1, .ref (qa 0)), (2, .ref (qm 0))]) hx hb dL_law_1062 hl (k := 3) rfl rfl (by decide) rfl (fun ls hl => ?_)
    refine lv_goto (tgt := 18) hx hb dL_law_1065 (by decide) ?_
    exact ih (i + 5) (x3 + iI 5) (by omega) (by omega) (by rw [ex3]; exact nI_add i 5) n d lb xd xl wi sl kp ct gd gl ln ch mn md ml mk mr mt mx me mg mw I qa qm H locs hP hD hS ls (lv_sub hl [1, 2, 3, 0] rfl)
