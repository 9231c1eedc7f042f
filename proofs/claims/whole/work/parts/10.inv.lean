/-! 10: the mathematical value of a tree (N nodes, depths F, labels G, by preorder), and the invariant that ties landed code and reference -/
/-- a tree by depths in preorder; F is 0 outside -/
def TV (N : Int) (F G : Int → Int) : Prop := 1 ≤ N ∧ N ≤ 100 ∧ F 0 = 0 ∧ (∀ i, 0 < i → i < N → 1 ≤ F i ∧ F i ≤ F (i - 1) + 1) ∧ (∀ i, i < 0 ∨ N ≤ i → F i = 0) ∧ (∀ i, 0 ≤ i → i < N → 97 ≤ G i ∧ G i ≤ 122)
/-- rows hold a tree -/
def TR (N : Int) (F G : Int → Int) (n : Int32) (d lb : Nat → Int32) : Prop := TV N F G ∧ n = iI N ∧ (∀ i, 0 ≤ i → i < N → d i.toNat = iI (F i)) ∧ (∀ i, 0 ≤ i → i < N → lb i.toNat = iI (G i))
/-- place of the j-th kept tree in the ring -/
def slotOf (S K j : Int) : Int := (S - K + j + 15) % 15
/-- rows in which both keep a tree -/
def HR (p j : Int) (ct gd gl mr : Nat → Int32) : Prop := ∃ (N : Int) (F G : Int → Int), TV N F G ∧ ct p.toNat = iI N ∧ (∀ i, 0 ≤ i → i < N → gd (100 * p + i).toNat = iI (F i)) ∧ (∀ i, 0 ≤ i → i < N → gl (100 * p + i).toNat = iI (G i)) ∧
  mr (201 * j).toNat = iI N ∧ (∀ i, 0 ≤ i → i < N → mr (201 * j + 1 + i).toNat = iI (F i)) ∧ (∀ i, 0 ≤ i → i < N → mr (201 * j + 101 + i).toNat = iI (G i))
def HI (sl kp : Int32) (ct gd gl : Nat → Int32) (mk : Int32) (mr : Nat → Int32) : Prop := ∃ (S K : Int), sl = iI S ∧ kp = iI K ∧ mk = iI K ∧ 0 ≤ S ∧ S < 15 ∧ 0 ≤ K ∧ K ≤ 15 ∧ ∀ j, 0 ≤ j → j < K → HR (slotOf S K j) j ct gd gl mr
def XI (ln : Int32) (ch : Nat → Int32) (mt : Int32) (mx : Nat → Int32) : Prop := ∃ (t : Int) (E : Int → Int), ln = iI t ∧ mt = iI t ∧ 0 ≤ t ∧ t ≤ 300 ∧ (∀ i, 0 ≤ i → i < t → ch i.toNat = iI (E i) ∧ mx i.toNat = iI (E i) ∧ 0 ≤ E i ∧ E i < 65536)
def WI (wi mw : Int32) : Prop := ∃ w : Int, wi = iI w ∧ mw = iI w ∧ 4 ≤ w ∧ w ≤ 32
def TT (n : Int32) (d lb : Nat → Int32) (mn : Int32) (md ml : Nat → Int32) : Prop := ∃ (N : Int) (F G : Int → Int), TR N F G n d lb ∧ TR N F G mn md ml
/-- landed code and reference in one state -/
def Inv (n : Int32) (d lb : Nat → Int32) (wi sl kp : Int32) (ct gd gl : Nat → Int32) (ln : Int32) (ch : Nat → Int32) (mn : Int32) (md ml : Nat → Int32) (mk : Int32) (mr : Nat → Int32) (mt : Int32) (mx : Nat → Int32) (mw : Int32) : Prop :=
  TT n d lb mn md ml ∧ WI wi mw ∧ HI sl kp ct gd gl mk mr ∧ XI ln ch mt mx
theorem iI_nat (n : Nat) : iI (n : Int) = nI n := by
  unfold iI nI
  first | exact Int32.ofInt_eq_ofNat | exact (Int32.ofInt_eq_ofNat).symm | exact Int32.ofInt_natCast n | simp
