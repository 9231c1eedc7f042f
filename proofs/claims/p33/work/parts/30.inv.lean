/-! 30: the mathematical value of a tree (N nodes, depths F, labels G, by preorder), of the kept trees and of the text -/
/-- a tree by depths in preorder; F is 0 outside -/
def TV (N : Int) (F G : Int → Int) : Prop := 1 ≤ N ∧ N ≤ 100 ∧ F 0 = 0 ∧ (∀ i, 0 < i → i < N → 1 ≤ F i ∧ F i ≤ F (i - 1) + 1) ∧ (∀ i, i < 0 ∨ N ≤ i → F i = 0) ∧ (∀ i, 0 ≤ i → i < N → 97 ≤ G i ∧ G i ≤ 122)
/-- rows hold a tree -/
def TR (N : Int) (F G : Int → Int) (n : Int32) (d lb : Nat → Int32) : Prop := TV N F G ∧ n = iI N ∧ (∀ i, 0 ≤ i → i < N → d i.toNat = iI (F i)) ∧ (∀ i, 0 ≤ i → i < N → lb i.toNat = iI (G i))
theorem iI_nat (n : Nat) : iI (n : Int) = nI n := by
  unfold iI nI
  first | exact Int32.ofInt_eq_ofNat | exact (Int32.ofInt_eq_ofNat).symm | exact Int32.ofInt_natCast n | simp
/-- the place in the ring of the j-th kept tree, the latest first -/
def slotOf (S j : Int) : Int := (S + 14 - j) % 15
/-- a kept tree -/
def HT (p N : Int) (F G : Int → Int) (ct gd gl : Nat → Int32) : Prop := TV N F G ∧ ct p.toNat = iI N ∧ (∀ i, 0 ≤ i → i < N → gd (100 * p + i).toNat = iI (F i) ∧ gl (100 * p + i).toNat = iI (G i))
/-- the ring: its next place S, K trees kept -/
def HI (S K : Int) (ct gd gl : Nat → Int32) : Prop := 0 ≤ S ∧ S < 15 ∧ 0 ≤ K ∧ K ≤ 15 ∧ ∀ j, 0 ≤ j → j < K → ∃ (N : Int) (F G : Int → Int), HT (slotOf S j) N F G ct gd gl
