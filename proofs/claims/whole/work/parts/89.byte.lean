/-! the class's tape: cell 14, its bytes 15 -/
/-- a fault of the class at its position -/
def fltC (S : hp) (x : Int32) : hp := setI (setI S 14 2 x) 14 3 (hI S 14 4)
theorem e_fault {Q : Int32 → hp → Prop} {S : hp} {x : Int32} (hL : Lay S) : wp_X9_isFault Q S 14 x ↔ Q 0 (fltC S x) := by
  unfold wp_X9_isFault
  simp only [hL.eqs, ↓reduceIte, Nat.reduceEqDiff, and_false, false_and, true_and, and_true, forall_eq, forall_eq', exists_eq_left, exists_eq_left', Option.some.injEq, eq_self_iff_true, not_true, not_false_iff, false_implies, true_implies, forall_const, reduceCtorEq, ne_eq]
  have : hI (setI S 14 2 x) 14 4 = hI S 14 4 := by simp [hI_setI]
  rw [this]; rfl
theorem e_comes {Q : Int32 → hp → Prop} {S : hp} {n p : Nat} {x : Int32} (hL : Lay S) (hn : n ≤ 140) (h1 : hI S 14 1 = nI n) (h4 : hI S 14 4 = nI p) (hp : p ≤ n) : wp_X9_comes Q S 14 x ↔ Q (bI (decide (p < n) && decide (hI S 15 p = x))) S := by
  unfold wp_X9_comes
  simp only [hL.eqs, h1, h4, ↓reduceIte, Nat.reduceEqDiff, and_false, false_and, true_and, and_true, forall_eq, forall_eq', exists_eq_left, exists_eq_left', Option.some.injEq, eq_self_iff_true, not_true, not_false_iff, false_implies, true_implies, forall_const, reduceCtorEq, ne_eq]
  by_cases c : p < n
  · have q : ¬ nI n ≤ nI p := nI_ge (by omega) (by omega)
    simp only [q, show vp_in (nI p) 140 from vp_in_nI (by omega) (by omega), nI_clamp (show p < 2 ^ 31 by omega), ↓reduceIte, Nat.reduceEqDiff, and_false, false_and, true_and, and_true, forall_eq, forall_eq', exists_eq_left, exists_eq_left', Option.some.injEq, eq_self_iff_true, not_true, not_false_iff, false_implies, true_implies, forall_const, reduceCtorEq, ne_eq]
    by_cases c2 : hI S 15 p = x <;> simp [c, c2, bI]
  · have q : nI n ≤ nI p := nI_le (by omega) (by omega)
    simp [q, c, bI]
theorem e_readByte {Q : Int32 → hp → Prop} {S : hp} {n p : Nat} {x : Int32} (hL : Lay S) (hn : n ≤ 140) (h1 : hI S 14 1 = nI n) (h4 : hI S 14 4 = nI p) (hp : p ≤ n) : wp_X9_readByte Q S 14 x ↔ (if p < n ∧ hI S 15 p = x then Q 1 (setI S 14 4 (nI (p + 1))) else Q 0 (fltC S 1)) := by
  unfold wp_X9_readByte
  simp only [hL.eqs, e_comes hL hn h1 h4 hp, e_fault hL, bI0, h4, nI_1, show isZ 0 from Or.inl rfl, ↓reduceIte, Nat.reduceEqDiff, and_false, false_and, true_and, and_true, forall_eq, forall_eq', exists_eq_left, exists_eq_left', Option.some.injEq, eq_self_iff_true, not_true, not_false_iff, false_implies, true_implies, forall_const, reduceCtorEq, ne_eq]
  by_cases c : p < n ∧ hI S 15 p = x
  · simp [c]
  · rw [if_neg c]
    have : (decide (p < n) && decide (hI S 15 p = x)) = false := by
      cases e : (decide (p < n) && decide (hI S 15 p = x)) with
      | false => rfl
      | true => exact absurd (by simpa using e) c
    simp [this]
