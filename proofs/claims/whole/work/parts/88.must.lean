/-- the reference's fault is set -/
def flt (S : hp) (x : Int32) : hp := setI (setI S 35 15 x) 35 16 (hI S 35 12)
theorem e_bad0 {Q : hp → Prop} {S : hp} {x : Int32} (hL : Lay S) (h : hI S 35 15 = 0) : wp_X12_bad Q S 35 x ↔ Q (flt S x) := by
  unfold wp_X12_bad
  simp only [hL.eqs, h, ↓reduceIte, Nat.reduceEqDiff, and_false, false_and, true_and, and_true, forall_eq, forall_eq', exists_eq_left, exists_eq_left', Option.some.injEq, eq_self_iff_true, not_true, not_false_iff, false_implies, true_implies, forall_const, reduceCtorEq, ne_eq]
  have : hI (setI S 35 15 x) 35 12 = hI S 35 12 := by simp [hI_setI]
  rw [this]; rfl
theorem e_bad1 {Q : hp → Prop} {S : hp} {x : Int32} (hL : Lay S) (h : ¬ hI S 35 15 = 0) : wp_X12_bad Q S 35 x ↔ Q S := by
  unfold wp_X12_bad
  simp only [hL.eqs, h, ↓reduceIte, Nat.reduceEqDiff, and_false, false_and, true_and, and_true, forall_eq, forall_eq', exists_eq_left, exists_eq_left', Option.some.injEq, eq_self_iff_true, not_true, not_false_iff, false_implies, true_implies, forall_const, reduceCtorEq, ne_eq]
theorem flt_15 (S : hp) (x : Int32) : hI (flt S x) 35 15 = x := by simp [flt, hI_setI]
theorem Lay_flt {S : hp} {x : Int32} (h : Lay S) : Lay (flt S x) := h
theorem e_must1 {Q : hp → Prop} {S : hp} {x : Int32} (hL : Lay S) (h : ¬ hI S 35 15 = 0) : wp_X12_must Q S 35 x ↔ Q S := by
  unfold wp_X12_must wB_X12_must_9
  simp only [hL.eqs, h, e_bad1 hL h, ↓reduceIte, Nat.reduceEqDiff, and_false, false_and, true_and, and_true, forall_eq, forall_eq', exists_eq_left, exists_eq_left', Option.some.injEq, eq_self_iff_true, not_true, not_false_iff, false_implies, true_implies, forall_const, reduceCtorEq, ne_eq]
  exact ⟨fun q => (Classical.em (x = 0)).elim q.2 q.1, fun q => ⟨fun _ => q, fun _ => q⟩⟩
theorem e_mustF {Q : hp → Prop} {S : hp} (hL : Lay S) (h : hI S 35 15 = 0) : wp_X12_must Q S 35 0 ↔ Q (flt S 1) := by
  unfold wp_X12_must wB_X12_must_9
  have k := (Lay_flt (x := 1) hL).eqs.1
  simp only [hL.eqs, e_bad0 hL h, flt_15, show hK (flt S 1) = hK S from rfl, i1_ne0, ↓reduceIte, Nat.reduceEqDiff, and_false, false_and, true_and, and_true, forall_eq, forall_eq', exists_eq_left, exists_eq_left', Option.some.injEq, eq_self_iff_true, not_true, not_false_iff, false_implies, true_implies, forall_const, reduceCtorEq, ne_eq]
theorem e_mustT {Q : hp → Prop} {S : hp} {x : Int32} (hL : Lay S) (h : hI S 35 15 = 0) (hx : ¬ x = 0) : wp_X12_must Q S 35 x ↔ wp_X12_nextToken Q S 35 := by
  unfold wp_X12_must wB_X12_must_9
  simp only [hL.eqs, h, hx, ↓reduceIte, Nat.reduceEqDiff, and_false, false_and, true_and, and_true, forall_eq, forall_eq', exists_eq_left, exists_eq_left', Option.some.injEq, eq_self_iff_true, not_true, not_false_iff, false_implies, true_implies, forall_const, reduceCtorEq, ne_eq]
theorem e_sign1 {Q : hp → Prop} {S : hp} {x : Int32} (hL : Lay S) (h : ¬ hI S 35 15 = 0) : wp_X12_mustSign Q S 35 x ↔ Q S := by
  unfold wp_X12_mustSign wB_X12_mustSign_21 wB_X12_mustSign_22
  simp only [hL.eqs, e_must1 hL h, ↓reduceIte, Nat.reduceEqDiff, and_false, false_and, true_and, and_true, forall_eq, forall_eq', exists_eq_left, exists_eq_left', Option.some.injEq, eq_self_iff_true, not_true, not_false_iff, false_implies, true_implies, forall_const, reduceCtorEq, ne_eq]
  constructor
  · intro q
    by_cases c : hI S 35 13 = 4
    · by_cases c2 : hI S 35 14 = x
      · exact (q.2 c).2 c2
      · exact (q.2 c).1 c2
    · exact q.1 c
  · exact fun q => ⟨fun _ => q, fun _ => ⟨fun _ => q, fun _ => q⟩⟩
theorem e_sign0 {Q : hp → Prop} {S : hp} {x : Int32} (hL : Lay S) (h : hI S 35 15 = 0) : wp_X12_mustSign Q S 35 x ↔ (if hI S 35 13 = 4 ∧ hI S 35 14 = x then wp_X12_nextToken Q S 35 else Q (flt S 1)) := by
  unfold wp_X12_mustSign wB_X12_mustSign_21 wB_X12_mustSign_22
  simp only [hL.eqs, e_mustF hL h, e_mustT hL h (show ¬ (1 : Int32) = 0 by decide), ↓reduceIte, Nat.reduceEqDiff, and_false, false_and, true_and, and_true, forall_eq, forall_eq', exists_eq_left, exists_eq_left', Option.some.injEq, eq_self_iff_true, not_true, not_false_iff, false_implies, true_implies, forall_const, reduceCtorEq, ne_eq]
  by_cases c : hI S 35 13 = 4
  · by_cases c2 : hI S 35 14 = x
    · simp [c, c2]
    · simp [c, c2]
  · simp [c]
theorem e_num1 {Q : Int32 → hp → Prop} {S : hp} {lo hi : Int32} (hL : Lay S) (h : ¬ hI S 35 15 = 0) : wp_X12_number Q S 35 lo hi ↔ Q lo S := by
  unfold wp_X12_number wB_X12_number_20 wB_X12_number_47 wB_X12_number_62
  simp only [hL.eqs, h, e_must1 hL h, ↓reduceIte, Nat.reduceEqDiff, and_false, false_and, true_and, and_true, forall_eq, forall_eq', exists_eq_left, exists_eq_left', Option.some.injEq, eq_self_iff_true, not_true, not_false_iff, false_implies, true_implies, forall_const, reduceCtorEq, ne_eq]
theorem e_num0 {Q : Int32 → hp → Prop} {S : hp} {lo hi : Int32} (hL : Lay S) (h : hI S 35 15 = 0) : wp_X12_number Q S 35 lo hi ↔ (if hI S 35 13 = 3 then (if rg (hI S 35 14) lo.toInt hi.toInt = true then wp_X12_nextToken (fun S1 => Q (hI S 35 14) S1) S 35 else Q lo (flt S 2)) else Q lo (flt S 1)) := by
  have f1 : ¬ hI (flt S 1) 35 15 = 0 := by rw [flt_15]; decide
  have f2 : ¬ hI (flt S 2) 35 15 = 0 := by rw [flt_15]; decide
  unfold wp_X12_number wB_X12_number_20 wB_X12_number_47 wB_X12_number_62
  simp only [hL.eqs, h, e_bad0 hL h, e_mustT hL h (show ¬ (1 : Int32) = 0 by decide), e_in, Int32.toInt_toInt64, bI0, f1, f2, show hK (flt S 1) = hK S from rfl, show hK (flt S 2) = hK S from rfl, e_must1 (Lay_flt (x := 1) hL) f1, e_must1 (Lay_flt (x := 2) hL) f2, ↓reduceIte, Nat.reduceEqDiff, and_false, false_and, true_and, and_true, forall_eq, forall_eq', exists_eq_left, exists_eq_left', Option.some.injEq, eq_self_iff_true, not_true, not_false_iff, false_implies, true_implies, forall_const, reduceCtorEq, ne_eq]
  by_cases c : hI S 35 13 = 3
  · cases c2 : rg (hI S 35 14) lo.toInt hi.toInt <;> simp [c]
  · simp [c]
