theorem e_isFigure {Q : Int32 → hp → Prop} {S : hp} {n q : Nat} (hL : Lay S) (hn : n ≤ 140) (h1 : hI S 14 1 = nI n) (hq : q < 1000) : wp_X9_isFigure Q S 14 (nI q) ↔ Q (bI (decide (q < n) && isF (hI S 15 q))) S := by
  unfold wp_X9_isFigure
  simp only [hL.eqs, h1, ↓reduceIte, Nat.reduceEqDiff, and_false, false_and, true_and, and_true, forall_eq, forall_eq', exists_eq_left, exists_eq_left', Option.some.injEq, eq_self_iff_true, not_true, not_false_iff, false_implies, true_implies, forall_const, reduceCtorEq, ne_eq]
  by_cases c : q < n
  · have w : ¬ nI n ≤ nI q := nI_ge (by omega) (by omega)
    simp only [w, show vp_in (nI q) 140 from vp_in_nI (by omega) (by omega), nI_clamp (show q < 2 ^ 31 by omega), t_lt, show (48 : Int32).toInt = 48 from rfl, show (57 : Int32).toInt = 57 from rfl, ↓reduceIte, Nat.reduceEqDiff, and_false, false_and, true_and, and_true, forall_eq, forall_eq', exists_eq_left, exists_eq_left', Option.some.injEq, eq_self_iff_true, not_true, not_false_iff, false_implies, true_implies, forall_const, reduceCtorEq, ne_eq]
    cases e : isF (hI S 15 q) with
    | true =>
      have := rg_t.mp (show rg (hI S 15 q) 48 57 = true from e)
      simp [c, bI, show ¬ (hI S 15 q).toInt < 48 by omega, show ¬ 57 < (hI S 15 q).toInt by omega]
    | false =>
      have := rg_f.mp (show rg (hI S 15 q) 48 57 = false from e)
      by_cases c2 : (hI S 15 q).toInt < 48
      · simp [c2, bI]
      · simp [c2, bI, show 57 < (hI S 15 q).toInt by omega]
  · have w : nI n ≤ nI q := nI_le (by omega) (by omega)
    simp [w, c, bI]
theorem setI2 (S : hp) (a k : Nat) (v w : Int32) : setI (setI S a k v) a k w = setI S a k w := by
  rw [setI_asA, setI_asA, putA_putA]
  conv => rhs; rw [setI_asA]
  congr 1
  funext i
  by_cases c : i = k <;> simp [c, hI_setI, hI_putA]
