def nv (T : Nat → Int32) (p : Nat) : Nat → Int32
  | 0 => 0
  | j + 1 => 10 * nv T p j + T (p + j) - 48
theorem nv_f (T : Nat → Int32) (p : Nat) : nv T p 1 = fval T p 1 ∧ nv T p 2 = fval T p 2 := by
  have e : nv T p 1 = T p - 48 := by
    show 10 * (0 : Int32) + T (p + 0) - 48 = _
    rw [Nat.add_zero, show (10 : Int32) * 0 = 0 by decide, Int32.zero_add]
  refine ⟨e, ?_⟩
  show 10 * nv T p 1 + T (p + 1) - 48 = _
  rw [e]; rfl
theorem c_readNumber {Q : Int32 → hp → Prop} {S : hp} {n p : Nat} {lo hi : Int32} {T : Nat → Int32} (hL : Lay S) (hn : n ≤ 140) (h1 : hI S 14 1 = nI n) (h4 : hI S 14 4 = nI p) (hp : p ≤ n) (hT : hI S 15 = T) (H1 : (figs T n p = 1 ∨ figs T n p = 2) → rg (fval T p (figs T n p)) lo.toInt hi.toInt = true → Q 1 (setI (setI S 14 5 (fval T p (figs T n p))) 14 4 (nI (p + figs T n p)))) (H2 : (figs T n p = 1 ∨ figs T n p = 2) → rg (fval T p (figs T n p)) lo.toInt hi.toInt = false → ∀ v, Q 0 (fltC (setI S 14 5 v) 2)) (H3 : (figs T n p = 0 ∨ 3 ≤ figs T n p) → ∀ v, Q 0 (fltC (setI S 14 5 v) 1)) : wp_X9_readNumber Q S 14 lo hi := by
  have x4 : ∀ v, hI (setI S 14 5 v) 14 4 = nI p := fun v => by simp [hI_setI]; exact h4
  have x1 : ∀ v, hI (setI S 14 5 v) 14 1 = nI n := fun v => by simp [hI_setI]; exact h1
  have x5 : ∀ v, hI (setI S 14 5 v) 14 5 = v := fun v => by simp [hI_setI]
  have x15 : ∀ v, hI (setI S 14 5 v) 15 = T := fun v => by rw [hI_setI_ne (by decide)]; exact hT
  have kS : ∀ v, hK (setI S 14 5 v) = hK S := fun v => rfl
  have nS : ∀ v, hN (setI S 14 5 v) = hN S := fun v => rfl
  have rS' : ∀ v, hR (setI S 14 5 v) = hR S := fun v => rfl
  have z0 : isZ 0 := Or.inl rfl
  -- the end of the number
  have fin : ∀ j, j = figs T n p → j ≤ 2 → wB_X9_readNumber_57 Q (setI S 14 5 (nv T p j)) 14 lo hi (nI j) := by
    intro j hj h2
    unfold wB_X9_readNumber_57 wB_X9_readNumber_66 wB_X9_readNumber_88
    have el : nI j ≤ (2 : Int32) := nI_le (a := j) (b := 2) h2 (by omega)
    simp only [hL.eqs, kS, nS, rS', x4, x5, e_fault (S := setI S 14 5 (nv T p j)) hL, nI_z (show j < 2147483648 by omega), el, z0, nI_add, t_lt, t_le, ↓reduceIte, Nat.reduceEqDiff, and_false, false_and, true_and, and_true, forall_eq, forall_eq', exists_eq_left, exists_eq_left', Option.some.injEq, eq_self_iff_true, not_true, not_false_iff, false_implies, true_implies, forall_const, reduceCtorEq, ne_eq]
    refine ⟨fun q => H3 (Or.inl (by omega)) _, fun q => ?_⟩
    have ev : nv T p j = fval T p (figs T n p) := by
      have : j = 1 ∨ j = 2 := by omega
      rcases this with e | e
      · rw [← hj, e]; exact (nv_f T p).1
      · rw [← hj, e]; exact (nv_f T p).2
    have h12 : figs T n p = 1 ∨ figs T n p = 2 := by omega
    rw [ev, hj]
    refine ⟨fun q2 => H2 h12 (rg_f.mpr (Or.inl q2)) _, fun q2 => ⟨fun q3 => H1 h12 (rg_t.mpr (by omega)), fun q3 => H2 h12 (rg_f.mpr (Or.inr (by omega))) _⟩⟩
  have key : ∀ t j, j + t = 3 → nf T (n - (p + j)) (p + j) + j = figs T n p → wl_X9_readNumber_7 Q (t + 1) (setI S 14 5 (nv T p j)) 14 lo hi (nI j) := by
    intro t
    induction t with
    | zero =>
      intro j hj hf
      have : j = 3 := by omega
      subst this
      unfold wl_X9_readNumber_7 wB_X9_readNumber_7 wB_X9_readNumber_57 wB_X9_readNumber_66
      refine ⟨fun _ => ⟨fun q => absurd q (by decide), fun _ => ⟨fun q => absurd q (by decide), fun _ => ⟨(hL.1 14 (by decide)).1, (e_fault (S := setI S 14 5 (nv T p 3)) hL).mpr ⟨z0, H3 (Or.inr (by omega)) _⟩⟩⟩⟩, fun q => absurd (by decide) q⟩
    | succ t ih =>
      intro j hj hf
      have nx := ih (j + 1) (by omega)
      unfold wl_X9_readNumber_7 wB_X9_readNumber_7
      have el : ¬ (2 : Int32) < nI j := by
        rw [t_lt, nI_toInt (by omega)]; show ¬ (2 : Int) < _; omega
      simp only [hL.eqs, kS, nS, rS', x4, x5, x15, nI_add, e_isFigure (S := setI S 14 5 (nv T p j)) hL hn (x1 _) (show p + j < 1000 by omega), bI0, el, nI_clamp (show p + j < 2 ^ 31 by omega), setI2, nI_1, ↓reduceIte, Nat.reduceEqDiff, and_false, false_and, true_and, and_true, forall_eq, forall_eq', exists_eq_left, exists_eq_left', Option.some.injEq, eq_self_iff_true, not_true, not_false_iff, false_implies, true_implies, forall_const, reduceCtorEq, ne_eq]
      refine ⟨fun z => fin j ?_ (by omega), fun z => ?_⟩
      · rw [← hf]
        have : nf T (n - (p + j)) (p + j) = 0 := by
          by_cases c : p + j < n
          · rw [show n - (p + j) = (n - (p + j) - 1) + 1 by omega]
            unfold nf
            rw [if_neg (fun y => by simp [c, y] at z)]
          · rw [show n - (p + j) = 0 by omega]; rfl
        omega
      · have z' : p + j < n ∧ isF (T (p + j)) = true := by simpa using z
        refine ⟨vp_in_nI (by omega) (by omega), nx ?_⟩
        rw [← hf, show n - (p + j) = (n - (p + (j + 1))) + 1 by omega]
        show _ = (if isF (T (p + j)) = true then nf T (n - (p + (j + 1))) (p + j + 1) + 1 else 0) + j
        rw [if_pos z'.2, show p + (j + 1) = p + j + 1 by omega]; omega
  unfold wp_X9_readNumber
  simp only [hL.eqs, ↓reduceIte, Nat.reduceEqDiff, and_false, false_and, true_and, and_true, forall_eq, forall_eq', exists_eq_left, exists_eq_left', Option.some.injEq, eq_self_iff_true, not_true, not_false_iff, false_implies, true_implies, forall_const, reduceCtorEq, ne_eq]
  exact ⟨4, key 3 0 (by omega) (by rw [Nat.add_zero]; rfl)⟩
