/-- n numbers of h from p on, put into g from o on -/
def cp (g h : Nat → Int32) (o p n : Nat) : Nat → Int32 := fun i => if o ≤ i ∧ i < o + n then h (p + (i - o)) else g i
theorem cp_0 (g h : Nat → Int32) (o p : Nat) : cp g h o p 0 = g := by funext i; unfold cp; rw [if_neg (by omega)]
theorem cp_step (g h : Nat → Int32) (o p n : Nat) : cp g h o p (n + 1) = fun i => if i = o + n then h (p + n) else cp g h o p n i := by
  funext i
  unfold cp
  by_cases h1 : i = o + n
  · subst h1; rw [if_pos (by omega), if_pos rfl]; congr 1; omega
  · rw [if_neg h1]
    by_cases h2 : o ≤ i ∧ i < o + n
    · rw [if_pos h2, if_pos (by omega)]
    · rw [if_neg h2, if_neg (by omega)]
theorem cp_in {g h : Nat → Int32} {o p n i : Nat} (hi : i < n) : cp g h o p n (o + i) = h (p + i) := by unfold cp; rw [if_pos (by omega)]; congr 1; omega
theorem cp_out {g h : Nat → Int32} {o p n i : Nat} (hi : i < o ∨ o + n ≤ i) : cp g h o p n i = g i := by unfold cp; rw [if_neg (by omega)]
theorem c_imageM {Q : Int32 → hp → Prop} {S : hp} {kk0 : Nat} (hL : Lay S) (hk : kk0 < 2) (h : Q 1 (setI (putA S 45 (cp (hI S 45) (hI S 39) (147 * kk0) 0 147)) 44 kk0 1)) : ∃ m, wl_X12_image_30 Q m S 35 (nI kk0) 0 := by
  have key : ∀ k j, j + k = 147 → wl_X12_image_30 Q (k + 1) (putA S 45 (cp (hI S 45) (hI S 39) (147 * kk0) (0) j)) 35 (nI kk0) (nI j) := by
    intro k
    induction k with
    | zero =>
      intro j hj
      have : j = 147 := by omega
      subst this
      unfold wl_X12_image_30 wB_X12_image_30
      refine ⟨fun _ => ?_, fun q => absurd (nI_le (a := 147) (b := 147) (by omega) (by omega)) q⟩
      simp only [hK_putA, hN_putA, hR_putA, hL.eqs, show vp_in (nI kk0) 2 from vp_in_nI hk (by omega), nI_clamp (show kk0 < 2 ^ 31 by omega), nar1, ↓reduceIte, Nat.reduceEqDiff, and_false, false_and, true_and, and_true, forall_eq, forall_eq', exists_eq_left, exists_eq_left', Option.some.injEq, eq_self_iff_true, not_true, not_false_iff, false_implies, true_implies, forall_const, reduceCtorEq, ne_eq]
      exact h
    | succ k ih =>
      intro j hj
      unfold wl_X12_image_30 wB_X12_image_30
      refine ⟨fun q => absurd q (nI_ge (a := j) (b := 147) (by omega) (by omega)), fun _ => ?_⟩
      have := ih (j + 1) (by omega)
      have ei : (147 : Int32) * nI kk0 + nI j = nI (147 * kk0 + j) := by rw [← nI_add, ← nI_mul]; rfl
      simp only [hK_putA, hN_putA, hR_putA, hL.eqs, hI_putA_ne (S := S) (a := 45) (b := 39) (by decide), hI_putA_ne (S := S) (a := 45) (b := 35) (by decide),  ei, show vp_in (nI j) 147 from vp_in_nI (by omega) (by omega), show vp_in (nI (147 * kk0 + j)) 294 from vp_in_nI (by omega) (by omega), nI_clamp (show j < 2 ^ 31 by omega), nI_clamp (show 147 * kk0 + j < 2 ^ 31 by omega), setI_putA, nI_1, ↓reduceIte, Nat.reduceEqDiff, and_false, false_and, true_and, and_true, forall_eq, forall_eq', exists_eq_left, exists_eq_left', Option.some.injEq, eq_self_iff_true, not_true, not_false_iff, false_implies, true_implies, forall_const, reduceCtorEq, ne_eq]
      rw [cp_step, Nat.zero_add] at this
      exact this
  have := key 147 0 (by omega)
  refine ⟨148, ?_⟩
  rw [cp_0, putA_self] at this
  exact this
theorem c_restoreM {Q : Int32 → hp → Prop} {S : hp} {kk0 : Nat} (hL : Lay S) (hk : kk0 < 2) (h : Q 1 (setI (putA S 39 (cp (hI S 39) (hI S 45) 0 (147 * kk0) 147)) 35 8 0)) : ∃ m, wl_X12_restore_32 Q m S 35 (nI kk0) 0 := by
  have key : ∀ k j, j + k = 147 → wl_X12_restore_32 Q (k + 1) (putA S 39 (cp (hI S 39) (hI S 45) (0) (147 * kk0) j)) 35 (nI kk0) (nI j) := by
    intro k
    induction k with
    | zero =>
      intro j hj
      have : j = 147 := by omega
      subst this
      unfold wl_X12_restore_32 wB_X12_restore_32
      refine ⟨fun _ => ?_, fun q => absurd (nI_le (a := 147) (b := 147) (by omega) (by omega)) q⟩
      simp only [hK_putA, hN_putA, hR_putA, hL.eqs, ↓reduceIte, Nat.reduceEqDiff, and_false, false_and, true_and, and_true, forall_eq, forall_eq', exists_eq_left, exists_eq_left', Option.some.injEq, eq_self_iff_true, not_true, not_false_iff, false_implies, true_implies, forall_const, reduceCtorEq, ne_eq]
      exact h
    | succ k ih =>
      intro j hj
      unfold wl_X12_restore_32 wB_X12_restore_32
      refine ⟨fun q => absurd q (nI_ge (a := j) (b := 147) (by omega) (by omega)), fun _ => ?_⟩
      have := ih (j + 1) (by omega)
      have ei : (147 : Int32) * nI kk0 + nI j = nI (147 * kk0 + j) := by rw [← nI_add, ← nI_mul]; rfl
      simp only [hK_putA, hN_putA, hR_putA, hL.eqs, hI_putA_ne (S := S) (a := 39) (b := 45) (by decide), hI_putA_ne (S := S) (a := 39) (b := 35) (by decide),  ei, show vp_in (nI j) 147 from vp_in_nI (by omega) (by omega), show vp_in (nI (147 * kk0 + j)) 294 from vp_in_nI (by omega) (by omega), nI_clamp (show j < 2 ^ 31 by omega), nI_clamp (show 147 * kk0 + j < 2 ^ 31 by omega), setI_putA, nI_1, ↓reduceIte, Nat.reduceEqDiff, and_false, false_and, true_and, and_true, forall_eq, forall_eq', exists_eq_left, exists_eq_left', Option.some.injEq, eq_self_iff_true, not_true, not_false_iff, false_implies, true_implies, forall_const, reduceCtorEq, ne_eq]
      rw [cp_step, Nat.zero_add] at this
      exact this
  have := key 147 0 (by omega)
  refine ⟨148, ?_⟩
  rw [cp_0, putA_self] at this
  exact this
theorem c_undoM {Q : Int32 → hp → Prop} {S : hp} {kk0 : Nat} (hL : Lay S) (hk : kk0 < 24) (h8 : hI S 35 8 = nI kk0) (h : Q (nI kk0) (putA S 39 (cp (hI S 39) (hI S 41) 0 (147 * kk0) 147))) : ∃ m, wl_X12_undo_27 Q m S 35 0 := by
  have key : ∀ k j, j + k = 147 → wl_X12_undo_27 Q (k + 1) (putA S 39 (cp (hI S 39) (hI S 41) (0) (147 * kk0) j)) 35 (nI j) := by
    intro k
    induction k with
    | zero =>
      intro j hj
      have : j = 147 := by omega
      subst this
      unfold wl_X12_undo_27 wB_X12_undo_27
      refine ⟨fun _ => ?_, fun q => absurd (nI_le (a := 147) (b := 147) (by omega) (by omega)) q⟩
      simp only [hK_putA, hN_putA, hR_putA, hL.eqs, hI_putA_ne (S := S) (a := 39) (b := 35) (by decide), h8, ↓reduceIte, Nat.reduceEqDiff, and_false, false_and, true_and, and_true, forall_eq, forall_eq', exists_eq_left, exists_eq_left', Option.some.injEq, eq_self_iff_true, not_true, not_false_iff, false_implies, true_implies, forall_const, reduceCtorEq, ne_eq]
      exact h
    | succ k ih =>
      intro j hj
      unfold wl_X12_undo_27 wB_X12_undo_27
      refine ⟨fun q => absurd q (nI_ge (a := j) (b := 147) (by omega) (by omega)), fun _ => ?_⟩
      have := ih (j + 1) (by omega)
      have ei : (147 : Int32) * nI kk0 + nI j = nI (147 * kk0 + j) := by rw [← nI_add, ← nI_mul]; rfl
      simp only [hK_putA, hN_putA, hR_putA, hL.eqs, hI_putA_ne (S := S) (a := 39) (b := 41) (by decide), hI_putA_ne (S := S) (a := 39) (b := 35) (by decide), h8, ei, show vp_in (nI j) 147 from vp_in_nI (by omega) (by omega), show vp_in (nI (147 * kk0 + j)) 3528 from vp_in_nI (by omega) (by omega), nI_clamp (show j < 2 ^ 31 by omega), nI_clamp (show 147 * kk0 + j < 2 ^ 31 by omega), setI_putA, nI_1, ↓reduceIte, Nat.reduceEqDiff, and_false, false_and, true_and, and_true, forall_eq, forall_eq', exists_eq_left, exists_eq_left', Option.some.injEq, eq_self_iff_true, not_true, not_false_iff, false_implies, true_implies, forall_const, reduceCtorEq, ne_eq]
      rw [cp_step, Nat.zero_add] at this
      exact this
  have := key 147 0 (by omega)
  refine ⟨148, ?_⟩
  rw [cp_0, putA_self] at this
  exact this
theorem c_keepM0 {Q : hp → Prop} {S : hp} {kk0 : Nat} (hL : Lay S) (hk : kk0 < 24) (h8 : hI S 35 8 = nI kk0) (h : Q (setI (putA S 41 (cp (hI S 41) (hI S 39) (147 * kk0) 0 147)) 35 8 (nI (kk0 + 1)))) : ∃ m, wl_X12_keep_52 Q m S 35 0 := by
  have key : ∀ k j, j + k = 147 → wl_X12_keep_52 Q (k + 1) (putA S 41 (cp (hI S 41) (hI S 39) (147 * kk0) (0) j)) 35 (nI j) := by
    intro k
    induction k with
    | zero =>
      intro j hj
      have : j = 147 := by omega
      subst this
      unfold wl_X12_keep_52 wB_X12_keep_52
      refine ⟨fun _ => ?_, fun q => absurd (nI_le (a := 147) (b := 147) (by omega) (by omega)) q⟩
      simp only [hK_putA, hN_putA, hR_putA, hL.eqs, hI_putA_ne (S := S) (a := 41) (b := 35) (by decide), h8, nI_1, ↓reduceIte, Nat.reduceEqDiff, and_false, false_and, true_and, and_true, forall_eq, forall_eq', exists_eq_left, exists_eq_left', Option.some.injEq, eq_self_iff_true, not_true, not_false_iff, false_implies, true_implies, forall_const, reduceCtorEq, ne_eq]
      exact h
    | succ k ih =>
      intro j hj
      unfold wl_X12_keep_52 wB_X12_keep_52
      refine ⟨fun q => absurd q (nI_ge (a := j) (b := 147) (by omega) (by omega)), fun _ => ?_⟩
      have := ih (j + 1) (by omega)
      have ei : (147 : Int32) * nI kk0 + nI j = nI (147 * kk0 + j) := by rw [← nI_add, ← nI_mul]; rfl
      simp only [hK_putA, hN_putA, hR_putA, hL.eqs, hI_putA_ne (S := S) (a := 41) (b := 39) (by decide), hI_putA_ne (S := S) (a := 41) (b := 35) (by decide), h8, ei, show vp_in (nI j) 147 from vp_in_nI (by omega) (by omega), show vp_in (nI (147 * kk0 + j)) 3528 from vp_in_nI (by omega) (by omega), nI_clamp (show j < 2 ^ 31 by omega), nI_clamp (show 147 * kk0 + j < 2 ^ 31 by omega), setI_putA, nI_1, ↓reduceIte, Nat.reduceEqDiff, and_false, false_and, true_and, and_true, forall_eq, forall_eq', exists_eq_left, exists_eq_left', Option.some.injEq, eq_self_iff_true, not_true, not_false_iff, false_implies, true_implies, forall_const, reduceCtorEq, ne_eq]
      rw [cp_step, Nat.zero_add] at this
      exact this
  have := key 147 0 (by omega)
  refine ⟨148, ?_⟩
  rw [cp_0, putA_self] at this
  exact this
/-- a row of which all but the first street move one street down -/
def shd (g : Nat → Int32) (j : Nat) : Nat → Int32 := fun i => if i < j then g (i + 147) else g i
theorem c_keepM1 {Q : hp → Prop} {S : hp} (hL : Lay S) (h8 : hI S 35 8 = nI 24) (h : wB_X12_keep_50 Q (setI (putA S 41 (shd (hI S 41) 3381)) 35 8 (nI 23)) 35) : ∃ m, wl_X12_keep_11 Q m S 35 0 := by
  have key : ∀ k j, j + k = 3381 → wl_X12_keep_11 Q (k + 1) (putA S 41 (shd (hI S 41) j)) 35 (nI j) := by
    intro k
    induction k with
    | zero =>
      intro j hj
      have : j = 3381 := by omega
      subst this
      unfold wl_X12_keep_11 wB_X12_keep_11
      refine ⟨fun _ => ?_, fun q => absurd (nI_le (a := 3381) (b := 3381) (by omega) (by omega)) q⟩
      simp only [hK_putA, hL.eqs, hI_putA_ne (S := S) (a := 41) (b := 35) (by decide), h8, show nI 24 - 1 = nI 23 from nI_pred 23, ↓reduceIte, Nat.reduceEqDiff, and_false, false_and, true_and, and_true, forall_eq, forall_eq', exists_eq_left, exists_eq_left', Option.some.injEq, eq_self_iff_true, not_true, not_false_iff, false_implies, true_implies, forall_const, reduceCtorEq, ne_eq]
      exact h
    | succ k ih =>
      intro j hj
      unfold wl_X12_keep_11 wB_X12_keep_11
      refine ⟨fun q => absurd q (nI_ge (a := j) (b := 3381) (by omega) (by omega)), fun _ => ?_⟩
      have := ih (j + 1) (by omega)
      have ei : nI j + (147 : Int32) = nI (j + 147) := nI_add j 147
      simp only [hK_putA, hN_putA, hR_putA, hL.eqs, ei, show vp_in (nI j) 3528 from vp_in_nI (by omega) (by omega), show vp_in (nI (j + 147)) 3528 from vp_in_nI (by omega) (by omega), nI_clamp (show j < 2 ^ 31 by omega), nI_clamp (show j + 147 < 2 ^ 31 by omega), setI_putA, hI_putA_s, nI_1, ↓reduceIte, Nat.reduceEqDiff, and_false, false_and, true_and, and_true, forall_eq, forall_eq', exists_eq_left, exists_eq_left', Option.some.injEq, eq_self_iff_true, not_true, not_false_iff, false_implies, true_implies, forall_const, reduceCtorEq, ne_eq]
      have e : (fun i => if i = j then shd (hI S 41) j (j + 147) else shd (hI S 41) j i) = shd (hI S 41) (j + 1) := by
        funext i
        unfold shd
        by_cases h1 : i = j
        · subst h1; rw [if_pos rfl, if_neg (by omega), if_pos (by omega)]
        · rw [if_neg h1]
          by_cases h2 : i < j
          · rw [if_pos h2, if_pos (by omega)]
          · rw [if_neg h2, if_neg (by omega)]
      rw [e]
      exact this
  have := key 3381 0 (by omega)
  refine ⟨3382, ?_⟩
  have e : shd (hI S 41) 0 = hI S 41 := by funext i; unfold shd; simp
  rw [e, putA_self] at this
  exact this
theorem SL.nom {S : hp} {d : Nat} (hd : SL S d) (r : Nat) (hr : r < hC S) (hm : isM (hK S r)) : r < d ∨ d + 5 < r := by
  have k2 := hd.eqs
  by_cases h1 : r < d
  · exact Or.inl h1
  by_cases h2 : d + 5 < r
  · exact Or.inr h2
  exfalso
  unfold isM at hm
  rcases (show r = d ∨ r = d + 1 ∨ r = d + 2 ∨ r = d + 3 ∨ r = d + 4 ∨ r = d + 5 by omega) with h | h | h | h | h | h
  · rw [h, k2.1] at hm; omega
  · rw [h, k2.2.1] at hm; omega
  · rw [h, k2.2.2.1] at hm; omega
  · rw [h, k2.2.2.2.1] at hm; omega
  · rw [h, k2.2.2.2.2.1] at hm; omega
  · rw [h, k2.2.2.2.2.2.1] at hm; omega
