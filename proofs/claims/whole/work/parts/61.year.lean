/-- two dummies exchanged at the first t places, in a row whose inches begin at o -/
def sw (g : Nat → Int32) (o i j t : Nat) : Nat → Int32 := fun k => if o + 3 * i ≤ k ∧ k < o + 3 * i + t then g (o + 3 * j + (k - (o + 3 * i))) else if o + 3 * j ≤ k ∧ k < o + 3 * j + t then g (o + 3 * i + (k - (o + 3 * j))) else g k
theorem sw_0 (g : Nat → Int32) (o i j : Nat) : sw g o i j 0 = g := by funext k; unfold sw; rw [if_neg (by omega), if_neg (by omega)]
theorem sw_at1 {g : Nat → Int32} {o i j t : Nat} (ht : t < 3) (hij : i ≠ j) : sw g o i j t (o + 3 * i + t) = g (o + 3 * i + t) := by unfold sw; rw [if_neg (by omega), if_neg (by omega)]
theorem sw_at2 {g : Nat → Int32} {o i j t : Nat} (ht : t < 3) (hij : i ≠ j) : sw g o i j t (o + 3 * j + t) = g (o + 3 * j + t) := by unfold sw; rw [if_neg (by omega), if_neg (by omega)]
theorem sw_s {g : Nat → Int32} {o i j t : Nat} (ht : t < 3) (hij : i ≠ j) : (fun k => if k = o + 3 * j + t then g (o + 3 * i + t) else if k = o + 3 * i + t then g (o + 3 * j + t) else sw g o i j t k) = sw g o i j (t + 1) := by
  funext k
  unfold sw
  by_cases h1 : k = o + 3 * j + t
  · subst h1; rw [if_pos rfl, if_neg (by omega), if_pos (by omega)]; congr 1; omega
  · rw [if_neg h1]
    by_cases h2 : k = o + 3 * i + t
    · subst h2; rw [if_pos rfl, if_pos (by omega)]; congr 1; omega
    · rw [if_neg h2]
      by_cases h3 : o + 3 * i ≤ k ∧ k < o + 3 * i + t
      · rw [if_pos h3, if_pos (by omega)]
      · rw [if_neg h3, if_neg (show ¬ (o + 3 * i ≤ k ∧ k < o + 3 * i + (t + 1)) by omega)]
        by_cases h4 : o + 3 * j ≤ k ∧ k < o + 3 * j + t
        · rw [if_pos h4, if_pos (by omega)]
        · rw [if_neg h4, if_neg (by omega)]
theorem sw_comm (g : Nat → Int32) (o : Nat) {i j : Nat} (hij : i ≠ j) : sw g o i j 3 = sw g o j i 3 := by
  funext k
  unfold sw
  by_cases h3 : o + 3 * i ≤ k ∧ k < o + 3 * i + 3
  · rw [if_pos h3, if_neg (by omega), if_pos h3]
  · rw [if_neg h3]
    by_cases h4 : o + 3 * j ≤ k ∧ k < o + 3 * j + 3
    · rw [if_pos h4, if_pos h4]
    · rw [if_neg h4, if_neg h4, if_neg h3]
theorem c_exchange {Q : hp → Prop} {S : hp} {a i j : Nat} (hS : SL S a) (hi : i < 4) (hj : j < 4) (hij : i ≠ j) (h : Q (putA S (a + 1) (sw (hI S (a + 1)) 0 i j 3))) : wp_X8_exchange Q S a (nI i) (nI j) := by
  have key : ∀ k t, t + k = 3 → wl_X8_exchange_2 Q (k + 1) (putA S (a + 1) (sw (hI S (a + 1)) 0 i j t)) a (nI i) (nI j) (nI t) := by
    intro k
    induction k with
    | zero =>
      intro t ht
      have : t = 3 := by omega
      subst this
      exact ⟨fun _ => h, fun q => absurd (nI_le (a := 3) (b := 3) (by omega) (by omega)) q⟩
    | succ k ih =>
      intro t ht
      unfold wl_X8_exchange_2 wB_X8_exchange_2
      have := ih (t + 1) (by omega)
      refine ⟨fun q => absurd q (nI_ge (a := t) (b := 3) (by omega) (by omega)), fun _ => ?_⟩
      have w1 := sw_at1 (g := hI S (a + 1)) (o := 0) (i := i) (j := j) (t := t) (by omega) hij
      have w2 := sw_at2 (g := hI S (a + 1)) (o := 0) (i := i) (j := j) (t := t) (by omega) hij
      have w3 := sw_s (g := hI S (a + 1)) (o := 0) (i := i) (j := j) (t := t) (by omega) hij
      simp only [Nat.zero_add] at w1 w2 w3
      simp only [e_at, hS.eqs, show vp_in (nI (3 * i + t)) 12 from vp_in_nI (by omega) (by omega), show vp_in (nI (3 * j + t)) 12 from vp_in_nI (by omega) (by omega), nI_clamp (show 3 * i + t < 2 ^ 31 by omega), nI_clamp (show 3 * j + t < 2 ^ 31 by omega), hI_putA_s, setI_putA, w1, w2, w3, nI_1, hK_putA, hN_putA, hR_putA, hC_putA, hK_setI, hN_setI, hR_setI, hC_setI, hI_setI, hK_setR, hN_setR, hI_setR, hC_setR, hR_setR, hK_cpyI, hN_cpyI, hR_cpyI, hC_cpyI, hI_cpyI, ↓reduceIte, Nat.reduceEqDiff, and_false, false_and, true_and, and_true, forall_eq, forall_eq', exists_eq_left, exists_eq_left', Option.some.injEq, eq_self_iff_true, not_true, not_false_iff, false_implies, true_implies, forall_const, reduceCtorEq, ne_eq]
      exact this
  refine ⟨4, ?_⟩
  have := key 3 0 (by omega)
  rw [sw_0, putA_self] at this
  exact this
theorem c_swapM {Q : Int32 → hp → Prop} {S : hp} {i j : Nat} (hL : Lay S) (hi : i < 4) (hj : j < 4) (hij : i ≠ j) (h : Q (hI S 39 4) (putA S 39 (sw (hI S 39) 5 i j 3))) : ∃ n, wl_X12_swap_78 Q n S 35 (nI i) (nI j) 0 := by
  have key : ∀ k t, t + k = 3 → wl_X12_swap_78 Q (k + 1) (putA S 39 (sw (hI S 39) 5 i j t)) 35 (nI i) (nI j) (nI t) := by
    intro k
    induction k with
    | zero =>
      intro t ht
      have : t = 3 := by omega
      subst this
      unfold wl_X12_swap_78 wB_X12_swap_78
      refine ⟨fun _ => ?_, fun q => absurd (nI_le (a := 3) (b := 3) (by omega) (by omega)) q⟩
      have e : sw (hI S 39) 5 i j 3 4 = hI S 39 4 := by unfold sw; rw [if_neg (by omega), if_neg (by omega)]
      simp only [hL.eqs, vi4, cl4, hI_putA_s, e, hK_putA, hN_putA, hR_putA, hC_putA, hK_setI, hN_setI, hR_setI, hC_setI, hI_setI, hK_setR, hN_setR, hI_setR, hC_setR, hR_setR, hK_cpyI, hN_cpyI, hR_cpyI, hC_cpyI, hI_cpyI, ↓reduceIte, Nat.reduceEqDiff, and_false, false_and, true_and, and_true, forall_eq, forall_eq', exists_eq_left, exists_eq_left', Option.some.injEq, eq_self_iff_true, not_true, not_false_iff, false_implies, true_implies, forall_const, reduceCtorEq, ne_eq]
      exact h
    | succ k ih =>
      intro t ht
      unfold wl_X12_swap_78 wB_X12_swap_78
      have := ih (t + 1) (by omega)
      refine ⟨fun q => absurd q (nI_ge (a := t) (b := 3) (by omega) (by omega)), fun _ => ?_⟩
      have w1 := sw_at1 (g := hI S 39) (o := 5) (i := i) (j := j) (t := t) (by omega) hij
      have w2 := sw_at2 (g := hI S 39) (o := 5) (i := i) (j := j) (t := t) (by omega) hij
      have w3 := sw_s (g := hI S 39) (o := 5) (i := i) (j := j) (t := t) (by omega) hij
      have ei : (5 : Int32) + (3 : Int32) * nI i + nI t = nI (5 + 3 * i + t) := i3 5 3 i t
      have ej : (5 : Int32) + (3 : Int32) * nI j + nI t = nI (5 + 3 * j + t) := i3 5 3 j t
      simp only [hL.eqs, ei, ej, show vp_in (nI (5 + 3 * i + t)) 147 from vp_in_nI (by omega) (by omega), show vp_in (nI (5 + 3 * j + t)) 147 from vp_in_nI (by omega) (by omega), nI_clamp (show 5 + 3 * i + t < 2 ^ 31 by omega), nI_clamp (show 5 + 3 * j + t < 2 ^ 31 by omega), hI_putA_s, setI_putA, w1, w2, w3, nI_1, hK_putA, hN_putA, hR_putA, hC_putA, hK_setI, hN_setI, hR_setI, hC_setI, hI_setI, hK_setR, hN_setR, hI_setR, hC_setR, hR_setR, hK_cpyI, hN_cpyI, hR_cpyI, hC_cpyI, hI_cpyI, ↓reduceIte, Nat.reduceEqDiff, and_false, false_and, true_and, and_true, forall_eq, forall_eq', exists_eq_left, exists_eq_left', Option.some.injEq, eq_self_iff_true, not_true, not_false_iff, false_implies, true_implies, forall_const, reduceCtorEq, ne_eq]
      exact this
  refine ⟨4, ?_⟩
  have := key 3 0 (by omega)
  rw [sw_0, putA_self] at this
  exact this
/-- a sum of numbers -/
def smI (f : Nat → Int32) : Nat → Int32
  | 0 => 0
  | n + 1 => smI f n + f n
theorem smI_congr {f g : Nat → Int32} : ∀ {n : Nat}, (∀ k, k < n → f k = g k) → smI f n = smI g n
  | 0, _ => rfl
  | n + 1, h => by
    show smI f n + f n = smI g n + g n
    rw [smI_congr (n := n) (fun k hk => h k (by omega)), h n (by omega)]
/-- by how much a place shrinks in a year: as the class has it, as the reference has it -/
def lsC (x m s : Int32) : Int32 := if x - m ≤ 0 then 0 else if s ≤ 0 then 0 else (x - m) / s
def lsM (x m s : Int32) : Int32 := if x ≤ m then 0 else (x - m) / s
theorem ls_eq {x m s : Int32} (hx : -100000 ≤ x.toInt ∧ x.toInt ≤ 100000) (hm : -100000 ≤ m.toInt ∧ m.toInt ≤ 100000) (hs : rg s 2 20 = true) : lsC x m s = lsM x m s := by
  have hs' := rg_t.mp hs
  have e : (x - m).toInt = x.toInt - m.toInt := t_sub (by omega)
  have h0 : (0 : Int32).toInt = 0 := rfl
  unfold lsC lsM
  by_cases h : x ≤ m
  · have h' : x - m ≤ 0 := by rw [t_le] at h ⊢; rw [e, h0]; omega
    rw [if_pos h, if_pos h']
  · have h' : ¬ x - m ≤ 0 := by rw [t_le] at h ⊢; rw [e, h0]; omega
    have h2 : ¬ s ≤ 0 := by rw [t_le, h0]; omega
    rw [if_neg h, if_neg h', if_neg h2]
theorem c_shrinkAll {Q : Int32 → hp → Prop} {S : hp} {a d : Nat} (hS : SL S a) (hd : hI S a 7 = nI d) (hd4 : d ≤ 4) (h : Q (smI (fun k => lsC (hI S (a + 1) k) (hI S (a + 2) k) (hI S a 6)) (3 * d)) (putA S (a + 1) (fst (hI S (a + 1)) (fun k => hI S (a + 1) k - lsC (hI S (a + 1) k) (hI S (a + 2) k) (hI S a 6)) (3 * d)))) : wp_X8_shrinkAll Q S a := by
  have e3 : (3 : Int32) * nI d = nI (3 * d) := by rw [← nI_mul]; rfl
  have n1 : (a = a + 1) = False := eq_false (by omega)
  have n2 : (a + 2 = a + 1) = False := eq_false (by omega)
  have key : ∀ k j, j + k = 3 * d → wl_X8_shrinkAll_4 Q (k + 1) (putA S (a + 1) (fst (hI S (a + 1)) (fun k => hI S (a + 1) k - lsC (hI S (a + 1) k) (hI S (a + 2) k) (hI S a 6)) j)) a (smI (fun k => lsC (hI S (a + 1) k) (hI S (a + 2) k) (hI S a 6)) j) (nI j) := by
    intro k
    induction k with
    | zero =>
      intro j hj
      have : j = 3 * d := by omega
      subst this
      unfold wl_X8_shrinkAll_4 wB_X8_shrinkAll_4
      simp only [hS.eqs, hI_putA, n1, hd, e3, hK_putA, hN_putA, hR_putA, hC_putA, hK_setI, hN_setI, hR_setI, hC_setI, hI_setI, hK_setR, hN_setR, hI_setR, hC_setR, hR_setR, hK_cpyI, hN_cpyI, hR_cpyI, hC_cpyI, hI_cpyI, ↓reduceIte, Nat.reduceEqDiff, and_false, false_and, true_and, and_true, forall_eq, forall_eq', exists_eq_left, exists_eq_left', Option.some.injEq, eq_self_iff_true, not_true, not_false_iff, false_implies, true_implies, forall_const, reduceCtorEq, ne_eq]
      exact ⟨fun _ => h, fun q => absurd (nI_le (Nat.le_refl _) (by omega)) q⟩
    | succ k ih =>
      intro j hj
      have := ih (j + 1) (by omega)
      unfold wl_X8_shrinkAll_4 wB_X8_shrinkAll_4 wB_X8_shrinkAll_48 wB_X8_shrinkAll_49
      have fj : fst (hI S (a + 1)) (fun k => hI S (a + 1) k - lsC (hI S (a + 1) k) (hI S (a + 2) k) (hI S a 6)) j j = hI S (a + 1) j := by unfold fst; rw [if_neg (by omega)]
      simp only [hS.eqs, hI_putA, n1, n2, hd, e3, show vp_in (nI j) 12 from vp_in_nI (by omega) (by omega), nI_clamp (show j < 2 ^ 31 by omega), fj, setI_putA, nI_1, hK_putA, hN_putA, hR_putA, hC_putA, hK_setI, hN_setI, hR_setI, hC_setI, hI_setI, hK_setR, hN_setR, hI_setR, hC_setR, hR_setR, hK_cpyI, hN_cpyI, hR_cpyI, hC_cpyI, hI_cpyI, ↓reduceIte, Nat.reduceEqDiff, and_false, false_and, true_and, and_true, forall_eq, forall_eq', exists_eq_left, exists_eq_left', Option.some.injEq, eq_self_iff_true, not_true, not_false_iff, false_implies, true_implies, forall_const, reduceCtorEq, ne_eq]
      refine ⟨fun q => absurd q (nI_ge (by omega) (by omega)), fun _ => ?_⟩
      have step : ∀ v, v = lsC (hI S (a + 1) j) (hI S (a + 2) j) (hI S a 6) → wl_X8_shrinkAll_4 Q (k + 1) (putA S (a + 1) (fun i => if i = j then hI S (a + 1) j - v else fst (hI S (a + 1)) (fun k => hI S (a + 1) k - lsC (hI S (a + 1) k) (hI S (a + 2) k) (hI S a 6)) j i)) a (smI (fun k => lsC (hI S (a + 1) k) (hI S (a + 2) k) (hI S a 6)) j + v) (nI (j + 1)) := by
        intro v hv
        subst hv
        have e := fst_s (hI S (a + 1)) (fun k => hI S (a + 1) k - lsC (hI S (a + 1) k) (hI S (a + 2) k) (hI S a 6)) j
        rw [e]
        exact this
      refine ⟨fun q1 => step 0 ?_, fun q1 => ⟨fun q2 => step 0 ?_, fun q2 => ⟨?_, step _ ?_⟩⟩⟩
      · unfold lsC; rw [if_pos q1]
      · unfold lsC; rw [if_neg q1, if_pos q2]
      · intro q3; rw [q3] at q2; exact q2 (by decide)
      · unfold lsC; rw [if_neg q1, if_neg q2]
  refine ⟨3 * d + 1, ?_⟩
  have := key (3 * d) 0 (by omega)
  rw [fst_0, putA_self] at this
  exact this
theorem e_lessOfM {Q : Int32 → hp → Prop} {S : hp} {x m : Int32} (hL : Lay S) (hs : rg (hI S 39 1) 2 20 = true) : wp_X12_lessOf Q S 35 x m ↔ Q (lsM x m (hI S 39 1)) S := by
  unfold wp_X12_lessOf lsM
  have h9 : ¬ hI S 39 1 = 0 := fun q => by rw [q] at hs; revert hs; decide
  simp only [hL.eqs, vi1, cl1, h9, ↓reduceIte, Nat.reduceEqDiff, and_false, false_and, true_and, and_true, forall_eq, forall_eq', exists_eq_left, exists_eq_left', Option.some.injEq, eq_self_iff_true, not_true, not_false_iff, false_implies, true_implies, forall_const, reduceCtorEq, ne_eq]
  by_cases h : x ≤ m <;> simp [h]
/-- a street's numbers after a year -/
def yrf (g : Nat → Int32) (j : Nat) : Nat → Int32 := fun k => if 5 ≤ k ∧ k < 5 + j then g k - lsM (g k) (g (k + 12)) (g 1) else g k
theorem c_yearM {Q : Int32 → hp → Prop} {S : hp} {d : Nat} (hL : Lay S) (hd : hI S 39 2 = nI d) (hd4 : d ≤ 4) (hs : rg (hI S 39 1) 2 20 = true) (h : Q (smI (fun k => lsM (hI S 39 (5 + k)) (hI S 39 (17 + k)) (hI S 39 1)) (3 * d)) (putA S 39 (yrf (hI S 39) (3 * d)))) : ∃ n, wl_X12_year_50 Q n S 35 0 0 := by
  have e3 : (3 : Int32) * nI d = nI (3 * d) := by rw [← nI_mul]; rfl
  have key : ∀ k j, j + k = 3 * d → wl_X12_year_50 Q (k + 1) (putA S 39 (yrf (hI S 39) j)) 35 (smI (fun k => lsM (hI S 39 (5 + k)) (hI S 39 (17 + k)) (hI S 39 1)) j) (nI j) := by
    intro k
    induction k with
    | zero =>
      intro j hj
      have : j = 3 * d := by omega
      subst this
      have y2 : yrf (hI S 39) (3 * d) 2 = nI d := by unfold yrf; rw [if_neg (by omega)]; exact hd
      unfold wl_X12_year_50 wB_X12_year_50
      simp only [hL.eqs, vi2, cl2, hI_putA_s, y2, e3, hK_putA, hN_putA, hR_putA, hC_putA, hK_setI, hN_setI, hR_setI, hC_setI, hI_setI, hK_setR, hN_setR, hI_setR, hC_setR, hR_setR, hK_cpyI, hN_cpyI, hR_cpyI, hC_cpyI, hI_cpyI, ↓reduceIte, Nat.reduceEqDiff, and_false, false_and, true_and, and_true, forall_eq, forall_eq', exists_eq_left, exists_eq_left', Option.some.injEq, eq_self_iff_true, not_true, not_false_iff, false_implies, true_implies, forall_const, reduceCtorEq, ne_eq]
      exact ⟨fun _ => h, fun q => absurd (nI_le (Nat.le_refl _) (by omega)) q⟩
    | succ k ih =>
      intro j hj
      have := ih (j + 1) (by omega)
      have y1 : yrf (hI S 39) j 1 = hI S 39 1 := by unfold yrf; rw [if_neg (by omega)]
      have y2 : yrf (hI S 39) j 2 = nI d := by unfold yrf; rw [if_neg (by omega)]; exact hd
      have y5 : yrf (hI S 39) j (5 + j) = hI S 39 (5 + j) := by unfold yrf; rw [if_neg (by omega)]
      have y17 : yrf (hI S 39) j (17 + j) = hI S 39 (17 + j) := by unfold yrf; rw [if_neg (by omega)]
      have a5 : (5 : Int32) + nI j = nI (5 + j) := nI_add 5 j
      have a17 : (17 : Int32) + nI j = nI (17 + j) := nI_add 17 j
      unfold wl_X12_year_50 wB_X12_year_50
      have hs' : rg (hI (putA S 39 (yrf (hI S 39) j)) 39 1) 2 20 = true := by rw [hI_putA_s, y1]; exact hs
      simp only [hL.eqs, vi2, cl2, hI_putA_s, y2, e3, a5, a17, show vp_in (nI (5 + j)) 147 from vp_in_nI (by omega) (by omega), show vp_in (nI (17 + j)) 147 from vp_in_nI (by omega) (by omega), nI_clamp (show 5 + j < 2 ^ 31 by omega), nI_clamp (show 17 + j < 2 ^ 31 by omega), e_lessOfM (S := putA S 39 (yrf (hI S 39) j)) hL hs', y1, y5, y17, setI_putA, nI_1, hK_putA, hN_putA, hR_putA, hC_putA, hK_setI, hN_setI, hR_setI, hC_setI, hI_setI, hK_setR, hN_setR, hI_setR, hC_setR, hR_setR, hK_cpyI, hN_cpyI, hR_cpyI, hC_cpyI, hI_cpyI, ↓reduceIte, Nat.reduceEqDiff, and_false, false_and, true_and, and_true, forall_eq, forall_eq', exists_eq_left, exists_eq_left', Option.some.injEq, eq_self_iff_true, not_true, not_false_iff, false_implies, true_implies, forall_const, reduceCtorEq, ne_eq]
      refine ⟨fun q => absurd q (nI_ge (by omega) (by omega)), fun _ => ?_⟩
      have e : (fun i => if i = 5 + j then hI S 39 (5 + j) - lsM (hI S 39 (5 + j)) (hI S 39 (17 + j)) (hI S 39 1) else yrf (hI S 39) j i) = yrf (hI S 39) (j + 1) := by
        funext i
        unfold yrf
        by_cases h1 : i = 5 + j
        · subst h1; rw [if_pos rfl, if_pos (by omega), show 5 + j + 12 = 17 + j by omega]
        · rw [if_neg h1]
          by_cases h2 : 5 ≤ i ∧ i < 5 + j
          · rw [if_pos h2, if_pos (by omega)]
          · rw [if_neg h2, if_neg (by omega)]
      rw [e]
      exact this
  refine ⟨3 * d + 1, ?_⟩
  have := key (3 * d) 0 (by omega)
  have e : yrf (hI S 39) 0 = hI S 39 := by funext k; unfold yrf; rw [if_neg (by omega)]
  rw [e, putA_self] at this
  exact this
