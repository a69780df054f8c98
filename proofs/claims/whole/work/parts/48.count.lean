/-- how many of the first n -/
def ct (p : Nat → Bool) : Nat → Int32
  | 0 => 0
  | n + 1 => ct p n + bI (p n)
theorem ct_t {p : Nat → Bool} {n : Nat} (h : p n = true) : ct p n + 1 = ct p (n + 1) := by show _ = ct p n + bI (p n); rw [h]; rfl
theorem ct_f {p : Nat → Bool} {n : Nat} (h : p n = false) : ct p n = ct p (n + 1) := by show _ = ct p n + bI (p n); rw [h]; exact (Int32.add_zero _).symm
theorem ct_b (p : Nat → Bool) (n : Nat) : ct p n + bI (p n) = ct p (n + 1) := rfl
theorem ct_congr {p q : Nat → Bool} : ∀ {n : Nat}, (∀ k, k < n → p k = q k) → ct p n = ct q n
  | 0, _ => rfl
  | n + 1, h => by
    show ct p n + bI (p n) = ct q n + bI (q n)
    rw [ct_congr (n := n) (fun k hk => h k (by omega)), h n (by omega)]
theorem c_there {Q : Int32 → hp → Prop} {S : hp} (hL : Lay S) (h : Q (ct (fun r => decide (¬ hI S 13 r = 0)) 8) S) : wp_X6_there Q S 1 := by
  have key : ∀ k j, j + k = 8 → wl_X6_there_4 Q (k + 1) S 1 (ct (fun r => decide (¬ hI S 13 r = 0)) j) (nI j) := by
    intro k
    induction k with
    | zero =>
      intro j hj
      have : j = 8 := by omega
      subst this
      exact ⟨fun _ => h, fun q => absurd (nI_le (a := 8) (b := 8) (by omega) (by omega)) q⟩
    | succ k ih =>
      intro j hj
      unfold wl_X6_there_4 wB_X6_there_4 wB_X6_there_22
      refine ⟨fun q => absurd q (nI_ge (a := j) (b := 8) (by omega) (by omega)), fun _ => ?_⟩
      simp only [hL.eqs, show vp_in (nI j) 8 from vp_in_nI (by omega) (by omega), nI_clamp (show j < 2 ^ 31 by omega), nI_1, ↓reduceIte, Nat.reduceEqDiff, and_false, false_and, true_and, and_true, forall_eq, forall_eq', exists_eq_left, exists_eq_left', Option.some.injEq, eq_self_iff_true, not_true, not_false_iff, false_implies, true_implies, forall_const, reduceCtorEq, ne_eq]
      have := ih (j + 1) (by omega)
      refine ⟨fun q => ?_, fun q => ?_⟩
      · rw [ct_f (by simp [q])]; exact this
      · rw [ct_t (by simp [q])]; exact this
  exact ⟨9, key 8 0 (by omega)⟩
theorem c_countM0 {Q : Int32 → hp → Prop} {S : hp} (hL : Lay S) (h : Q (ct (fun r => decide (¬ hI S 36 r < 0)) 8) S) : ∃ n, wl_X12_count_54 Q n S 35 0 0 := by
  have key : ∀ k j, j + k = 8 → wl_X12_count_54 Q (k + 1) S 35 (ct (fun r => decide (¬ hI S 36 r < 0)) j) (nI j) := by
    intro k
    induction k with
    | zero =>
      intro j hj
      have : j = 8 := by omega
      subst this
      exact ⟨fun _ => h, fun q => absurd (nI_le (a := 8) (b := 8) (by omega) (by omega)) q⟩
    | succ k ih =>
      intro j hj
      unfold wl_X12_count_54 wB_X12_count_54 wB_X12_count_75
      refine ⟨fun q => absurd q (nI_ge (a := j) (b := 8) (by omega) (by omega)), fun _ => ?_⟩
      simp only [hL.eqs, show vp_in (nI j) 8 from vp_in_nI (by omega) (by omega), nI_clamp (show j < 2 ^ 31 by omega), nI_1, ↓reduceIte, Nat.reduceEqDiff, and_false, false_and, true_and, and_true, forall_eq, forall_eq', exists_eq_left, exists_eq_left', Option.some.injEq, eq_self_iff_true, not_true, not_false_iff, false_implies, true_implies, forall_const, reduceCtorEq, ne_eq]
      have := ih (j + 1) (by omega)
      refine ⟨fun q => ?_, fun q => ?_⟩
      · rw [Int32.add_zero, ct_f (by simp [q])]; exact this
      · rw [ct_t (by simp [q])]; exact this
  exact ⟨9, key 8 0 (by omega)⟩
theorem c_years {Q : Int32 → hp → Prop} {S : hp} {a l : Nat} (hS : SL S a) (hl : hI S a 9 = nI l) (h16 : l ≤ 16) (h : Q (ct (fun i => decide (hI S (a + 5) (6 * i) = 1)) l) S) : wp_X8_years Q S a := by
  have key : ∀ k j, j + k = l → wl_X8_years_4 Q (k + 1) S a (ct (fun i => decide (hI S (a + 5) (6 * i) = 1)) j) (nI j) := by
    intro k
    induction k with
    | zero =>
      intro j hj
      have : j = l := by omega
      subst this
      refine ⟨hS.eqs.1, fun _ => h, fun q => absurd ?_ q⟩
      rw [hl]; exact nI_le (Nat.le_refl _) (by omega)
    | succ k ih =>
      intro j hj
      unfold wl_X8_years_4 wB_X8_years_4 wB_X8_years_25
      refine ⟨hS.eqs.1, fun q => absurd q ?_, fun _ => ?_⟩
      · rw [hl]; exact nI_ge (by omega) (by omega)
      · refine (e_part (c := 0) hS (by omega) (by omega)).mpr ?_
        simp only [nI_1, Nat.add_zero, ↓reduceIte, Nat.reduceEqDiff, and_false, false_and, true_and, and_true, forall_eq, forall_eq', exists_eq_left, exists_eq_left', Option.some.injEq, eq_self_iff_true, not_true, not_false_iff, false_implies, true_implies, forall_const, reduceCtorEq, ne_eq]
        have := ih (j + 1) (by omega)
        refine ⟨fun q => ?_, fun q => ?_⟩
        · rw [ct_f (by simp [q])]; exact this
        · rw [ct_t (by simp [q])]; exact this
  exact ⟨l + 1, key l 0 (by omega)⟩
theorem c_countM4 {Q : Int32 → hp → Prop} {S : hp} {l : Nat} (hL : Lay S) (hl : hI S 39 4 = nI l) (h16 : l ≤ 16) (h : Q (ct (fun i => decide (hI S 39 (51 + 6 * i) = 1)) l) S) : ∃ n, wl_X12_count_108 Q n S 35 0 0 := by
  have key : ∀ k j, j + k = l → wl_X12_count_108 Q (k + 1) S 35 (ct (fun i => decide (hI S 39 (51 + 6 * i) = 1)) j) (nI j) := by
    intro k
    induction k with
    | zero =>
      intro j hj
      have : j = l := by omega
      subst this
      unfold wl_X12_count_108 wB_X12_count_108
      simp only [hL.eqs, vi4, cl4, hl, ↓reduceIte, Nat.reduceEqDiff, and_false, false_and, true_and, and_true, forall_eq, forall_eq', exists_eq_left, exists_eq_left', Option.some.injEq, eq_self_iff_true, not_true, not_false_iff, false_implies, true_implies, forall_const, reduceCtorEq, ne_eq]
      exact ⟨fun _ => h, fun q => absurd (nI_le (Nat.le_refl _) (by omega)) q⟩
    | succ k ih =>
      intro j hj
      unfold wl_X12_count_108 wB_X12_count_108 wB_X12_count_134
      simp only [hL.eqs, vi4, cl4, hl, ↓reduceIte, Nat.reduceEqDiff, and_false, false_and, true_and, and_true, forall_eq, forall_eq', exists_eq_left, exists_eq_left', Option.some.injEq, eq_self_iff_true, not_true, not_false_iff, false_implies, true_implies, forall_const, reduceCtorEq, ne_eq]
      refine ⟨fun q => absurd q (nI_ge (by omega) (by omega)), fun _ => ?_⟩
      refine (e_lineOfM (c := 0) hL (show j < 16 by omega) (by omega)).mpr ?_
      simp only [nI_1, Nat.add_zero, ↓reduceIte, Nat.reduceEqDiff, and_false, false_and, true_and, and_true, forall_eq, forall_eq', exists_eq_left, exists_eq_left', Option.some.injEq, eq_self_iff_true, not_true, not_false_iff, false_implies, true_implies, forall_const, reduceCtorEq, ne_eq]
      have := ih (j + 1) (by omega)
      refine ⟨fun q => ?_, fun q => ?_⟩
      · rw [Int32.add_zero, ct_f (by simp [q])]; exact this
      · rw [ct_t (by simp [q])]; exact this
  exact ⟨l + 1, key l 0 (by omega)⟩
theorem p_count : st_count Rel := by
  intro S h x1
  obtain ⟨d, m, l, ⟨hd, hm, hl⟩, v2, v3, v4, v5, v6, v7, v8, vS⟩ := h.view
  obtain ⟨n, hn, t1, t2, t3⟩ := h.2.2.1
  obtain ⟨n', l', b1, b2, b3, b4, b5, b6, b7⟩ := h.2.2.2.2.2.2.2.1
  refine ⟨h.1.eqs.1, ?_⟩
  obtain ⟨Q, hQ⟩ : ∃ Q : Int32 → hp → Prop, Q = fun (r : Int32) (S1 : hp) => hK S1 35 = 11 ∧ wp_X12_count (fun r2 S2 => r = r2 ∧ Rel S2) S1 35 x1 := ⟨_, rfl⟩
  rw [← hQ]
  have W : ∀ v : Int32, (x1 = 0 → v = ct (fun r => decide (¬ hI S 36 r < 0)) 8) → (x1 = 1 → v = nI d) → (x1 = 2 → v = nI m) → (x1 = 3 → v = nI l) → (x1 = 4 → v = ct (fun i => decide (hI S 39 (51 + 6 * i) = 1)) l) → (x1 = 5 → v = nI n') → (x1 = 6 → v = nI n) → (¬ x1 = 0 → ¬ x1 = 1 → ¬ x1 = 2 → ¬ x1 = 3 → ¬ x1 = 4 → ¬ x1 = 5 → ¬ x1 = 6 → v = -1000001) → Q v S := by
    intro v g0 g1 g2 g3 g4 g5 g6 g7
    simp only [hQ, wp_X12_count, h.1.eqs, vi2, vi3, vi4, cl2, cl3, cl4, hI_setI, v2, t2, b4, hK_putA, hN_putA, hR_putA, hC_putA, hK_setI, hN_setI, hR_setI, hC_setI, hI_setI, hK_setR, hN_setR, hI_setR, hC_setR, hR_setR, hK_cpyI, hN_cpyI, hR_cpyI, hC_cpyI, hI_cpyI, ↓reduceIte, Nat.reduceEqDiff, and_false, false_and, true_and, and_true, forall_eq, forall_eq', exists_eq_left, exists_eq_left', Option.some.injEq, eq_self_iff_true, not_true, not_false_iff, false_implies, true_implies, forall_const, reduceCtorEq, ne_eq]
    refine ⟨fun q => c_countM0 (lay0 h.1) ⟨?_, h.thr 0⟩, fun q => ⟨g1 q, h.thr 0⟩, fun q => ⟨g2 q, h.thr 0⟩, fun q => ⟨g3 q, h.thr 0⟩, fun q => c_countM4 (lay0 h.1) (by simp only [hI_setI, v2, ↓reduceIte, Nat.reduceEqDiff, and_false, false_and, true_and, and_true, forall_eq, forall_eq', exists_eq_left, exists_eq_left', Option.some.injEq, eq_self_iff_true, not_true, not_false_iff, false_implies, true_implies, forall_const, reduceCtorEq, ne_eq]) hl ⟨?_, h.thr 0⟩, fun q => ⟨g5 q, h.thr 0⟩, fun q => ⟨g6 q, h.thr 0⟩, fun w0 w1 w2 w3 w4 w5 w6 => ⟨g7 w0 w1 w2 w3 w4 w5 w6, h.thr 0⟩⟩
    · rw [g0 q]; simp only [hI_setI, ↓reduceIte, Nat.reduceEqDiff, and_false, false_and, true_and, and_true, forall_eq, forall_eq', exists_eq_left, exists_eq_left', Option.some.injEq, eq_self_iff_true, not_true, not_false_iff, false_implies, true_implies, forall_const, reduceCtorEq, ne_eq]
    · rw [g4 q]; simp only [hI_setI, ↓reduceIte, Nat.reduceEqDiff, and_false, false_and, true_and, and_true, forall_eq, forall_eq', exists_eq_left, exists_eq_left', Option.some.injEq, eq_self_iff_true, not_true, not_false_iff, false_implies, true_implies, forall_const, reduceCtorEq, ne_eq]
  have ea : ct (fun r => decide (¬ hI S 13 r = 0)) 8 = ct (fun r => decide (¬ hI S 36 r < 0)) 8 := by
    refine ct_congr (fun r hr => ?_)
    rcases (h.2.1 r hr).1 with ⟨h1, h2⟩ | ⟨h1, h2, h3⟩
    · rw [h1, h2]; decide
    · have := rg_t.mp h3
      have h4 : ¬ hI S 36 r < 0 := by rw [h2, t_lt]; show ¬ _ < (0 : Int); omega
      simp [h1, h4]
  have eb : ct (fun i => decide (hI S 21 (6 * i) = 1)) l = ct (fun i => decide (hI S 39 (51 + 6 * i) = 1)) l := by
    refine ct_congr (fun i hi => ?_)
    rw [v6 _ (by omega)]
  unfold wp_X11_count
  simp only [h.1.eqs, v2, t1, b3, ↓reduceIte, Nat.reduceEqDiff, and_false, false_and, true_and, and_true, forall_eq, forall_eq', exists_eq_left, exists_eq_left', Option.some.injEq, eq_self_iff_true, not_true, not_false_iff, false_implies, true_implies, forall_const, reduceCtorEq, ne_eq]
  refine ⟨fun q => c_there h.1 (W _ ?_ ?_ ?_ ?_ ?_ ?_ ?_ ?_), fun q => W _ ?_ ?_ ?_ ?_ ?_ ?_ ?_ ?_, fun q => W _ ?_ ?_ ?_ ?_ ?_ ?_ ?_ ?_, fun q => W _ ?_ ?_ ?_ ?_ ?_ ?_ ?_ ?_, fun q => c_years vS v2.2.2.2.2.2.2.2 hl (W _ ?_ ?_ ?_ ?_ ?_ ?_ ?_ ?_), fun q => W _ ?_ ?_ ?_ ?_ ?_ ?_ ?_ ?_, fun q => W _ ?_ ?_ ?_ ?_ ?_ ?_ ?_ ?_, fun w0 w1 w2 w3 w4 w5 w6 => W _ ?_ ?_ ?_ ?_ ?_ ?_ ?_ ?_⟩
  all_goals first
    | exact fun _ => ea
    | exact fun _ => eb
    | exact fun _ => rfl
    | exact fun _ _ _ _ _ _ _ => rfl
    | exact fun z => absurd (q.symm.trans z) (by decide)
    | exact fun z0 z1 z2 z3 z4 z5 z6 => absurd q (by assumption)
    | exact fun z => absurd z (by assumption)
