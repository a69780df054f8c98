def LineV (S : hp) (d m i : Nat) : Prop :=
  (hI S 39 (51 + 6 * i) = 0 ∧ ∃ mm dd pp : Nat, hI S 39 (52 + 6 * i) = nI mm ∧ mm < m ∧ hI S 39 (53 + 6 * i) = nI dd ∧ dd < d ∧ hI S 39 (54 + 6 * i) = nI pp ∧ pp < 3 ∧ rg (hI S 39 (55 + 6 * i)) (-99) 99 = true ∧ rg (hI S 39 (56 + 6 * i)) (-198) 198 = true) ∨
  hI S 39 (51 + 6 * i) = 1 ∨
  (hI S 39 (51 + 6 * i) = 2 ∧ ∃ a b : Nat, hI S 39 (52 + 6 * i) = nI a ∧ a < d ∧ hI S 39 (53 + 6 * i) = nI b ∧ b < d ∧ a < b)
def MouthV (S : hp) (j : Nat) : Prop := ∃ r c : Nat, hR S 20 j = some r ∧ r < hC S ∧ hI S 39 (41 + 2 * j) = nI c ∧ 1 ≤ c ∧ c ≤ 5 ∧ hK S r = mkd c ∧ hI S r 0 = nI j ∧ hI S r 1 = hI S 39 (42 + 2 * j) ∧ rg (hI S 39 (42 + 2 * j)) 0 99 = true
theorem Rel.view {S : hp} (h : Rel S) : ∃ d m l : Nat, (d ≤ 4 ∧ m ≤ 5 ∧ l ≤ 16) ∧ (hI S 39 2 = nI d ∧ hI S 39 3 = nI m ∧ hI S 39 4 = nI l ∧ hI S 16 5 = hI S 39 0 ∧ hI S 16 6 = hI S 39 1 ∧ hI S 16 7 = nI d ∧ hI S 16 8 = nI m ∧ hI S 16 9 = nI l) ∧ ((hI S 39 0 = 0 ∧ d = 0 ∧ m = 0 ∧ l = 0) ∨ (hI S 39 0 = 1 ∧ rg (hI S 39 1) 2 20 = true)) ∧ (∀ k, k < 3 * d → hI S 17 k = hI S 39 (5 + k) ∧ hI S 18 k = hI S 39 (17 + k) ∧ hI S 19 k = hI S 39 (29 + k)) ∧ (∀ j, j < m → MouthV S j) ∧ (∀ k, k < 6 * l → hI S 21 k = hI S 39 (51 + k)) ∧ (∀ k, k < 12 → bd (hI S 39 (5 + k)) ∧ bd (hI S 39 (17 + k)) ∧ bd (hI S 39 (29 + k))) ∧ (∀ i, i < l → LineV S d m i) ∧ SL S 16 := by
  obtain ⟨hS, ⟨⟨w1, w2⟩, ⟨w3, w4⟩, ⟨w5, w6⟩, w7, w8, w9, w10⟩, ⟨f1, f2, f3, f4, f5⟩, hA, hM, hG⟩ := h.2.2.2.2.1
  have e : ∀ k, k < 147 → vec S 39 0 k = hI S 39 k := fun k hk => by rw [vec_lt hk, Nat.zero_add]
  refine ⟨nd (vec S 39 0), nm (vec S 39 0), nl (vec S 39 0), ⟨w2, w4, w6⟩, ?_, ?_, fun k hk => ?_, fun j hj => ?_, fun k hk => ?_, fun k hk => ?_, fun i hi => ?_, hS⟩
  · rw [e 2 (by decide)] at w1
    rw [e 3 (by decide)] at w3
    rw [e 4 (by decide)] at w5
    rw [e 0 (by decide)] at f1
    rw [e 1 (by decide)] at f2
    rw [e 2 (by decide)] at f3
    rw [e 3 (by decide)] at f4
    rw [e 4 (by decide)] at f5
    exact ⟨w1, w3, w5, f1, f2, f3.trans w1, f4.trans w3, f5.trans w5⟩
  · rw [e 0 (by decide), e 1 (by decide)] at w7; exact w7
  · have := hA k hk
    rw [e _ (by omega), e _ (by omega), e _ (by omega)] at this
    exact this
  · obtain ⟨r, h1, h2, h3, h4, h5⟩ := hM j hj
    obtain ⟨g1, g2, g3, g4⟩ := w8 j hj
    rw [e _ (by omega)] at g1 g4 h5
    exact ⟨r, kd (vec S 39 0) j, h1, h2, g1, g2, g3, h3, h4, h5, g4⟩
  · have := hG k hk
    rw [e _ (by omega)] at this
    exact this
  · have := w9 k hk
    rw [e _ (by omega), e _ (by omega), e _ (by omega)] at this
    exact this
  · have := w10 i hi
    unfold LineOK at this
    rw [e _ (by omega), e _ (by omega), e _ (by omega), e _ (by omega), e _ (by omega), e _ (by omega)] at this
    exact this
theorem tn0 {n : Nat} (h : n ≤ 100) : 0 ≤ (nI n).toInt := by rw [nI_toInt (by omega)]; omega
theorem p_dummy : st_dummy Rel := by
  intro S h x1 x2 x3
  obtain ⟨d, m, l, ⟨hd, hm, hl⟩, v2, v3, v4, v5, v6, v7, v8, vS⟩ := h.view
  refine ⟨h.1.eqs.1, ?_⟩
  obtain ⟨Q, hQ⟩ : ∃ Q : Int32 → hp → Prop, Q = fun (r : Int32) (S1 : hp) => hK S1 35 = 11 ∧ wp_X12_dummy (fun r2 S2 => r = r2 ∧ Rel S2) S1 35 x1 x2 x3 := ⟨_, rfl⟩
  rw [← hQ]
  unfold wp_X11_dummy
  simp only [h.1.eqs, e_hasPlace h.1.eqs.2.2.2.2.2.2.2.2.2.2.2.2.2.2.2.2.1, v2, bI0, ↓reduceIte, Nat.reduceEqDiff, and_false, false_and, true_and, and_true, forall_eq, forall_eq', exists_eq_left, exists_eq_left', Option.some.injEq, eq_self_iff_true, not_true, not_false_iff, false_implies, true_implies, forall_const, reduceCtorEq, ne_eq]
  cases hb : rc x1 (nI d) with
  | false =>
    simp only [Bool.false_and, ↓reduceIte, Nat.reduceEqDiff, and_false, false_and, true_and, and_true, forall_eq, forall_eq', exists_eq_left, exists_eq_left', Option.some.injEq, eq_self_iff_true, not_true, not_false_iff, false_implies, true_implies, forall_const, reduceCtorEq, ne_eq]
    simp only [hQ, wp_X12_dummy, e_isDummyM (Lay_setI S 35 0 0 ▸ h.1) (S := setI S 35 0 0) (by simp only [hI_setI, v2, ↓reduceIte, Nat.reduceEqDiff, and_false, false_and, true_and, and_true, forall_eq, forall_eq', exists_eq_left, exists_eq_left', Option.some.injEq, eq_self_iff_true, not_true, not_false_iff, false_implies, true_implies, forall_const, reduceCtorEq, ne_eq]; exact tn0 (by omega)), h.1.eqs, hI_setI, v2, hb, bI_f, hK_putA, hN_putA, hR_putA, hC_putA, hK_setI, hN_setI, hR_setI, hC_setI, hI_setI, hK_setR, hN_setR, hI_setR, hC_setR, hR_setR, hK_cpyI, hN_cpyI, hR_cpyI, hC_cpyI, hI_cpyI, ↓reduceIte, Nat.reduceEqDiff, and_false, false_and, true_and, and_true, forall_eq, forall_eq', exists_eq_left, exists_eq_left', Option.some.injEq, eq_self_iff_true, not_true, not_false_iff, false_implies, true_implies, forall_const, reduceCtorEq, ne_eq]
    exact h.thr 0
  | true =>
    obtain ⟨i, hi, rfl⟩ := rc_nat (by omega) hb
    cases hb2 : rg x2 0 2 with
    | false =>
      simp only [Bool.and_false, ↓reduceIte, Nat.reduceEqDiff, and_false, false_and, true_and, and_true, forall_eq, forall_eq', exists_eq_left, exists_eq_left', Option.some.injEq, eq_self_iff_true, not_true, not_false_iff, false_implies, true_implies, forall_const, reduceCtorEq, ne_eq]
      simp only [hQ, wp_X12_dummy, e_isDummyM (Lay_setI S 35 0 0 ▸ h.1) (S := setI S 35 0 0) (by simp only [hI_setI, v2, ↓reduceIte, Nat.reduceEqDiff, and_false, false_and, true_and, and_true, forall_eq, forall_eq', exists_eq_left, exists_eq_left', Option.some.injEq, eq_self_iff_true, not_true, not_false_iff, false_implies, true_implies, forall_const, reduceCtorEq, ne_eq]; exact tn0 (by omega)), e_isPlaceM, h.1.eqs, hI_setI, v2, hb, hb2, bI_f, bI_t, i1_ne0, hK_putA, hN_putA, hR_putA, hC_putA, hK_setI, hN_setI, hR_setI, hC_setI, hI_setI, hK_setR, hN_setR, hI_setR, hC_setR, hR_setR, hK_cpyI, hN_cpyI, hR_cpyI, hC_cpyI, hI_cpyI, ↓reduceIte, Nat.reduceEqDiff, and_false, false_and, true_and, and_true, forall_eq, forall_eq', exists_eq_left, exists_eq_left', Option.some.injEq, eq_self_iff_true, not_true, not_false_iff, false_implies, true_implies, forall_const, reduceCtorEq, ne_eq]
      exact h.thr 0
    | true =>
      obtain ⟨p, hp, hp2, rfl⟩ := rg_nat hb2
      obtain ⟨a1, a2, a3⟩ := v4 (3 * i + p) (by omega)
      simp only [Bool.and_true, e_at, e_pinch vS (show 3 * i + p < 12 by omega), show vp_in (nI (3 * i + p)) 12 from vp_in_nI (by omega) (by omega), nI_clamp (show 3 * i + p < 2 ^ 31 by omega), h.1.eqs, ↓reduceIte, Nat.reduceEqDiff, and_false, false_and, true_and, and_true, forall_eq, forall_eq', exists_eq_left, exists_eq_left', Option.some.injEq, eq_self_iff_true, not_true, not_false_iff, false_implies, true_implies, forall_const, reduceCtorEq, ne_eq]
      have q1 : (5 : Int32) + (3 : Int32) * nI i + nI p = nI (5 + 3 * i + p) := i3 5 3 i p
      have q2 : (17 : Int32) + (3 : Int32) * nI i + nI p = nI (17 + 3 * i + p) := i3 17 3 i p
      have q3 : (29 : Int32) + (3 : Int32) * nI i + nI p = nI (29 + 3 * i + p) := i3 29 3 i p
      have W : ∀ v : Int32, (x3 = 0 → v = hI S 39 (5 + 3 * i + p)) → (x3 = 1 → v = hI S 39 (17 + 3 * i + p)) → (x3 = 2 → v = hI S 39 (29 + 3 * i + p)) → (x3 = 3 → v = hI S 39 (29 + 3 * i + p) - hI S 39 (5 + 3 * i + p)) → (¬ x3 = 0 → ¬ x3 = 1 → ¬ x3 = 2 → ¬ x3 = 3 → v = -1000001) → Q v S := by
        intro v g0 g1 g2 g3 g4
        simp only [hQ, wp_X12_dummy, e_isDummyM (Lay_setI S 35 0 0 ▸ h.1) (S := setI S 35 0 0) (by simp only [hI_setI, v2, ↓reduceIte, Nat.reduceEqDiff, and_false, false_and, true_and, and_true, forall_eq, forall_eq', exists_eq_left, exists_eq_left', Option.some.injEq, eq_self_iff_true, not_true, not_false_iff, false_implies, true_implies, forall_const, reduceCtorEq, ne_eq]; exact tn0 (by omega)), e_pinchOfM (S := setI S 35 0 0) (Lay_setI S 35 0 0 ▸ h.1) (show i < 4 by omega) (show p < 3 by omega), e_isPlaceM, h.1.eqs, hI_setI, v2, hb, hb2, bI_t, i1_ne0, q1, q2, q3, show vp_in (nI (5 + 3 * i + p)) 147 from vp_in_nI (by omega) (by omega), show vp_in (nI (17 + 3 * i + p)) 147 from vp_in_nI (by omega) (by omega), show vp_in (nI (29 + 3 * i + p)) 147 from vp_in_nI (by omega) (by omega), nI_clamp (show 5 + 3 * i + p < 2 ^ 31 by omega), nI_clamp (show 17 + 3 * i + p < 2 ^ 31 by omega), nI_clamp (show 29 + 3 * i + p < 2 ^ 31 by omega), hK_putA, hN_putA, hR_putA, hC_putA, hK_setI, hN_setI, hR_setI, hC_setI, hI_setI, hK_setR, hN_setR, hI_setR, hC_setR, hR_setR, hK_cpyI, hN_cpyI, hR_cpyI, hC_cpyI, hI_cpyI, ↓reduceIte, Nat.reduceEqDiff, and_false, false_and, true_and, and_true, forall_eq, forall_eq', exists_eq_left, exists_eq_left', Option.some.injEq, eq_self_iff_true, not_true, not_false_iff, false_implies, true_implies, forall_const, reduceCtorEq, ne_eq]
        exact ⟨fun q => ⟨g0 q, h.thr 0⟩, fun q => ⟨g1 q, h.thr 0⟩, fun q => ⟨g2 q, h.thr 0⟩, fun q => ⟨g3 q, h.thr 0⟩, fun w0 w1 w2 w3 => ⟨g4 w0 w1 w2 w3, h.thr 0⟩⟩
      have z0 : (0 : Int32) ≠ 1 := by decide
      have z1 : (0 : Int32) ≠ 2 := by decide
      have z2 : (0 : Int32) ≠ 3 := by decide
      rw [a1, a2, a3, show 5 + (3 * i + p) = 5 + 3 * i + p by omega, show 17 + (3 * i + p) = 17 + 3 * i + p by omega, show 29 + (3 * i + p) = 29 + 3 * i + p by omega]
      refine ⟨fun q => W _ ?_ ?_ ?_ ?_ ?_, fun q => W _ ?_ ?_ ?_ ?_ ?_, fun q => W _ ?_ ?_ ?_ ?_ ?_, fun q => W _ ?_ ?_ ?_ ?_ ?_, fun w0 w1 w2 w3 => W _ ?_ ?_ ?_ ?_ ?_⟩ <;> simp_all
theorem e_bodyAt {Q : Int32 → hp → Prop} {S : hp} (hL : Lay S) {t : Nat} (ht : t ≤ 16) (h1 : hI S 31 1 = nI t) {x : Int32} : wp_X0_bodyAt Q S 31 x ↔ Q (if rc x (nI t) then hI S 32 x.toNatClampNeg else -1000000) S := by
  unfold wp_X0_bodyAt
  simp only [t_lt, t_le, c0, hL.eqs, h1, ↓reduceIte, Nat.reduceEqDiff, and_false, false_and, true_and, and_true, forall_eq, forall_eq', exists_eq_left, exists_eq_left', Option.some.injEq, eq_self_iff_true, not_true, not_false_iff, false_implies, true_implies, forall_const, reduceCtorEq, ne_eq]
  cases hh : rc x (nI t) with
  | true =>
    obtain ⟨j, hj, rfl⟩ := rc_nat (by omega) hh
    have := rc_t.mp hh
    simp only [show ¬ (nI j).toInt < 0 by omega, show ¬ (nI t).toInt ≤ (nI j).toInt by omega, show vp_in (nI j) 16 from vp_in_nI (by omega) (by omega), ↓reduceIte, Nat.reduceEqDiff, and_false, false_and, true_and, and_true, forall_eq, forall_eq', exists_eq_left, exists_eq_left', Option.some.injEq, eq_self_iff_true, not_true, not_false_iff, false_implies, true_implies, forall_const, reduceCtorEq, ne_eq]
  | false =>
    have := rc_f.mp hh
    by_cases g1 : x.toInt < 0
    · simp [g1]
    · simp [g1, show (nI t).toInt ≤ x.toInt by omega]
theorem p_trace : st_trace Rel := by
  intro S h x1
  obtain ⟨t, ht, t1, t2, t3⟩ := h.2.2.2.2.2.2.2.2.2
  refine ⟨h.1.eqs.1, ?_⟩
  obtain ⟨Q, hQ⟩ : ∃ Q : Int32 → hp → Prop, Q = fun (r : Int32) (S1 : hp) => hK S1 35 = 11 ∧ wp_X12_trace (fun r2 S2 => r = r2 ∧ Rel S2) S1 35 x1 := ⟨_, rfl⟩
  rw [← hQ]
  unfold wp_X11_trace
  simp only [h.1.eqs, e_bodyAt h.1 ht t1, ↓reduceIte, Nat.reduceEqDiff, and_false, false_and, true_and, and_true, forall_eq, forall_eq', exists_eq_left, exists_eq_left', Option.some.injEq, eq_self_iff_true, not_true, not_false_iff, false_implies, true_implies, forall_const, reduceCtorEq, ne_eq]
  simp only [hQ, wp_X12_trace, e_in, l64_0, l64_1, l64_2, l64_5, l64_6, l64_7, l64_m1, l64_99, l64_m99, l64_255, l64_999, l64_m999, l64_297, l64_200, l64_m200, l64_97, l64_122, l64_48, l64_57, Int32.toInt_toInt64, h.1.eqs, hI_setI, t2, rg_rc (tn0 (n := t) (by omega)), bI0, hK_putA, hN_putA, hR_putA, hC_putA, hK_setI, hN_setI, hR_setI, hC_setI, hI_setI, hK_setR, hN_setR, hI_setR, hC_setR, hR_setR, hK_cpyI, hN_cpyI, hR_cpyI, hC_cpyI, hI_cpyI, ↓reduceIte, Nat.reduceEqDiff, and_false, false_and, true_and, and_true, forall_eq, forall_eq', exists_eq_left, exists_eq_left', Option.some.injEq, eq_self_iff_true, not_true, not_false_iff, false_implies, true_implies, forall_const, reduceCtorEq, ne_eq]
  cases hb : rc x1 (nI t) with
  | false => simpa using h.thr 0
  | true =>
    obtain ⟨j, hj, rfl⟩ := rc_nat (by omega) hb
    simp only [show vp_in (nI j) 16 from vp_in_nI (by omega) (by omega), nI_clamp (show j < 2 ^ 31 by omega), t3 j hj, ↓reduceIte, Nat.reduceEqDiff, and_false, false_and, true_and, and_true, forall_eq, forall_eq', exists_eq_left, exists_eq_left', Option.some.injEq, eq_self_iff_true, not_true, not_false_iff, false_implies, true_implies, forall_const, reduceCtorEq, ne_eq]
    simpa using h.thr 0
theorem p_line : st_line Rel := by
  intro S h x1 x2
  obtain ⟨d, m, l, ⟨hd, hm, hl⟩, v2, v3, v4, v5, v6, v7, v8, vS⟩ := h.view
  refine ⟨h.1.eqs.1, ?_⟩
  obtain ⟨Q, hQ⟩ : ∃ Q : Int32 → hp → Prop, Q = fun (r : Int32) (S1 : hp) => hK S1 35 = 11 ∧ wp_X12_line (fun r2 S2 => r = r2 ∧ Rel S2) S1 35 x1 x2 := ⟨_, rfl⟩
  rw [← hQ]
  have hM : ∀ v : Int32, (rc x1 (nI l) = false ∨ rg x2 0 5 = false → v = -1000001) → (∀ i c : Nat, i < l → c < 6 → x1 = nI i → x2 = nI c → v = hI S 39 (51 + 6 * i + c)) → Q v S := by
    intro v g1 g2
    simp only [hQ, wp_X12_line, e_in, l64_0, l64_1, l64_2, l64_5, l64_6, l64_7, l64_m1, l64_99, l64_m99, l64_255, l64_999, l64_m999, l64_297, l64_200, l64_m200, l64_97, l64_122, l64_48, l64_57, Int32.toInt_toInt64, h.1.eqs, hI_setI, vi4, cl4, v2, rg_rc (tn0 (n := l) (by omega)), bI0, hK_putA, hN_putA, hR_putA, hC_putA, hK_setI, hN_setI, hR_setI, hC_setI, hI_setI, hK_setR, hN_setR, hI_setR, hC_setR, hR_setR, hK_cpyI, hN_cpyI, hR_cpyI, hC_cpyI, hI_cpyI, ↓reduceIte, Nat.reduceEqDiff, and_false, false_and, true_and, and_true, forall_eq, forall_eq', exists_eq_left, exists_eq_left', Option.some.injEq, eq_self_iff_true, not_true, not_false_iff, false_implies, true_implies, forall_const, reduceCtorEq, ne_eq]
    cases hb : rc x1 (nI l) with
    | false => simp [g1 (Or.inl hb)]; exact h.thr 0
    | true =>
      cases hb2 : rg x2 0 5 with
      | false => simp [g1 (Or.inr hb2)]; exact h.thr 0
      | true =>
        obtain ⟨i, hi, rfl⟩ := rc_nat (by omega) hb
        obtain ⟨c, hc, hc2, rfl⟩ := rg_nat hb2
        simp only [e_lineOfM (S := setI S 35 0 0) (Lay_setI S 35 0 0 ▸ h.1) (show i < 16 by omega) (show c < 6 by omega), hI_setI, ↓reduceIte, Nat.reduceEqDiff, and_false, false_and, true_and, and_true, forall_eq, forall_eq', exists_eq_left, exists_eq_left', Option.some.injEq, eq_self_iff_true, not_true, not_false_iff, false_implies, true_implies, forall_const, reduceCtorEq, ne_eq]
        simp [g2 i c hi (by omega) rfl rfl]
        exact h.thr 0
  unfold wp_X11_line
  simp only [h.1.eqs, v2, t_lt, t_le, c0, show (6 : Int32).toInt = 6 from rfl, ↓reduceIte, Nat.reduceEqDiff, and_false, false_and, true_and, and_true, forall_eq, forall_eq', exists_eq_left, exists_eq_left', Option.some.injEq, eq_self_iff_true, not_true, not_false_iff, false_implies, true_implies, forall_const, reduceCtorEq, ne_eq]
  refine ⟨fun w => hM _ (fun _ => rfl) (fun i c hi hc e1 e2 => ?_), fun w1 => ⟨fun w => hM _ (fun _ => rfl) (fun i c hi hc e1 e2 => ?_), fun w2 => ⟨fun w => hM _ (fun _ => rfl) (fun i c hi hc e1 e2 => ?_), fun w3 => ⟨fun w4 => ?_, fun w => hM _ (fun _ => rfl) (fun i c hi hc e1 e2 => ?_)⟩⟩⟩⟩
  · rw [e1, nI_toInt (by omega)] at w; omega
  · rw [e1, nI_toInt (by omega), nI_toInt (by omega)] at w; omega
  · rw [e2, nI_toInt (by omega)] at w; omega
  · obtain ⟨i, hi, rfl⟩ := rc_nat (x := x1) (n := l) (by omega) (rc_t.mpr (by omega))
    obtain ⟨c, hc, hc2, rfl⟩ := rg_nat (x := x2) (hi := 5) (rg_t.mpr (by omega))
    rw [e_part vS (by omega) (by omega)]
    refine hM _ (fun q => ?_) (fun i' c' hi' hc' e1 e2 => ?_)
    · rcases q with q | q
      · rw [rc_f] at q; omega
      · rw [rg_f] at q; omega
    · have e3 := (nI_eq (a := i) (b := i') (by omega) (by omega)).mp e1
      have e4 := (nI_eq (a := c) (b := c') (by omega) (by omega)).mp e2
      subst e3; subst e4
      rw [v6 _ (by omega)]
      congr 1
      omega
  · rw [e2, nI_toInt (by omega)] at w; omega
