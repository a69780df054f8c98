theorem lay0 {S : hp} (h : Lay S) : Lay (setI S 35 0 0) := h
theorem e_sort {Q : Int32 → hp → Prop} {S : hp} {r k : Nat} (hk : hK S r = mkd k) (h : 1 ≤ k) (h2 : k ≤ 5) : wd_Mouth_sort Q S r ↔ Q (nI k) S := by
  unfold wd_Mouth_sort wp_X1_sort wp_X3_sort wp_X5_sort wp_X7_sort wp_X10_sort
  rcases five h h2 with rfl | rfl | rfl | rfl | rfl <;> simp [hk, mkd] <;> rfl
/-- whether a mouth of the kind k is one of the kind t -/
def isK (k t : Nat) : Bool := t == 0 || k == t || (t == 1 && k < 4) || (t == 4 && k == 5)
theorem six {k : Nat} (h2 : k ≤ 5) : k = 0 ∨ k = 1 ∨ k = 2 ∨ k = 3 ∨ k = 4 ∨ k = 5 := by omega
theorem nl01 : (nI 0 = (1 : Int32)) = False ∧ (nI 0 = (2 : Int32)) = False ∧ (nI 0 = (3 : Int32)) = False ∧ (nI 0 = (4 : Int32)) = False ∧ (nI 0 = (5 : Int32)) = False ∧ (nI 1 = (1 : Int32)) = True ∧ (nI 1 = (2 : Int32)) = False ∧ (nI 1 = (3 : Int32)) = False ∧ (nI 1 = (4 : Int32)) = False ∧ (nI 1 = (5 : Int32)) = False ∧ (nI 2 = (1 : Int32)) = False ∧ (nI 2 = (2 : Int32)) = True ∧ (nI 2 = (3 : Int32)) = False ∧ (nI 2 = (4 : Int32)) = False ∧ (nI 2 = (5 : Int32)) = False ∧ (nI 3 = (1 : Int32)) = False ∧ (nI 3 = (2 : Int32)) = False ∧ (nI 3 = (3 : Int32)) = True ∧ (nI 3 = (4 : Int32)) = False ∧ (nI 3 = (5 : Int32)) = False ∧ (nI 4 = (1 : Int32)) = False ∧ (nI 4 = (2 : Int32)) = False ∧ (nI 4 = (3 : Int32)) = False ∧ (nI 4 = (4 : Int32)) = True ∧ (nI 4 = (5 : Int32)) = False ∧ (nI 5 = (1 : Int32)) = False ∧ (nI 5 = (2 : Int32)) = False ∧ (nI 5 = (3 : Int32)) = False ∧ (nI 5 = (4 : Int32)) = False ∧ (nI 5 = (5 : Int32)) = True := by
  and_intros <;> first | exact eq_false (by decide) | exact eq_true (by decide)
theorem nl00 : (nI 0 = (0 : Int32)) = True ∧ (nI 1 = (0 : Int32)) = False ∧ (nI 2 = (0 : Int32)) = False ∧ (nI 3 = (0 : Int32)) = False ∧ (nI 4 = (0 : Int32)) = False ∧ (nI 5 = (0 : Int32)) = False ∧ (nI 1 < (4 : Int32)) = True ∧ (nI 2 < (4 : Int32)) = True ∧ (nI 3 < (4 : Int32)) = True ∧ (nI 4 < (4 : Int32)) = False ∧ (nI 5 < (4 : Int32)) = False := by
  and_intros <;> first | exact eq_false (by decide) | exact eq_true (by decide)
theorem e_isOne {Q : Int32 → hp → Prop} {S : hp} {r k t : Nat} (hk : hK S r = mkd k) (h : 1 ≤ k) (h2 : k ≤ 5) (h3 : t ≤ 5) : wp_X11_isOne Q S r (nI t) ↔ Q (bI (isK k t)) S := by
  unfold wp_X11_isOne
  have hm : isM (hK S r) := by rw [hk]; exact mkd_isM k
  simp only [hm, ↓reduceIte, Nat.reduceEqDiff, and_false, false_and, true_and, and_true, forall_eq, forall_eq', exists_eq_left, exists_eq_left', Option.some.injEq, eq_self_iff_true, not_true, not_false_iff, false_implies, true_implies, forall_const, reduceCtorEq, ne_eq]
  rcases six h3 with rfl | rfl | rfl | rfl | rfl | rfl <;> rcases five h h2 with rfl | rfl | rfl | rfl | rfl <;> simp only [nl01, hk, mkd, isValet, isCook, isRival, isGossip, isSpy, isK, ↓reduceIte, Nat.reduceEqDiff, and_false, false_and, true_and, and_true, forall_eq, forall_eq', exists_eq_left, exists_eq_left', Option.some.injEq, eq_self_iff_true, not_true, not_false_iff, false_implies, true_implies, forall_const, reduceCtorEq, ne_eq] <;> simp [bI, isZ]
theorem e_isOfM {Q : Int32 → hp → Prop} {S : hp} {k t : Nat} (h : 1 ≤ k) (h2 : k ≤ 5) (h3 : t ≤ 5) : wp_X12_isOf Q S (nI k) (nI t) ↔ Q (bI (isK k t)) S := by
  unfold wp_X12_isOf wB_X12_isOf_19 wB_X12_isOf_29
  rcases six h3 with rfl | rfl | rfl | rfl | rfl | rfl <;> rcases five h h2 with rfl | rfl | rfl | rfl | rfl <;> simp only [nl01, nl00, nk (show 1 ≤ 5 by decide) (show 1 ≤ 5 by decide), isK, ↓reduceIte, Nat.reduceEqDiff, and_false, false_and, true_and, and_true, forall_eq, forall_eq', exists_eq_left, exists_eq_left', Option.some.injEq, eq_self_iff_true, not_true, not_false_iff, false_implies, true_implies, forall_const, reduceCtorEq, ne_eq] <;> simp [bI, nk]
theorem p_kind : st_kind Rel := by
  intro S h x1
  obtain ⟨d, m, l, ⟨hd, hm, hl⟩, v2, v3, v4, v5, v6, v7, v8, vS⟩ := h.view
  refine ⟨h.1.eqs.1, ?_⟩
  obtain ⟨Q, hQ⟩ : ∃ Q : Int32 → hp → Prop, Q = fun (r : Int32) (S1 : hp) => hK S1 35 = 11 ∧ wp_X12_kind (fun r2 S2 => r = r2 ∧ Rel S2) S1 35 x1 := ⟨_, rfl⟩
  rw [← hQ]
  unfold wp_X11_kind
  simp only [h.1.eqs, e_mouthAt vS (v2.2.2.2.2.2.2.1) hm, ↓reduceIte, Nat.reduceEqDiff, and_false, false_and, true_and, and_true, forall_eq, forall_eq', exists_eq_left, exists_eq_left', Option.some.injEq, eq_self_iff_true, not_true, not_false_iff, false_implies, true_implies, forall_const, reduceCtorEq, ne_eq]
  have t3 : 0 ≤ (hI (setI S 35 0 0) 39 3).toInt := by simp only [hI_setI, v2, ↓reduceIte, Nat.reduceEqDiff, and_false, false_and, true_and, and_true, forall_eq, forall_eq', exists_eq_left, exists_eq_left', Option.some.injEq, eq_self_iff_true, not_true, not_false_iff, false_implies, true_implies, forall_const, reduceCtorEq, ne_eq]; exact tn0 (by omega)
  cases hb : rc x1 (nI m) with
  | false =>
    simp only [Bool.false_eq_true, ↓reduceIte, Nat.reduceEqDiff, and_false, false_and, true_and, and_true, forall_eq, forall_eq', exists_eq_left, exists_eq_left', Option.some.injEq, eq_self_iff_true, not_true, not_false_iff, false_implies, true_implies, forall_const, reduceCtorEq, ne_eq]
    simp only [hQ, wp_X12_kind, h.1.eqs, e_isMouthM (lay0 h.1) t3, hI_setI, v2, hb, bI_f, hK_putA, hN_putA, hR_putA, hC_putA, hK_setI, hN_setI, hR_setI, hC_setI, hI_setI, hK_setR, hN_setR, hI_setR, hC_setR, hR_setR, hK_cpyI, hN_cpyI, hR_cpyI, hC_cpyI, hI_cpyI, ↓reduceIte, Nat.reduceEqDiff, and_false, false_and, true_and, and_true, forall_eq, forall_eq', exists_eq_left, exists_eq_left', Option.some.injEq, eq_self_iff_true, not_true, not_false_iff, false_implies, true_implies, forall_const, reduceCtorEq, ne_eq]
    simpa using h.thr 0
  | true =>
    obtain ⟨j, hj, rfl⟩ := rc_nat (by omega) hb
    obtain ⟨r, c, m1, m2, m3, m4, m5, m6, m7, m8, m9⟩ := v5 j hj
    simp only [nI_clamp (show j < 2 ^ 31 by omega), show 16 + 4 = 20 from rfl, m1, e_sort m6 m4 m5, ↓reduceIte, Nat.reduceEqDiff, and_false, false_and, true_and, and_true, forall_eq, forall_eq', exists_eq_left, exists_eq_left', Option.some.injEq, eq_self_iff_true, not_true, not_false_iff, false_implies, true_implies, forall_const, reduceCtorEq, ne_eq]
    simp only [hQ, wp_X12_kind, h.1.eqs, e_isMouthM (lay0 h.1) t3, e_kindOfM (lay0 h.1) (show j < 5 by omega), hI_setI, v2, hb, bI_t, i1_ne0, m3, hK_putA, hN_putA, hR_putA, hC_putA, hK_setI, hN_setI, hR_setI, hC_setI, hI_setI, hK_setR, hN_setR, hI_setR, hC_setR, hR_setR, hK_cpyI, hN_cpyI, hR_cpyI, hC_cpyI, hI_cpyI, ↓reduceIte, Nat.reduceEqDiff, and_false, false_and, true_and, and_true, forall_eq, forall_eq', exists_eq_left, exists_eq_left', Option.some.injEq, eq_self_iff_true, not_true, not_false_iff, false_implies, true_implies, forall_const, reduceCtorEq, ne_eq]
    simpa using h.thr 0
theorem p_pads : st_pads Rel := by
  intro S h x1 x2
  obtain ⟨d, m, l, ⟨hd, hm, hl⟩, v2, v3, v4, v5, v6, v7, v8, vS⟩ := h.view
  refine ⟨h.1.eqs.1, ?_⟩
  obtain ⟨Q, hQ⟩ : ∃ Q : Int32 → hp → Prop, Q = fun (r : Int32) (S1 : hp) => hK S1 35 = 11 ∧ wp_X12_pads (fun r2 S2 => r = r2 ∧ Rel S2) S1 35 x1 x2 := ⟨_, rfl⟩
  rw [← hQ]
  unfold wp_X11_pads
  simp only [h.1.eqs, e_mouthAt vS (v2.2.2.2.2.2.2.1) hm, ↓reduceIte, Nat.reduceEqDiff, and_false, false_and, true_and, and_true, forall_eq, forall_eq', exists_eq_left, exists_eq_left', Option.some.injEq, eq_self_iff_true, not_true, not_false_iff, false_implies, true_implies, forall_const, reduceCtorEq, ne_eq]
  have t3 : 0 ≤ (hI (setI S 35 0 0) 39 3).toInt := by simp only [hI_setI, v2, ↓reduceIte, Nat.reduceEqDiff, and_false, false_and, true_and, and_true, forall_eq, forall_eq', exists_eq_left, exists_eq_left', Option.some.injEq, eq_self_iff_true, not_true, not_false_iff, false_implies, true_implies, forall_const, reduceCtorEq, ne_eq]; exact tn0 (by omega)
  cases hb : rc x1 (nI m) with
  | false =>
    simp only [Bool.false_eq_true, ↓reduceIte, Nat.reduceEqDiff, and_false, false_and, true_and, and_true, forall_eq, forall_eq', exists_eq_left, exists_eq_left', Option.some.injEq, eq_self_iff_true, not_true, not_false_iff, false_implies, true_implies, forall_const, reduceCtorEq, ne_eq]
    simp only [hQ, wp_X12_pads, h.1.eqs, e_isMouthM (lay0 h.1) t3, hI_setI, v2, hb, bI_f, hK_putA, hN_putA, hR_putA, hC_putA, hK_setI, hN_setI, hR_setI, hC_setI, hI_setI, hK_setR, hN_setR, hI_setR, hC_setR, hR_setR, hK_cpyI, hN_cpyI, hR_cpyI, hC_cpyI, hI_cpyI, ↓reduceIte, Nat.reduceEqDiff, and_false, false_and, true_and, and_true, forall_eq, forall_eq', exists_eq_left, exists_eq_left', Option.some.injEq, eq_self_iff_true, not_true, not_false_iff, false_implies, true_implies, forall_const, reduceCtorEq, ne_eq]
    simpa using h.thr 0
  | true =>
    obtain ⟨j, hj, rfl⟩ := rc_nat (by omega) hb
    obtain ⟨r, c, m1, m2, m3, m4, m5, m6, m7, m8, m9⟩ := v5 j hj
    have m3' : hI (setI S 35 0 0) 39 (41 + 2 * j) = nI c := by simp only [hI_setI, m3, ↓reduceIte, Nat.reduceEqDiff, and_false, false_and, true_and, and_true, forall_eq, forall_eq', exists_eq_left, exists_eq_left', Option.some.injEq, eq_self_iff_true, not_true, not_false_iff, false_implies, true_implies, forall_const, reduceCtorEq, ne_eq]
    simp only [nI_clamp (show j < 2 ^ 31 by omega), show 16 + 4 = 20 from rfl, m1, e_isTold, e_padding m6 m4 m5, bI0, ↓reduceIte, Nat.reduceEqDiff, and_false, false_and, true_and, and_true, forall_eq, forall_eq', exists_eq_left, exists_eq_left', Option.some.injEq, eq_self_iff_true, not_true, not_false_iff, false_implies, true_implies, forall_const, reduceCtorEq, ne_eq]
    cases hb2 : rg x2 (-99) 99 with
    | false =>
      simp [hQ, wp_X12_pads, h.1.eqs, e_isMouthM (lay0 h.1) t3, hI_setI, v2, hb, hb2, e_in, l64_0, l64_1, l64_2, l64_5, l64_6, l64_7, l64_m1, l64_99, l64_m99, l64_255, l64_999, l64_m999, l64_297, l64_200, l64_m200, l64_97, l64_122, l64_48, l64_57, Int32.toInt_toInt64, bI_t, bI_f, i1_ne0, hK_putA, hN_putA, hR_putA, hC_putA, hK_setI, hN_setI, hR_setI, hC_setI, hI_setI, hK_setR, hN_setR, hI_setR, hC_setR, hR_setR, hK_cpyI, hN_cpyI, hR_cpyI, hC_cpyI, hI_cpyI]
      exact h.thr 0
    | true =>
      simp [hQ, wp_X12_pads, h.1.eqs, e_isMouthM (lay0 h.1) t3, e_padsOfM (lay0 h.1) (show j < 5 by omega) m3' m4 m5, hI_setI, v2, hb, hb2, e_in, l64_0, l64_1, l64_2, l64_5, l64_6, l64_7, l64_m1, l64_99, l64_m99, l64_255, l64_999, l64_m999, l64_297, l64_200, l64_m200, l64_97, l64_122, l64_48, l64_57, Int32.toInt_toInt64, bI_t, i1_ne0, hK_putA, hN_putA, hR_putA, hC_putA, hK_setI, hN_setI, hR_setI, hC_setI, hI_setI, hK_setR, hN_setR, hI_setR, hC_setR, hR_setR, hK_cpyI, hN_cpyI, hR_cpyI, hC_cpyI, hI_cpyI]
      exact h.thr 0
theorem p_as : st_as Rel := by
  intro S h x1 x2
  obtain ⟨d, m, l, ⟨hd, hm, hl⟩, v2, v3, v4, v5, v6, v7, v8, vS⟩ := h.view
  refine ⟨h.1.eqs.1, ?_⟩
  obtain ⟨Q, hQ⟩ : ∃ Q : Int32 → hp → Prop, Q = fun (r : Int32) (S1 : hp) => hK S1 35 = 11 ∧ wp_X12_as (fun r2 S2 => r = r2 ∧ Rel S2) S1 35 x1 x2 := ⟨_, rfl⟩
  rw [← hQ]
  unfold wp_X11_as wp_X11_found wp_X11_answered
  simp only [h.1.eqs, e_mouthAt vS (v2.2.2.2.2.2.2.1) hm, ↓reduceIte, Nat.reduceEqDiff, and_false, false_and, true_and, and_true, forall_eq, forall_eq', exists_eq_left, exists_eq_left', Option.some.injEq, eq_self_iff_true, not_true, not_false_iff, false_implies, true_implies, forall_const, reduceCtorEq, ne_eq]
  have t3 : 0 ≤ (hI (setI S 35 0 0) 39 3).toInt := by simp only [hI_setI, v2, ↓reduceIte, Nat.reduceEqDiff, and_false, false_and, true_and, and_true, forall_eq, forall_eq', exists_eq_left, exists_eq_left', Option.some.injEq, eq_self_iff_true, not_true, not_false_iff, false_implies, true_implies, forall_const, reduceCtorEq, ne_eq]; exact tn0 (by omega)
  cases hb : rc x1 (nI m) with
  | false =>
    simp only [Bool.false_eq_true, ↓reduceIte, Nat.reduceEqDiff, and_false, false_and, true_and, and_true, forall_eq, forall_eq', exists_eq_left, exists_eq_left', Option.some.injEq, eq_self_iff_true, not_true, not_false_iff, false_implies, true_implies, forall_const, reduceCtorEq, ne_eq]
    simp only [hQ, wp_X12_as, h.1.eqs, e_isMouthM (lay0 h.1) t3, hI_setI, v2, hb, bI_f, hK_putA, hN_putA, hR_putA, hC_putA, hK_setI, hN_setI, hR_setI, hC_setI, hI_setI, hK_setR, hN_setR, hI_setR, hC_setR, hR_setR, hK_cpyI, hN_cpyI, hR_cpyI, hC_cpyI, hI_cpyI, ↓reduceIte, Nat.reduceEqDiff, and_false, false_and, true_and, and_true, forall_eq, forall_eq', exists_eq_left, exists_eq_left', Option.some.injEq, eq_self_iff_true, not_true, not_false_iff, false_implies, true_implies, forall_const, reduceCtorEq, ne_eq]
    simpa using h.thr 0
  | true =>
    obtain ⟨j, hj, rfl⟩ := rc_nat (by omega) hb
    obtain ⟨r, c, m1, m2, m3, m4, m5, m6, m7, m8, m9⟩ := v5 j hj
    simp only [nI_clamp (show j < 2 ^ 31 by omega), show 16 + 4 = 20 from rfl, m1, ↓reduceIte, Nat.reduceEqDiff, and_false, false_and, true_and, and_true, forall_eq, forall_eq', exists_eq_left, exists_eq_left', Option.some.injEq, eq_self_iff_true, not_true, not_false_iff, false_implies, true_implies, forall_const, reduceCtorEq, ne_eq]
    have hm' : isM (hK S r) := by rw [m6]; exact mkd_isM c
    have BAD : rg x2 0 5 = false → Q (-1000001) S := fun hb2 => by
      simp [hQ, wp_X12_as, h.1.eqs, e_isMouthM (lay0 h.1) t3, hI_setI, v2, hb, hb2, e_in, l64_0, l64_1, l64_2, l64_5, l64_6, l64_7, l64_m1, l64_99, l64_m99, l64_255, l64_999, l64_m999, l64_297, l64_200, l64_m200, l64_97, l64_122, l64_48, l64_57, Int32.toInt_toInt64, bI_t, bI_f, i1_ne0, hK_putA, hN_putA, hR_putA, hC_putA, hK_setI, hN_setI, hR_setI, hC_setI, hI_setI, hK_setR, hN_setR, hI_setR, hC_setR, hR_setR, hK_cpyI, hN_cpyI, hR_cpyI, hC_cpyI, hI_cpyI]
      exact h.thr 0
    simp only [t_lt, t_le, c0, show (5 : Int32).toInt = 5 from rfl]
    refine ⟨fun w => BAD (rg_f.mpr (by omega)), fun w => ⟨fun w2 => ?_, fun w2 => BAD (rg_f.mpr (by omega))⟩⟩
    have hb2 : rg x2 0 5 = true := rg_t.mpr (by omega)
    obtain ⟨t, ht, ht2, rfl⟩ := rg_nat hb2
    have htn : t ≤ 5 := by omega
    simp only [e_isOne m6 m4 m5 htn, hm', bI0, m7, hK_putA, hN_putA, hR_putA, hC_putA, hK_setI, hN_setI, hR_setI, hC_setI, hI_setI, hK_setR, hN_setR, hI_setR, hC_setR, hR_setR, hK_cpyI, hN_cpyI, hR_cpyI, hC_cpyI, hI_cpyI, ↓reduceIte, Nat.reduceEqDiff, and_false, false_and, true_and, and_true, forall_eq, forall_eq', exists_eq_left, exists_eq_left', Option.some.injEq, eq_self_iff_true, not_true, not_false_iff, false_implies, true_implies, forall_const, reduceCtorEq, ne_eq]
    have t3' : 0 ≤ (hI (setI (setI S 0 11 3) 35 0 0) 39 3).toInt := by simp only [hI_setI, v2, ↓reduceIte, Nat.reduceEqDiff, and_false, false_and, true_and, and_true, forall_eq, forall_eq', exists_eq_left, exists_eq_left', Option.some.injEq, eq_self_iff_true, not_true, not_false_iff, false_implies, true_implies, forall_const, reduceCtorEq, ne_eq]; exact tn0 (by omega)
    have t3'' : 0 ≤ (hI (setI (setI S 0 11 0) 35 0 0) 39 3).toInt := by simp only [hI_setI, v2, ↓reduceIte, Nat.reduceEqDiff, and_false, false_and, true_and, and_true, forall_eq, forall_eq', exists_eq_left, exists_eq_left', Option.some.injEq, eq_self_iff_true, not_true, not_false_iff, false_implies, true_implies, forall_const, reduceCtorEq, ne_eq]; exact tn0 (by omega)
    cases hk : isK c t with
    | false =>
      simp [hQ, wp_X12_as, wp_X12_finding, h.1.eqs, e_isMouthM (S := setI (setI S 0 11 3) 35 0 0) h.1 t3', e_kindOfM (S := setI (setI (setI S 0 11 3) 35 0 0) 35 1 0) h.1 (show j < 5 by omega), e_isOfM m4 m5 htn, hk, hI_setI, v2, hb, hb2, m3, e_in, l64_0, l64_1, l64_2, l64_5, l64_6, l64_7, l64_m1, l64_99, l64_m99, l64_255, l64_999, l64_m999, l64_297, l64_200, l64_m200, l64_97, l64_122, l64_48, l64_57, Int32.toInt_toInt64, bI_t, bI_f, i1_ne0, hK_putA, hN_putA, hR_putA, hC_putA, hK_setI, hN_setI, hR_setI, hC_setI, hI_setI, hK_setR, hN_setR, hI_setR, hC_setR, hR_setR, hK_cpyI, hN_cpyI, hR_cpyI, hC_cpyI, hI_cpyI]
      exact h.both 3
    | true =>
      simp [hQ, wp_X12_as, wp_X12_finding, h.1.eqs, e_isMouthM (S := setI (setI S 0 11 0) 35 0 0) h.1 t3'', e_kindOfM (S := setI (setI (setI S 0 11 0) 35 0 0) 35 1 0) h.1 (show j < 5 by omega), e_isOfM m4 m5 htn, hk, hI_setI, v2, hb, hb2, m3, e_in, l64_0, l64_1, l64_2, l64_5, l64_6, l64_7, l64_m1, l64_99, l64_m99, l64_255, l64_999, l64_m999, l64_297, l64_200, l64_m200, l64_97, l64_122, l64_48, l64_57, Int32.toInt_toInt64, bI_t, bI_f, i1_ne0, hK_putA, hN_putA, hR_putA, hC_putA, hK_setI, hN_setI, hR_setI, hC_setI, hI_setI, hK_setR, hN_setR, hI_setR, hC_setR, hR_setR, hK_cpyI, hN_cpyI, hR_cpyI, hC_cpyI, hI_cpyI]
      exact h.flds (by repeat' (first | with_reducible apply Fr.setI | with_reducible apply Fr.putA | with_reducible apply Fr.setR | with_reducible apply Fr.cpyI | with_reducible apply Fr.newC | with_reducible exact Fr.rfl' | (simp; done) | (simp; omega))) rfl (by simp [hI_setI]) (by simp [hI_setI]; exact h.2.2.2.1.2) (by simp [hI_setI]) (by simp [hI_setI]) (by simp [hI_setI]) (by simp [hI_setI]) (by simp [hI_setI])
