theorem Lay.grid {S : hp} (h : Lay S) {r : Nat} (hr : r < 8) : hR S 2 r = some (3 + r) ∧ hK S (3 + r) = 12 ∧ hN S (3 + r) = 40 := by
  have h1 : ∀ r, r < 8 → (2, r, 3 + r) ∈ rl := by decide
  have h2 : ∀ r, r < 8 → kk (3 + r) = 12 ∧ nn (3 + r) = 40 := by decide
  have h3 := h.1 (3 + r) (by omega)
  exact ⟨h.2.1 _ (h1 r hr), h3.1.trans (h2 r hr).1, h3.2.trans (h2 r hr).2⟩
theorem Rel.rows {S S' : hp} (h : Rel S) (hf : Fr (fun b => b = 0 ∨ (3 ≤ b ∧ b ≤ 13) ∨ b = 36 ∨ b = 37 ∨ b = 38 ∨ b = 35) S S') (hr : hR S' = hR S) (a0 : RRows S') (a1 : hI S' 35 1 = hI S' 0 11) (a2 : hI S' 35 17 = hI S 35 17) (a3 : hI S' 35 10 = hI S 35 10) (a5 : hI S' 35 8 = hI S 35 8) (a7 : hI S' 35 25 = hI S 35 25) (b1 : hI S' 0 8 = hI S 0 8) (b2 : hI S' 0 9 = hI S 0 9) (b3 : hI S' 0 10 = hI S 0 10) : Rel S' := by
  have hL := h.1
  have q : ∀ b, b < 50 → b ≠ 0 ∧ (b < 3 ∨ 13 < b) ∧ b ≠ 36 ∧ b ≠ 37 ∧ b ≠ 38 ∧ b ≠ 35 → hI S' b = hI S b := fun b hb h0 => (hf.2.2 b (Nat.lt_of_lt_of_le hb hL.2.2) (by omega)).1
  refine h.low hf (fun b hb => by omega) (hL.fr hf (fun b _ _ => by rw [hr])) a0 (h.2.2.1.fr ⟨by rw [q 14 (by decide) (by decide)], a3, q 15 (by decide) (by decide), q 42 (by decide) (by decide)⟩) ⟨a1, by rw [a2, b3]; exact h.2.2.2.1.2⟩ (vec_same (q 39 (by decide) (by decide))) ⟨q 44 (by decide) (by decide), q 45 (by decide) (by decide), by rw [hr]⟩ ⟨b1, a5, b2, q 41 (by decide) (by decide), by rw [hr]⟩ (h.2.2.2.2.2.2.2.2.2.fr ⟨by rw [q 31 (by decide) (by decide)], a7, q 32 (by decide) (by decide), q 49 (by decide) (by decide)⟩)
theorem nar1 : vp_nar .boolean (1 : Int32) = 1 := rfl
theorem nar0 : vp_nar .boolean (0 : Int32) = 0 := rfl
theorem m1_neg : (0 ≤ (-1 : Int32)) = False := by decide
theorem ix2 {a r j : Nat} (h : a * r + j < 2147483648) : (nI a * nI r + nI j).toNatClampNeg = a * r + j := by rw [nI_mul, nI_add, nI_clamp h]
theorem e_isMissing {Q : Int32 → hp → Prop} {S : hp} (hL : Lay S) {r : Nat} (hr : r < 8) : wp_X6_isMissing Q S 1 (nI r) ↔ Q (bI (decide (hI S 13 r = 0))) S := by
  unfold wp_X6_isMissing
  simp only [hL.eqs, show vp_in (nI r) 8 from vp_in_nI hr (by omega), nI_clamp (show r < 2 ^ 31 by omega), ↓reduceIte, Nat.reduceEqDiff, and_false, false_and, true_and, and_true, forall_eq, forall_eq', exists_eq_left, exists_eq_left', Option.some.injEq, eq_self_iff_true, not_true, not_false_iff, false_implies, true_implies, forall_const, reduceCtorEq, ne_eq]
  by_cases h : hI S 13 r = 0
  · simp only [h, decide_true, bI_t, ↓reduceIte, Nat.reduceEqDiff, and_false, false_and, true_and, and_true, forall_eq, forall_eq', exists_eq_left, exists_eq_left', Option.some.injEq, eq_self_iff_true, not_true, not_false_iff, false_implies, true_implies, forall_const, reduceCtorEq, ne_eq]
  · simp only [h, decide_false, bI_f, ↓reduceIte, Nat.reduceEqDiff, and_false, false_and, true_and, and_true, forall_eq, forall_eq', exists_eq_left, exists_eq_left', Option.some.injEq, eq_self_iff_true, not_true, not_false_iff, false_implies, true_implies, forall_const, reduceCtorEq, ne_eq]
theorem n13 {r : Nat} (h : r < 8) : (3 + r = 13) = False ∧ (3 + r = 12) = False ∧ (3 + r = 11) = False ∧ (3 + r = 0) = False ∧ (3 + r = 35) = False ∧ (3 + r = 36) = False ∧ (3 + r = 37) = False ∧ (3 + r = 38) = False ∧ (13 = 3 + r) = False ∧ (12 = 3 + r) = False ∧ (11 = 3 + r) = False ∧ (0 = 3 + r) = False ∧ (35 = 3 + r) = False ∧ (36 = 3 + r) = False ∧ (37 = 3 + r) = False ∧ (38 = 3 + r) = False := by
  refine ⟨?_, ?_, ?_, ?_, ?_, ?_, ?_, ?_, ?_, ?_, ?_, ?_, ?_, ?_, ?_, ?_⟩ <;> exact eq_false (by omega)
theorem p_drop : st_drop Rel := by
  intro S h x1
  refine ⟨h.1.eqs.1, ?_⟩
  obtain ⟨Q, hQ⟩ : ∃ Q : Int32 → hp → Prop, Q = fun (r : Int32) (S1 : hp) => hK S1 35 = 11 ∧ wp_X12_drop (fun r2 S2 => r = r2 ∧ Rel S2) S1 35 x1 := ⟨_, rfl⟩
  rw [← hQ]
  unfold wp_X11_drop wp_X6_lose wp_X11_answered wp_X11_found
  simp only [e_isRow, bI0]
  cases hb : rg x1 0 7 with
  | false =>
    simp only [↓reduceIte, Nat.reduceEqDiff, and_false, false_and, true_and, and_true, forall_eq, forall_eq', exists_eq_left, exists_eq_left', Option.some.injEq, eq_self_iff_true, not_true, not_false_iff, false_implies, true_implies, forall_const, reduceCtorEq, ne_eq, hQ, wp_X12_drop, h.1.eqs, e_isRowM, hb, bI_f, hK_putA, hN_putA, hR_putA, hC_putA, hK_setI, hN_setI, hR_setI, hC_setI, hI_setI, hK_setR, hN_setR, hI_setR, hC_setR, hR_setR, hK_cpyI, hN_cpyI, hR_cpyI, hC_cpyI, hI_cpyI]
    simpa using h.thr 0
  | true =>
    obtain ⟨r, hr, hr2, rfl⟩ := rg_nat hb
    have hr8 : r < 8 := by omega
    have hv : vp_in (nI r) 8 := vp_in_nI hr8 (by omega)
    have hcl : (nI r).toNatClampNeg = r := nI_clamp (by omega)
    obtain ⟨hA, hB, hC0, hD⟩ := h.2.1 r hr8
    simp only [h.1.eqs, e_isMissing h.1 hr8, bI0, decide_eq_false_iff_not, hv, hcl, nar0, hK_putA, hN_putA, hR_putA, hC_putA, hK_setI, hN_setI, hR_setI, hC_setI, hI_setI, hK_setR, hN_setR, hI_setR, hC_setR, hR_setR, hK_cpyI, hN_cpyI, hR_cpyI, hC_cpyI, hI_cpyI, ↓reduceIte, Nat.reduceEqDiff, and_false, false_and, true_and, and_true, forall_eq, forall_eq', exists_eq_left, exists_eq_left', Option.some.injEq, eq_self_iff_true, not_true, not_false_iff, false_implies, true_implies, forall_const, reduceCtorEq, ne_eq]
    rcases hA with ⟨h1, h2⟩ | ⟨h1, h2, h3⟩
    · simp [hQ, wp_X12_drop, wp_X12_finding, h.1.eqs, e_isRowM, hb, bI_t, i1_ne0, hv, hcl, h1, h2, hI_setI, hK_putA, hN_putA, hR_putA, hC_putA, hK_setI, hN_setI, hR_setI, hC_setI, hI_setI, hK_setR, hN_setR, hI_setR, hC_setR, hR_setR, hK_cpyI, hN_cpyI, hR_cpyI, hC_cpyI, hI_cpyI]
      exact h.flds (by repeat' (first | with_reducible apply Fr.setI | with_reducible apply Fr.putA | with_reducible apply Fr.setR | with_reducible apply Fr.cpyI | with_reducible apply Fr.newC | with_reducible exact Fr.rfl' | (simp; done) | (simp; omega))) rfl (by simp [hI_setI]) (by simp [hI_setI]; exact h.2.2.2.1.2) (by simp [hI_setI]) (by simp [hI_setI]) (by simp [hI_setI]) (by simp [hI_setI]) (by simp [hI_setI])
    · have h5 : 0 ≤ hI S 11 r := by rw [t_le]; have := rg_t.mp h3; show 0 ≤ (hI S 11 r).toInt; omega
      simp only [h1, i1_ne0, ↓reduceIte, Nat.reduceEqDiff, and_false, false_and, true_and, and_true, forall_eq, forall_eq', exists_eq_left, exists_eq_left', Option.some.injEq, eq_self_iff_true, not_true, not_false_iff, false_implies, true_implies, forall_const, reduceCtorEq, ne_eq]
      simp only [hQ, wp_X12_drop, wp_X12_finding, h.1.eqs, e_isRowM, hb, bI_t, i1_ne0, hv, hcl, h1, h2, hI_setI, h5, hK_putA, hN_putA, hR_putA, hC_putA, hK_setI, hN_setI, hR_setI, hC_setI, hI_setI, hK_setR, hN_setR, hI_setR, hC_setR, hR_setR, hK_cpyI, hN_cpyI, hR_cpyI, hC_cpyI, hI_cpyI, ↓reduceIte, Nat.reduceEqDiff, and_false, false_and, true_and, and_true, forall_eq, forall_eq', exists_eq_left, exists_eq_left', Option.some.injEq, eq_self_iff_true, not_true, not_false_iff, false_implies, true_implies, forall_const, reduceCtorEq, ne_eq]
      refine ⟨hB, h.rows (by repeat' (first | with_reducible apply Fr.setI | with_reducible apply Fr.putA | with_reducible apply Fr.setR | with_reducible apply Fr.cpyI | with_reducible apply Fr.newC | with_reducible exact Fr.rfl' | (simp; done) | (simp; omega))) rfl (fun r2 hr2 => ?_) (by simp [hI_setI]) (by simp [hI_setI]) (by simp [hI_setI]) (by simp [hI_setI]) (by simp [hI_setI]) (by simp [hI_setI]) (by simp [hI_setI]) (by simp [hI_setI])⟩
      obtain ⟨hA2, hB2, hC2, hD2⟩ := h.2.1 r2 hr2
      by_cases e : r2 = r
      · subst e
        exact ⟨Or.inl (by simp [hI_setI]), by simp [hI_setI]; exact hB2, by simp [hI_setI]; exact hC2, fun k hk => by simp [hI_setI, show ¬ 3 + r2 = 13 by omega, show ¬ 3 + r2 = 0 by omega, show ¬ 3 + r2 = 35 by omega, show ¬ 3 + r2 = 36 by omega]; exact hD2 k hk⟩
      · exact ⟨by simp [hI_setI, e]; exact hA2, by simp [hI_setI]; exact hB2, by simp [hI_setI]; exact hC2, fun k hk => by simp [hI_setI, show ¬ 3 + r2 = 13 by omega, show ¬ 3 + r2 = 0 by omega, show ¬ 3 + r2 = 35 by omega, show ¬ 3 + r2 = 36 by omega]; exact hD2 k hk⟩
theorem c_fill {Q : hp → Prop} {S : hp} {a n : Nat} {v : Int32} (hk : hK S a = 12) (hn : hN S a = n) (hn2 : n < 2147483648) (h : Q (putA S a (fun i => if i < n then v else hI S a i))) : wp_J7_fill_53178 Q S a v := by
  have key : ∀ (k j : Nat), j + k = n → wl_J7_fill_53178_5 Q (k + 1) (putA S a (fun i => if i < j then v else hI S a i)) a v (nI j) (nI n) := by
    intro k
    induction k with
    | zero =>
      intro j hj
      have : j = n := by omega
      subst this
      unfold wl_J7_fill_53178_5 wB_J7_fill_53178_5
      exact ⟨fun _ => h, fun q => absurd (nI_le (Nat.le_refl j) (by omega)) q⟩
    | succ k ih =>
      intro j hj
      unfold wl_J7_fill_53178_5 wB_J7_fill_53178_5
      refine ⟨fun q => absurd q (nI_ge (by omega) (by omega)), fun _ => ⟨hk, by rw [hN_putA, hn]; exact vp_in_nI (by omega) (by omega), ?_⟩⟩
      simp only [↓reduceIte, Nat.reduceEqDiff, and_false, false_and, true_and, and_true, forall_eq, forall_eq', exists_eq_left, exists_eq_left', Option.some.injEq, eq_self_iff_true, not_true, not_false_iff, false_implies, true_implies, forall_const, reduceCtorEq, ne_eq]
      rw [setI_putA, nI_clamp (by omega), nI_1]
      have := ih (j + 1) (by omega)
      have e : (fun i => if i = j then v else if i < j then v else hI S a i) = fun i => if i < j + 1 then v else hI S a i := by
        funext i
        by_cases h1 : i = j
        · simp [h1]
        · have : (i < j + 1) = (i < j) := by apply propext; omega
          simp [h1, this]
      rw [e]
      exact this
  unfold wp_J7_fill_53178
  refine ⟨hk, ?_⟩
  simp only [↓reduceIte, Nat.reduceEqDiff, and_false, false_and, true_and, and_true, forall_eq, forall_eq', exists_eq_left, exists_eq_left', Option.some.injEq, eq_self_iff_true, not_true, not_false_iff, false_implies, true_implies, forall_const, reduceCtorEq, ne_eq, hn]
  refine ⟨n + 1, ?_⟩
  have := key n 0 (by omega)
  have e : (fun i => if i < 0 then v else hI S a i) = hI S a := by funext i; simp
  rw [e, putA_self] at this
  exact this
theorem c_rowM {Q : Int32 → hp → Prop} {S : hp} {r : Nat} {x3 : Int32} (hL : Lay S) (hr : r < 8) (h : Q x3 (putA S 38 (fun i => if 40 * r ≤ i ∧ i < 40 * r + 40 then 0 else hI S 38 i))) : ∃ n, wl_X12_row_65 Q n S 35 (nI r) x3 0 := by
  have key : ∀ (k j : Nat), j + k = 40 → wl_X12_row_65 Q (k + 1) (putA S 38 (fun i => if 40 * r ≤ i ∧ i < 40 * r + j then 0 else hI S 38 i)) 35 (nI r) x3 (nI j) := by
    intro k
    induction k with
    | zero =>
      intro j hj
      have : j = 40 := by omega
      subst this
      unfold wl_X12_row_65 wB_X12_row_65
      exact ⟨fun _ => h, fun q => absurd (nI_le (a := 40) (b := 40) (by omega) (by omega)) q⟩
    | succ k ih =>
      intro j hj
      unfold wl_X12_row_65 wB_X12_row_65
      refine ⟨fun q => absurd q (nI_ge (a := j) (b := 40) (by omega) (by omega)), fun _ => ?_⟩
      have ei : ((40 : Int32) * nI r + nI j) = nI (40 * r + j) := by rw [← nI_add, ← nI_mul]; rfl
      simp only [ei, hL.eqs, show vp_in (nI (40 * r + j)) 320 from vp_in_nI (by omega) (by omega), hK_putA, hN_putA, hR_putA, hC_putA, hK_setI, hN_setI, hR_setI, hC_setI, hI_setI, hK_setR, hN_setR, hI_setR, hC_setR, hR_setR, hK_cpyI, hN_cpyI, hR_cpyI, hC_cpyI, hI_cpyI, ↓reduceIte, Nat.reduceEqDiff, and_false, false_and, true_and, and_true, forall_eq, forall_eq', exists_eq_left, exists_eq_left', Option.some.injEq, eq_self_iff_true, not_true, not_false_iff, false_implies, true_implies, forall_const, reduceCtorEq, ne_eq]
      rw [setI_putA, nI_clamp (by omega), nI_1]
      have := ih (j + 1) (by omega)
      have e : (fun i => if i = 40 * r + j then (0 : Int32) else if 40 * r ≤ i ∧ i < 40 * r + j then 0 else hI S 38 i) = fun i => if 40 * r ≤ i ∧ i < 40 * r + (j + 1) then 0 else hI S 38 i := by
        funext i
        by_cases h1 : i = 40 * r + j
        · simp [h1]
        · have : (40 * r ≤ i ∧ i < 40 * r + (j + 1)) = (40 * r ≤ i ∧ i < 40 * r + j) := by apply propext; omega
          simp [h1, this]
      rw [e]
      exact this
  refine ⟨41, ?_⟩
  have := key 40 0 (by omega)
  have e : (fun i => if 40 * r ≤ i ∧ i < 40 * r + 0 then (0 : Int32) else hI S 38 i) = hI S 38 := by
    funext i
    rw [if_neg (by omega)]
  rw [e, putA_self] at this
  exact this
theorem p_row : st_row Rel := by
  intro S h x1 x2 x3
  refine ⟨h.1.eqs.1, ?_⟩
  obtain ⟨Q, hQ⟩ : ∃ Q : Int32 → hp → Prop, Q = fun (r : Int32) (S1 : hp) => hK S1 35 = 11 ∧ wp_X12_row (fun r2 S2 => r = r2 ∧ Rel S2) S1 35 x1 x2 x3 := ⟨_, rfl⟩
  rw [← hQ]
  unfold wp_X11_row wp_X6_lay wp_X11_answered wp_X11_found
  simp only [e_isRow, e_isLane, bI0]
  cases hb : rg x1 0 7 with
  | false =>
    simp only [↓reduceIte, Nat.reduceEqDiff, and_false, false_and, true_and, and_true, forall_eq, forall_eq', exists_eq_left, exists_eq_left', Option.some.injEq, eq_self_iff_true, not_true, not_false_iff, false_implies, true_implies, forall_const, reduceCtorEq, ne_eq, hQ, wp_X12_row, h.1.eqs, e_isRowM, hb, bI_f, hK_putA, hN_putA, hR_putA, hC_putA, hK_setI, hN_setI, hR_setI, hC_setI, hI_setI, hK_setR, hN_setR, hI_setR, hC_setR, hR_setR, hK_cpyI, hN_cpyI, hR_cpyI, hC_cpyI, hI_cpyI]
    simpa using h.thr 0
  | true =>
    obtain ⟨r, hr, hr2, rfl⟩ := rg_nat hb
    have hr8 : r < 8 := by omega
    have hv : vp_in (nI r) 8 := vp_in_nI hr8 (by omega)
    have hcl : (nI r).toNatClampNeg = r := nI_clamp (by omega)
    obtain ⟨hA, hB, hC0, hD⟩ := h.2.1 r hr8
    obtain ⟨g1, g2, g3⟩ := h.1.grid hr8
    cases hb2 : rg x2 0 2 with
    | false =>
      simp only [↓reduceIte, Nat.reduceEqDiff, and_false, false_and, true_and, and_true, forall_eq, forall_eq', exists_eq_left, exists_eq_left', Option.some.injEq, eq_self_iff_true, not_true, not_false_iff, false_implies, true_implies, forall_const, reduceCtorEq, ne_eq, hQ, wp_X12_row, h.1.eqs, e_isRowM, e_in, l64_0, l64_1, l64_2, l64_5, l64_6, l64_7, l64_m1, l64_99, l64_m99, l64_255, l64_999, l64_m999, l64_297, l64_200, l64_m200, l64_97, l64_122, l64_48, l64_57, Int32.toInt_toInt64, hb, hb2, bI_t, bI_f, i1_ne0, hK_putA, hN_putA, hR_putA, hC_putA, hK_setI, hN_setI, hR_setI, hC_setI, hI_setI, hK_setR, hN_setR, hI_setR, hC_setR, hR_setR, hK_cpyI, hN_cpyI, hR_cpyI, hC_cpyI, hI_cpyI]
      simpa using h.thr 0
    | true =>
      simp only [h.1.eqs, hv, hcl, nar1, g1, g2, g3, hK_putA, hN_putA, hR_putA, hC_putA, hK_setI, hN_setI, hR_setI, hC_setI, hI_setI, hK_setR, hN_setR, hI_setR, hC_setR, hR_setR, hK_cpyI, hN_cpyI, hR_cpyI, hC_cpyI, hI_cpyI, ↓reduceIte, Nat.reduceEqDiff, and_false, false_and, true_and, and_true, forall_eq, forall_eq', exists_eq_left, exists_eq_left', Option.some.injEq, eq_self_iff_true, not_true, not_false_iff, false_implies, true_implies, forall_const, reduceCtorEq, ne_eq]
      refine ⟨fun h40 => ⟨fun h0 => ?_, fun h0 => ?_⟩, fun h40 => ?_⟩
      · refine c_fill (n := 40) (by simp only [hK_putA, hN_putA, hR_putA, hC_putA, hK_setI, hN_setI, hR_setI, hC_setI, hI_setI, hK_setR, hN_setR, hI_setR, hC_setR, hR_setR, hK_cpyI, hN_cpyI, hR_cpyI, hC_cpyI, hI_cpyI]; exact g2) (by simp only [hK_putA, hN_putA, hR_putA, hC_putA, hK_setI, hN_setI, hR_setI, hC_setI, hI_setI, hK_setR, hN_setR, hI_setR, hC_setR, hR_setR, hK_cpyI, hN_cpyI, hR_cpyI, hC_cpyI, hI_cpyI]; exact g3) (by omega) ?_
        simp only [hQ, wp_X12_row, h.1.eqs, e_isRowM, e_in, l64_0, l64_1, l64_2, l64_5, l64_6, l64_7, l64_m1, l64_99, l64_m99, l64_255, l64_999, l64_m999, l64_297, l64_200, l64_m200, l64_97, l64_122, l64_48, l64_57, Int32.toInt_toInt64, hb, hb2, bI_t, i1_ne0, h40, h0, hv, hcl, hK_putA, hN_putA, hR_putA, hC_putA, hK_setI, hN_setI, hR_setI, hC_setI, hI_setI, hK_setR, hN_setR, hI_setR, hC_setR, hR_setR, hK_cpyI, hN_cpyI, hR_cpyI, hC_cpyI, hI_cpyI, ↓reduceIte, Nat.reduceEqDiff, and_false, false_and, true_and, and_true, forall_eq, forall_eq', exists_eq_left, exists_eq_left', Option.some.injEq, eq_self_iff_true, not_true, not_false_iff, false_implies, true_implies, forall_const, reduceCtorEq, ne_eq]
        refine c_rowM (by simp only [Lay_setI, Lay_putA]; exact h.1) hr8 ⟨rfl, ?_⟩
        refine h.rows (by repeat' (first | with_reducible apply Fr.setI | with_reducible apply Fr.putA | with_reducible apply Fr.setR | with_reducible apply Fr.cpyI | with_reducible apply Fr.newC | with_reducible exact Fr.rfl' | (simp; done) | (simp; omega))) rfl (fun r2 hr2 => ?_) (by simp [hI_setI, hI_putA, n13 hr8]) (by simp [hI_setI, hI_putA, n13 hr8]) (by simp [hI_setI, hI_putA, n13 hr8]) (by simp [hI_setI, hI_putA, n13 hr8]) (by simp [hI_setI, hI_putA, n13 hr8]) (by simp [hI_setI, hI_putA, n13 hr8]) (by simp [hI_setI, hI_putA, n13 hr8]) (by simp [hI_setI, hI_putA, n13 hr8])
        obtain ⟨hA2, hB2, hC2, hD2⟩ := h.2.1 r2 hr2
        by_cases e : r2 = r
        · subst e
          refine ⟨Or.inr ⟨?_, ?_, ?_⟩, ?_, ?_, fun k hk => ?_⟩
          · simp [hI_setI, hI_putA, n13 hr8]
          · simp [hI_setI, hI_putA, n13 hr8]
          · simpa [hI_setI, hI_putA, n13 hr8] using hb2
          · simp [hI_setI, hI_putA, n13 hr8]
          · have h41 := h40; have h42 := h0; rw [t_le] at h41 h42
            simp [hI_setI, hI_putA, n13 hr8]; exact rg_t.mpr ⟨h42, h41⟩
          · simp [hI_setI, hI_putA, n13 hr8, hk]
        · refine ⟨?_, ?_, ?_, fun k hk => ?_⟩
          · simpa [hI_setI, hI_putA, n13 hr8, e] using hA2
          · simpa [hI_setI, hI_putA, n13 hr8, e] using hB2
          · simpa [hI_setI, hI_putA, n13 hr8, e] using hC2
          · have hx : ¬ (40 * r ≤ 40 * r2 + k ∧ 40 * r2 + k < 40 * r + 40) := by omega
            simpa [hI_setI, hI_putA, n13 hr8, n13 hr2, e, hx] using hD2 k hk
      · simp [hQ, wp_X12_row, wp_X12_finding, h.1.eqs, e_isRowM, e_in, l64_0, l64_1, l64_2, l64_5, l64_6, l64_7, l64_m1, l64_99, l64_m99, l64_255, l64_999, l64_m999, l64_297, l64_200, l64_m200, l64_97, l64_122, l64_48, l64_57, Int32.toInt_toInt64, hb, hb2, bI_t, i1_ne0, h40, h0, hK_putA, hN_putA, hR_putA, hC_putA, hK_setI, hN_setI, hR_setI, hC_setI, hI_setI, hK_setR, hN_setR, hI_setR, hC_setR, hR_setR, hK_cpyI, hN_cpyI, hR_cpyI, hC_cpyI, hI_cpyI]
        exact h.flds (by repeat' (first | with_reducible apply Fr.setI | with_reducible apply Fr.putA | with_reducible apply Fr.setR | with_reducible apply Fr.cpyI | with_reducible apply Fr.newC | with_reducible exact Fr.rfl' | (simp; done) | (simp; omega))) rfl (by simp [hI_setI]) (by simp [hI_setI]; exact h.2.2.2.1.2) (by simp [hI_setI]) (by simp [hI_setI]) (by simp [hI_setI]) (by simp [hI_setI]) (by simp [hI_setI])
      · simp only [hQ, wp_X12_row, h.1.eqs, e_isRowM, e_in, l64_0, l64_1, l64_2, l64_5, l64_6, l64_7, l64_m1, l64_99, l64_m99, l64_255, l64_999, l64_m999, l64_297, l64_200, l64_m200, l64_97, l64_122, l64_48, l64_57, Int32.toInt_toInt64, hb, hb2, bI_t, i1_ne0, h40, hK_putA, hN_putA, hR_putA, hC_putA, hK_setI, hN_setI, hR_setI, hC_setI, hI_setI, hK_setR, hN_setR, hI_setR, hC_setR, hR_setR, hK_cpyI, hN_cpyI, hR_cpyI, hC_cpyI, hI_cpyI, ↓reduceIte, Nat.reduceEqDiff, and_false, false_and, true_and, and_true, forall_eq, forall_eq', exists_eq_left, exists_eq_left', Option.some.injEq, eq_self_iff_true, not_true, not_false_iff, false_implies, true_implies, forall_const, reduceCtorEq, ne_eq]
        exact h.thr 0
