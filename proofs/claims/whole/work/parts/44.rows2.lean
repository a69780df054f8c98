theorem lg_lt (a b : Int64) : (lg_cmp a b < 0) = (a.toInt < b.toInt) ∧ (0 < lg_cmp a b) = (b.toInt < a.toInt) ∧ (lg_cmp a b ≤ 0) = (a.toInt ≤ b.toInt) := by
  unfold lg_cmp
  by_cases h : a > b
  · rw [if_pos h]
    have h' : b.toInt < a.toInt := Int64.lt_iff_toInt_lt.mp h
    exact ⟨propext ⟨fun q => absurd q (by decide), fun q => by omega⟩, propext ⟨fun _ => h', fun _ => by decide⟩, propext ⟨fun q => absurd q (by decide), fun q => by omega⟩⟩
  · rw [if_neg h]
    have h' : ¬ b.toInt < a.toInt := fun q => h (Int64.lt_iff_toInt_lt.mpr q)
    by_cases h2 : a = b
    · rw [if_pos h2]; subst h2
      exact ⟨propext ⟨fun q => absurd q (by decide), fun q => by omega⟩, propext ⟨fun q => absurd q (by decide), fun q => by omega⟩, propext ⟨fun _ => by omega, fun _ => by decide⟩⟩
    · rw [if_neg h2]
      have h3 : ¬ a.toInt = b.toInt := fun q => h2 (Int64.toInt_inj.mp q)
      exact ⟨propext ⟨fun _ => by omega, fun _ => by decide⟩, propext ⟨fun q => absurd q (by decide), fun q => by omega⟩, propext ⟨fun _ => by omega, fun _ => by decide⟩⟩
theorem l_add (x y : Int32) : (x.toInt64 + y.toInt64).toInt = x.toInt + y.toInt := by
  have h1 := t_rng x
  have h2 := t_rng y
  rw [Int64.toInt_add, Int32.toInt_toInt64, Int32.toInt_toInt64, Int.bmod_eq_of_le (by omega) (by omega)]
def hold (x n sz : Int32) : Bool := decide (0 ≤ x.toInt) && (decide (0 ≤ n.toInt) && decide (x.toInt + n.toInt ≤ sz.toInt))
theorem hold_t {x n sz : Int32} : hold x n sz = true ↔ 0 ≤ x.toInt ∧ 0 ≤ n.toInt ∧ x.toInt + n.toInt ≤ sz.toInt := by simp [hold]
theorem hold_f {x n sz : Int32} (h : ¬ (0 ≤ x.toInt ∧ 0 ≤ n.toInt ∧ x.toInt + n.toInt ≤ sz.toInt)) : hold x n sz = false := by
  rw [← hold_t] at h; simpa using h
theorem e_holds {Q : Int32 → hp → Prop} {S : hp} (hL : Lay S) {r : Nat} (hr : r < 8) (hs : rg (hI S 12 r) 0 40 = true) {x n : Int32} : wp_X6_holds Q S 1 (nI r) x n ↔ Q (bI (hold x n (hI S 12 r))) S := by
  have hz := rg_t.mp hs
  have hx := t_rng x
  unfold wp_X6_holds
  simp only [hL.eqs, show vp_in (nI r) 8 from vp_in_nI hr (by omega), nI_clamp (show r < 2 ^ 31 by omega), ↓reduceIte, Nat.reduceEqDiff, and_false, false_and, true_and, and_true, forall_eq, forall_eq', exists_eq_left, exists_eq_left', Option.some.injEq, eq_self_iff_true, not_true, not_false_iff, false_implies, true_implies, forall_const, reduceCtorEq, ne_eq]
  generalize hI S 12 r = z at hz
  simp only [t_lt, c0]
  by_cases a : x.toInt < 0
  · rw [hold_f (by omega)]; simp only [a, bI_f, ↓reduceIte, Nat.reduceEqDiff, and_false, false_and, true_and, and_true, forall_eq, forall_eq', exists_eq_left, exists_eq_left', Option.some.injEq, eq_self_iff_true, not_true, not_false_iff, false_implies, true_implies, forall_const, reduceCtorEq, ne_eq]
  · by_cases b : n.toInt < 0
    · rw [hold_f (by omega)]; simp only [a, b, bI_f, ↓reduceIte, Nat.reduceEqDiff, and_false, false_and, true_and, and_true, forall_eq, forall_eq', exists_eq_left, exists_eq_left', Option.some.injEq, eq_self_iff_true, not_true, not_false_iff, false_implies, true_implies, forall_const, reduceCtorEq, ne_eq]
    · by_cases c : z.toInt < x.toInt
      · rw [hold_f (by omega)]; simp only [a, b, c, bI_f, ↓reduceIte, Nat.reduceEqDiff, and_false, false_and, true_and, and_true, forall_eq, forall_eq', exists_eq_left, exists_eq_left', Option.some.injEq, eq_self_iff_true, not_true, not_false_iff, false_implies, true_implies, forall_const, reduceCtorEq, ne_eq]
      · have e : (z - x).toInt = z.toInt - x.toInt := t_sub (by omega)
        rw [e]
        by_cases d : z.toInt - x.toInt < n.toInt
        · rw [hold_f (by omega)]; simp only [a, b, c, d, bI_f, ↓reduceIte, Nat.reduceEqDiff, and_false, false_and, true_and, and_true, forall_eq, forall_eq', exists_eq_left, exists_eq_left', Option.some.injEq, eq_self_iff_true, not_true, not_false_iff, false_implies, true_implies, forall_const, reduceCtorEq, ne_eq]
        · rw [hold_t.mpr (by omega)]; simp only [a, b, c, d, bI_t, ↓reduceIte, Nat.reduceEqDiff, and_false, false_and, true_and, and_true, forall_eq, forall_eq', exists_eq_left, exists_eq_left', Option.some.injEq, eq_self_iff_true, not_true, not_false_iff, false_implies, true_implies, forall_const, reduceCtorEq, ne_eq]
/-- the finding of a place of a row -/
def fnd (m : Bool) (h : Bool) : Int32 := if m then 1 else if h then 0 else 2
theorem e_findingAt {Q : Int32 → hp → Prop} {S : hp} (hL : Lay S) {r : Nat} (hr : r < 8) (hs : rg (hI S 12 r) 0 40 = true) {x n : Int32} : wp_X6_findingAt Q S 1 (nI r) x n ↔ Q (fnd (decide (hI S 13 r = 0)) (hold x n (hI S 12 r))) S := by
  unfold wp_X6_findingAt
  simp only [hL.eqs, e_isMissing hL hr, e_holds hL hr hs, bI0, ↓reduceIte, Nat.reduceEqDiff, and_false, false_and, true_and, and_true, forall_eq, forall_eq', exists_eq_left, exists_eq_left', Option.some.injEq, eq_self_iff_true, not_true, not_false_iff, false_implies, true_implies, forall_const, reduceCtorEq, ne_eq]
  cases decide (hI S 13 r = 0) <;> cases hold x n (hI S 12 r) <;> simp [fnd]
def fndM (m1 m2 s h1 h2 : Bool) : Int32 := if m1 || m2 then 1 else if s then (if h1 && h2 then 0 else 2) else 5
theorem e_findingOfMove {Q : Int32 → hp → Prop} {S : hp} (hL : Lay S) {a b : Nat} (ha : a < 8) (hb : b < 8) (hsa : rg (hI S 12 a) 0 40 = true) (hsb : rg (hI S 12 b) 0 40 = true) {x y n : Int32} : wp_X6_findingOfMove Q S 1 (nI a) x (nI b) y n ↔ Q (fndM (decide (hI S 13 a = 0)) (decide (hI S 13 b = 0)) (decide (hI S 11 a = hI S 11 b)) (hold x n (hI S 12 a)) (hold y n (hI S 12 b))) S := by
  unfold wp_X6_findingOfMove
  simp only [hL.eqs, e_isMissing hL ha, e_isMissing hL hb, e_holds hL ha hsa, e_holds hL hb hsb, bI0, show vp_in (nI a) 8 from vp_in_nI ha (by omega), show vp_in (nI b) 8 from vp_in_nI hb (by omega), nI_clamp (show a < 2 ^ 31 by omega), nI_clamp (show b < 2 ^ 31 by omega), ↓reduceIte, Nat.reduceEqDiff, and_false, false_and, true_and, and_true, forall_eq, forall_eq', exists_eq_left, exists_eq_left', Option.some.injEq, eq_self_iff_true, not_true, not_false_iff, false_implies, true_implies, forall_const, reduceCtorEq, ne_eq]
  by_cases hl : hI S 11 a = hI S 11 b <;> cases decide (hI S 13 a = 0) <;> cases decide (hI S 13 b = 0) <;> cases hold x n (hI S 12 a) <;> cases hold y n (hI S 12 b) <;> simp [fndM, hl]
theorem e_cut {Q : Int32 → hp → Prop} {S : hp} {v l : Int32} : wp_X6_cut Q S v l ↔ Q (if l = 0 then v.toInt8.toInt32 else if l = 1 then v.toInt16.toInt32 else v) S := by
  unfold wp_X6_cut
  by_cases h0 : l = 0
  · subst h0; simp
  · by_cases h1 : l = 1
    · subst h1; simp
    · simp [h0, h1]
theorem p_set : st_set Rel := by
  intro S h x1 x2 x3
  refine ⟨h.1.eqs.1, ?_⟩
  obtain ⟨Q, hQ⟩ : ∃ Q : Int32 → hp → Prop, Q = fun (r : Int32) (S1 : hp) => hK S1 35 = 11 ∧ wp_X12_set (fun r2 S2 => r = r2 ∧ Rel S2) S1 35 x1 x2 x3 := ⟨_, rfl⟩
  rw [← hQ]
  unfold wp_X11_set wp_X6_put wp_X11_answered wp_X11_found
  simp only [e_isRow, bI0]
  cases hb : rg x1 0 7 with
  | false =>
    simp only [↓reduceIte, Nat.reduceEqDiff, and_false, false_and, true_and, and_true, forall_eq, forall_eq', exists_eq_left, exists_eq_left', Option.some.injEq, eq_self_iff_true, not_true, not_false_iff, false_implies, true_implies, forall_const, reduceCtorEq, ne_eq, hQ, wp_X12_set, h.1.eqs, e_isRowM, hb, bI_f, hK_putA, hN_putA, hR_putA, hC_putA, hK_setI, hN_setI, hR_setI, hC_setI, hI_setI, hK_setR, hN_setR, hI_setR, hC_setR, hR_setR, hK_cpyI, hN_cpyI, hR_cpyI, hC_cpyI, hI_cpyI]
    simpa using h.thr 0
  | true =>
    obtain ⟨r, hr, hr2, rfl⟩ := rg_nat hb
    have hr8 : r < 8 := by omega
    have hv : vp_in (nI r) 8 := vp_in_nI hr8 (by omega)
    have hcl : (nI r).toNatClampNeg = r := nI_clamp (by omega)
    obtain ⟨hA, hB, hC0, hD⟩ := h.2.1 r hr8
    obtain ⟨g1, g2, g3⟩ := h.1.grid hr8
    simp only [h.1.eqs, e_findingAt h.1 hr8 (by rw [hB]; exact hC0), hv, hcl, g1, g2, g3, e_cut, hK_putA, hN_putA, hR_putA, hC_putA, hK_setI, hN_setI, hR_setI, hC_setI, hI_setI, hK_setR, hN_setR, hI_setR, hC_setR, hR_setR, hK_cpyI, hN_cpyI, hR_cpyI, hC_cpyI, hI_cpyI, ↓reduceIte, Nat.reduceEqDiff, and_false, false_and, true_and, and_true, forall_eq, forall_eq', exists_eq_left, exists_eq_left', Option.some.injEq, eq_self_iff_true, not_true, not_false_iff, false_implies, true_implies, forall_const, reduceCtorEq, ne_eq]
    have hz := rg_t.mp hC0
    rcases hA with ⟨h1, h2⟩ | ⟨h1, h2, h3⟩
    · simp only [h1, fnd, decide_true, i1_ne0, ↓reduceIte, Nat.reduceEqDiff, and_false, false_and, true_and, and_true, forall_eq, forall_eq', exists_eq_left, exists_eq_left', Option.some.injEq, eq_self_iff_true, not_true, not_false_iff, false_implies, true_implies, forall_const, reduceCtorEq, ne_eq]
      simp only [hQ, wp_X12_set, wp_X12_finding, h.1.eqs, e_isRowM, hb, bI_t, i1_ne0, hv, hcl, h2, m1_neg, hI_setI, hK_putA, hN_putA, hR_putA, hC_putA, hK_setI, hN_setI, hR_setI, hC_setI, hI_setI, hK_setR, hN_setR, hI_setR, hC_setR, hR_setR, hK_cpyI, hN_cpyI, hR_cpyI, hC_cpyI, hI_cpyI, ↓reduceIte, Nat.reduceEqDiff, and_false, false_and, true_and, and_true, forall_eq, forall_eq', exists_eq_left, exists_eq_left', Option.some.injEq, eq_self_iff_true, not_true, not_false_iff, false_implies, true_implies, forall_const, reduceCtorEq, ne_eq]
      exact h.flds (by repeat' (first | with_reducible apply Fr.setI | with_reducible apply Fr.putA | with_reducible apply Fr.setR | with_reducible apply Fr.cpyI | with_reducible apply Fr.newC | with_reducible exact Fr.rfl' | (simp; done) | (simp; omega))) rfl (by simp [hI_setI]) (by simp [hI_setI]; exact h.2.2.2.1.2) (by simp [hI_setI]) (by simp [hI_setI]) (by simp [hI_setI]) (by simp [hI_setI]) (by simp [hI_setI])
    · have h5 : (0 ≤ hI S 11 r) = True := by rw [t_le]; have := rg_t.mp h3; exact eq_true (show 0 ≤ (hI S 11 r).toInt by omega)
      have e1 : (hI S 37 r - 1).toInt = (hI S 37 r).toInt - 1 := t_sub (b := 1) (show _ ∧ _ by show _ ≤ _ - 1 ∧ _ - 1 < _; omega)
      cases hh : hold x2 1 (hI S 12 r) with
      | false =>
        have hf : rg x2 0 ((hI S 37 r).toInt - 1) = false := by
          rw [hB] at hh
          rw [rg_f]
          by_cases q : x2.toInt < 0
          · exact Or.inl q
          · refine Or.inr ?_
            have : ¬ (0 ≤ x2.toInt ∧ 0 ≤ (1 : Int32).toInt ∧ x2.toInt + (1 : Int32).toInt ≤ (hI S 37 r).toInt) := fun q2 => by rw [hold_t.mpr q2] at hh; cases hh
            have e9 : (1 : Int32).toInt = 1 := rfl
            omega
        simp only [h1, fnd, i1_ne0, decide_false, Bool.false_eq_true, show ((2 : Int32) = 0) = False by decide, ↓reduceIte, Nat.reduceEqDiff, and_false, false_and, true_and, and_true, forall_eq, forall_eq', exists_eq_left, exists_eq_left', Option.some.injEq, eq_self_iff_true, not_true, not_false_iff, false_implies, true_implies, forall_const, reduceCtorEq, ne_eq]
        simp only [hQ, wp_X12_set, wp_X12_finding, h.1.eqs, e_isRowM, e_in, l64_0, l64_1, l64_2, l64_5, l64_6, l64_7, l64_m1, l64_99, l64_m99, l64_255, l64_999, l64_m999, l64_297, l64_200, l64_m200, l64_97, l64_122, l64_48, l64_57, Int32.toInt_toInt64, hb, bI_t, bI_f, i1_ne0, hv, hcl, h2, h5, hI_setI, e1, hf, hK_putA, hN_putA, hR_putA, hC_putA, hK_setI, hN_setI, hR_setI, hC_setI, hI_setI, hK_setR, hN_setR, hI_setR, hC_setR, hR_setR, hK_cpyI, hN_cpyI, hR_cpyI, hC_cpyI, hI_cpyI, ↓reduceIte, Nat.reduceEqDiff, and_false, false_and, true_and, and_true, forall_eq, forall_eq', exists_eq_left, exists_eq_left', Option.some.injEq, eq_self_iff_true, not_true, not_false_iff, false_implies, true_implies, forall_const, reduceCtorEq, ne_eq]
        exact h.flds (by repeat' (first | with_reducible apply Fr.setI | with_reducible apply Fr.putA | with_reducible apply Fr.setR | with_reducible apply Fr.cpyI | with_reducible apply Fr.newC | with_reducible exact Fr.rfl' | (simp; done) | (simp; omega))) rfl (by simp [hI_setI]) (by simp [hI_setI]; exact h.2.2.2.1.2) (by simp [hI_setI]) (by simp [hI_setI]) (by simp [hI_setI]) (by simp [hI_setI]) (by simp [hI_setI])
      | true =>
        rw [hB] at hh
        have ht := hold_t.mp hh
        have e9 : (1 : Int32).toInt = 1 := rfl
        have hf : rg x2 0 ((hI S 37 r).toInt - 1) = true := rg_t.mpr (by omega)
        obtain ⟨i, hi, hi2, rfl⟩ := rg_nat hf
        have hi40 : i < 40 := by omega
        have hvi : vp_in (nI i) 40 := vp_in_nI hi40 (by omega)
        have hci : (nI i).toNatClampNeg = i := nI_clamp (by omega)
        have ei : ((40 : Int32) * nI r + nI i) = nI (40 * r + i) := by rw [← nI_add, ← nI_mul]; rfl
        have hvj : vp_in (nI (40 * r + i)) 320 := vp_in_nI (by omega) (by omega)
        have hcj : (nI (40 * r + i)).toNatClampNeg = 40 * r + i := nI_clamp (by omega)
        simp only [h1, fnd, i1_ne0, decide_false, Bool.false_eq_true, hci, hvi, hI_setI, hK_putA, hN_putA, hR_putA, hC_putA, hK_setI, hN_setI, hR_setI, hC_setI, hI_setI, hK_setR, hN_setR, hI_setR, hC_setR, hR_setR, hK_cpyI, hN_cpyI, hR_cpyI, hC_cpyI, hI_cpyI, ↓reduceIte, Nat.reduceEqDiff, and_false, false_and, true_and, and_true, forall_eq, forall_eq', exists_eq_left, exists_eq_left', Option.some.injEq, eq_self_iff_true, not_true, not_false_iff, false_implies, true_implies, forall_const, reduceCtorEq, ne_eq, h.1.eqs, g1, g2, g3, hv, hcl]
        generalize hw : (if hI S 11 r = 0 then x3.toInt8.toInt32 else if hI S 11 r = 1 then x3.toInt16.toInt32 else x3) = w
        have fin : Rel (setI (setI (setI (setI (setI S (3 + r) i w) 0 11 0) 35 0 0) 35 1 0) 38 (40 * r + i) w) := by
          refine h.rows (by repeat' (first | with_reducible apply Fr.setI | with_reducible apply Fr.putA | with_reducible apply Fr.setR | with_reducible apply Fr.cpyI | with_reducible apply Fr.newC | with_reducible exact Fr.rfl' | (simp; done) | (simp; omega))) rfl (fun r2 hr2 => ?_) (by simp [hI_setI, n13 hr8]) (by simp [hI_setI, n13 hr8]) (by simp [hI_setI, n13 hr8]) (by simp [hI_setI, n13 hr8]) (by simp [hI_setI, n13 hr8]) (by simp [hI_setI, n13 hr8]) (by simp [hI_setI, n13 hr8]) (by simp [hI_setI, n13 hr8])
          obtain ⟨hA2, hB2, hC2, hD2⟩ := h.2.1 r2 hr2
          refine ⟨?_, ?_, ?_, fun k hk => ?_⟩
          · simpa [hI_setI, n13 hr8] using hA2
          · simpa [hI_setI, n13 hr8] using hB2
          · simpa [hI_setI, n13 hr8] using hC2
          · by_cases e : r2 = r ∧ k = i
            · obtain ⟨rfl, rfl⟩ := e
              simp [hI_setI, n13 hr8]
            · have e1 : ¬ (3 + r2 = 3 + r ∧ k = i) := by omega
              have e2 : ¬ (40 * r2 + k = 40 * r + i) := by omega
              have e3 : ¬ (r2 = r ∧ k = i) := e
              simpa [hI_setI, n13 hr8, n13 hr2, e1, e2, e3] using hD2 k hk
        simp only [hQ, wp_X12_set, wB_X12_set_99, h.1.eqs, e_isRowM, e_in, l64_0, l64_1, l64_2, l64_5, l64_6, l64_7, l64_m1, l64_99, l64_m99, l64_255, l64_999, l64_m999, l64_297, l64_200, l64_m200, l64_97, l64_122, l64_48, l64_57, Int32.toInt_toInt64, hb, bI_t, bI_f, i1_ne0, hv, hcl, h2, h5, hI_setI, e1, hf, ei, hvj, hcj, n13 hr8, hK_putA, hN_putA, hR_putA, hC_putA, hK_setI, hN_setI, hR_setI, hC_setI, hI_setI, hK_setR, hN_setR, hI_setR, hC_setR, hR_setR, hK_cpyI, hN_cpyI, hR_cpyI, hC_cpyI, hI_cpyI, ↓reduceIte, Nat.reduceEqDiff, and_false, false_and, true_and, and_true, forall_eq, forall_eq', exists_eq_left, exists_eq_left', Option.some.injEq, eq_self_iff_true, not_true, not_false_iff, false_implies, true_implies, forall_const, reduceCtorEq, ne_eq]
        have hlr := rg_t.mp h3
        by_cases q0 : hI S 11 r = 0
        · rw [if_pos q0] at hw
          simp only [q0, hw, ↓reduceIte, Nat.reduceEqDiff, and_false, false_and, true_and, and_true, forall_eq, forall_eq', exists_eq_left, exists_eq_left', Option.some.injEq, eq_self_iff_true, not_true, not_false_iff, false_implies, true_implies, forall_const, reduceCtorEq, ne_eq]
          exact fin
        · rw [if_neg q0] at hw
          by_cases q1 : hI S 11 r = 1
          · rw [if_pos q1] at hw
            simp only [q1, i1_ne0, hw, ↓reduceIte, Nat.reduceEqDiff, and_false, false_and, true_and, and_true, forall_eq, forall_eq', exists_eq_left, exists_eq_left', Option.some.injEq, eq_self_iff_true, not_true, not_false_iff, false_implies, true_implies, forall_const, reduceCtorEq, ne_eq]
            exact fin
          · rw [if_neg q1] at hw
            simp only [q0, q1, hw, ↓reduceIte, Nat.reduceEqDiff, and_false, false_and, true_and, and_true, forall_eq, forall_eq', exists_eq_left, exists_eq_left', Option.some.injEq, eq_self_iff_true, not_true, not_false_iff, false_implies, true_implies, forall_const, reduceCtorEq, ne_eq]
            exact fin
/-- a row in which n numbers from o2 on are those that stood from o1 on -/
def mv (g : Nat → Int32) (o1 o2 lo hi : Nat) : Nat → Int32 := fun p => if o2 + lo ≤ p ∧ p < o2 + hi then g (o1 + (p - o2)) else g p
theorem c_copyM {Q : Int32 → hp → Prop} {S : hp} (hL : Lay S) {a b i j n : Nat} (ha : a < 8) (hb : b < 8) (hi : i + n ≤ 40) (hj : j + n ≤ 40) (u : Bool) (hu : u = decide (j ≤ i)) (h : Q (nI n) (putA S 38 (mv (hI S 38) (40 * a + i) (40 * b + j) 0 n))) : ∃ m, wl_X12_copy_143 Q m S 35 (nI a) (nI i) (nI b) (nI j) (nI n) (bI u) 0 := by
  have ei : ∀ r i k : Nat, ((40 : Int32) * nI r + nI i) + nI k = nI (40 * r + i + k) := fun r i k => by rw [← nI_add, ← nI_add, ← nI_mul]; rfl
  cases u with
  | true =>
    have hij : j ≤ i := by simpa using hu.symm
    have key : ∀ k t, t + k = n → wl_X12_copy_143 Q (k + 1) (putA S 38 (mv (hI S 38) (40 * a + i) (40 * b + j) 0 t)) 35 (nI a) (nI i) (nI b) (nI j) (nI n) (bI true) (nI t) := by
      intro k
      induction k with
      | zero =>
        intro t ht
        have : t = n := by omega
        subst this
        unfold wl_X12_copy_143 wB_X12_copy_143
        exact ⟨fun _ => h, fun q => absurd (nI_le (Nat.le_refl t) (by omega)) q⟩
      | succ k ih =>
        intro t ht
        unfold wl_X12_copy_143 wB_X12_copy_143 wB_X12_copy_167
        refine ⟨fun q => absurd q (nI_ge (by omega) (by omega)), fun _ => ⟨fun q => absurd q (by rw [bI_t]; decide), fun _ => ?_⟩⟩
        simp only [ei, hL.eqs, show vp_in (nI (40 * a + i + t)) 320 from vp_in_nI (by omega) (by omega), show vp_in (nI (40 * b + j + t)) 320 from vp_in_nI (by omega) (by omega), hK_putA, hN_putA, hR_putA, hC_putA, hK_setI, hN_setI, hR_setI, hC_setI, hI_setI, hK_setR, hN_setR, hI_setR, hC_setR, hR_setR, hK_cpyI, hN_cpyI, hR_cpyI, hC_cpyI, hI_cpyI, ↓reduceIte, Nat.reduceEqDiff, and_false, false_and, true_and, and_true, forall_eq, forall_eq', exists_eq_left, exists_eq_left', Option.some.injEq, eq_self_iff_true, not_true, not_false_iff, false_implies, true_implies, forall_const, reduceCtorEq, ne_eq]
        rw [setI_putA, nI_clamp (by omega), nI_clamp (by omega), nI_1, hI_putA_s]
        have e : (fun p => if p = 40 * b + j + t then mv (hI S 38) (40 * a + i) (40 * b + j) 0 t (40 * a + i + t) else mv (hI S 38) (40 * a + i) (40 * b + j) 0 t p) = mv (hI S 38) (40 * a + i) (40 * b + j) 0 (t + 1) := by
          funext p
          unfold mv
          by_cases h1 : p = 40 * b + j + t
          · subst h1
            rw [if_pos rfl, if_neg (by omega), if_pos (by omega)]
            congr 1
            omega
          · rw [if_neg h1]
            by_cases h2 : 40 * b + j + 0 ≤ p ∧ p < 40 * b + j + t
            · rw [if_pos h2, if_pos (by omega)]
            · rw [if_neg h2, if_neg (by omega)]
        rw [e]
        exact ih (t + 1) (by omega)
    refine ⟨n + 1, ?_⟩
    have := key n 0 (by omega)
    have e : mv (hI S 38) (40 * a + i) (40 * b + j) 0 0 = hI S 38 := by funext p; unfold mv; rw [if_neg (by omega)]
    rw [e, putA_self] at this
    exact this
  | false =>
    have hij : i < j := by
      have := hu.symm
      simpa using this
    have key : ∀ k t, t + k = n → wl_X12_copy_143 Q (k + 1) (putA S 38 (mv (hI S 38) (40 * a + i) (40 * b + j) k n)) 35 (nI a) (nI i) (nI b) (nI j) (nI n) (bI false) (nI t) := by
      intro k
      induction k with
      | zero =>
        intro t ht
        have : t = n := by omega
        subst this
        unfold wl_X12_copy_143 wB_X12_copy_143
        exact ⟨fun _ => h, fun q => absurd (nI_le (Nat.le_refl t) (by omega)) q⟩
      | succ k ih =>
        intro t ht
        unfold wl_X12_copy_143 wB_X12_copy_143 wB_X12_copy_167
        refine ⟨fun q => absurd q (nI_ge (by omega) (by omega)), fun _ => ⟨fun _ => ?_, fun q => absurd bI_f q⟩⟩
        have en : nI n - 1 - nI t = nI k := by
          have e1 : nI n = nI k + nI t + 1 := by rw [nI_add, nI_1]; congr 1; omega
          rw [e1, Int32.add_sub_cancel, Int32.add_sub_cancel]
        simp only [en, ei, hL.eqs, show vp_in (nI (40 * a + i + k)) 320 from vp_in_nI (by omega) (by omega), show vp_in (nI (40 * b + j + k)) 320 from vp_in_nI (by omega) (by omega), hK_putA, hN_putA, hR_putA, hC_putA, hK_setI, hN_setI, hR_setI, hC_setI, hI_setI, hK_setR, hN_setR, hI_setR, hC_setR, hR_setR, hK_cpyI, hN_cpyI, hR_cpyI, hC_cpyI, hI_cpyI, ↓reduceIte, Nat.reduceEqDiff, and_false, false_and, true_and, and_true, forall_eq, forall_eq', exists_eq_left, exists_eq_left', Option.some.injEq, eq_self_iff_true, not_true, not_false_iff, false_implies, true_implies, forall_const, reduceCtorEq, ne_eq]
        rw [setI_putA, nI_clamp (by omega), nI_clamp (by omega), nI_1, hI_putA_s]
        have e : (fun p => if p = 40 * b + j + k then mv (hI S 38) (40 * a + i) (40 * b + j) (k + 1) n (40 * a + i + k) else mv (hI S 38) (40 * a + i) (40 * b + j) (k + 1) n p) = mv (hI S 38) (40 * a + i) (40 * b + j) k n := by
          funext p
          unfold mv
          by_cases h1 : p = 40 * b + j + k
          · subst h1
            rw [if_pos rfl, if_neg (by omega), if_pos (by omega)]
            congr 1
            omega
          · rw [if_neg h1]
            by_cases h2 : 40 * b + j + (k + 1) ≤ p ∧ p < 40 * b + j + n
            · rw [if_pos h2, if_pos (by omega)]
            · rw [if_neg h2, if_neg (by omega)]
        rw [e]
        exact ih (t + 1) (by omega)
    refine ⟨n + 1, ?_⟩
    have := key n 0 (by omega)
    have e : mv (hI S 38) (40 * a + i) (40 * b + j) n n = hI S 38 := by funext p; unfold mv; rw [if_neg (by omega)]
    rw [e, putA_self] at this
    exact this
theorem Rel.both {S : hp} (h : Rel S) (v : Int32) : Rel (setI (setI (setI (setI S 0 11 v) 35 0 0) 35 1 0) 35 1 v) :=
  h.flds (by repeat' (first | with_reducible apply Fr.setI | with_reducible apply Fr.putA | with_reducible apply Fr.setR | with_reducible apply Fr.cpyI | with_reducible apply Fr.newC | with_reducible exact Fr.rfl' | (simp; done) | (simp; omega))) rfl (by simp [hI_setI]) (by simp [hI_setI]; exact h.2.2.2.1.2) (by simp [hI_setI]) (by simp [hI_setI]) (by simp [hI_setI]) (by simp [hI_setI]) (by simp [hI_setI])
theorem p_copy : st_copy Rel := by
  intro S h x1 x2 x3 x4 x5
  refine ⟨h.1.eqs.1, ?_⟩
  obtain ⟨Q, hQ⟩ : ∃ Q : Int32 → hp → Prop, Q = fun (r : Int32) (S1 : hp) => hK S1 35 = 11 ∧ wp_X12_copy (fun r2 S2 => r = r2 ∧ Rel S2) S1 35 x1 x2 x3 x4 x5 := ⟨_, rfl⟩
  rw [← hQ]
  unfold wp_X11_copy wp_X6_move wp_X11_answered wp_X11_found
  simp only [e_isRow, bI0]
  cases hb : rg x1 0 7 with
  | false =>
    simp only [↓reduceIte, Nat.reduceEqDiff, and_false, false_and, true_and, and_true, forall_eq, forall_eq', exists_eq_left, exists_eq_left', Option.some.injEq, eq_self_iff_true, not_true, not_false_iff, false_implies, true_implies, forall_const, reduceCtorEq, ne_eq, hQ, wp_X12_copy, h.1.eqs, e_isRowM, hb, bI_f, hK_putA, hN_putA, hR_putA, hC_putA, hK_setI, hN_setI, hR_setI, hC_setI, hI_setI, hK_setR, hN_setR, hI_setR, hC_setR, hR_setR, hK_cpyI, hN_cpyI, hR_cpyI, hC_cpyI, hI_cpyI]
    simpa using h.thr 0
  | true =>
    cases hb3 : rg x3 0 7 with
    | false =>
      simp only [↓reduceIte, Nat.reduceEqDiff, and_false, false_and, true_and, and_true, forall_eq, forall_eq', exists_eq_left, exists_eq_left', Option.some.injEq, eq_self_iff_true, not_true, not_false_iff, false_implies, true_implies, forall_const, reduceCtorEq, ne_eq, hQ, wp_X12_copy, h.1.eqs, e_isRowM, hb, hb3, bI_f, bI_t, i1_ne0, hK_putA, hN_putA, hR_putA, hC_putA, hK_setI, hN_setI, hR_setI, hC_setI, hI_setI, hK_setR, hN_setR, hI_setR, hC_setR, hR_setR, hK_cpyI, hN_cpyI, hR_cpyI, hC_cpyI, hI_cpyI]
      simpa using h.thr 0
    | true =>
      obtain ⟨a, ha, ha2, rfl⟩ := rg_nat hb
      obtain ⟨b, hbb, hbb2, rfl⟩ := rg_nat hb3
      have ha8 : a < 8 := by omega
      have hb8 : b < 8 := by omega
      have hva : vp_in (nI a) 8 := vp_in_nI ha8 (by omega)
      have hca : (nI a).toNatClampNeg = a := nI_clamp (by omega)
      have hvb : vp_in (nI b) 8 := vp_in_nI hb8 (by omega)
      have hcb : (nI b).toNatClampNeg = b := nI_clamp (by omega)
      obtain ⟨hA, hB, hC0, hD⟩ := h.2.1 a ha8
      obtain ⟨hA2, hB2, hC2, hD2⟩ := h.2.1 b hb8
      obtain ⟨g1, g2, g3⟩ := h.1.grid ha8
      obtain ⟨k1, k2, k3⟩ := h.1.grid hb8
      have hsa : rg (hI S 12 a) 0 40 = true := by rw [hB]; exact hC0
      have hsb : rg (hI S 12 b) 0 40 = true := by rw [hB2]; exact hC2
      simp only [h.1.eqs, e_findingOfMove h.1 ha8 hb8 hsa hsb, ↓reduceIte, Nat.reduceEqDiff, and_false, false_and, true_and, and_true, forall_eq, forall_eq', exists_eq_left, exists_eq_left', Option.some.injEq, eq_self_iff_true, not_true, not_false_iff, false_implies, true_implies, forall_const, reduceCtorEq, ne_eq]
      have hl0 : ∀ r, rg (hI S 11 r) 0 2 = true → (hI S 11 r < 0) = False ∧ (0 ≤ hI S 11 r) = True := fun r q => by
        have := rg_t.mp q
        rw [t_lt, t_le]
        exact ⟨eq_false (show ¬ _ < (0 : Int) by omega), eq_true (show (0 : Int) ≤ _ by omega)⟩
      have mm : ((-1 : Int32) < 0) = True := by decide
      rcases hA with ⟨p1, p2⟩ | ⟨p1, p2, p3⟩
      · simp only [p1, fndM, decide_true, Bool.true_or, i1_ne0, ↓reduceIte, Nat.reduceEqDiff, and_false, false_and, true_and, and_true, forall_eq, forall_eq', exists_eq_left, exists_eq_left', Option.some.injEq, eq_self_iff_true, not_true, not_false_iff, false_implies, true_implies, forall_const, reduceCtorEq, ne_eq]
        simp only [hQ, wp_X12_copy, wp_X12_finding, wB_X12_copy_45, h.1.eqs, e_isRowM, hb, hb3, bI_t, i1_ne0, hva, hca, p2, mm, hI_setI, hK_putA, hN_putA, hR_putA, hC_putA, hK_setI, hN_setI, hR_setI, hC_setI, hI_setI, hK_setR, hN_setR, hI_setR, hC_setR, hR_setR, hK_cpyI, hN_cpyI, hR_cpyI, hC_cpyI, hI_cpyI, ↓reduceIte, Nat.reduceEqDiff, and_false, false_and, true_and, and_true, forall_eq, forall_eq', exists_eq_left, exists_eq_left', Option.some.injEq, eq_self_iff_true, not_true, not_false_iff, false_implies, true_implies, forall_const, reduceCtorEq, ne_eq]
        exact h.both 1
      · obtain ⟨p4, p5⟩ := hl0 a p3
        rcases hA2 with ⟨q1, q2⟩ | ⟨q1, q2, q3⟩
        · simp only [p1, q1, fndM, decide_true, Bool.or_true, i1_ne0, ↓reduceIte, Nat.reduceEqDiff, and_false, false_and, true_and, and_true, forall_eq, forall_eq', exists_eq_left, exists_eq_left', Option.some.injEq, eq_self_iff_true, not_true, not_false_iff, false_implies, true_implies, forall_const, reduceCtorEq, ne_eq]
          simp only [hQ, wp_X12_copy, wp_X12_finding, wB_X12_copy_45, h.1.eqs, e_isRowM, hb, hb3, bI_t, i1_ne0, hva, hca, hvb, hcb, p2, p4, q2, m1_neg, hI_setI, hK_putA, hN_putA, hR_putA, hC_putA, hK_setI, hN_setI, hR_setI, hC_setI, hI_setI, hK_setR, hN_setR, hI_setR, hC_setR, hR_setR, hK_cpyI, hN_cpyI, hR_cpyI, hC_cpyI, hI_cpyI, ↓reduceIte, Nat.reduceEqDiff, and_false, false_and, true_and, and_true, forall_eq, forall_eq', exists_eq_left, exists_eq_left', Option.some.injEq, eq_self_iff_true, not_true, not_false_iff, false_implies, true_implies, forall_const, reduceCtorEq, ne_eq]
          exact h.both 1
        · obtain ⟨q4, q5⟩ := hl0 b q3
          by_cases hl : hI S 11 a = hI S 11 b
          · cases hh1 : hold x2 x5 (hI S 12 a) with
            | false =>
              simp only [p1, q1, hl, hh1, fndM, i1_ne0, decide_false, decide_true, Bool.or_false, Bool.false_eq_true, Bool.false_and, Bool.and_false, Bool.true_and, show ((2 : Int32) = 0) = False by decide, ↓reduceIte, Nat.reduceEqDiff, and_false, false_and, true_and, and_true, forall_eq, forall_eq', exists_eq_left, exists_eq_left', Option.some.injEq, eq_self_iff_true, not_true, not_false_iff, false_implies, true_implies, forall_const, reduceCtorEq, ne_eq]
              simp only [hQ, wp_X12_copy, wB_X12_copy_121, wp_X12_finding, h.1.eqs, e_isRowM, hb, hb3, bI_t, i1_ne0, hva, hca, hvb, hcb, p2, p4, q2, q5, hl, hI_setI, lg_lt, l_add, Int32.toInt_toInt64, hK_putA, hN_putA, hR_putA, hC_putA, hK_setI, hN_setI, hR_setI, hC_setI, hI_setI, hK_setR, hN_setR, hI_setR, hC_setR, hR_setR, hK_cpyI, hN_cpyI, hR_cpyI, hC_cpyI, hI_cpyI, ↓reduceIte, Nat.reduceEqDiff, and_false, false_and, true_and, and_true, forall_eq, forall_eq', exists_eq_left, exists_eq_left', Option.some.injEq, eq_self_iff_true, not_true, not_false_iff, false_implies, true_implies, forall_const, reduceCtorEq, ne_eq]
              simp only [q4, ↓reduceIte, Nat.reduceEqDiff, and_false, false_and, true_and, and_true, forall_eq, forall_eq', exists_eq_left, exists_eq_left', Option.some.injEq, eq_self_iff_true, not_true, not_false_iff, false_implies, true_implies, forall_const, reduceCtorEq, ne_eq]
              simp only [t_lt, c0]
              have F := h.both 2
              have nb : ¬ (0 ≤ x2.toInt ∧ 0 ≤ x5.toInt ∧ x2.toInt + x5.toInt ≤ (hI S 37 a).toInt ∧ 0 ≤ x4.toInt ∧ x4.toInt + x5.toInt ≤ (hI S 37 b).toInt) := fun q => by rw [hB, hold_t.mpr ⟨q.1, q.2.1, q.2.2.1⟩] at hh1; cases hh1
              refine ⟨fun _ => F, fun w1 => ⟨fun _ => F, fun w2 => ⟨fun _ => F, fun w3 => ⟨fun _ => F, fun w4 => ⟨fun w5 => absurd (show _ by omega) nb, fun _ => F⟩⟩⟩⟩⟩
            | true =>
              cases hh2 : hold x4 x5 (hI S 12 b) with
              | false =>
                simp only [p1, q1, hl, hh1, hh2, fndM, i1_ne0, decide_false, decide_true, Bool.or_false, Bool.false_eq_true, Bool.false_and, Bool.and_false, Bool.true_and, show ((2 : Int32) = 0) = False by decide, ↓reduceIte, Nat.reduceEqDiff, and_false, false_and, true_and, and_true, forall_eq, forall_eq', exists_eq_left, exists_eq_left', Option.some.injEq, eq_self_iff_true, not_true, not_false_iff, false_implies, true_implies, forall_const, reduceCtorEq, ne_eq]
                simp only [hQ, wp_X12_copy, wB_X12_copy_121, wp_X12_finding, h.1.eqs, e_isRowM, hb, hb3, bI_t, i1_ne0, hva, hca, hvb, hcb, p2, p4, q2, q5, hl, hI_setI, lg_lt, l_add, Int32.toInt_toInt64, hK_putA, hN_putA, hR_putA, hC_putA, hK_setI, hN_setI, hR_setI, hC_setI, hI_setI, hK_setR, hN_setR, hI_setR, hC_setR, hR_setR, hK_cpyI, hN_cpyI, hR_cpyI, hC_cpyI, hI_cpyI, ↓reduceIte, Nat.reduceEqDiff, and_false, false_and, true_and, and_true, forall_eq, forall_eq', exists_eq_left, exists_eq_left', Option.some.injEq, eq_self_iff_true, not_true, not_false_iff, false_implies, true_implies, forall_const, reduceCtorEq, ne_eq]
                simp only [q4, ↓reduceIte, Nat.reduceEqDiff, and_false, false_and, true_and, and_true, forall_eq, forall_eq', exists_eq_left, exists_eq_left', Option.some.injEq, eq_self_iff_true, not_true, not_false_iff, false_implies, true_implies, forall_const, reduceCtorEq, ne_eq]
                simp only [t_lt, c0]
                have F := h.both 2
                have nb : ¬ (0 ≤ x2.toInt ∧ 0 ≤ x5.toInt ∧ x2.toInt + x5.toInt ≤ (hI S 37 a).toInt ∧ 0 ≤ x4.toInt ∧ x4.toInt + x5.toInt ≤ (hI S 37 b).toInt) := fun q => by rw [hB2, hold_t.mpr ⟨q.2.2.2.1, q.2.1, q.2.2.2.2⟩] at hh2; cases hh2
                refine ⟨fun _ => F, fun w1 => ⟨fun _ => F, fun w2 => ⟨fun _ => F, fun w3 => ⟨fun _ => F, fun w4 => ⟨fun w5 => absurd (show _ by omega) nb, fun _ => F⟩⟩⟩⟩⟩
              | true =>
                simp only [p1, q1, hl, hh1, hh2, fndM, i1_ne0, decide_false, decide_true, Bool.or_false, Bool.false_eq_true, Bool.and_true, ↓reduceIte, Nat.reduceEqDiff, and_false, false_and, true_and, and_true, forall_eq, forall_eq', exists_eq_left, exists_eq_left', Option.some.injEq, eq_self_iff_true, not_true, not_false_iff, false_implies, true_implies, forall_const, reduceCtorEq, ne_eq]
                rw [hB] at hh1
                rw [hB2] at hh2
                have t1 := hold_t.mp hh1
                have t2 := hold_t.mp hh2
                have z1 := rg_t.mp hC0
                have z2 := rg_t.mp hC2
                obtain ⟨i, hi1, hi2, rfl⟩ := rg_nat (x := x2) (hi := 40) (rg_t.mpr (by omega))
                obtain ⟨j, hj1, hj2, rfl⟩ := rg_nat (x := x4) (hi := 40) (rg_t.mpr (by omega))
                obtain ⟨n, hn1, hn2, rfl⟩ := rg_nat (x := x5) (hi := 40) (rg_t.mpr (by omega))
                have ti := nI_toInt (n := i) (by omega)
                have tj := nI_toInt (n := j) (by omega)
                have tn := nI_toInt (n := n) (by omega)
                have l1 : i + n ≤ 40 := by omega
                have l2 : j + n ≤ 40 := by omega
                simp only [hva, hca, hvb, hcb, g1, g2, g3, k1, k2, k3, nI_clamp (show i < 2 ^ 31 by omega), nI_clamp (show j < 2 ^ 31 by omega), nI_clamp (show n < 2 ^ 31 by omega), nI_pos (show i < 2 ^ 31 by omega), nI_pos (show j < 2 ^ 31 by omega), nI_pos (show n < 2 ^ 31 by omega), l1, l2, h.1.eqs, hK_putA, hN_putA, hR_putA, hC_putA, hK_setI, hN_setI, hR_setI, hC_setI, hI_setI, hK_setR, hN_setR, hI_setR, hC_setR, hR_setR, hK_cpyI, hN_cpyI, hR_cpyI, hC_cpyI, hI_cpyI, ↓reduceIte, Nat.reduceEqDiff, and_false, false_and, true_and, and_true, forall_eq, forall_eq', exists_eq_left, exists_eq_left', Option.some.injEq, eq_self_iff_true, not_true, not_false_iff, false_implies, true_implies, forall_const, reduceCtorEq, ne_eq]
                simp only [hQ, wp_X12_copy, wB_X12_copy_138, h.1.eqs, e_isRowM, hb, hb3, bI_t, i1_ne0, hva, hca, hvb, hcb, p2, p4, q2, q5, hl, hI_setI, hI_cpyI, lg_lt, l_add, Int32.toInt_toInt64, nI_pos (show i < 2 ^ 31 by omega), nI_pos (show j < 2 ^ 31 by omega), nI_pos (show n < 2 ^ 31 by omega), n13 hb8, hK_putA, hN_putA, hR_putA, hC_putA, hK_setI, hN_setI, hR_setI, hC_setI, hI_setI, hK_setR, hN_setR, hI_setR, hC_setR, hR_setR, hK_cpyI, hN_cpyI, hR_cpyI, hC_cpyI, hI_cpyI, ↓reduceIte, Nat.reduceEqDiff, and_false, false_and, true_and, and_true, forall_eq, forall_eq', exists_eq_left, exists_eq_left', Option.some.injEq, eq_self_iff_true, not_true, not_false_iff, false_implies, true_implies, forall_const, reduceCtorEq, ne_eq]
                have fin : Rel (putA (setI (setI (setI (cpyI S (3 + a) (3 + b) i j n) 0 11 0) 35 0 0) 35 1 0) 38 (mv (hI S 38) (40 * a + i) (40 * b + j) 0 n)) := by
                  refine h.rows (by repeat' (first | with_reducible apply Fr.setI | with_reducible apply Fr.putA | with_reducible apply Fr.setR | with_reducible apply Fr.cpyI | with_reducible apply Fr.newC | with_reducible exact Fr.rfl' | (simp; done) | (simp; omega))) rfl (fun r2 hr2 => ?_) (by simp [hI_setI, hI_putA, hI_cpyI, n13 hb8]) (by simp [hI_setI, hI_putA, hI_cpyI, n13 hb8]) (by simp [hI_setI, hI_putA, hI_cpyI, n13 hb8]) (by simp [hI_setI, hI_putA, hI_cpyI, n13 hb8]) (by simp [hI_setI, hI_putA, hI_cpyI, n13 hb8]) (by simp [hI_setI, hI_putA, hI_cpyI, n13 hb8]) (by simp [hI_setI, hI_putA, hI_cpyI, n13 hb8]) (by simp [hI_setI, hI_putA, hI_cpyI, n13 hb8])
                  obtain ⟨hA3, hB3, hC3, hD3⟩ := h.2.1 r2 hr2
                  refine ⟨?_, ?_, ?_, fun k hk => ?_⟩
                  · simpa [hI_setI, hI_putA, hI_cpyI, n13 hb8] using hA3
                  · simpa [hI_setI, hI_putA, hI_cpyI, n13 hb8] using hB3
                  · simpa [hI_setI, hI_putA, hI_cpyI, n13 hb8] using hC3
                  · by_cases e : r2 = b
                    · subst e
                      simp only [hI_setI, hI_putA, hI_cpyI, n13 hb8, mv, ↓reduceIte, Nat.reduceEqDiff, and_false, false_and, true_and, and_true, forall_eq, forall_eq', exists_eq_left, exists_eq_left', Option.some.injEq, eq_self_iff_true, not_true, not_false_iff, false_implies, true_implies, forall_const, reduceCtorEq, ne_eq]
                      by_cases e2 : j ≤ k ∧ k < j + n
                      · rw [if_pos e2, if_pos (by omega), hD (i + (k - j)) (by omega)]
                        congr 1
                        omega
                      · rw [if_neg e2, if_neg (by omega), hD3 k hk]
                    · have e1 : ¬ 3 + r2 = 3 + b := by omega
                      simp only [hI_setI, hI_putA, hI_cpyI, n13 hb8, n13 hr2, mv, e1, ↓reduceIte, Nat.reduceEqDiff, and_false, false_and, true_and, and_true, forall_eq, forall_eq', exists_eq_left, exists_eq_left', Option.some.injEq, eq_self_iff_true, not_true, not_false_iff, false_implies, true_implies, forall_const, reduceCtorEq, ne_eq]
                      rw [if_neg (by omega), hD3 k hk]
                have es : hI (setI (setI (setI (cpyI S (3 + a) (3 + b) i j n) 0 11 0) 35 0 0) 35 1 0) 38 = hI S 38 := by
                  rw [hI_setI_ne (by omega), hI_setI_ne (by omega), hI_setI_ne (by omega), hI_cpyI_ne (by omega)]
                simp only [q4, show ¬ (hI S 37 a).toInt < (nI i).toInt + (nI n).toInt by omega, show (nI j).toInt + (nI n).toInt ≤ (hI S 37 b).toInt by omega, ↓reduceIte, Nat.reduceEqDiff, and_false, false_and, true_and, and_true, forall_eq, forall_eq', exists_eq_left, exists_eq_left', Option.some.injEq, eq_self_iff_true, not_true, not_false_iff, false_implies, true_implies, forall_const, reduceCtorEq, ne_eq]
                refine ⟨fun w => ?_, fun w => ?_⟩
                · exact c_copyM (by simp only [Lay_setI, Lay_cpyI]; exact h.1) ha8 hb8 l1 l2 false (by rw [t_lt, ti, tj] at w; simp; omega) ⟨rfl, by rw [es]; exact fin⟩
                · exact c_copyM (by simp only [Lay_setI, Lay_cpyI]; exact h.1) ha8 hb8 l1 l2 true (by rw [t_lt, ti, tj] at w; simp; omega) ⟨rfl, by rw [es]; exact fin⟩
          · simp only [p1, q1, hl, fndM, i1_ne0, decide_false, Bool.or_false, Bool.false_eq_true, show ((5 : Int32) = 0) = False by decide, ↓reduceIte, Nat.reduceEqDiff, and_false, false_and, true_and, and_true, forall_eq, forall_eq', exists_eq_left, exists_eq_left', Option.some.injEq, eq_self_iff_true, not_true, not_false_iff, false_implies, true_implies, forall_const, reduceCtorEq, ne_eq]
            simp only [hQ, wp_X12_copy, wp_X12_finding, h.1.eqs, e_isRowM, hb, hb3, bI_t, i1_ne0, hva, hca, hvb, hcb, p2, p4, q2, q5, hl, hI_setI, hK_putA, hN_putA, hR_putA, hC_putA, hK_setI, hN_setI, hR_setI, hC_setI, hI_setI, hK_setR, hN_setR, hI_setR, hC_setR, hR_setR, hK_cpyI, hN_cpyI, hR_cpyI, hC_cpyI, hI_cpyI, ↓reduceIte, Nat.reduceEqDiff, and_false, false_and, true_and, and_true, forall_eq, forall_eq', exists_eq_left, exists_eq_left', Option.some.injEq, eq_self_iff_true, not_true, not_false_iff, false_implies, true_implies, forall_const, reduceCtorEq, ne_eq]
            exact h.both 5
