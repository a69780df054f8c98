theorem p_blame : st_blame Rel := by
  intro S h x1 xj x2 x3 x4
  obtain ⟨d, m, l, ⟨hd, hm, hl⟩, v2, v3, v4, v5, v6, v7, v8, vS⟩ := h.view
  refine ⟨h.1.eqs.1, ?_⟩
  obtain ⟨Q, hQ⟩ : ∃ Q : Int32 → hp → Prop, Q = fun (r : Int32) (S1 : hp) => hK S1 35 = 11 ∧ wp_X12_blame (fun r2 S2 => r = r2 ∧ Rel S2) S1 35 x1 xj x2 x3 x4 := ⟨_, rfl⟩
  rw [← hQ]
  have t2 : ∀ T, hI T 39 = hI S 39 → 0 ≤ (hI T 39 2).toInt := fun T e => by rw [e, v2.1]; exact tn0 (by omega)
  have x39 : hI (setI S 35 0 0) 39 = hI S 39 := hI_setI_ne (by decide)
  have t3m : ∀ T, hI T 39 = hI S 39 → 0 ≤ (hI T 39 3).toInt := fun T e => by rw [e, v2.2.1]; exact tn0 (by omega)
  have BAD : rc x1 (nI d) = false ∨ rc xj (nI m) = false ∨ rg x2 0 7 = false ∨ rg x4 0 1 = false → Q (-1000001) S := by
    intro q
    simp only [hQ, wp_X12_blame, h.1.eqs, e_in, e_isDummyM (lay0 h.1) (t2 _ x39), e_isMouthM (lay0 h.1) (t3m _ x39), e_isRowM, l64_0, l64_1, l64_2, l64_5, l64_6, l64_7, l64_m1, l64_99, l64_m99, l64_255, l64_999, l64_m999, l64_297, l64_200, l64_m200, l64_97, l64_122, l64_48, l64_57, Int32.toInt_toInt64, hI_setI, v2, bI0, hK_putA, hN_putA, hR_putA, hC_putA, hK_setI, hN_setI, hR_setI, hC_setI, hI_setI, hK_setR, hN_setR, hI_setR, hC_setR, hR_setR, hK_cpyI, hN_cpyI, hR_cpyI, hC_cpyI, hI_cpyI, ↓reduceIte, Nat.reduceEqDiff, and_false, false_and, true_and, and_true, forall_eq, forall_eq', exists_eq_left, exists_eq_left', Option.some.injEq, eq_self_iff_true, not_true, not_false_iff, false_implies, true_implies, forall_const, reduceCtorEq, ne_eq]
    refine ⟨fun _ => h.thr 0, fun q1 => ⟨fun _ => h.thr 0, fun q2 => ⟨fun _ => h.thr 0, fun q3 => ⟨fun q4 => ?_, fun _ => h.thr 0⟩⟩⟩⟩
    rcases q with q | q | q | q
    · exact absurd q q1
    · exact absurd q q2
    · exact absurd q q3
    · exact absurd q q4
  unfold wp_X11_blame
  simp only [h.1.eqs, e_hasDummy vS.eqs.1, e_mouthAt vS (v2.2.2.2.2.2.2.1) hm, v2, e_isRow, e_isFOS, bI0, ↓reduceIte, Nat.reduceEqDiff, and_false, false_and, true_and, and_true, forall_eq, forall_eq', exists_eq_left, exists_eq_left', Option.some.injEq, eq_self_iff_true, not_true, not_false_iff, false_implies, true_implies, forall_const, reduceCtorEq, ne_eq]
  refine ⟨fun q => BAD (Or.inl q), fun q1 => ?_⟩
  have hb1 : rc x1 (nI d) = true := by simpa using q1
  cases hbj : rc xj (nI m) with
  | false =>
    simp only [Bool.false_eq_true, ↓reduceIte, Nat.reduceEqDiff, and_false, false_and, true_and, and_true, forall_eq, forall_eq', exists_eq_left, exists_eq_left', Option.some.injEq, eq_self_iff_true, not_true, not_false_iff, false_implies, true_implies, forall_const, reduceCtorEq, ne_eq]
    exact BAD (Or.inr (Or.inl hbj))
  | true =>
  obtain ⟨j, hj, rfl⟩ := rc_nat (by omega) hbj
  obtain ⟨k1, k2, k3, k4, k5, k6, k7⟩ := (v5 j hj).k
  simp only [nI_clamp (show j < 2 ^ 31 by omega), show 16 + 4 = 20 from rfl, k4, ↓reduceIte, Nat.reduceEqDiff, and_false, false_and, true_and, and_true, forall_eq, forall_eq', exists_eq_left, exists_eq_left', Option.some.injEq, eq_self_iff_true, not_true, not_false_iff, false_implies, true_implies, forall_const, reduceCtorEq, ne_eq]
  refine ⟨fun q => BAD (Or.inr (Or.inr (Or.inl q))), fun q2 => ⟨fun q4 => ?_, fun q => BAD (Or.inr (Or.inr (Or.inr q)))⟩⟩
  have hb : rg x2 0 7 = true := by simpa using q2
  have hb4 : rg x4 0 1 = true := by simpa using q4
  clear BAD
  obtain ⟨r, hr, hr2, rfl⟩ := rg_nat hb
  have hr8 : r < 8 := by omega
  have hv : vp_in (nI r) 8 := vp_in_nI hr8 (by omega)
  have hcl : (nI r).toNatClampNeg = r := nI_clamp (by omega)
  obtain ⟨hA, hB, hC0, hD⟩ := h.2.1 r hr8
  have hz := rg_t.mp hC0
  have t3 : (3 : Int32).toInt = 3 := rfl
  simp only [e_findingAt h.1 hr8 (by rw [hB]; exact hC0), ↓reduceIte, Nat.reduceEqDiff, and_false, false_and, true_and, and_true, forall_eq, forall_eq', exists_eq_left, exists_eq_left', Option.some.injEq, eq_self_iff_true, not_true, not_false_iff, false_implies, true_implies, forall_const, reduceCtorEq, ne_eq]
  unfold wp_X11_found
  simp only [h.1.eqs, hK_putA, hN_putA, hR_putA, hC_putA, hK_setI, hN_setI, hR_setI, hC_setI, hI_setI, hK_setR, hN_setR, hI_setR, hC_setR, hR_setR, hK_cpyI, hN_cpyI, hR_cpyI, hC_cpyI, hI_cpyI, ↓reduceIte, Nat.reduceEqDiff, and_false, false_and, true_and, and_true, forall_eq, forall_eq', exists_eq_left, exists_eq_left', Option.some.injEq, eq_self_iff_true, not_true, not_false_iff, false_implies, true_implies, forall_const, reduceCtorEq, ne_eq]
  rcases hA with ⟨h1, h2⟩ | ⟨h1, h2, h3⟩
  · simp only [h1, fnd, decide_true, i1_ne0, ↓reduceIte, Nat.reduceEqDiff, and_false, false_and, true_and, and_true, forall_eq, forall_eq', exists_eq_left, exists_eq_left', Option.some.injEq, eq_self_iff_true, not_true, not_false_iff, false_implies, true_implies, forall_const, reduceCtorEq, ne_eq]
    simp only [hQ, wp_X12_blame, wp_X12_noRow, wp_X12_finding, h.1.eqs, e_isDummyM (S := setI (setI S 0 11 1) 35 0 0) h.1 (t2 _ (by rw [hI_setI_ne (by decide), hI_setI_ne (by decide)])), e_isMouthM (S := setI (setI S 0 11 1) 35 0 0) h.1 (t3m _ (by rw [hI_setI_ne (by decide), hI_setI_ne (by decide)])), e_isRowM, e_in, l64_0, l64_1, l64_2, l64_5, l64_6, l64_7, l64_m1, l64_99, l64_m99, l64_255, l64_999, l64_m999, l64_297, l64_200, l64_m200, l64_97, l64_122, l64_48, l64_57, Int32.toInt_toInt64, hb, hb1, hbj, hb4, bI0, hv, hcl, h2, m1_neg, hI_setI, v2, Bool.true_eq_false, show (0 ≤ (-1000010 : Int32) - 1) = False from eq_false (by decide), hK_putA, hN_putA, hR_putA, hC_putA, hK_setI, hN_setI, hR_setI, hC_setI, hI_setI, hK_setR, hN_setR, hI_setR, hC_setR, hR_setR, hK_cpyI, hN_cpyI, hR_cpyI, hC_cpyI, hI_cpyI, ↓reduceIte, Nat.reduceEqDiff, and_false, false_and, true_and, and_true, forall_eq, forall_eq', exists_eq_left, exists_eq_left', Option.some.injEq, eq_self_iff_true, not_true, not_false_iff, false_implies, true_implies, forall_const, reduceCtorEq, ne_eq]
    exact h.both' 1
  · have h5 : (0 ≤ hI S 11 r) = True := by rw [t_le]; have := rg_t.mp h3; exact eq_true (show 0 ≤ (hI S 11 r).toInt by omega)
    cases hh : hold x3 3 (hI S 12 r) with
    | false =>
      rw [hB] at hh
      have nh : ¬ (0 ≤ x3.toInt ∧ 0 ≤ (3 : Int32).toInt ∧ x3.toInt + (3 : Int32).toInt ≤ (hI S 37 r).toInt) := fun q2 => by rw [hold_t.mpr q2] at hh; cases hh
      simp only [h1, fnd, i1_ne0, decide_false, Bool.false_eq_true, show ((2 : Int32) = 0) = False by decide, ↓reduceIte, Nat.reduceEqDiff, and_false, false_and, true_and, and_true, forall_eq, forall_eq', exists_eq_left, exists_eq_left', Option.some.injEq, eq_self_iff_true, not_true, not_false_iff, false_implies, true_implies, forall_const, reduceCtorEq, ne_eq]
      simp only [hQ, wp_X12_blame, wp_X12_noRow, wB_X12_noRow_35, wp_X12_finding, h.1.eqs, e_isDummyM (S := setI (setI S 0 11 2) 35 0 0) h.1 (t2 _ (by rw [hI_setI_ne (by decide), hI_setI_ne (by decide)])), e_isMouthM (S := setI (setI S 0 11 2) 35 0 0) h.1 (t3m _ (by rw [hI_setI_ne (by decide), hI_setI_ne (by decide)])), e_isRowM, e_in, l64_0, l64_1, l64_2, l64_5, l64_6, l64_7, l64_m1, l64_99, l64_m99, l64_255, l64_999, l64_m999, l64_297, l64_200, l64_m200, l64_97, l64_122, l64_48, l64_57, Int32.toInt_toInt64, hb, hb1, hbj, hb4, bI0, hv, hcl, h2, h5, lg_lt, l_add, hI_setI, v2, Bool.true_eq_false, show (0 ≤ (-1000010 : Int32) - 2) = False from eq_false (by decide), show (0 ≤ (0 : Int32)) = True from eq_true (by decide), t_lt, c0, hK_putA, hN_putA, hR_putA, hC_putA, hK_setI, hN_setI, hR_setI, hC_setI, hI_setI, hK_setR, hN_setR, hI_setR, hC_setR, hR_setR, hK_cpyI, hN_cpyI, hR_cpyI, hC_cpyI, hI_cpyI, ↓reduceIte, Nat.reduceEqDiff, and_false, false_and, true_and, and_true, forall_eq, forall_eq', exists_eq_left, exists_eq_left', Option.some.injEq, eq_self_iff_true, not_true, not_false_iff, false_implies, true_implies, forall_const, reduceCtorEq, ne_eq]
      refine ⟨fun _ => h.both' 2, fun w1 => ⟨fun w2 => absurd ?_ nh, fun _ => h.both' 2⟩⟩
      omega
    | true =>
      rw [hB] at hh
      have ht := hold_t.mp hh
      obtain ⟨i, hi1, hi2, rfl⟩ := rg_nat (x := x3) (hi := 40) (rg_t.mpr (by omega))
      have ti := nI_toInt (n := i) (by omega)
      have hi : i + 3 ≤ 40 := by omega
      simp only [h1, fnd, i1_ne0, decide_false, Bool.false_eq_true, ↓reduceIte, Nat.reduceEqDiff, and_false, false_and, true_and, and_true, forall_eq, forall_eq', exists_eq_left, exists_eq_left', Option.some.injEq, eq_self_iff_true, not_true, not_false_iff, false_implies, true_implies, forall_const, reduceCtorEq, ne_eq]
      obtain ⟨lt, fe⟩ := fits_eq h (dd := x1) hm hl v6 v8 hr8 hi
      unfold wp_X2_fittingSets
      refine ⟨(h.1.1 28 (by decide)).1, c_addSlips h.1 vS v2.2.2.2.2.2.2.2 hl lt ?_⟩
      generalize slT (hI S 21) x1 l (fun i => if i < 15 then 0 else hI S 29 i) = T at fe
      have hR := h.put29 T
      obtain ⟨F, hF⟩ : ∃ F, F = fits (fun s pp => sm (slp T s pp) 5) (fun pp => hI S (3 + r) (i + pp)) := ⟨_, rfl⟩
      refine c_fitting (S := putA S 29 T) (m := m) h.1 vS (by rw [hI_putA_ne (by decide)]; exact v2.2.2.2.2.2.2.1) hm hr8 hi (F := F) (fun s hs => by rw [hI_putA_s, hI_putA_ne (show 3 + r ≠ 29 by omega), hF]) ?_
      have y39 : hI (setI (setI (setI (putA S 29 T) 0 11 0) 35 0 0) 35 1 0) 39 = hI S 39 := by rw [hI_setI_ne (by decide), hI_setI_ne (by decide), hI_setI_ne (by decide), hI_putA_ne (by decide)]
      have y38 : hI (setI (setI (setI (putA S 29 T) 0 11 0) 35 0 0) 35 1 0) 38 = hI S 38 := by rw [hI_setI_ne (by decide), hI_setI_ne (by decide), hI_setI_ne (by decide), hI_putA_ne (by decide)]
      have RF := hR.both' 0
      have e40 : (40 : Int32) * nI r + nI i = nI (40 * r + i) := by rw [← nI_add, ← nI_mul]; rfl
      have hF' : ∀ s, s < 32 → F s = fits (fun s pp => ms (fun k => hI (setI (setI (setI (putA S 29 T) 0 11 0) 35 0 0) 35 1 0) 39 (51 + k)) x1 s pp l) (fun pp => hI (setI (setI (setI (putA S 29 T) 0 11 0) 35 0 0) 35 1 0) 38 (40 * r + i + pp)) s := fun s hs => by rw [y39, y38, fe s hs, hF]
      have hp := pow5 hm
      have hn1 : nct F (2 ^ m) ≤ 32 := Nat.le_trans (nct_le F _) hp
      have hn2 : nct (fun s => decide (s / 2 ^ j % 2 = 1) && F s) (2 ^ m) ≤ nct F (2 ^ m) := nct_mono _ _ (fun k q => by simp at q; exact q.2) _
      have W : ∀ v, (nct F (2 ^ m) = 0 → v = -1000000) → (0 < nct F (2 ^ m) → v = nI ((if x4 = 0 then nct (fun s => decide (s / 2 ^ j % 2 = 1) && F s) (2 ^ m) else nct F (2 ^ m)) / Nat.gcd (nct (fun s => decide (s / 2 ^ j % 2 = 1) && F s) (2 ^ m)) (nct F (2 ^ m)))) → Q v (setI (putA S 29 T) 0 11 0) := by
        intro v g0 g1
        simp only [hQ, wp_X12_blame, wp_X12_noRow, h.1.eqs, e_isDummyM (S := setI (setI (putA S 29 T) 0 11 0) 35 0 0) h.1 (t2 _ (by rw [hI_setI_ne (by decide), hI_setI_ne (by decide), hI_putA_ne (by decide)])), e_isMouthM (S := setI (setI (putA S 29 T) 0 11 0) 35 0 0) h.1 (t3m _ (by rw [hI_setI_ne (by decide), hI_setI_ne (by decide), hI_putA_ne (by decide)])), e_isRowM, e_in, l64_0, l64_1, l64_2, l64_5, l64_6, l64_7, l64_m1, l64_99, l64_m99, l64_255, l64_999, l64_m999, l64_297, l64_200, l64_m200, l64_97, l64_122, l64_48, l64_57, Int32.toInt_toInt64, hb, hb1, hbj, hb4, bI0, hv, hcl, h2, h5, lg_lt, l_add, hI_setI, hI_putA, v2, e40, Bool.true_eq_false, show (0 ≤ (0 : Int32)) = True from eq_true (by decide), t_lt, c0, show ¬ (nI i).toInt < 0 by omega, show (nI i).toInt + (3 : Int32).toInt ≤ (hI S 37 r).toInt by omega, hK_putA, hN_putA, hR_putA, hC_putA, hK_setI, hN_setI, hR_setI, hC_setI, hI_setI, hK_setR, hN_setR, hI_setR, hC_setR, hR_setR, hK_cpyI, hN_cpyI, hR_cpyI, hC_cpyI, hI_cpyI, ↓reduceIte, Nat.reduceEqDiff, and_false, false_and, true_and, and_true, forall_eq, forall_eq', exists_eq_left, exists_eq_left', Option.some.injEq, eq_self_iff_true, not_true, not_false_iff, false_implies, true_implies, forall_const, reduceCtorEq, ne_eq]
        refine c_setsOf RF.1 (m := m) (l := l) (B := fun _ => true) (by rw [y39]; exact v2.2.1) hm (by rw [y39]; exact v2.2.2.1) hl (by omega) hF' (fun s hs => by simp) ?_
        simp only [Bool.true_and]
        rw [show ct (fun s => F s) (2 ^ m) = nI (nct F (2 ^ m)) from ct_nct F _, nI_z (by omega)]
        refine ⟨fun q => ?_, fun q => ⟨g0 q, RF⟩⟩
        simp only [h.1.eqs, hK_putA, hN_putA, hR_putA, hC_putA, hK_setI, hN_setI, hR_setI, hC_setI, hI_setI, hK_setR, hN_setR, hI_setR, hC_setR, hR_setR, hK_cpyI, hN_cpyI, hR_cpyI, hC_cpyI, hI_cpyI, ↓reduceIte, Nat.reduceEqDiff, and_false, false_and, true_and, and_true, forall_eq, forall_eq', exists_eq_left, exists_eq_left', Option.some.injEq, eq_self_iff_true, not_true, not_false_iff, false_implies, true_implies, forall_const, reduceCtorEq, ne_eq]
        refine c_setsOf RF.1 (m := m) (l := l) (B := fun s => decide (s / 2 ^ j % 2 = 1)) (by rw [y39]; exact v2.2.1) hm (by rw [y39]; exact v2.2.2.1) hl (by omega) hF' (fun s hs => ?_) ?_
        · rw [decide_eq_true_eq, hasM32 s hs j (by omega)]
          exact ⟨Or.inr, fun z => z.elim (fun z => absurd z (nI_none (by omega))) id⟩
        · rw [ct_nct]
          generalize hwi : nct (fun s => decide (s / 2 ^ j % 2 = 1) && F s) (2 ^ m) = wi at hn2 g1
          generalize hto : nct F (2 ^ m) = to at hn1 hn2 g1 q
          have hg : 0 < Nat.gcd wi to := Nat.gcd_pos_of_pos_right _ (by omega)
          have hg2 : Nat.gcd wi to < 33 := Nat.lt_of_le_of_lt (Nat.le_of_dvd (by omega) (Nat.gcd_dvd_right wi to)) (by omega)
          unfold wB_X12_blame_111 wp_X12_common
          refine ⟨fun q2 => c_common to wi (by omega) (by omega) ⟨?_, ?_, RF⟩, fun q2 => c_common to wi (by omega) (by omega) ⟨?_, ?_, RF⟩⟩
          · rw [nI_z (by omega)]; omega
          · rw [g1 (by omega), if_neg q2, (nI_dv to (by omega) _ hg2 hg).1]
          · rw [nI_z (by omega)]; omega
          · rw [g1 (by omega), if_pos q2, (nI_dv wi (by omega) _ hg2 hg).1]
      have hM0 : (nI (mk2 F (2 ^ m)) = 0) = (nct F (2 ^ m) = 0) := by
        have e := bc_mk2 (f := F) (n := 2 ^ m) hp
        rw [ct_nct] at e
        apply propext
        constructor
        · intro q
          rw [q, show bc 0 = 0 by decide] at e
          exact (nI_eq (a := 0) (b := nct F (2 ^ m)) (by omega) (by omega)).mp e |>.symm
        · intro q
          have : ∀ n, nct F n = 0 → mk2 F n = 0 := by
            intro n
            induction n with
            | zero => intro _; rfl
            | succ n ih =>
              intro z
              change nct F n + (if F n = true then 1 else 0) = 0 at z
              show mk2 F n + (if F n = true then 2 ^ n else 0) = 0
              by_cases c : F n = true
              · rw [if_pos c] at z; omega
              · rw [if_neg c] at z ⊢; rw [ih (by omega)]
          rw [this _ q]; rfl
      unfold wp_X11_answered
      simp only [h.1.eqs, e_bc, bc_mk2 hp, hM0, hK_putA, hN_putA, hR_putA, hC_putA, hK_setI, hN_setI, hR_setI, hC_setI, hI_setI, hK_setR, hN_setR, hI_setR, hC_setR, hR_setR, hK_cpyI, hN_cpyI, hR_cpyI, hC_cpyI, hI_cpyI, ↓reduceIte, Nat.reduceEqDiff, and_false, false_and, true_and, and_true, forall_eq, forall_eq', exists_eq_left, exists_eq_left', Option.some.injEq, eq_self_iff_true, not_true, not_false_iff, false_implies, true_implies, forall_const, reduceCtorEq, ne_eq]
      refine ⟨fun q => c_setsWith hp (by omega) ?_, fun q => W _ (fun _ => rfl) (fun z => by omega)⟩
      simp only [h.1.eqs, hK_putA, hN_putA, hR_putA, hC_putA, hK_setI, hN_setI, hR_setI, hC_setI, hI_setI, hK_setR, hN_setR, hI_setR, hC_setR, hR_setR, hK_cpyI, hN_cpyI, hR_cpyI, hC_cpyI, hI_cpyI, ↓reduceIte, Nat.reduceEqDiff, and_false, false_and, true_and, and_true, forall_eq, forall_eq', exists_eq_left, exists_eq_left', Option.some.injEq, eq_self_iff_true, not_true, not_false_iff, false_implies, true_implies, forall_const, reduceCtorEq, ne_eq]
      rw [ct_nct, ct_nct]
      have w01 : x4 = 0 ∨ x4 = 1 := by
        have := rg_t.mp hb4
        obtain ⟨k, kk1, kk2, kk3⟩ := rg_nat hb4
        have : k = 0 ∨ k = 1 := by omega
        rcases this with z | z <;> rw [kk3, z]
        · exact Or.inl rfl
        · exact Or.inr rfl
      refine c_fraction (by omega) (by omega) w01 (by omega) ?_
      simp only [h.1.eqs, hK_putA, hN_putA, hR_putA, hC_putA, hK_setI, hN_setI, hR_setI, hC_setI, hI_setI, hK_setR, hN_setR, hI_setR, hC_setR, hR_setR, hK_cpyI, hN_cpyI, hR_cpyI, hC_cpyI, hI_cpyI, ↓reduceIte, Nat.reduceEqDiff, and_false, false_and, true_and, and_true, forall_eq, forall_eq', exists_eq_left, exists_eq_left', Option.some.injEq, eq_self_iff_true, not_true, not_false_iff, false_implies, true_implies, forall_const, reduceCtorEq, ne_eq]
      exact W _ (fun z => by omega) (fun _ => rfl)
