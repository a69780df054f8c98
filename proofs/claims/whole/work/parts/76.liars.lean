theorem nI_dv : ∀ a, a < 33 → ∀ g, g < 33 → 0 < g → nI a / nI g = nI (a / g) ∧ nI a - nI (a / g) * nI g = nI (a % g) := by decide +kernel
def dn (a b : Nat) : Nat → Nat
  | 0 => 0
  | g + 1 => if g = 0 then 1 else if a % (g + 1) = 0 ∧ b % (g + 1) = 0 then g + 1 else dn a b g
theorem dn_gcd : ∀ a, a < 33 → ∀ b, b < 33 → 0 < a → dn a b a = Nat.gcd a b := by decide +kernel
theorem nI_z {k : Nat} (h : k < 2147483648) : (nI k = 0) = (k = 0) := propext ⟨fun q => (nI_eq (a := k) (b := 0) h (by omega)).mp q, fun q => by rw [q]; rfl⟩
theorem c_fraction {Q : Int32 → hp → Prop} {S : hp} {a b b0 : Nat} {w : Int32} (ha : a < 33) (hb : b < 33) (hw : w = 0 ∨ w = 1) (hb1 : 0 < b) (h : Q (nI ((if w = 0 then a else b) / Nat.gcd a b)) S) : wp_X2_fraction Q S b0 (nI a) (nI b) w := by
  unfold wp_X2_fraction
  rw [nI_z (by omega)]
  refine ⟨fun q => ?_, fun q => ?_⟩
  · have ha0 : 0 < a := by omega
    have key : ∀ g, 0 < g → g ≤ a → dn a b g = Nat.gcd a b → wl_X2_fraction_9 Q g S (nI a) (nI b) w (nI g) := by
      intro g
      induction g with
      | zero => intro q; omega
      | succ g ih =>
        intro _ hg hd
        obtain ⟨d1, d2⟩ := nI_dv a ha (g + 1) (by omega) (by omega)
        obtain ⟨d3, d4⟩ := nI_dv b hb (g + 1) (by omega) (by omega)
        have en : nI (g + 1) + (-1) = nI g := by
          rw [← nI_1, Int32.add_assoc]; exact Int32.add_zero _
        have fin : Nat.gcd a b = g + 1 → wB_X2_fraction_35 Q S (nI a) (nI b) w (nI (g + 1)) := fun e => by
          unfold wB_X2_fraction_35 wB_X2_fraction_44
          rw [e] at h
          have e1 : (if nI (g + 1) < (1 : Int32) then (1 : Int32) else nI (g + 1)) = nI (g + 1) := if_neg (by
            rw [t_lt, nI_toInt (by omega)]; show ¬ _ < (1 : Int); omega)
          rw [e1, nI_z (by omega)]
          refine ⟨fun q => ⟨by omega, ?_⟩, fun q => ⟨by omega, ?_⟩⟩
          · rw [if_neg q] at h; rw [d3]; exact h
          · rw [if_pos q] at h; rw [d1]; exact h
        unfold wl_X2_fraction_9 wB_X2_fraction_9 wB_X2_fraction_29
        simp only [d1, d2, d3, d4, en, nI_z (show a % (g + 1) < 2147483648 by have := Nat.mod_lt a (show 0 < g + 1 by omega); omega), nI_z (show b % (g + 1) < 2147483648 by have := Nat.mod_lt b (show 0 < g + 1 by omega); omega), nI_z (show g + 1 < 2147483648 by omega), ↓reduceIte, Nat.reduceEqDiff, and_false, false_and, true_and, and_true, forall_eq, forall_eq', exists_eq_left, exists_eq_left', Option.some.injEq, eq_self_iff_true, not_true, not_false_iff, false_implies, true_implies, forall_const, reduceCtorEq, ne_eq]
        unfold dn at hd
        by_cases c : g = 0
        · rw [if_pos c] at hd
          subst c
          exact ⟨fun _ => fin hd.symm, fun q => absurd (by decide) q⟩
        · rw [if_neg c] at hd
          refine ⟨fun q => ?_, fun _ => ⟨fun z => ?_, fun z => ⟨fun z2 => ?_, fun z2 => ?_⟩⟩⟩
          · rw [t_le, nI_toInt (by omega)] at q
            have : (1 : Int32).toInt = 1 := rfl
            omega
          · rw [if_neg (fun y => z y.1)] at hd
            exact ih (by omega) (by omega) hd
          · rw [if_pos ⟨z, z2⟩] at hd
            exact fin hd.symm
          · rw [if_neg (fun y => z2 y.2)] at hd
            exact ih (by omega) (by omega) hd
    exact ⟨a, key a ha0 (Nat.le_refl _) (dn_gcd a ha b hb ha0)⟩
  · subst q
    rw [Nat.gcd_zero_left] at h
    rcases hw with q | q
    · rw [if_pos q, Nat.zero_div] at h; rw [q]; exact h
    · rw [if_neg (by rw [q]; decide), Nat.div_self hb1] at h; rw [q]; exact h
theorem c_common {Q : Int32 → hp → Prop} {S : hp} : ∀ (y x : Nat), x < 33 → y < 33 → Q (nI (Nat.gcd x y)) S → ∃ n, wl_X12_common_4 Q n S (nI x) (nI y) := by
  intro y
  induction y using Nat.strongRecOn with
  | ind y ih =>
    intro x hx hy h
    by_cases c : y = 0
    · subst c
      rw [Nat.gcd_zero_right] at h
      exact ⟨1, fun _ => h, fun q => absurd rfl q⟩
    · obtain ⟨d1, d2⟩ := nI_dv x hx y hy (by omega)
      have hl := Nat.mod_lt x (show 0 < y by omega)
      obtain ⟨n, hn⟩ := ih (x % y) hl y hy (by omega) (by rw [Nat.gcd_comm x y, Nat.gcd_rec y x, Nat.gcd_comm] at h; exact h)
      refine ⟨n + 1, ?_⟩
      unfold wl_X12_common_4 wB_X12_common_4
      simp only [d1, d2, nI_z (show y < 2147483648 by omega), c, ↓reduceIte, Nat.reduceEqDiff, and_false, false_and, true_and, and_true, forall_eq, forall_eq', exists_eq_left, exists_eq_left', Option.some.injEq, eq_self_iff_true, not_true, not_false_iff, false_implies, true_implies, forall_const, reduceCtorEq, ne_eq]
      exact hn
theorem Rel.put29 {S : hp} (h : Rel S) (g : Nat → Int32) : Rel (putA S 29 g) := by
  have hL := h.1
  have hf : Fr (fun b => b = 29) S (putA S 29 g) := Fr.rfl'.putA rfl
  have q : ∀ b, b ≠ 29 → hI (putA S 29 g) b = hI S b := fun b hb => hI_putA_ne hb
  refine h.low hf (fun b hb => by omega) (hL.fr hf (fun b _ _ => rfl)) (h.2.1.fr ⟨q 13 (by decide), q 36 (by decide), q 11 (by decide), q 12 (by decide), q 37 (by decide), q 38 (by decide), fun r hr => q (3 + r) (by omega)⟩) (h.2.2.1.fr ⟨by rw [q 14 (by decide)], by rw [q 35 (by decide)], q 15 (by decide), q 42 (by decide)⟩) ⟨by rw [q 35 (by decide), q 0 (by decide)]; exact h.2.2.2.1.1, by rw [q 35 (by decide), q 0 (by decide)]; exact h.2.2.2.1.2⟩ (vec_same (q 39 (by decide))) ⟨q 44 (by decide), q 45 (by decide), rfl⟩ ⟨by rw [q 0 (by decide)], by rw [q 35 (by decide)], by rw [q 0 (by decide)], q 41 (by decide), rfl⟩ (h.2.2.2.2.2.2.2.2.2.fr ⟨by rw [q 31 (by decide)], by rw [q 35 (by decide)], q 32 (by decide), q 49 (by decide)⟩)
/-- what the fitting sets are, on either side -/
theorem fits_eq {S : hp} (h : Rel S) {d m l r i : Nat} {dd : Int32} (hm : m ≤ 5) (hl : l ≤ 16) (v6 : ∀ k, k < 6 * l → hI S 21 k = hI S 39 (51 + k)) (v8 : ∀ i, i < l → LineV S d m i) (hr : r < 8) (hi : i + 3 ≤ 40) : (∀ j, j < l → LT (hI S 21) j) ∧ ∀ s, s < 32 → fits (fun s pp => ms (fun k => hI S 39 (51 + k)) dd s pp l) (fun pp => hI S 38 (40 * r + i + pp)) s = fits (fun s pp => sm (slp (slT (hI S 21) dd l (fun i => if i < 15 then 0 else hI S 29 i)) s pp) 5) (fun pp => hI S (3 + r) (i + pp)) s := by
  obtain ⟨hA, hB, hC0, hD⟩ := h.2.1 r hr
  have lt : ∀ j, j < l → LT (hI S 21) j := fun j hj q => by
    rw [v6 (6 * j) (by omega)] at q
    rcases v8 j hj with ⟨-, mm, dd, pp, y1, y2, -, -, y3, y4, -⟩ | y | ⟨y, -⟩
    · refine ⟨mm, pp, ?_, by omega, ?_, y4⟩
      · rw [v6 (6 * j + 1) (by omega), show 51 + (6 * j + 1) = 52 + 6 * j by omega]; exact y1
      · rw [v6 (6 * j + 3) (by omega), show 51 + (6 * j + 3) = 54 + 6 * j by omega]; exact y3
    · rw [q] at y; exact absurd y (by decide)
    · rw [q] at y; exact absurd y (by decide)
  refine ⟨lt, fun s hs => ?_⟩
  unfold fits
  refine al_congr (fun pp hp => ?_)
  unfold fit
  refine decide_eq_decide.mpr ?_
  show ms (fun k => hI S 39 (51 + k)) dd s pp l = hI S 38 (40 * r + i + pp) ↔ sm (slp (slT (hI S 21) dd l (fun i => if i < 15 then 0 else hI S 29 i)) s pp) 5 = hI S (3 + r) (i + pp)
  rw [slip_eq (fun k hk => if_pos hk) hs hp lt, hD (i + pp) (by omega), show 40 * r + (i + pp) = 40 * r + i + pp by omega]
  have : ms (hI S 21) dd s pp l = ms (fun k => hI S 39 (51 + k)) dd s pp l := by
    unfold ms
    refine fo_congr (fun j hj z => ?_)
    unfold msS
    rw [v6 (6 * j) (by omega), v6 (6 * j + 1) (by omega), v6 (6 * j + 2) (by omega), v6 (6 * j + 3) (by omega), v6 (6 * j + 4) (by omega), v6 (6 * j + 5) (by omega)]
  rw [this]
theorem p_liars : st_liars Rel := by
  intro S h x1 x2 x3 x4
  obtain ⟨d, m, l, ⟨hd, hm, hl⟩, v2, v3, v4, v5, v6, v7, v8, vS⟩ := h.view
  refine ⟨h.1.eqs.1, ?_⟩
  obtain ⟨Q, hQ⟩ : ∃ Q : Int32 → hp → Prop, Q = fun (r : Int32) (S1 : hp) => hK S1 35 = 11 ∧ wp_X12_liars (fun r2 S2 => r = r2 ∧ Rel S2) S1 35 x1 x2 x3 x4 := ⟨_, rfl⟩
  rw [← hQ]
  have t2 : ∀ T, hI T 39 = hI S 39 → 0 ≤ (hI T 39 2).toInt := fun T e => by rw [e, v2.1]; exact tn0 (by omega)
  have x39 : hI (setI S 35 0 0) 39 = hI S 39 := hI_setI_ne (by decide)
  have BAD : rc x1 (nI d) = false ∨ rg x2 0 7 = false ∨ rg x4 0 1 = false → Q (-1000001) S := by
    intro q
    simp only [hQ, wp_X12_liars, h.1.eqs, e_in, e_isDummyM (lay0 h.1) (t2 _ x39), e_isRowM, l64_0, l64_1, l64_2, l64_5, l64_6, l64_7, l64_m1, l64_99, l64_m99, l64_255, l64_999, l64_m999, l64_297, l64_200, l64_m200, l64_97, l64_122, l64_48, l64_57, Int32.toInt_toInt64, hI_setI, v2, bI0, hK_putA, hN_putA, hR_putA, hC_putA, hK_setI, hN_setI, hR_setI, hC_setI, hI_setI, hK_setR, hN_setR, hI_setR, hC_setR, hR_setR, hK_cpyI, hN_cpyI, hR_cpyI, hC_cpyI, hI_cpyI, ↓reduceIte, Nat.reduceEqDiff, and_false, false_and, true_and, and_true, forall_eq, forall_eq', exists_eq_left, exists_eq_left', Option.some.injEq, eq_self_iff_true, not_true, not_false_iff, false_implies, true_implies, forall_const, reduceCtorEq, ne_eq]
    refine ⟨fun _ => h.thr 0, fun q1 => ⟨fun _ => h.thr 0, fun q2 => ⟨fun q3 => ?_, fun _ => h.thr 0⟩⟩⟩
    rcases q with q | q | q
    · exact absurd q q1
    · exact absurd q q2
    · exact absurd q q3
  unfold wp_X11_liars
  simp only [h.1.eqs, e_hasDummy vS.eqs.1, v2, e_isRow, e_isFOS, bI0, ↓reduceIte, Nat.reduceEqDiff, and_false, false_and, true_and, and_true, forall_eq, forall_eq', exists_eq_left, exists_eq_left', Option.some.injEq, eq_self_iff_true, not_true, not_false_iff, false_implies, true_implies, forall_const, reduceCtorEq, ne_eq]
  refine ⟨fun q => BAD (Or.inl q), fun q1 => ⟨fun q => BAD (Or.inr (Or.inl q)), fun q2 => ⟨fun q4 => ?_, fun q => BAD (Or.inr (Or.inr q))⟩⟩⟩
  have hb1 : rc x1 (nI d) = true := by simpa using q1
  have hb : rg x2 0 7 = true := by simpa using q2
  have hb4 : rg x4 0 1 = true := by simpa using q4
  clear BAD
  obtain ⟨r, hr, hr2, rfl⟩ := rg_nat hb
  have hr8 : r < 8 := by omega
  have hv : vp_in (nI r) 8 := vp_in_nI hr8 (by omega)
  have hcl : (nI r).toNatClampNeg = r := nI_clamp (by omega)
  obtain ⟨hA, hB, hC0, hD⟩ := h.2.1 r hr8
  have hz := rg_t.mp hC0
  have t3 : (3 : Int32).toInt = 3 := rfl
  simp only [e_findingAt h.1 hr8 (by rw [hB]; exact hC0), ↓reduceIte, Nat.reduceEqDiff, and_false, false_and, true_and, and_true, forall_eq, forall_eq', exists_eq_left, exists_eq_left', Option.some.injEq, eq_self_iff_true, not_true, not_false_iff, false_implies, true_implies, forall_const, reduceCtorEq, ne_eq]
  unfold wp_X11_found
  simp only [h.1.eqs, hK_putA, hN_putA, hR_putA, hC_putA, hK_setI, hN_setI, hR_setI, hC_setI, hI_setI, hK_setR, hN_setR, hI_setR, hC_setR, hR_setR, hK_cpyI, hN_cpyI, hR_cpyI, hC_cpyI, hI_cpyI, ↓reduceIte, Nat.reduceEqDiff, and_false, false_and, true_and, and_true, forall_eq, forall_eq', exists_eq_left, exists_eq_left', Option.some.injEq, eq_self_iff_true, not_true, not_false_iff, false_implies, true_implies, forall_const, reduceCtorEq, ne_eq]
  rcases hA with ⟨h1, h2⟩ | ⟨h1, h2, h3⟩
  · simp only [h1, fnd, decide_true, i1_ne0, ↓reduceIte, Nat.reduceEqDiff, and_false, false_and, true_and, and_true, forall_eq, forall_eq', exists_eq_left, exists_eq_left', Option.some.injEq, eq_self_iff_true, not_true, not_false_iff, false_implies, true_implies, forall_const, reduceCtorEq, ne_eq]
    simp only [hQ, wp_X12_liars, wp_X12_noRow, wp_X12_finding, h.1.eqs, e_isDummyM (S := setI (setI S 0 11 1) 35 0 0) h.1 (t2 _ (by rw [hI_setI_ne (by decide), hI_setI_ne (by decide)])), e_isRowM, e_in, l64_0, l64_1, l64_2, l64_5, l64_6, l64_7, l64_m1, l64_99, l64_m99, l64_255, l64_999, l64_m999, l64_297, l64_200, l64_m200, l64_97, l64_122, l64_48, l64_57, Int32.toInt_toInt64, hb, hb1, hb4, bI0, hv, hcl, h2, m1_neg, hI_setI, v2, Bool.true_eq_false, show (0 ≤ (-1000010 : Int32) - 1) = False from eq_false (by decide), hK_putA, hN_putA, hR_putA, hC_putA, hK_setI, hN_setI, hR_setI, hC_setI, hI_setI, hK_setR, hN_setR, hI_setR, hC_setR, hR_setR, hK_cpyI, hN_cpyI, hR_cpyI, hC_cpyI, hI_cpyI, ↓reduceIte, Nat.reduceEqDiff, and_false, false_and, true_and, and_true, forall_eq, forall_eq', exists_eq_left, exists_eq_left', Option.some.injEq, eq_self_iff_true, not_true, not_false_iff, false_implies, true_implies, forall_const, reduceCtorEq, ne_eq]
    exact h.both' 1
  · have h5 : (0 ≤ hI S 11 r) = True := by rw [t_le]; have := rg_t.mp h3; exact eq_true (show 0 ≤ (hI S 11 r).toInt by omega)
    cases hh : hold x3 3 (hI S 12 r) with
    | false =>
      rw [hB] at hh
      have nh : ¬ (0 ≤ x3.toInt ∧ 0 ≤ (3 : Int32).toInt ∧ x3.toInt + (3 : Int32).toInt ≤ (hI S 37 r).toInt) := fun q2 => by rw [hold_t.mpr q2] at hh; cases hh
      simp only [h1, fnd, i1_ne0, decide_false, Bool.false_eq_true, show ((2 : Int32) = 0) = False by decide, ↓reduceIte, Nat.reduceEqDiff, and_false, false_and, true_and, and_true, forall_eq, forall_eq', exists_eq_left, exists_eq_left', Option.some.injEq, eq_self_iff_true, not_true, not_false_iff, false_implies, true_implies, forall_const, reduceCtorEq, ne_eq]
      simp only [hQ, wp_X12_liars, wp_X12_noRow, wB_X12_noRow_35, wp_X12_finding, h.1.eqs, e_isDummyM (S := setI (setI S 0 11 2) 35 0 0) h.1 (t2 _ (by rw [hI_setI_ne (by decide), hI_setI_ne (by decide)])), e_isRowM, e_in, l64_0, l64_1, l64_2, l64_5, l64_6, l64_7, l64_m1, l64_99, l64_m99, l64_255, l64_999, l64_m999, l64_297, l64_200, l64_m200, l64_97, l64_122, l64_48, l64_57, Int32.toInt_toInt64, hb, hb1, hb4, bI0, hv, hcl, h2, h5, lg_lt, l_add, hI_setI, v2, Bool.true_eq_false, show (0 ≤ (-1000010 : Int32) - 2) = False from eq_false (by decide), show (0 ≤ (0 : Int32)) = True from eq_true (by decide), t_lt, c0, hK_putA, hN_putA, hR_putA, hC_putA, hK_setI, hN_setI, hR_setI, hC_setI, hI_setI, hK_setR, hN_setR, hI_setR, hC_setR, hR_setR, hK_cpyI, hN_cpyI, hR_cpyI, hC_cpyI, hI_cpyI, ↓reduceIte, Nat.reduceEqDiff, and_false, false_and, true_and, and_true, forall_eq, forall_eq', exists_eq_left, exists_eq_left', Option.some.injEq, eq_self_iff_true, not_true, not_false_iff, false_implies, true_implies, forall_const, reduceCtorEq, ne_eq]
      refine ⟨fun _ => h.both' 2, fun w1 => ⟨fun w2 => absurd ?_ nh, fun _ => h.both' 2⟩⟩
      omega
    | true =>
      rw [hB] at hh
      have ht := hold_t.mp hh
      obtain ⟨i, hi1, hi2, rfl⟩ := rg_nat (x := x3) (hi := 40) (rg_t.mpr (by omega))
      have ti := nI_toInt (n := i) (by omega)
      have hi : i + 3 ≤ 40 := by omega
      simp only [h1, fnd, i1_ne0, decide_false, Bool.false_eq_true, ↓reduceIte, Nat.reduceEqDiff, and_false, false_and, true_and, and_true, forall_eq, forall_eq', exists_eq_left, exists_eq_left', Option.some.injEq, eq_self_iff_true, not_true, not_false_iff, false_implies, true_implies, forall_const, reduceCtorEq, ne_eq]
      obtain ⟨lt, fe⟩ := fits_eq h (dd := x1) hm hl v6 v8 hr8 hi
      unfold wp_X2_fittingSets
      refine ⟨(h.1.1 28 (by decide)).1, c_addSlips h.1 vS v2.2.2.2.2.2.2.2 hl lt ?_⟩
      generalize slT (hI S 21) x1 l (fun i => if i < 15 then 0 else hI S 29 i) = T at fe
      have hR := h.put29 T
      obtain ⟨F, hF⟩ : ∃ F, F = fits (fun s pp => sm (slp T s pp) 5) (fun pp => hI S (3 + r) (i + pp)) := ⟨_, rfl⟩
      refine c_fitting (S := putA S 29 T) (m := m) h.1 vS (by rw [hI_putA_ne (by decide)]; exact v2.2.2.2.2.2.2.1) hm hr8 hi (F := F) (fun s hs => by rw [hI_putA_s, hI_putA_ne (show 3 + r ≠ 29 by omega), hF]) ?_
      have y39 : hI (setI (setI (setI (putA S 29 T) 0 11 0) 35 0 0) 35 1 0) 39 = hI S 39 := by rw [hI_setI_ne (by decide), hI_setI_ne (by decide), hI_setI_ne (by decide), hI_putA_ne (by decide)]
      have y38 : hI (setI (setI (setI (putA S 29 T) 0 11 0) 35 0 0) 35 1 0) 38 = hI S 38 := by rw [hI_setI_ne (by decide), hI_setI_ne (by decide), hI_setI_ne (by decide), hI_putA_ne (by decide)]
      have RF := hR.both' 0
      have e40 : (40 : Int32) * nI r + nI i = nI (40 * r + i) := by rw [← nI_add, ← nI_mul]; rfl
      have hF' : ∀ s, s < 32 → F s = fits (fun s pp => ms (fun k => hI (setI (setI (setI (putA S 29 T) 0 11 0) 35 0 0) 35 1 0) 39 (51 + k)) x1 s pp l) (fun pp => hI (setI (setI (setI (putA S 29 T) 0 11 0) 35 0 0) 35 1 0) 38 (40 * r + i + pp)) s := fun s hs => by rw [y39, y38, fe s hs, hF]
      have hp := pow5 hm
      have W : ∀ v, (x4 = 0 → v = ct F (2 ^ m)) → (¬ x4 = 0 → v = enO (lfo F (2 ^ m))) → Q v (setI (putA S 29 T) 0 11 0) := by
        intro v g0 g1
        simp only [hQ, wp_X12_liars, wp_X12_noRow, h.1.eqs, e_isDummyM (S := setI (setI (putA S 29 T) 0 11 0) 35 0 0) h.1 (t2 _ (by rw [hI_setI_ne (by decide), hI_setI_ne (by decide), hI_putA_ne (by decide)])), e_isRowM, e_in, l64_0, l64_1, l64_2, l64_5, l64_6, l64_7, l64_m1, l64_99, l64_m99, l64_255, l64_999, l64_m999, l64_297, l64_200, l64_m200, l64_97, l64_122, l64_48, l64_57, Int32.toInt_toInt64, hb, hb1, hb4, bI0, hv, hcl, h2, h5, lg_lt, l_add, hI_setI, hI_putA, v2, e40, Bool.true_eq_false, show (0 ≤ (0 : Int32)) = True from eq_true (by decide), t_lt, c0, show ¬ (nI i).toInt < 0 by omega, show (nI i).toInt + (3 : Int32).toInt ≤ (hI S 37 r).toInt by omega, hK_putA, hN_putA, hR_putA, hC_putA, hK_setI, hN_setI, hR_setI, hC_setI, hI_setI, hK_setR, hN_setR, hI_setR, hC_setR, hR_setR, hK_cpyI, hN_cpyI, hR_cpyI, hC_cpyI, hI_cpyI, ↓reduceIte, Nat.reduceEqDiff, and_false, false_and, true_and, and_true, forall_eq, forall_eq', exists_eq_left, exists_eq_left', Option.some.injEq, eq_self_iff_true, not_true, not_false_iff, false_implies, true_implies, forall_const, reduceCtorEq, ne_eq]
        refine ⟨fun q => ?_, fun q => ?_⟩
        · exact c_liarsM RF.1 (m := m) (l := l) (by rw [y39]; exact v2.2.1) hm (by rw [y39]; exact v2.2.2.1) hl (by omega) hF' ⟨g1 q, RF⟩
        · exact c_setsOf RF.1 (m := m) (l := l) (B := fun _ => true) (by rw [y39]; exact v2.2.1) hm (by rw [y39]; exact v2.2.2.1) hl (by omega) hF' (fun s hs => by simp) ⟨g0 q, RF⟩
      unfold wB_X11_liars_96 wp_X11_answered
      simp only [h.1.eqs, e_bc, bc_mk2 hp, hK_putA, hN_putA, hR_putA, hC_putA, hK_setI, hN_setI, hR_setI, hC_setI, hI_setI, hK_setR, hN_setR, hI_setR, hC_setR, hR_setR, hK_cpyI, hN_cpyI, hR_cpyI, hC_cpyI, hI_cpyI, ↓reduceIte, Nat.reduceEqDiff, and_false, false_and, true_and, and_true, forall_eq, forall_eq', exists_eq_left, exists_eq_left', Option.some.injEq, eq_self_iff_true, not_true, not_false_iff, false_implies, true_implies, forall_const, reduceCtorEq, ne_eq]
      refine ⟨fun q => c_fewestOf hp ?_, fun q => W _ (fun _ => rfl) (fun z => absurd q z)⟩
      simp only [h.1.eqs, hK_putA, hN_putA, hR_putA, hC_putA, hK_setI, hN_setI, hR_setI, hC_setI, hI_setI, hK_setR, hN_setR, hI_setR, hC_setR, hR_setR, hK_cpyI, hN_cpyI, hR_cpyI, hC_cpyI, hI_cpyI, ↓reduceIte, Nat.reduceEqDiff, and_false, false_and, true_and, and_true, forall_eq, forall_eq', exists_eq_left, exists_eq_left', Option.some.injEq, eq_self_iff_true, not_true, not_false_iff, false_implies, true_implies, forall_const, reduceCtorEq, ne_eq]
      exact W _ (fun z => absurd z q) (fun _ => rfl)
