theorem z20 : (-20 : Int32) = iZ (((0 : Nat) : Int) - 20) := by decide
/-- how many of the first n u's are padded to what is left -/
def cu (k : Nat) (rest : Int32) : Nat → Int32 := ct (fun u => decide (pad k (iZ ((u : Int) - 20)) = rest))
theorem ct_rg (p : Nat → Bool) : ∀ n, n ≤ 100000 → 0 ≤ (ct p n).toInt ∧ (ct p n).toInt ≤ n
  | 0, _ => by show 0 ≤ (0 : Int32).toInt ∧ (0 : Int32).toInt ≤ ((0 : Nat) : Int); decide
  | n + 1, h => by
    have ih := ct_rg p n (by omega)
    show 0 ≤ (ct p n + bI (p n)).toInt ∧ (ct p n + bI (p n)).toInt ≤ ((n + 1 : Nat) : Int)
    cases p n with
    | true =>
      have e1 : (bI true).toInt = 1 := rfl
      rw [t_add (by rw [e1]; omega), e1]; omega
    | false =>
      rw [bI_f, Int32.add_zero]; omega
/-- the state of the outer loop: ways, the first t -/
def pst (k1 k2 : Nat) (sum : Int32) (t : Nat) (z : Int32 × Int32) : Int32 × Int32 := (z.1 + cu k2 (sum - pad k1 (iZ ((t : Int) - 20))) 41, if z.2 = -1000000 ∧ 0 < (cu k2 (sum - pad k1 (iZ ((t : Int) - 20))) 41).toInt then iZ ((t : Int) - 20) else z.2)
def pfo (k1 k2 : Nat) (sum : Int32) (n : Nat) : Int32 × Int32 := fo (pst k1 k2 sum) n (0, -1000000)
theorem pfo_rg (k1 k2 : Nat) (sum : Int32) : ∀ n, n ≤ 41 → 0 ≤ (pfo k1 k2 sum n).1.toInt ∧ (pfo k1 k2 sum n).1.toInt ≤ 41 * n
  | 0, _ => by show 0 ≤ (0 : Int32).toInt ∧ (0 : Int32).toInt ≤ _; decide
  | n + 1, h => by
    have ih := pfo_rg k1 k2 sum n (by omega)
    have hc := ct_rg (fun u => decide (pad k2 (iZ ((u : Int) - 20)) = sum - pad k1 (iZ ((n : Int) - 20)))) 41 (by omega)
    show 0 ≤ ((pfo k1 k2 sum n).1 + cu k2 (sum - pad k1 (iZ ((n : Int) - 20))) 41).toInt ∧ ((pfo k1 k2 sum n).1 + cu k2 (sum - pad k1 (iZ ((n : Int) - 20))) 41).toInt ≤ 41 * ((n + 1 : Nat) : Int)
    unfold cu
    rw [t_add (by omega)]
    omega
theorem c_waysToPart {Q : Int32 → hp → Prop} {S : hp} {r1 r2 k1 k2 b0 : Nat} {sum w : Int32} (h1 : hK S r1 = mkd k1 ∧ 1 ≤ k1 ∧ k1 ≤ 5) (h2 : hK S r2 = mkd k2 ∧ 1 ≤ k2 ∧ k2 ≤ 5) (h : Q (if w = 0 then (pfo k1 k2 sum 41).1 else (pfo k1 k2 sum 41).2) S) : wp_X2_waysToPart Q S b0 r1 r2 sum w := by
  have key : ∀ t j, j + t = 41 → wl_X2_waysToPart_11 Q (t + 1) S r1 r2 sum w (pfo k1 k2 sum j).1 (pfo k1 k2 sum j).2 (iZ ((j : Int) - 20)) := by
    intro t
    induction t with
    | zero =>
      intro j hj
      have : j = 41 := by omega
      subst this
      unfold wl_X2_waysToPart_11 wB_X2_waysToPart_11
      refine ⟨fun _ => ⟨fun q => ?_, fun q => ?_⟩, fun q => absurd (by decide) q⟩
      · rw [if_neg q] at h; exact h
      · rw [if_pos q] at h; exact h
    | succ t ih =>
      intro j hj
      have nx := ih (j + 1) (by omega)
      unfold wl_X2_waysToPart_11 wB_X2_waysToPart_11
      have e20 : ¬ (20 : Int32) < iZ ((j : Int) - 20) := by rw [t_lt, iZ_toInt (by omega)]; show ¬ (20 : Int) < _; omega
      refine ⟨fun q => absurd q e20, fun _ => (e_padding h1.1 h1.2.1 h1.2.2).mpr ?_⟩
      simp only [↓reduceIte, Nat.reduceEqDiff, and_false, false_and, true_and, and_true, forall_eq, forall_eq', exists_eq_left, exists_eq_left', Option.some.injEq, eq_self_iff_true, not_true, not_false_iff, false_implies, true_implies, forall_const, reduceCtorEq, ne_eq]
      generalize hrest : sum - pad k1 (iZ ((j : Int) - 20)) = rest
      have inner : ∀ s u, u + s = 41 → wl_X2_waysToPart_36 (wl_X2_waysToPart_11 Q (t + 1)) Q (s + 1) S r1 r2 sum w ((pfo k1 k2 sum j).1 + cu k2 rest u) (pfo k1 k2 sum j).2 (iZ ((j : Int) - 20)) (pfo k1 k2 sum j).1 rest (iZ ((u : Int) - 20)) := by
        intro s
        induction s with
        | zero =>
          intro u hu
          have : u = 41 := by omega
          subst this
          unfold wl_X2_waysToPart_36 wB_X2_waysToPart_36 wB_X2_waysToPart_89 wB_X2_waysToPart_91
          have hr := pfo_rg k1 k2 sum j (by omega)
          have hc : 0 ≤ (cu k2 rest 41).toInt ∧ (cu k2 rest 41).toInt ≤ (41 : Nat) := ct_rg _ 41 (by omega)
          have ele : ((pfo k1 k2 sum j).1 + cu k2 rest 41 ≤ (pfo k1 k2 sum j).1) = ¬ 0 < (cu k2 rest 41).toInt := by
            rw [t_le, t_add (by omega)]; apply propext; omega
          have n1 : (pfo k1 k2 sum (j + 1)).1 = (pfo k1 k2 sum j).1 + cu k2 rest 41 := by rw [← hrest]; rfl
          have n2 : (pfo k1 k2 sum (j + 1)).2 = if (pfo k1 k2 sum j).2 = -1000000 ∧ 0 < (cu k2 rest 41).toInt then iZ ((j : Int) - 20) else (pfo k1 k2 sum j).2 := by rw [← hrest]; rfl
          have nx' : ∀ v, v = (pfo k1 k2 sum (j + 1)).2 → wl_X2_waysToPart_11 Q (t + 1) S r1 r2 sum w ((pfo k1 k2 sum j).1 + cu k2 rest 41) v (iZ ((j : Int) - 20) + 1) := fun v hv => by
            rw [hv, iZ_1 (by omega), ← n1, show ((j : Int) - 20 + 1) = ((j + 1 : Nat) : Int) - 20 by omega]; exact nx
          simp only [ele, ↓reduceIte, Nat.reduceEqDiff, and_false, false_and, true_and, and_true, forall_eq, forall_eq', exists_eq_left, exists_eq_left', Option.some.injEq, eq_self_iff_true, not_true, not_false_iff, false_implies, true_implies, forall_const, reduceCtorEq, ne_eq]
          refine ⟨fun _ => ⟨fun q => nx' _ ?_, fun q => ⟨fun q2 => nx' _ ?_, fun q2 => nx' _ ?_⟩⟩, fun q => absurd (by decide) q⟩
          · rw [n2, if_neg (fun z => q z.1)]
          · rw [n2, if_neg (fun z => q2 z.2)]
          · rw [n2, if_pos ⟨q, Classical.not_not.mp q2⟩]
        | succ s ihs =>
          intro u hu
          have nu := ihs (u + 1) (by omega)
          unfold wl_X2_waysToPart_36 wB_X2_waysToPart_36 wB_X2_waysToPart_61
          have e20 : ¬ (20 : Int32) < iZ ((u : Int) - 20) := by rw [t_lt, iZ_toInt (by omega)]; show ¬ (20 : Int) < _; omega
          refine ⟨fun q => absurd q e20, fun _ => (e_padding h2.1 h2.2.1 h2.2.2).mpr ?_⟩
          simp only [↓reduceIte, Nat.reduceEqDiff, and_false, false_and, true_and, and_true, forall_eq, forall_eq', exists_eq_left, exists_eq_left', Option.some.injEq, eq_self_iff_true, not_true, not_false_iff, false_implies, true_implies, forall_const, reduceCtorEq, ne_eq]
          rw [iZ_1 (by omega), show ((u : Int) - 20 + 1) = ((u + 1 : Nat) : Int) - 20 by omega]
          have ec : cu k2 rest (u + 1) = cu k2 rest u + bI (decide (pad k2 (iZ ((u : Int) - 20)) = rest)) := rfl
          rw [ec, ← Int32.add_assoc] at nu
          refine ⟨fun q => ?_, fun q => ?_⟩
          · rw [show bI (decide (pad k2 (iZ ((u : Int) - 20)) = rest)) = 0 by simp [q, bI]] at nu; exact nu
          · rw [show bI (decide (pad k2 (iZ ((u : Int) - 20)) = rest)) = 1 by simp [q, bI]] at nu; exact nu
      have := inner 41 0 (by omega)
      rw [show cu k2 rest 0 = 0 from rfl, Int32.add_zero, ← z20] at this
      exact ⟨42, this⟩
  have := key 41 0 (by omega)
  rw [← z20] at this
  exact ⟨42, this⟩
theorem c_partedM {Q : Int32 → hp → Prop} {S : hp} {a b k1 k2 : Nat} {sum w : Int32} (hL : Lay S) (ha : a < 5) (hb : b < 5) (h1 : hI S 39 (41 + 2 * a) = nI k1 ∧ 1 ≤ k1 ∧ k1 ≤ 5) (h2 : hI S 39 (41 + 2 * b) = nI k2 ∧ 1 ≤ k2 ∧ k2 ≤ 5) (h : Q (if w = 0 then (pfo k1 k2 sum 41).1 else (pfo k1 k2 sum 41).2) S) : ∃ n, wl_X12_parted_65 Q n S 35 (nI a) (nI b) sum w 0 (-1000000) (-20) := by
  have k35 := (hL.1 35 (by decide)).1
  have key : ∀ t j, j + t = 41 → wl_X12_parted_65 Q (t + 1) S 35 (nI a) (nI b) sum w (pfo k1 k2 sum j).1 (pfo k1 k2 sum j).2 (iZ ((j : Int) - 20)) := by
    intro t
    induction t with
    | zero =>
      intro j hj
      have : j = 41 := by omega
      subst this
      unfold wl_X12_parted_65 wB_X12_parted_65
      refine ⟨fun _ => ⟨fun q => ?_, fun q => ?_⟩, fun q => absurd (by decide) q⟩
      · rw [if_neg q] at h; exact h
      · rw [if_pos q] at h; exact h
    | succ t ih =>
      intro j hj
      have nx := ih (j + 1) (by omega)
      unfold wl_X12_parted_65 wB_X12_parted_65
      have e20 : ¬ (20 : Int32) < iZ ((j : Int) - 20) := by rw [t_lt, iZ_toInt (by omega)]; show ¬ (20 : Int) < _; omega
      refine ⟨fun q => absurd q e20, fun _ => ?_⟩
      generalize hrest : sum - pad k1 (iZ ((j : Int) - 20)) = rest
      have ne9 : ¬ iZ ((j : Int) - 20) = -1000000 := fun q => by
        have q2 := congrArg Int32.toInt q
        rw [iZ_toInt (by omega)] at q2
        have : (-1000000 : Int32).toInt = -1000000 := rfl
        omega
      have inner : ∀ s u, u + s = 41 → wl_X12_parted_76 (wl_X12_parted_65 Q (t + 1)) Q (s + 1) S 35 (nI a) (nI b) sum w ((pfo k1 k2 sum j).1 + cu k2 rest u) (if (pfo k1 k2 sum j).2 = -1000000 ∧ 0 < (cu k2 rest u).toInt then iZ ((j : Int) - 20) else (pfo k1 k2 sum j).2) (iZ ((j : Int) - 20)) (iZ ((u : Int) - 20)) := by
        intro s
        induction s with
        | zero =>
          intro u hu
          have : u = 41 := by omega
          subst this
          unfold wl_X12_parted_76 wB_X12_parted_76
          refine ⟨fun _ => ?_, fun q => absurd (by decide) q⟩
          simp only [↓reduceIte, Nat.reduceEqDiff, and_false, false_and, true_and, and_true, forall_eq, forall_eq', exists_eq_left, exists_eq_left', Option.some.injEq, eq_self_iff_true, not_true, not_false_iff, false_implies, true_implies, forall_const, reduceCtorEq, ne_eq]
          rw [iZ_1 (by omega), show ((j : Int) - 20 + 1) = ((j + 1 : Nat) : Int) - 20 by omega, ← hrest]
          exact nx
        | succ s ihs =>
          intro u hu
          have nu := ihs (u + 1) (by omega)
          have e20 : ¬ (20 : Int32) < iZ ((u : Int) - 20) := by rw [t_lt, iZ_toInt (by omega)]; show ¬ (20 : Int) < _; omega
          unfold wl_X12_parted_76 wB_X12_parted_76
          refine ⟨fun q => absurd q e20, fun _ => ⟨k35, (e_padsOfM hL ha h1.1 h1.2.1 h1.2.2).mpr ⟨k35, (e_padsOfM hL hb h2.1 h2.2.1 h2.2.2).mpr ?_⟩⟩⟩
          have eq9 : (pad k1 (iZ ((j : Int) - 20)) + pad k2 (iZ ((u : Int) - 20)) = sum) = (pad k2 (iZ ((u : Int) - 20)) = rest) := by
            rw [← hrest]
            apply propext
            constructor
            · intro q; rw [← q, Int32.add_comm, Int32.add_sub_cancel]
            · intro q; rw [q, Int32.add_comm, Int32.sub_add_cancel]
          rw [eq9]
          have ec : cu k2 rest (u + 1) = cu k2 rest u + bI (decide (pad k2 (iZ ((u : Int) - 20)) = rest)) := rfl
          have hc : 0 ≤ (cu k2 rest u).toInt ∧ (cu k2 rest u).toInt ≤ (u : Nat) := ct_rg _ u (by omega)
          unfold wB_X12_parted_107 wB_X12_parted_121 wB_X12_parted_141 wB_X12_parted_143
          simp only [i1_ne0, ↓reduceIte, Nat.reduceEqDiff, and_false, false_and, true_and, and_true, forall_eq, forall_eq', exists_eq_left, exists_eq_left', Option.some.injEq, eq_self_iff_true, not_true, not_false_iff, false_implies, true_implies, forall_const, reduceCtorEq, ne_eq]
          rw [iZ_1 (by omega), show ((u : Int) - 20 + 1) = ((u + 1 : Nat) : Int) - 20 by omega]
          refine ⟨fun q => ?_, fun q => ?_⟩
          · have ez : cu k2 rest (u + 1) = cu k2 rest u := by rw [ec, show bI (decide (pad k2 (iZ ((u : Int) - 20)) = rest)) = 0 by simp [q, bI], Int32.add_zero]
            rw [ez] at nu
            rw [Int32.add_zero]
            exact nu
          · have ez : cu k2 rest (u + 1) = cu k2 rest u + 1 := by rw [ec, show bI (decide (pad k2 (iZ ((u : Int) - 20)) = rest)) = 1 by simp [q, bI]]
            have e1 : (1 : Int32).toInt = 1 := rfl
            have et : (cu k2 rest u + 1).toInt = (cu k2 rest u).toInt + 1 := t_add (b := 1) (by rw [e1]; omega)
            rw [ez, ← Int32.add_assoc, et] at nu
            refine ⟨fun q2 => ?_, fun q2 => ?_⟩
            · by_cases z : (pfo k1 k2 sum j).2 = -1000000
              · by_cases z2 : 0 < (cu k2 rest u).toInt
                · rw [if_pos ⟨z, z2⟩]; rw [if_pos ⟨z, by omega⟩] at nu; exact nu
                · rw [if_neg (fun y => z2 y.2)] at q2; exact absurd z q2
              · rw [if_neg (fun y => z y.1)]; rw [if_neg (fun y => z y.1)] at nu; exact nu
            · by_cases z : (pfo k1 k2 sum j).2 = -1000000
              · rw [if_pos ⟨z, by omega⟩] at nu; exact nu
              · rw [if_neg (fun y => z y.1)] at q2; exact absurd q2 z
      have := inner 41 0 (by omega)
      rw [show cu k2 rest 0 = 0 from rfl, Int32.add_zero, if_neg (fun y => absurd y.2 (by decide)), ← z20] at this
      exact ⟨42, this⟩
  have := key 41 0 (by omega)
  rw [← z20] at this
  exact ⟨42, this⟩
theorem p_parted : st_parted Rel := by
  intro S h x1 x2 x3 x4
  obtain ⟨d, m, l, ⟨hd, hm, hl⟩, v2, v3, v4, v5, v6, v7, v8, vS⟩ := h.view
  refine ⟨h.1.eqs.1, ?_⟩
  obtain ⟨Q, hQ⟩ : ∃ Q : Int32 → hp → Prop, Q = fun (r : Int32) (S1 : hp) => hK S1 35 = 11 ∧ wp_X12_parted (fun r2 S2 => r = r2 ∧ Rel S2) S1 35 x1 x2 x3 x4 := ⟨_, rfl⟩
  rw [← hQ]
  have t3 : 0 ≤ (hI (setI S 35 0 0) 39 3).toInt := by simp only [hI_setI, v2, ↓reduceIte, Nat.reduceEqDiff, and_false, false_and, true_and, and_true, forall_eq, forall_eq', exists_eq_left, exists_eq_left', Option.some.injEq, eq_self_iff_true, not_true, not_false_iff, false_implies, true_implies, forall_const, reduceCtorEq, ne_eq]; exact tn0 (by omega)
  have BAD : (rc x1 (nI m) = false ∨ rc x2 (nI m) = false ∨ x1 = x2 ∨ rg x3 (-200) 200 = false ∨ rg x4 0 1 = false) → Q (-1000001) S := by
    intro q
    simp only [hQ, wp_X12_parted, h.1.eqs, e_in, e_isMouthM (lay0 h.1) t3, l64_0, l64_1, l64_2, l64_5, l64_6, l64_7, l64_m1, l64_99, l64_m99, l64_255, l64_999, l64_m999, l64_297, l64_200, l64_m200, l64_97, l64_122, l64_48, l64_57, Int32.toInt_toInt64, hI_setI, v2, bI0, hK_putA, hN_putA, hR_putA, hC_putA, hK_setI, hN_setI, hR_setI, hC_setI, hI_setI, hK_setR, hN_setR, hI_setR, hC_setR, hR_setR, hK_cpyI, hN_cpyI, hR_cpyI, hC_cpyI, hI_cpyI, ↓reduceIte, Nat.reduceEqDiff, and_false, false_and, true_and, and_true, forall_eq, forall_eq', exists_eq_left, exists_eq_left', Option.some.injEq, eq_self_iff_true, not_true, not_false_iff, false_implies, true_implies, forall_const, reduceCtorEq, ne_eq]
    refine ⟨fun _ => h.thr 0, fun q1 => ⟨fun _ => h.thr 0, fun q2 => ⟨fun _ => h.thr 0, fun q3 => ⟨fun _ => h.thr 0, fun q4 => ⟨fun q5 => ?_, fun _ => h.thr 0⟩⟩⟩⟩⟩
    rcases q with q | q | q | q | q
    · exact absurd q q1
    · exact absurd q q2
    · exact absurd q q3
    · exact absurd q q4
    · exact absurd q q5
  unfold wp_X11_parted
  simp only [h.1.eqs, v2, e_mouthAt vS (v2.2.2.2.2.2.2.1) hm, e_isFOS, bI0, ↓reduceIte, Nat.reduceEqDiff, and_false, false_and, true_and, and_true, forall_eq, forall_eq', exists_eq_left, exists_eq_left', Option.some.injEq, eq_self_iff_true, not_true, not_false_iff, false_implies, true_implies, forall_const, reduceCtorEq, ne_eq]
  cases hb : rc x1 (nI m) with
  | false =>
    simp only [Bool.false_eq_true, ↓reduceIte, Nat.reduceEqDiff, and_false, false_and, true_and, and_true, forall_eq, forall_eq', exists_eq_left, exists_eq_left', Option.some.injEq, eq_self_iff_true, not_true, not_false_iff, false_implies, true_implies, forall_const, reduceCtorEq, ne_eq]
    exact ⟨fun _ => BAD (Or.inl hb), fun _ _ => BAD (Or.inl hb)⟩
  | true =>
    obtain ⟨i, hi, rfl⟩ := rc_nat (by omega) hb
    obtain ⟨k1, k2, k3, k4, k5, k6, k7⟩ := (v5 i hi).k
    simp only [nI_clamp (show i < 2 ^ 31 by omega), show 16 + 4 = 20 from rfl, k4, ↓reduceIte, Nat.reduceEqDiff, and_false, false_and, true_and, and_true, forall_eq, forall_eq', exists_eq_left, exists_eq_left', Option.some.injEq, eq_self_iff_true, not_true, not_false_iff, false_implies, true_implies, forall_const, reduceCtorEq, ne_eq]
    cases hb2 : rc x2 (nI m) with
    | false =>
      simp only [Bool.false_eq_true, ↓reduceIte, Nat.reduceEqDiff, and_false, false_and, true_and, and_true, forall_eq, forall_eq', exists_eq_left, exists_eq_left', Option.some.injEq, eq_self_iff_true, not_true, not_false_iff, false_implies, true_implies, forall_const, reduceCtorEq, ne_eq]
      exact BAD (Or.inr (Or.inl hb2))
    | true =>
      obtain ⟨j, hj, rfl⟩ := rc_nat (by omega) hb2
      obtain ⟨y1, y2, y3, y4, y5, y6, y7⟩ := (v5 j hj).k
      simp only [nI_clamp (show j < 2 ^ 31 by omega), y4, ↓reduceIte, Nat.reduceEqDiff, and_false, false_and, true_and, and_true, forall_eq, forall_eq', exists_eq_left, exists_eq_left', Option.some.injEq, eq_self_iff_true, not_true, not_false_iff, false_implies, true_implies, forall_const, reduceCtorEq, ne_eq]
      refine ⟨fun q => BAD (Or.inr (Or.inr (Or.inl q))), fun q => ⟨fun q2 => BAD (Or.inr (Or.inr (Or.inr (Or.inr q2)))), fun q2 => ?_⟩⟩
      have hb4 : rg x4 0 1 = true := by simpa using q2
      simp only [t_lt, t_le, show (-200 : Int32).toInt = -200 from rfl, show (200 : Int32).toInt = 200 from rfl]
      refine ⟨fun z => BAD (Or.inr (Or.inr (Or.inr (Or.inl (rg_f.mpr (by omega)))))), fun z1 => ⟨fun z2 => ?_, fun z => BAD (Or.inr (Or.inr (Or.inr (Or.inl (rg_f.mpr (by omega))))))⟩⟩
      have hb3 : rg x3 (-200) 200 = true := rg_t.mpr (by omega)
      refine c_waysToPart ⟨k5, k2, k3⟩ ⟨y5, y2, y3⟩ ?_
      simp only [hQ, wp_X12_parted, h.1.eqs, e_in, e_isMouthM (lay0 h.1) t3, l64_0, l64_1, l64_2, l64_5, l64_6, l64_7, l64_m1, l64_99, l64_m99, l64_255, l64_999, l64_m999, l64_297, l64_200, l64_m200, l64_97, l64_122, l64_48, l64_57, Int32.toInt_toInt64, hI_setI, v2, hb, hb2, hb3, hb4, q, bI0, Bool.true_eq_false, hK_putA, hN_putA, hR_putA, hC_putA, hK_setI, hN_setI, hR_setI, hC_setI, hI_setI, hK_setR, hN_setR, hI_setR, hC_setR, hR_setR, hK_cpyI, hN_cpyI, hR_cpyI, hC_cpyI, hI_cpyI, ↓reduceIte, Nat.reduceEqDiff, and_false, false_and, true_and, and_true, forall_eq, forall_eq', exists_eq_left, exists_eq_left', Option.some.injEq, eq_self_iff_true, not_true, not_false_iff, false_implies, true_implies, forall_const, reduceCtorEq, ne_eq]
      have x39 : hI (setI S 35 0 0) 39 = hI S 39 := hI_setI_ne (by decide)
      exact c_partedM (S := setI S 35 0 0) (lay0 h.1) (by omega) (by omega) ⟨by rw [x39]; exact k1, k2, k3⟩ ⟨by rw [x39]; exact y1, y2, y3⟩ ⟨rfl, h.thr 0⟩
