theorem ls_rg {x m s : Int32} (B : Int) (hB : 0 ≤ B ∧ B ≤ 100000) (hx : -B ≤ x.toInt ∧ x.toInt ≤ B) (hm : -B ≤ m.toInt ∧ m.toInt ≤ B) (hs : rg s 2 20 = true) : -B ≤ (x - lsM x m s).toInt ∧ (x - lsM x m s).toInt ≤ B := by
  have hs' := rg_t.mp hs
  unfold lsM
  by_cases h : x ≤ m
  · rw [if_pos h, Int32.sub_zero]; exact hx
  · rw [if_neg h]
    rw [t_le] at h
    have e : (x - m).toInt = x.toInt - m.toInt := t_sub (by omega)
    have e2 : ((x - m) / s).toInt = (x.toInt - m.toInt).tdiv s.toInt := by
      rw [Int32.toInt_div, e]
      have h0 : 0 ≤ (x.toInt - m.toInt).tdiv s.toInt := Int.tdiv_nonneg (by omega) (by omega)
      have h1 : (x.toInt - m.toInt).tdiv s.toInt ≤ x.toInt - m.toInt := by
        rw [Int.tdiv_eq_ediv_of_nonneg (by omega)]
        exact Int.ediv_le_self _ (by omega)
      exact bm (by omega) (by omega)
    have h0 : 0 ≤ (x.toInt - m.toInt).tdiv s.toInt := Int.tdiv_nonneg (by omega) (by omega)
    have h1 : (x.toInt - m.toInt).tdiv s.toInt ≤ x.toInt - m.toInt := by
      rw [Int.tdiv_eq_ediv_of_nonneg (by omega)]
      exact Int.ediv_le_self _ (by omega)
    have e3 : (x - (x - m) / s).toInt = x.toInt - (x.toInt - m.toInt).tdiv s.toInt := by
      rw [← e2]; exact t_sub (by rw [e2]; omega)
    rw [e3]
    omega
theorem bd_ls {x m s : Int32} (hx : bd x) (hm : bd m) (hs : rg s 2 20 = true) : bd (x - lsM x m s) := ls_rg 999 (by omega) hx hm hs
theorem lnf_lo {g w : Nat → Int32} {n k : Nat} (h : k < 51 + 6 * n) (h4 : k ≠ 4) : lnf g n w k = g k := by unfold lnf; rw [if_neg h4, put6_out (by omega)]
theorem lnf_4 {g w : Nat → Int32} {n : Nat} : lnf g n w 4 = nI (n + 1) := by unfold lnf; rw [if_pos rfl]
theorem lnf_in {g w : Nat → Int32} {n c : Nat} (hc : c < 6) : lnf g n w (51 + 6 * n + c) = w c := by unfold lnf; rw [if_neg (by omega), put6_in hc]
theorem Rel.lines {S : hp} (h : Rel S) {l i : Nat} (hl : hI S 39 4 = nI l) (h16 : l ≤ 16) (hi : i < l) : LineOK (vec S 39 0) i := by
  refine h.2.2.2.2.1.2.1.2.2.2.2.2.2 i ?_
  unfold nl
  rw [vec_lt (by omega), Nat.zero_add, hl, nI_clamp (by omega)]
  exact hi
theorem p_year : st_year Rel := by
  intro S h
  obtain ⟨d, m, l, ⟨hd, hm, hl⟩, v2, v3, v4, v5, v6, v7, v8, vS⟩ := h.view
  obtain ⟨n, lc, c1, c2, c3, c4, c5, c6, c7⟩ := h.2.2.2.2.2.2.2.1
  refine ⟨h.1.eqs.1, ?_⟩
  obtain ⟨Q, hQ⟩ : ∃ Q : Int32 → hp → Prop, Q = fun (r : Int32) (S1 : hp) => hK S1 35 = 11 ∧ wp_X12_year (fun r2 S2 => r = r2 ∧ Rel S2) S1 35  := ⟨_, rfl⟩
  rw [← hQ]
  unfold wp_X11_year wp_X8_addYear
  have e16 : ∀ z, z ≤ 16 → (nI z = (16 : Int32)) = (z = 16) := fun z hz => propext (nI_eq (a := z) (b := 16) (by omega) (by omega))
  simp only [h.1.eqs, v2, e_isLogFull vS v2.2.2.2.2.2.2.2 hl, bI0, ↓reduceIte, Nat.reduceEqDiff, and_false, false_and, true_and, and_true, forall_eq, forall_eq', exists_eq_left, exists_eq_left', Option.some.injEq, eq_self_iff_true, not_true, not_false_iff, false_implies, true_implies, forall_const, reduceCtorEq, ne_eq]
  rcases v3 with ⟨s0, -⟩ | ⟨s1, s2⟩
  · simp only [s0, ↓reduceIte, Nat.reduceEqDiff, and_false, false_and, true_and, and_true, forall_eq, forall_eq', exists_eq_left, exists_eq_left', Option.some.injEq, eq_self_iff_true, not_true, not_false_iff, false_implies, true_implies, forall_const, reduceCtorEq, ne_eq]
    simp only [hQ, wp_X12_year, h.1.eqs, e_isThereM (lay0 h.1), bI0, hI_setI, s0, show ((0 : Int32) = 1) = False from eq_false (by decide), decide_false, hK_putA, hN_putA, hR_putA, hC_putA, hK_setI, hN_setI, hR_setI, hC_setI, hI_setI, hK_setR, hN_setR, hI_setR, hC_setR, hR_setR, hK_cpyI, hN_cpyI, hR_cpyI, hC_cpyI, hI_cpyI, ↓reduceIte, Nat.reduceEqDiff, and_false, false_and, true_and, and_true, forall_eq, forall_eq', exists_eq_left, exists_eq_left', Option.some.injEq, eq_self_iff_true, not_true, not_false_iff, false_implies, true_implies, forall_const, reduceCtorEq, ne_eq]
    exact h.thr 0
  · simp only [s1, i1_ne0, ↓reduceIte, Nat.reduceEqDiff, and_false, false_and, true_and, and_true, forall_eq, forall_eq', exists_eq_left, exists_eq_left', Option.some.injEq, eq_self_iff_true, not_true, not_false_iff, false_implies, true_implies, forall_const, reduceCtorEq, ne_eq]
    by_cases hl16 : l = 16
    · simp only [hl16, decide_true, Bool.true_eq_false, ↓reduceIte, Nat.reduceEqDiff, and_false, false_and, true_and, and_true, forall_eq, forall_eq', exists_eq_left, exists_eq_left', Option.some.injEq, eq_self_iff_true, not_true, not_false_iff, false_implies, true_implies, forall_const, reduceCtorEq, ne_eq]
      simp only [hQ, wp_X12_year, h.1.eqs, e_isThereM (lay0 h.1), bI0, hI_setI, s1, decide_true, Bool.true_eq_false, vi4, cl4, v2, hl16, show (nI 16 = (16 : Int32)) = True from eq_true rfl, hK_putA, hN_putA, hR_putA, hC_putA, hK_setI, hN_setI, hR_setI, hC_setI, hI_setI, hK_setR, hN_setR, hI_setR, hC_setR, hR_setR, hK_cpyI, hN_cpyI, hR_cpyI, hC_cpyI, hI_cpyI, ↓reduceIte, Nat.reduceEqDiff, and_false, false_and, true_and, and_true, forall_eq, forall_eq', exists_eq_left, exists_eq_left', Option.some.injEq, eq_self_iff_true, not_true, not_false_iff, false_implies, true_implies, forall_const, reduceCtorEq, ne_eq]
      exact h.thr 0
    · simp only [hl16, decide_false, ↓reduceIte, Nat.reduceEqDiff, and_false, false_and, true_and, and_true, forall_eq, forall_eq', exists_eq_left, exists_eq_left', Option.some.injEq, eq_self_iff_true, not_true, not_false_iff, false_implies, true_implies, forall_const, reduceCtorEq, ne_eq]
      refine c_keepAct h c1 c2 c3 c5 (fun S1 hKA => ?_)
      obtain ⟨hL1, r16, low⟩ := hKA.facts h
      have l16 := (low 16 (by decide) (by decide) (by decide)).1
      have l17 := (low 17 (by decide) (by decide) (by decide)).1
      have l18 := (low 18 (by decide) (by decide) (by decide)).1
      have l19 := (low 19 (by decide) (by decide) (by decide)).1
      have l21 := (low 21 (by decide) (by decide) (by decide)).1
      simp only [hL1.eqs, ↓reduceIte, Nat.reduceEqDiff, and_false, false_and, true_and, and_true, forall_eq, forall_eq', exists_eq_left, exists_eq_left', Option.some.injEq, eq_self_iff_true, not_true, not_false_iff, false_implies, true_implies, forall_const, reduceCtorEq, ne_eq]
      refine c_addLine r16.1 (n := l) (by rw [l16]; exact v2.2.2.2.2.2.2.2) (by omega) ?_
      generalize hT : setI (putA S1 (16 + 5) (put6 (hI S1 (16 + 5)) (6 * l) (ln6 1 (-1000000) (-1000000) (-1000000) 0 0))) 16 9 (nI (l + 1)) = T
      have hLT : Lay T := by rw [← hT]; exact hL1
      have sT : SL T 16 := by rw [← hT]; exact r16.1
      have t16 : ∀ q, q ≠ 9 → hI T 16 q = hI S 16 q := fun q hq => by rw [← hT, hI_setI, if_neg (by omega), hI_putA_ne (by decide), l16]
      have t17 : hI T 17 = hI S 17 := by rw [← hT, hI_setI_ne (by decide), hI_putA_ne (by decide), l17]
      have t18 : hI T 18 = hI S 18 := by rw [← hT, hI_setI_ne (by decide), hI_putA_ne (by decide), l18]
      have t19 : hI T 19 = hI S 19 := by rw [← hT, hI_setI_ne (by decide), hI_putA_ne (by decide), l19]
      simp only [hLT.eqs, ↓reduceIte, Nat.reduceEqDiff, and_false, false_and, true_and, and_true, forall_eq, forall_eq', exists_eq_left, exists_eq_left', Option.some.injEq, eq_self_iff_true, not_true, not_false_iff, false_implies, true_implies, forall_const, reduceCtorEq, ne_eq]
      refine c_shrinkAll sT (d := d) (by rw [t16 7 (by decide)]; exact v2.2.2.2.2.2.1) hd ?_
      rw [show 16 + 1 = 17 from rfl, show 16 + 2 = 18 from rfl, t17, t18, t16 6 (by decide), v2.2.2.2.2.1]
      have lse : ∀ k, k < 3 * d → lsC (hI S 17 k) (hI S 18 k) (hI S 39 1) = lsM (hI S 39 (5 + k)) (hI S 39 (17 + k)) (hI S 39 1) := fun k hk => by
        obtain ⟨w1, w2, w3⟩ := v4 k hk
        obtain ⟨y1, y2, y3⟩ := v7 k (by omega)
        unfold bd at y1 y2
        rw [w1, w2]
        exact ls_eq (by omega) (by omega) s2
      rw [smI_congr (g := fun k => lsM (hI S 39 (5 + k)) (hI S 39 (17 + k)) (hI S 39 1)) lse]
      generalize hS2 : putA T 17 (fst (hI S 17) (fun k => hI S 17 k - lsC (hI S 17 k) (hI S 18 k) (hI S 39 1)) (3 * d)) = S2
      have F2 : Fr (fun b => 16 ≤ b ∧ b ≤ 21) S1 S2 := by rw [← hS2, ← hT]; exact (by repeat' (first | with_reducible apply Fr.setI | with_reducible apply Fr.putA | with_reducible apply Fr.setR | with_reducible apply Fr.cpyI | with_reducible apply Fr.newC | with_reducible exact Fr.rfl' | (simp; done) | (simp; omega)))
      have hL2 : Lay S2 := by rw [← hS2]; exact hLT
      have q39 : hI S2 39 = hI S 39 := by rw [← hS2, hI_putA_ne (by decide), ← hT, hI_setI_ne (by decide), hI_putA_ne (by decide)]; exact (low 39 (by decide) (by decide) (by decide)).1
      have q35 : hI S2 35 = hI S 35 := by rw [← hS2, hI_putA_ne (by decide), ← hT, hI_setI_ne (by decide), hI_putA_ne (by decide)]; exact (low 35 (by decide) (by decide) (by decide)).1
      simp only [hQ, wp_X12_year, hL2.eqs, e_isThereM (lay0 hL2), bI0, hI_setI, q39, s1, decide_true, Bool.true_eq_false, vi4, cl4, v2, e16 l hl, hl16, hK_putA, hN_putA, hR_putA, hC_putA, hK_setI, hN_setI, hR_setI, hC_setI, hI_setI, hK_setR, hN_setR, hI_setR, hC_setR, hR_setR, hK_cpyI, hN_cpyI, hR_cpyI, hC_cpyI, hI_cpyI, ↓reduceIte, Nat.reduceEqDiff, and_false, false_and, true_and, and_true, forall_eq, forall_eq', exists_eq_left, exists_eq_left', Option.some.injEq, eq_self_iff_true, not_true, not_false_iff, false_implies, true_implies, forall_const, reduceCtorEq, ne_eq]
      refine m_keep (lay0 hL2) c1 (by rw [hI_setI, if_neg (by omega), q35]; exact c4) (fun S4 z1 z2 z3 z4 => ?_)
      have hL4 : Lay S4 := by
        obtain ⟨y1, y2, y3, y4⟩ := z1
        refine ⟨fun b hb => by rw [y2, y3]; exact hL2.1 b hb, fun q hq => by rw [y4]; exact hL2.2.1 q hq, by rw [y1]; exact hL2.2.2⟩
      have s39 : hI S4 39 = hI S 39 := (z2 39 (by decide) (by decide)).trans ((hI_setI_ne (by decide)).trans q39)
      simp only [hL4.eqs, ↓reduceIte, Nat.reduceEqDiff, and_false, false_and, true_and, and_true, forall_eq, forall_eq', exists_eq_left, exists_eq_left', Option.some.injEq, eq_self_iff_true, not_true, not_false_iff, false_implies, true_implies, forall_const, reduceCtorEq, ne_eq]
      refine m_logs hL4 (n := l) (by rw [s39]; exact v2.2.2.1) (by omega) ?_
      rw [s39]
      generalize hw : ln6 1 (-1000000) (-1000000) (-1000000) 0 0 = w
      have g1 : lnf (hI S 39) l w 1 = hI S 39 1 := lnf_lo (by omega) (by omega)
      have g2 : lnf (hI S 39) l w 2 = hI S 39 2 := lnf_lo (by omega) (by omega)
      have gk : ∀ k, k < 51 + 6 * l → k ≠ 4 → lnf (hI S 39) l w k = hI S 39 k := fun k hk h4 => lnf_lo hk h4
      refine c_yearM (S := putA S4 39 (lnf (hI S 39) l w)) hL4 (d := d) (by rw [hI_putA_s, g2]; exact v2.1) hd (by rw [hI_putA_s, g1]; exact s2) ?_
      rw [hI_putA_s, putA_putA]
      refine ⟨smI_congr (fun k hk => by rw [gk _ (by omega) (by omega), gk _ (by omega) (by omega), g1]), ?_⟩
      have yk : ∀ k, k < 5 ∨ 5 + 3 * d ≤ k → yrf (lnf (hI S 39) l w) (3 * d) k = lnf (hI S 39) l w k := fun k hk => by unfold yrf; rw [if_neg (by omega)]
      have yi : ∀ k, k < 3 * d → yrf (lnf (hI S 39) l w) (3 * d) (5 + k) = hI S 39 (5 + k) - lsM (hI S 39 (5 + k)) (hI S 39 (17 + k)) (hI S 39 1) := fun k hk => by
        unfold yrf; rw [if_pos (by omega), gk _ (by omega) (by omega), show 5 + k + 12 = 17 + k by omega, gk _ (by omega) (by omega), g1]
      refine h.fin2 c1 c2 c3 c5 hKA F2 (by rw [← hS2, ← hT]; rfl) z1 z2 z3 z4 ⟨v2.1, hd⟩ s1 (l := l + 1) (fun k hk => ?_) (fun k hk => ?_) ?_ (by omega) (fun i hi => ?_) ⟨?_, ?_, ?_, ?_, ?_⟩ (fun k hk => ⟨?_, ?_, ?_⟩) (fun k hk => ?_)
      · rw [yk k (by omega), gk k (by omega) (by omega)]
      · obtain ⟨w1, w2, w3⟩ := v7 k hk
        refine ⟨?_, ?_, ?_⟩
        · by_cases e : k < 3 * d
          · rw [yi k e]; exact bd_ls w1 w2 s2
          · rw [yk _ (by omega), gk _ (by omega) (by omega)]; exact w1
        · rw [yk _ (by omega), gk _ (by omega) (by omega)]; exact w2
        · rw [yk _ (by omega), gk _ (by omega) (by omega)]; exact w3
      · rw [yk 4 (by omega)]; exact lnf_4
      · by_cases e : i = l
        · subst e
          refine Or.inr (Or.inl ?_)
          rw [cut_lt (by omega), yk _ (by omega)]
          have := lnf_in (g := hI S 39) (w := w) (n := i) (c := 0) (by omega)
          rw [Nat.add_zero] at this
          rw [this, ← hw]; rfl
        · refine (h.lines v2.2.2.1 hl (show i < l by omega)).same ?_ ?_ (fun k h1 h2 => ?_)
          · rw [cut_lt (by omega), yk 2 (by omega), g2, vec_lt (by omega), Nat.zero_add]
          · rw [cut_lt (by omega), yk 3 (by omega), gk 3 (by omega) (by omega), vec_lt (by omega), Nat.zero_add]
          · rw [cut_lt (by omega), yk k (by omega), gk k (by omega) (by omega), vec_lt (by omega), Nat.zero_add]
      · rw [← hS2, hI_putA_ne (by decide), t16 5 (by decide)]; exact v2.2.2.2.1
      · rw [← hS2, hI_putA_ne (by decide), t16 6 (by decide)]; exact v2.2.2.2.2.1
      · rw [← hS2, hI_putA_ne (by decide), t16 7 (by decide), v2.1]; exact v2.2.2.2.2.2.1
      · rw [← hS2, hI_putA_ne (by decide), t16 8 (by decide), v2.2.1]; exact v2.2.2.2.2.2.2.1
      · rw [← hS2, hI_putA_ne (by decide), ← hT, hI_setI, if_pos ⟨rfl, rfl⟩]
      · rw [← hS2, hI_putA_s, yi k hk]; unfold fst; rw [if_pos hk]
        show hI S 17 k - lsC (hI S 17 k) (hI S 18 k) (hI S 39 1) = _
        rw [lse k hk, (v4 k hk).1]
      · rw [← hS2, hI_putA_ne (by decide), t18, (v4 k hk).2.1, yk _ (by omega), gk _ (by omega) (by omega)]
      · rw [← hS2, hI_putA_ne (by decide), t19, (v4 k hk).2.2, yk _ (by omega), gk _ (by omega) (by omega)]
      · rw [← hS2, hI_putA_ne (by decide), ← hT, hI_setI_ne (by decide), show 16 + 5 = 21 from rfl, hI_putA_s, l21, yk _ (by omega)]
        by_cases e : k < 6 * l
        · rw [put6_out (by omega), v6 k e, gk _ (by omega) (by omega)]
        · have e2 := put6_in (g := hI S 21) (w := w) (o := 6 * l) (c := k - 6 * l) (by omega)
          have e4 := lnf_in (g := hI S 39) (w := w) (n := l) (c := k - 6 * l) (by omega)
          rw [show 6 * l + (k - 6 * l) = k by omega] at e2
          rw [show 51 + 6 * l + (k - 6 * l) = 51 + k by omega] at e4
          rw [hw, e2, e4]
theorem p_swap : st_swap Rel := by
  intro S h x1 x2
  obtain ⟨d, m, l, ⟨hd, hm, hl⟩, v2, v3, v4, v5, v6, v7, v8, vS⟩ := h.view
  obtain ⟨n, lc, c1, c2, c3, c4, c5, c6, c7⟩ := h.2.2.2.2.2.2.2.1
  refine ⟨h.1.eqs.1, ?_⟩
  obtain ⟨Q, hQ⟩ : ∃ Q : Int32 → hp → Prop, Q = fun (r : Int32) (S1 : hp) => hK S1 35 = 11 ∧ wp_X12_swap (fun r2 S2 => r = r2 ∧ Rel S2) S1 35 x1 x2 := ⟨_, rfl⟩
  rw [← hQ]
  unfold wp_X11_swap wp_X8_addSwap
  have e16 : ∀ z, z ≤ 16 → (nI z = (16 : Int32)) = (z = 16) := fun z hz => propext (nI_eq (a := z) (b := 16) (by omega) (by omega))
  have t2 : 0 ≤ (hI (setI S 35 0 0) 39 2).toInt := by simp only [hI_setI, v2, ↓reduceIte, Nat.reduceEqDiff, and_false, false_and, true_and, and_true, forall_eq, forall_eq', exists_eq_left, exists_eq_left', Option.some.injEq, eq_self_iff_true, not_true, not_false_iff, false_implies, true_implies, forall_const, reduceCtorEq, ne_eq]; exact tn0 (by omega)
  simp only [h.1.eqs, v2, e_hasDummy vS.eqs.1, e_isLogFull vS v2.2.2.2.2.2.2.2 hl, bI0, ↓reduceIte, Nat.reduceEqDiff, and_false, false_and, true_and, and_true, forall_eq, forall_eq', exists_eq_left, exists_eq_left', Option.some.injEq, eq_self_iff_true, not_true, not_false_iff, false_implies, true_implies, forall_const, reduceCtorEq, ne_eq]
  cases hb : rc x1 (nI d) with
  | false =>
    simp only [Bool.false_eq_true, ↓reduceIte, Nat.reduceEqDiff, and_false, false_and, true_and, and_true, forall_eq, forall_eq', exists_eq_left, exists_eq_left', Option.some.injEq, eq_self_iff_true, not_true, not_false_iff, false_implies, true_implies, forall_const, reduceCtorEq, ne_eq]
    simp [hQ, wp_X12_swap, h.1.eqs, e_isDummyM (lay0 h.1) t2, hI_setI, v2, hb, bI_f, hK_putA, hN_putA, hR_putA, hC_putA, hK_setI, hN_setI, hR_setI, hC_setI, hI_setI, hK_setR, hN_setR, hI_setR, hC_setR, hR_setR, hK_cpyI, hN_cpyI, hR_cpyI, hC_cpyI, hI_cpyI]
    exact h.thr 0
  | true =>
    cases hb2 : rc x2 (nI d) with
    | false =>
      simp only [Bool.true_eq_false, ↓reduceIte, Nat.reduceEqDiff, and_false, false_and, true_and, and_true, forall_eq, forall_eq', exists_eq_left, exists_eq_left', Option.some.injEq, eq_self_iff_true, not_true, not_false_iff, false_implies, true_implies, forall_const, reduceCtorEq, ne_eq]
      simp [hQ, wp_X12_swap, h.1.eqs, e_isDummyM (lay0 h.1) t2, hI_setI, v2, hb, hb2, bI_f, bI_t, i1_ne0, hK_putA, hN_putA, hR_putA, hC_putA, hK_setI, hN_setI, hR_setI, hC_setI, hI_setI, hK_setR, hN_setR, hI_setR, hC_setR, hR_setR, hK_cpyI, hN_cpyI, hR_cpyI, hC_cpyI, hI_cpyI]
      exact h.thr 0
    | true =>
      obtain ⟨i, hi, rfl⟩ := rc_nat (by omega) hb
      obtain ⟨j, hj, rfl⟩ := rc_nat (by omega) hb2
      have eij : (nI i = nI j) = (i = j) := propext (nI_eq (by omega) (by omega))
      simp only [Bool.true_eq_false, eij, ↓reduceIte, Nat.reduceEqDiff, and_false, false_and, true_and, and_true, forall_eq, forall_eq', exists_eq_left, exists_eq_left', Option.some.injEq, eq_self_iff_true, not_true, not_false_iff, false_implies, true_implies, forall_const, reduceCtorEq, ne_eq]
      by_cases hij : i = j
      · simp only [hij, ↓reduceIte, Nat.reduceEqDiff, and_false, false_and, true_and, and_true, forall_eq, forall_eq', exists_eq_left, exists_eq_left', Option.some.injEq, eq_self_iff_true, not_true, not_false_iff, false_implies, true_implies, forall_const, reduceCtorEq, ne_eq]
        subst hij
        simp [hQ, wp_X12_swap, h.1.eqs, e_isDummyM (lay0 h.1) t2, hI_setI, v2, hb, hb2, bI_t, i1_ne0, hK_putA, hN_putA, hR_putA, hC_putA, hK_setI, hN_setI, hR_setI, hC_setI, hI_setI, hK_setR, hN_setR, hI_setR, hC_setR, hR_setR, hK_cpyI, hN_cpyI, hR_cpyI, hC_cpyI, hI_cpyI]
        exact h.thr 0
      · simp only [hij, ↓reduceIte, Nat.reduceEqDiff, and_false, false_and, true_and, and_true, forall_eq, forall_eq', exists_eq_left, exists_eq_left', Option.some.injEq, eq_self_iff_true, not_true, not_false_iff, false_implies, true_implies, forall_const, reduceCtorEq, ne_eq]
        by_cases hl16 : l = 16
        · simp only [hl16, decide_true, Bool.true_eq_false, ↓reduceIte, Nat.reduceEqDiff, and_false, false_and, true_and, and_true, forall_eq, forall_eq', exists_eq_left, exists_eq_left', Option.some.injEq, eq_self_iff_true, not_true, not_false_iff, false_implies, true_implies, forall_const, reduceCtorEq, ne_eq]
          simp only [hQ, wp_X12_swap, h.1.eqs, e_isDummyM (lay0 h.1) t2, bI0, bI_t, i1_ne0, eij, hij, hI_setI, hb, hb2, vi4, cl4, v2, hl16, show (nI 16 = (16 : Int32)) = True from eq_true rfl, hK_putA, hN_putA, hR_putA, hC_putA, hK_setI, hN_setI, hR_setI, hC_setI, hI_setI, hK_setR, hN_setR, hI_setR, hC_setR, hR_setR, hK_cpyI, hN_cpyI, hR_cpyI, hC_cpyI, hI_cpyI, ↓reduceIte, Nat.reduceEqDiff, and_false, false_and, true_and, and_true, forall_eq, forall_eq', exists_eq_left, exists_eq_left', Option.some.injEq, eq_self_iff_true, not_true, not_false_iff, false_implies, true_implies, forall_const, reduceCtorEq, ne_eq]
          exact h.thr 0
        · simp only [hl16, decide_false, ↓reduceIte, Nat.reduceEqDiff, and_false, false_and, true_and, and_true, forall_eq, forall_eq', exists_eq_left, exists_eq_left', Option.some.injEq, eq_self_iff_true, not_true, not_false_iff, false_implies, true_implies, forall_const, reduceCtorEq, ne_eq]
          refine c_keepAct h c1 c2 c3 c5 (fun S1 hKA => ?_)
          obtain ⟨hL1, r16, low⟩ := hKA.facts h
          have l16 := (low 16 (by decide) (by decide) (by decide)).1
          have l17 := (low 17 (by decide) (by decide) (by decide)).1
          have l18 := (low 18 (by decide) (by decide) (by decide)).1
          have l19 := (low 19 (by decide) (by decide) (by decide)).1
          have l21 := (low 21 (by decide) (by decide) (by decide)).1
          have elo : (if nI j < nI i then nI j else nI i) = nI (if j < i then j else i) := by
            by_cases q : j < i
            · rw [if_pos q, if_pos (nI_lt q (by omega))]
            · rw [if_neg q, if_neg (nI_nlt (by omega) (by omega))]
          have ehi : (if nI i < nI j then nI j else nI i) = nI (if j < i then i else j) := by
            by_cases q : j < i
            · rw [if_pos q, if_neg (nI_nlt (by omega) (by omega))]
            · rw [if_neg q, if_pos (nI_lt (by omega) (by omega))]
          rw [elo, ehi]
          generalize hlo : (if j < i then j else i) = lo
          generalize hhi : (if j < i then i else j) = hi0
          have hlt : lo < hi0 ∧ hi0 < d ∧ ((lo = i ∧ hi0 = j) ∨ (lo = j ∧ hi0 = i)) := by
            by_cases q : j < i
            · rw [if_pos q] at hlo hhi; omega
            · rw [if_neg q] at hlo hhi; omega
          simp only [hL1.eqs, ↓reduceIte, Nat.reduceEqDiff, and_false, false_and, true_and, and_true, forall_eq, forall_eq', exists_eq_left, exists_eq_left', Option.some.injEq, eq_self_iff_true, not_true, not_false_iff, false_implies, true_implies, forall_const, reduceCtorEq, ne_eq]
          refine c_addLine r16.1 (n := l) (by rw [l16]; exact v2.2.2.2.2.2.2.2) (by omega) ?_
          generalize hT : setI (putA S1 (16 + 5) (put6 (hI S1 (16 + 5)) (6 * l) (ln6 2 (nI lo) (nI hi0) (-1000000) 0 0))) 16 9 (nI (l + 1)) = T
          have hLT : Lay T := by rw [← hT]; exact hL1
          have sT : SL T 16 := by rw [← hT]; exact r16.1
          have t16 : ∀ q, q ≠ 9 → hI T 16 q = hI S 16 q := fun q hq => by rw [← hT, hI_setI, if_neg (by omega), hI_putA_ne (by decide), l16]
          have t169 : hI T 16 9 = nI (l + 1) := by rw [← hT, hI_setI, if_pos ⟨rfl, rfl⟩]
          have t17 : hI T 17 = hI S 17 := by rw [← hT, hI_setI_ne (by decide), hI_putA_ne (by decide), l17]
          have t18 : hI T 18 = hI S 18 := by rw [← hT, hI_setI_ne (by decide), hI_putA_ne (by decide), l18]
          have t19 : hI T 19 = hI S 19 := by rw [← hT, hI_setI_ne (by decide), hI_putA_ne (by decide), l19]
          simp only [hLT.eqs, ↓reduceIte, Nat.reduceEqDiff, and_false, false_and, true_and, and_true, forall_eq, forall_eq', exists_eq_left, exists_eq_left', Option.some.injEq, eq_self_iff_true, not_true, not_false_iff, false_implies, true_implies, forall_const, reduceCtorEq, ne_eq]
          refine c_exchange sT (by omega) (by omega) (by omega) ?_
          rw [show 16 + 1 = 17 from rfl, t17]
          simp only [hLT.eqs, hI_putA_ne (S := T) (a := 17) (b := 16) (by decide), t169, hK_putA, hN_putA, hR_putA, hC_putA, hK_setI, hN_setI, hR_setI, hC_setI, hI_setI, hK_setR, hN_setR, hI_setR, hC_setR, hR_setR, hK_cpyI, hN_cpyI, hR_cpyI, hC_cpyI, hI_cpyI, ↓reduceIte, Nat.reduceEqDiff, and_false, false_and, true_and, and_true, forall_eq, forall_eq', exists_eq_left, exists_eq_left', Option.some.injEq, eq_self_iff_true, not_true, not_false_iff, false_implies, true_implies, forall_const, reduceCtorEq, ne_eq]
          generalize hS2 : putA T 17 (sw (hI S 17) 0 lo hi0 3) = S2
          have F2 : Fr (fun b => 16 ≤ b ∧ b ≤ 21) S1 S2 := by rw [← hS2, ← hT]; exact (by repeat' (first | with_reducible apply Fr.setI | with_reducible apply Fr.putA | with_reducible apply Fr.setR | with_reducible apply Fr.cpyI | with_reducible apply Fr.newC | with_reducible exact Fr.rfl' | (simp; done) | (simp; omega)))
          have hL2 : Lay S2 := by rw [← hS2]; exact hLT
          have q39 : hI S2 39 = hI S 39 := by rw [← hS2, hI_putA_ne (by decide), ← hT, hI_setI_ne (by decide), hI_putA_ne (by decide)]; exact (low 39 (by decide) (by decide) (by decide)).1
          have q35 : hI S2 35 = hI S 35 := by rw [← hS2, hI_putA_ne (by decide), ← hT, hI_setI_ne (by decide), hI_putA_ne (by decide)]; exact (low 35 (by decide) (by decide) (by decide)).1
          have t2' : 0 ≤ (hI (setI S2 35 0 0) 39 2).toInt := by rw [hI_setI_ne (by decide), q39, v2.1]; exact tn0 (by omega)
          simp only [hQ, wp_X12_swap, hL2.eqs, e_isDummyM (lay0 hL2) t2', bI0, bI_t, i1_ne0, eij, hij, hI_setI, q39, hb, hb2, vi4, cl4, v2, e16 l hl, hl16, Bool.true_eq_false, hK_putA, hN_putA, hR_putA, hC_putA, hK_setI, hN_setI, hR_setI, hC_setI, hI_setI, hK_setR, hN_setR, hI_setR, hC_setR, hR_setR, hK_cpyI, hN_cpyI, hR_cpyI, hC_cpyI, hI_cpyI, ↓reduceIte, Nat.reduceEqDiff, and_false, false_and, true_and, and_true, forall_eq, forall_eq', exists_eq_left, exists_eq_left', Option.some.injEq, eq_self_iff_true, not_true, not_false_iff, false_implies, true_implies, forall_const, reduceCtorEq, ne_eq]
          refine m_keep (lay0 hL2) c1 (by rw [hI_setI, if_neg (by omega), q35]; exact c4) (fun S4 z1 z2 z3 z4 => ?_)
          have hL4 : Lay S4 := by
            obtain ⟨y1, y2, y3, y4⟩ := z1
            refine ⟨fun b hb => by rw [y2, y3]; exact hL2.1 b hb, fun q hq => by rw [y4]; exact hL2.2.1 q hq, by rw [y1]; exact hL2.2.2⟩
          have s39 : hI S4 39 = hI S 39 := (z2 39 (by decide) (by decide)).trans ((hI_setI_ne (by decide)).trans q39)
          have M : wB_X12_swap_69 (fun r2 S2 => nI (l + 1) = r2 ∧ Rel S2) S4 35 (nI i) (nI j) (nI hi0) (nI lo) 2 35 := by
            unfold wB_X12_swap_69
            simp only [hL4.eqs, ↓reduceIte, Nat.reduceEqDiff, and_false, false_and, true_and, and_true, forall_eq, forall_eq', exists_eq_left, exists_eq_left', Option.some.injEq, eq_self_iff_true, not_true, not_false_iff, false_implies, true_implies, forall_const, reduceCtorEq, ne_eq]
            refine m_logs hL4 (n := l) (by rw [s39]; exact v2.2.2.1) (by omega) ?_
            rw [s39]
            generalize hw : ln6 2 (nI lo) (nI hi0) (-1000000) 0 0 = w
            have gk : ∀ k, k < 51 + 6 * l → k ≠ 4 → lnf (hI S 39) l w k = hI S 39 k := fun k hk h4 => lnf_lo hk h4
            refine c_swapM (S := putA S4 39 (lnf (hI S 39) l w)) hL4 (show i < 4 by omega) (show j < 4 by omega) hij ?_
            rw [hI_putA_s, putA_putA]
            refine ⟨lnf_4.symm, ?_⟩
            have swe : sw (lnf (hI S 39) l w) 5 i j 3 = sw (lnf (hI S 39) l w) 5 lo hi0 3 := by
              rcases hlt.2.2 with ⟨rfl, rfl⟩ | ⟨rfl, rfl⟩
              · rfl
              · exact sw_comm _ 5 hij
            rw [swe]
            have yk : ∀ k, k < 5 ∨ 5 + 3 * d ≤ k → sw (lnf (hI S 39) l w) 5 lo hi0 3 k = lnf (hI S 39) l w k := fun k hk => by unfold sw; rw [if_neg (by omega), if_neg (by omega)]
            have yi : ∀ k, k < 3 * d → sw (lnf (hI S 39) l w) 5 lo hi0 3 (5 + k) = sw (fun q => hI S 39 (5 + q)) 0 lo hi0 3 k := fun k hk => by
              unfold sw
              by_cases h1 : 3 * lo ≤ k ∧ k < 3 * lo + 3
              · rw [if_pos (by omega), if_pos (by omega), gk _ (by omega) (by omega)]; congr 1; omega
              · rw [if_neg (show ¬ (5 + 3 * lo ≤ 5 + k ∧ 5 + k < 5 + 3 * lo + 3) by omega), if_neg (show ¬ (0 + 3 * lo ≤ k ∧ k < 0 + 3 * lo + 3) by omega)]
                by_cases h2 : 3 * hi0 ≤ k ∧ k < 3 * hi0 + 3
                · rw [if_pos (by omega), if_pos (by omega), gk _ (by omega) (by omega)]; congr 1; omega
                · rw [if_neg (by omega), if_neg (by omega), gk _ (by omega) (by omega)]
            refine h.fin2 c1 c2 c3 c5 hKA F2 (by rw [← hS2, ← hT]; rfl) z1 z2 z3 z4 ⟨v2.1, hd⟩ (by
              rcases v3 with ⟨_, q, _⟩ | ⟨q, _⟩
              · omega
              · exact q) (l := l + 1) (fun k hk => ?_) (fun k hk => ?_) ?_ (by omega) (fun i' hi' => ?_) ⟨?_, ?_, ?_, ?_, ?_⟩ (fun k hk => ⟨?_, ?_, ?_⟩) (fun k hk => ?_)
            · rw [yk k (by omega), gk k (by omega) (by omega)]
            · obtain ⟨w1, w2, w3⟩ := v7 k hk
              refine ⟨?_, ?_, ?_⟩
              · by_cases e : k < 3 * d
                · rw [yi k e]
                  unfold sw
                  by_cases h1 : 0 + 3 * lo ≤ k ∧ k < 0 + 3 * lo + 3
                  · rw [if_pos h1]; exact (v7 (0 + 3 * hi0 + (k - (0 + 3 * lo))) (by omega)).1
                  · rw [if_neg h1]
                    by_cases h2 : 0 + 3 * hi0 ≤ k ∧ k < 0 + 3 * hi0 + 3
                    · rw [if_pos h2]; exact (v7 (0 + 3 * lo + (k - (0 + 3 * hi0))) (by omega)).1
                    · rw [if_neg h2]; exact w1
                · rw [yk _ (by omega), gk _ (by omega) (by omega)]; exact w1
              · rw [yk _ (by omega), gk _ (by omega) (by omega)]; exact w2
              · rw [yk _ (by omega), gk _ (by omega) (by omega)]; exact w3
            · rw [yk 4 (by omega)]; exact lnf_4
            · have n2 : nd (cut (sw (lnf (hI S 39) l w) 5 lo hi0 3)) = d := by unfold nd; rw [cut_lt (by omega), yk 2 (by omega), gk 2 (by omega) (by omega), v2.1]; exact nI_clamp (by omega)
              by_cases e : i' = l
              · subst e
                have q0 := lnf_in (g := hI S 39) (w := w) (n := i') (c := 0) (by omega)
                have q1 := lnf_in (g := hI S 39) (w := w) (n := i') (c := 1) (by omega)
                have q2 := lnf_in (g := hI S 39) (w := w) (n := i') (c := 2) (by omega)
                rw [Nat.add_zero] at q0
                rw [show 51 + 6 * i' + 1 = 52 + 6 * i' by omega] at q1
                rw [show 51 + 6 * i' + 2 = 53 + 6 * i' by omega] at q2
                refine Or.inr (Or.inr ⟨?_, lo, hi0, ?_, by rw [n2]; omega, ?_, by rw [n2]; omega, hlt.1⟩)
                · rw [cut_lt (by omega), yk _ (by omega), q0, ← hw]; rfl
                · rw [cut_lt (by omega), yk _ (by omega), q1, ← hw]; rfl
                · rw [cut_lt (by omega), yk _ (by omega), q2, ← hw]; rfl
              · refine (h.lines v2.2.2.1 hl (show i' < l by omega)).same ?_ ?_ (fun k h1 h2 => ?_)
                · rw [cut_lt (by omega), yk 2 (by omega), gk 2 (by omega) (by omega), vec_lt (by omega), Nat.zero_add]
                · rw [cut_lt (by omega), yk 3 (by omega), gk 3 (by omega) (by omega), vec_lt (by omega), Nat.zero_add]
                · rw [cut_lt (by omega), yk k (by omega), gk k (by omega) (by omega), vec_lt (by omega), Nat.zero_add]
            · rw [← hS2, hI_putA_ne (by decide), t16 5 (by decide)]; exact v2.2.2.2.1
            · rw [← hS2, hI_putA_ne (by decide), t16 6 (by decide)]; exact v2.2.2.2.2.1
            · rw [← hS2, hI_putA_ne (by decide), t16 7 (by decide), v2.1]; exact v2.2.2.2.2.2.1
            · rw [← hS2, hI_putA_ne (by decide), t16 8 (by decide), v2.2.1]; exact v2.2.2.2.2.2.2.1
            · rw [← hS2, hI_putA_ne (by decide)]; exact t169
            · rw [← hS2, hI_putA_s, yi k hk]
              unfold sw
              by_cases h1 : 0 + 3 * lo ≤ k ∧ k < 0 + 3 * lo + 3
              · rw [if_pos h1, if_pos h1]; exact (v4 _ (by omega)).1
              · rw [if_neg h1, if_neg h1]
                by_cases h2 : 0 + 3 * hi0 ≤ k ∧ k < 0 + 3 * hi0 + 3
                · rw [if_pos h2, if_pos h2]; exact (v4 _ (by omega)).1
                · rw [if_neg h2, if_neg h2]; exact (v4 _ (by omega)).1
            · rw [← hS2, hI_putA_ne (by decide), t18, (v4 k hk).2.1, yk _ (by omega), gk _ (by omega) (by omega)]
            · rw [← hS2, hI_putA_ne (by decide), t19, (v4 k hk).2.2, yk _ (by omega), gk _ (by omega) (by omega)]
            · rw [← hS2, hI_putA_ne (by decide), ← hT, hI_setI_ne (by decide), show 16 + 5 = 21 from rfl, hI_putA_s, l21, yk _ (by omega)]
              by_cases e : k < 6 * l
              · rw [put6_out (by omega), v6 k e, gk _ (by omega) (by omega)]
              · have e2 := put6_in (g := hI S 21) (w := w) (o := 6 * l) (c := k - 6 * l) (by omega)
                have e4 := lnf_in (g := hI S 39) (w := w) (n := l) (c := k - 6 * l) (by omega)
                rw [show 6 * l + (k - 6 * l) = k by omega] at e2
                rw [show 51 + 6 * l + (k - 6 * l) = 51 + k by omega] at e4
                rw [hw, e2, e4]
          unfold wB_X12_swap_59
          have ele : (nI j ≤ nI i) = (j ≤ i) := propext (nI_leI (by omega) (by omega))
          rw [ele]
          refine ⟨fun q => ⟨fun _ => ?_, fun q2 => absurd q q2⟩, fun q => ⟨fun q2 => absurd q2 q, fun _ => ?_⟩⟩
          · have : lo = j ∧ hi0 = i := by omega
            obtain ⟨rfl, rfl⟩ := this
            exact M
          · have : lo = i ∧ hi0 = j := by omega
            obtain ⟨rfl, rfl⟩ := this
            exact M
