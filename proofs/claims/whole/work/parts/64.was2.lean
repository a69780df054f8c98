theorem SL.put {S : hp} {a b : Nat} {g : Nat → Int32} (h : SL S a) : SL (putA S b g) a := h
theorem c_doAgain {Q : hp → Prop} {S T : hp} {a d m l i : Nat} {g g1 : Nat → Int32} (hS : SL T a) (hd : d ≤ 4) (hl : l ≤ 16) (hi : i < l) (h7 : hI T a 7 = nI d) (h6 : hI T a 6 = hI S 39 1) (hlog : ∀ k, k < 6 * l → hI T (a + 5) k = hI S 39 (51 + k)) (hmd : ∀ k, k < 3 * d → hI T (a + 2) k = hI S 39 (17 + k)) (hs : rg (hI S 39 1) 2 20 = true) (v8 : LineV S d m i) (hg : ∀ k, k < 3 * d → g k = g1 k) (hb : ∀ k, k < 12 → -100000 ≤ (g1 k).toInt ∧ (g1 k).toInt ≤ 100000) (hm2 : ∀ k, k < 12 → bd (hI S 39 (17 + k))) (h : ∀ g2, (∀ k, k < 3 * d → g2 k = stp (hI S 39) i g1 k) → Q (putA T (a + 1) g2)) : wp_X8_doAgain Q (putA T (a + 1) g) a (nI i) := by
  have hU : SL (putA T (a + 1) g) a := hS.put
  have n5 : hI (putA T (a + 1) g) (a + 5) = hI T (a + 5) := hI_putA_ne (by omega)
  have n0 : hI (putA T (a + 1) g) a = hI T a := hI_putA_ne (by omega)
  have n2 : hI (putA T (a + 1) g) (a + 2) = hI T (a + 2) := hI_putA_ne (by omega)
  unfold wp_X8_doAgain
  refine ⟨hS.eqs.1, (e_part (c := 0) hU (show i < 16 by omega) (by omega)).mpr ?_⟩
  rw [n5, hlog _ (by omega), show 51 + (6 * i + 0) = 51 + 6 * i by omega]
  rcases v8 with ⟨e0, mm, dd, pp, q1, q2, q3, q4, q5, q6, q7, q8⟩ | e1 | ⟨e2, x, y, q1, q2, q3, q4, q5⟩
  · refine ⟨fun _ => ?_, fun q => absurd (e0.symm.trans q) (by decide), fun q => absurd e0 q⟩
    simp only [hS.eqs, hK_putA, hN_putA, hR_putA, hC_putA, hK_setI, hN_setI, hR_setI, hC_setI, hI_setI, hK_setR, hN_setR, hI_setR, hC_setR, hR_setR, hK_cpyI, hN_cpyI, hR_cpyI, hC_cpyI, hI_cpyI, ↓reduceIte, Nat.reduceEqDiff, and_false, false_and, true_and, and_true, forall_eq, forall_eq', exists_eq_left, exists_eq_left', Option.some.injEq, eq_self_iff_true, not_true, not_false_iff, false_implies, true_implies, forall_const, reduceCtorEq, ne_eq]
    refine (e_part (c := 2) hU (show i < 16 by omega) (by omega)).mpr ?_
    rw [n5, hlog _ (by omega), show 51 + (6 * i + 2) = 53 + 6 * i by omega, q3]
    simp only [hS.eqs, hK_putA, hN_putA, hR_putA, hC_putA, hK_setI, hN_setI, hR_setI, hC_setI, hI_setI, hK_setR, hN_setR, hI_setR, hC_setR, hR_setR, hK_cpyI, hN_cpyI, hR_cpyI, hC_cpyI, hI_cpyI, ↓reduceIte, Nat.reduceEqDiff, and_false, false_and, true_and, and_true, forall_eq, forall_eq', exists_eq_left, exists_eq_left', Option.some.injEq, eq_self_iff_true, not_true, not_false_iff, false_implies, true_implies, forall_const, reduceCtorEq, ne_eq]
    refine (e_part (c := 3) hU (show i < 16 by omega) (by omega)).mpr ?_
    rw [n5, hlog _ (by omega), show 51 + (6 * i + 3) = 54 + 6 * i by omega, q5]
    simp only [e_at, hS.eqs, show vp_in (nI (3 * dd + pp)) 12 from vp_in_nI (by omega) (by omega), nI_clamp (show 3 * dd + pp < 2 ^ 31 by omega), hI_putA_s, hK_putA, hN_putA, hR_putA, hC_putA, hK_setI, hN_setI, hR_setI, hC_setI, hI_setI, hK_setR, hN_setR, hI_setR, hC_setR, hR_setR, hK_cpyI, hN_cpyI, hR_cpyI, hC_cpyI, hI_cpyI, ↓reduceIte, Nat.reduceEqDiff, and_false, false_and, true_and, and_true, forall_eq, forall_eq', exists_eq_left, exists_eq_left', Option.some.injEq, eq_self_iff_true, not_true, not_false_iff, false_implies, true_implies, forall_const, reduceCtorEq, ne_eq]
    refine (e_part (c := 5) hU (show i < 16 by omega) (by omega)).mpr ?_
    rw [n5, hlog _ (by omega), show 51 + (6 * i + 5) = 56 + 6 * i by omega]
    simp only [hS.eqs, show vp_in (nI (3 * dd + pp)) 12 from vp_in_nI (by omega) (by omega), setI_putA, hK_putA, hN_putA, hR_putA, hC_putA, hK_setI, hN_setI, hR_setI, hC_setI, hI_setI, hK_setR, hN_setR, hI_setR, hC_setR, hR_setR, hK_cpyI, hN_cpyI, hR_cpyI, hC_cpyI, hI_cpyI, ↓reduceIte, Nat.reduceEqDiff, and_false, false_and, true_and, and_true, forall_eq, forall_eq', exists_eq_left, exists_eq_left', Option.some.injEq, eq_self_iff_true, not_true, not_false_iff, false_implies, true_implies, forall_const, reduceCtorEq, ne_eq]
    refine h _ (fun k hk => ?_)
    unfold stp
    rw [if_pos e0, q3, q5, nI_clamp (show dd < 2 ^ 31 by omega), nI_clamp (show pp < 2 ^ 31 by omega)]
    by_cases ek : k = 3 * dd + pp
    · rw [if_pos ek, if_pos ek, ← ek, hg k hk]
    · rw [if_neg ek, if_neg ek, hg k hk]
  · refine ⟨fun q => absurd (e1.symm.trans q) (by decide), fun _ => ⟨hS.eqs.1, ?_⟩, fun _ q => absurd e1 q⟩
    refine c_shrinkAll hU (d := d) (by rw [n0]; exact h7) hd ?_
    rw [hI_putA_s, putA_putA, n0, n2, h6]
    refine h _ (fun k hk => ?_)
    unfold stp fst
    rw [if_pos hk, if_neg (show ¬ hI S 39 (51 + 6 * i) = 0 by rw [e1]; decide), if_pos e1, if_pos (show k < 12 by omega)]
    show g k - lsC (g k) (hI T (a + 2) k) (hI S 39 1) = _
    have mk := hm2 k (by omega)
    unfold bd at mk
    rw [hg k hk, hmd k hk, ls_eq (hb k (by omega)) (by omega) hs]
  · refine ⟨fun q => absurd (e2.symm.trans q) (by decide), fun q => absurd (e2.symm.trans q) (by decide), fun _ _ => ⟨hS.eqs.1, ?_⟩⟩
    refine (e_part (c := 1) hU (show i < 16 by omega) (by omega)).mpr ?_
    rw [n5, hlog _ (by omega), show 51 + (6 * i + 1) = 52 + 6 * i by omega, q1]
    refine ⟨hS.eqs.1, (e_part (c := 2) hU (show i < 16 by omega) (by omega)).mpr ?_⟩
    rw [n5, hlog _ (by omega), show 51 + (6 * i + 2) = 53 + 6 * i by omega, q3]
    refine ⟨hS.eqs.1, c_exchange hU (show x < 4 by omega) (show y < 4 by omega) (by omega) ?_⟩
    rw [hI_putA_s, putA_putA]
    refine h _ (fun k hk => ?_)
    unfold stp
    rw [if_neg (by rw [e2]; decide), if_neg (by rw [e2]; decide), q1, q3, nI_clamp (show x < 2 ^ 31 by omega), nI_clamp (show y < 2 ^ 31 by omega)]
    unfold sw
    by_cases h1 : 0 + 3 * x ≤ k ∧ k < 0 + 3 * x + 3
    · rw [if_pos h1, if_pos h1]; exact hg _ (by omega)
    · rw [if_neg h1, if_neg h1]
      by_cases h2 : 0 + 3 * y ≤ k ∧ k < 0 + 3 * y + 3
      · rw [if_pos h2, if_pos h2]; exact hg _ (by omega)
      · rw [if_neg h2, if_neg h2]; exact hg _ hk
theorem c_goBack {Q : hp → Prop} {S T : hp} {a d m l n : Nat} {g0 : Nat → Int32} (hS : SL T a) (hd : d ≤ 4) (hl : l ≤ 16) (hn : n ≤ l) (h7 : hI T a 7 = nI d) (h6 : hI T a 6 = hI S 39 1) (hlog : ∀ k, k < 6 * l → hI T (a + 5) k = hI S 39 (51 + k)) (hmd : ∀ k, k < 3 * d → hI T (a + 2) k = hI S 39 (17 + k)) (hs : 0 < l → rg (hI S 39 1) 2 20 = true) (v7 : ∀ k, k < 12 → bd (hI S 39 (5 + k)) ∧ bd (hI S 39 (17 + k)) ∧ bd (hI S 39 (29 + k))) (v8 : ∀ i, i < l → LineV S d m i) (h : ∀ g, (∀ k, k < 3 * d → g k = rp (hI S 39) g0 n k) → Q (putA T (a + 1) g)) : wp_X8_goBackTo Q T a (nI n) := by
  have key : ∀ k j g, j + k = n → (∀ q, q < 3 * d → g q = rp (hI S 39) g0 j q) → wl_X8_goBackTo_20 Q (k + 1) (putA T (a + 1) g) a (nI n) (nI j) := by
    intro k
    induction k with
    | zero =>
      intro j g hj hg
      have : j = n := by omega
      subst this
      exact ⟨fun _ => h g hg, fun q => absurd (nI_le (Nat.le_refl _) (by omega)) q⟩
    | succ k ih =>
      intro j g hj hg
      have hs' := hs (by omega)
      unfold wl_X8_goBackTo_20 wB_X8_goBackTo_20
      refine ⟨fun q => absurd q (nI_ge (by omega) (by omega)), fun _ => ⟨hS.eqs.1, ?_⟩⟩
      refine c_doAgain (S := S) (m := m) (l := l) hS hd hl (by omega) h7 h6 hlog hmd hs' (v8 j (by omega)) hg (fun q hq => ?_) (fun q hq => (v7 q hq).2.1) (fun g2 hg2 => ?_)
      · have := rp_bd hd v7 v8 hs' hl g0 j (by omega) q hq
        omega
      · simp only [↓reduceIte, Nat.reduceEqDiff, and_false, false_and, true_and, and_true, forall_eq, forall_eq', exists_eq_left, exists_eq_left', Option.some.injEq, eq_self_iff_true, not_true, not_false_iff, false_implies, true_implies, forall_const, reduceCtorEq, ne_eq]
        rw [nI_1]
        exact ih (j + 1) g2 (by omega) hg2
  have e12 : (nI 12).toNatClampNeg = 12 := nI_clamp (by omega)
  unfold wp_X8_goBackTo
  simp only [hS.eqs, e12, cl0, show ¬ nI 12 < 0 from nI_pos (by omega), Nat.zero_add, Nat.le_refl, ↓reduceIte, Nat.reduceEqDiff, and_false, false_and, true_and, and_true, forall_eq, forall_eq', exists_eq_left, exists_eq_left', Option.some.injEq, eq_self_iff_true, not_true, not_false_iff, false_implies, true_implies, forall_const, reduceCtorEq, ne_eq]
  rw [cpyI_asA]
  refine ⟨n + 1, key n 0 _ (by omega) (fun q hq => ?_)⟩
  show _ = (if q < 12 then hI S 39 (17 + q) else g0 q)
  rw [if_pos (by omega), if_pos (by omega), ← hmd q hq]
  simp
theorem p_was : st_was Rel := by
  intro S h x1 x2 x3
  have hh := h
  obtain ⟨hL, h1, h2, h3, h4, h5, h6, h7, h8, h9⟩ := hh
  obtain ⟨d, m, l, ⟨hd, hm, hl⟩, v2, v3, v4, v5, v6, v7, v8, vS⟩ := h.view
  refine ⟨h.1.eqs.1, ?_⟩
  obtain ⟨Q, hQ⟩ : ∃ Q : Int32 → hp → Prop, Q = fun (r : Int32) (S1 : hp) => hK S1 35 = 11 ∧ wp_X12_was (fun r2 S2 => r = r2 ∧ Rel S2) S1 35 x1 x2 x3 := ⟨_, rfl⟩
  rw [← hQ]
  have t2 : 0 ≤ (hI (setI S 35 0 0) 39 2).toInt := by simp only [hI_setI, v2, ↓reduceIte, Nat.reduceEqDiff, and_false, false_and, true_and, and_true, forall_eq, forall_eq', exists_eq_left, exists_eq_left', Option.some.injEq, eq_self_iff_true, not_true, not_false_iff, false_implies, true_implies, forall_const, reduceCtorEq, ne_eq]; exact tn0 (by omega)
  have tl : (nI l).toInt = (l : Int) := nI_toInt (by omega)
  have BAD : (rg x1 0 (l : Int) = false ∨ rc x2 (nI d) = false ∨ rg x3 0 2 = false) → Q (-1000001) S := by
    intro q
    simp only [hQ, wp_X12_was, h.1.eqs, e_in, e_isDummyM (lay0 h.1) t2, e_isPlaceM, vi4, cl4, l64_0, l64_1, l64_2, l64_5, l64_6, l64_7, l64_m1, l64_99, l64_m99, l64_255, l64_999, l64_m999, l64_297, l64_200, l64_m200, l64_97, l64_122, l64_48, l64_57, Int32.toInt_toInt64, hI_setI, v2, tl, bI0, hK_putA, hN_putA, hR_putA, hC_putA, hK_setI, hN_setI, hR_setI, hC_setI, hI_setI, hK_setR, hN_setR, hI_setR, hC_setR, hR_setR, hK_cpyI, hN_cpyI, hR_cpyI, hC_cpyI, hI_cpyI, ↓reduceIte, Nat.reduceEqDiff, and_false, false_and, true_and, and_true, forall_eq, forall_eq', exists_eq_left, exists_eq_left', Option.some.injEq, eq_self_iff_true, not_true, not_false_iff, false_implies, true_implies, forall_const, reduceCtorEq, ne_eq]
    refine ⟨fun _ => h.thr 0, fun q1 => ⟨fun _ => h.thr 0, fun q2 => ⟨fun q3 => ?_, fun _ => h.thr 0⟩⟩⟩
    rcases q with q | q | q
    · exact absurd q q1
    · exact absurd q q2
    · exact absurd q q3
  unfold wp_X11_was
  simp only [h.1.eqs, v2, t_lt, c0, tl, e_hasPlace vS.eqs.1, bI0, ↓reduceIte, Nat.reduceEqDiff, and_false, false_and, true_and, and_true, forall_eq, forall_eq', exists_eq_left, exists_eq_left', Option.some.injEq, eq_self_iff_true, not_true, not_false_iff, false_implies, true_implies, forall_const, reduceCtorEq, ne_eq]
  refine ⟨fun q => BAD (Or.inl (rg_f.mpr (by omega))), fun q1 => ⟨fun q => BAD (Or.inl (rg_f.mpr (by omega))), fun q2 => ?_⟩⟩
  have hb1 : rg x1 0 (l : Int) = true := rg_t.mpr (by omega)
  cases hb2 : rc x2 (nI d) with
  | false => simp only [Bool.false_and, ↓reduceIte, Nat.reduceEqDiff, and_false, false_and, true_and, and_true, forall_eq, forall_eq', exists_eq_left, exists_eq_left', Option.some.injEq, eq_self_iff_true, not_true, not_false_iff, false_implies, true_implies, forall_const, reduceCtorEq, ne_eq]; exact BAD (Or.inr (Or.inl hb2))
  | true =>
    cases hb3 : rg x3 0 2 with
    | false => simp only [Bool.and_false, ↓reduceIte, Nat.reduceEqDiff, and_false, false_and, true_and, and_true, forall_eq, forall_eq', exists_eq_left, exists_eq_left', Option.some.injEq, eq_self_iff_true, not_true, not_false_iff, false_implies, true_implies, forall_const, reduceCtorEq, ne_eq]; exact BAD (Or.inr (Or.inr hb3))
    | true =>
      obtain ⟨n, hn1, hn2, rfl⟩ := rg_nat hb1
      obtain ⟨i, hi, rfl⟩ := rc_nat (by omega) hb2
      obtain ⟨p, hp, hp2, rfl⟩ := rg_nat hb3
      simp only [Bool.and_true, Bool.true_eq_false, ↓reduceIte, Nat.reduceEqDiff, and_false, false_and, true_and, and_true, forall_eq, forall_eq', exists_eq_left, exists_eq_left', Option.some.injEq, eq_self_iff_true, not_true, not_false_iff, false_implies, true_implies, forall_const, reduceCtorEq, ne_eq]
      have hs : 0 < l → rg (hI S 39 1) 2 20 = true := fun q => by
        rcases v3 with ⟨_, _, _, q2⟩ | ⟨_, q2⟩
        · omega
        · exact q2
      refine c_become h5 h4.1 (by omega) (l := l) v2.2.2.2.2.2.2.2 hl (zz0 h4) (fun S1 hB => ?_)
      have o1 : ∀ b, isO b → hR S1 b = hR S b := fun b hs => by
        unfold isO at hs
        by_cases e : b = 22
        · rw [e]; exact hB.2.2.1
        · exact (hB.2.1 b (by omega)).2
      have hL1 : Lay S1 := hL.fr2 hB.fr o1
      obtain ⟨-, hBo, -, ⟨i5, i6, i7, i8, i9⟩, ar, mo, lg⟩ := id hB
      simp only [hL1.eqs, ↓reduceIte, Nat.reduceEqDiff, and_false, false_and, true_and, and_true, forall_eq, forall_eq', exists_eq_left, exists_eq_left', Option.some.injEq, eq_self_iff_true, not_true, not_false_iff, false_implies, true_implies, forall_const, reduceCtorEq, ne_eq]
      refine c_goBack (S := S) (d := d) (m := m) (l := l) (g0 := hI S 43) (hB.sl h5 h4.1) hd hl (by omega) (by rw [i7]; exact v2.2.2.2.2.2.1) (by rw [i6]; exact v2.2.2.2.2.1) (fun k hk => by rw [lg k hk]; exact v6 k hk) (fun k hk => by rw [(ar k (by omega)).2.1]; exact (v4 k hk).2.1) hs v7 v8 (fun g hg => ?_)
      simp only [hL1.eqs, e_at, show vp_in (nI (3 * i + p)) 12 from vp_in_nI (by omega) (by omega), nI_clamp (show 3 * i + p < 2 ^ 31 by omega), hI_putA_s, show 22 + 1 = 23 from rfl, hg (3 * i + p) (by omega), hK_putA, hN_putA, hR_putA, hC_putA, hK_setI, hN_setI, hR_setI, hC_setI, hI_setI, hK_setR, hN_setR, hI_setR, hC_setR, hR_setR, hK_cpyI, hN_cpyI, hR_cpyI, hC_cpyI, hI_cpyI, ↓reduceIte, Nat.reduceEqDiff, and_false, false_and, true_and, and_true, forall_eq, forall_eq', exists_eq_left, exists_eq_left', Option.some.injEq, eq_self_iff_true, not_true, not_false_iff, false_implies, true_implies, forall_const, reduceCtorEq, ne_eq]
      generalize hS2 : putA S1 23 g = S2
      have F2 : Fr (fun b => 22 ≤ b ∧ b ≤ 22 + 5) S S2 := by rw [← hS2]; exact hB.fr.putA (by omega)
      have hL2 : Lay S2 := by rw [← hS2]; exact hL1
      have q2 : ∀ b, b < 50 → ¬ (22 ≤ b ∧ b ≤ 22 + 5) → hI S2 b = hI S b := fun b hb h1 => (F2.2.2 b (Nat.lt_of_lt_of_le hb hL.2.2) h1).1
      have q39 := q2 39 (by decide) (by omega)
      have q43 : hI (setI S2 35 0 0) 43 = hI S 43 := (hI_setI_ne (by decide)).trans (q2 43 (by decide) (by omega))
      have x39 : hI (setI S2 35 0 0) 39 = hI S 39 := (hI_setI_ne (by decide)).trans q39
      have t2' : 0 ≤ (hI (setI S2 35 0 0) 39 2).toInt := by rw [x39, v2.1]; exact tn0 (by omega)
      have v8' : ∀ i, i < l → LineV (setI S2 35 0 0) d m i := fun i hi => by unfold LineV; rw [x39]; exact v8 i hi
      simp only [hQ, wp_X12_was, hL2.eqs, e_in, e_isDummyM (lay0 hL2) t2', e_isPlaceM, vi4, cl4, l64_0, l64_1, l64_2, l64_5, l64_6, l64_7, l64_m1, l64_99, l64_m99, l64_255, l64_999, l64_m999, l64_297, l64_200, l64_m200, l64_97, l64_122, l64_48, l64_57, Int32.toInt_toInt64, hI_setI, q39, v2, tl, hb1, hb2, hb3, bI0, bI_t, i1_ne0, Bool.true_eq_false, hK_putA, hN_putA, hR_putA, hC_putA, hK_setI, hN_setI, hR_setI, hC_setI, hI_setI, hK_setR, hN_setR, hI_setR, hC_setR, hR_setR, hK_cpyI, hN_cpyI, hR_cpyI, hC_cpyI, hI_cpyI, ↓reduceIte, Nat.reduceEqDiff, and_false, false_and, true_and, and_true, forall_eq, forall_eq', exists_eq_left, exists_eq_left', Option.some.injEq, eq_self_iff_true, not_true, not_false_iff, false_implies, true_implies, forall_const, reduceCtorEq, ne_eq]
      refine m_was (S := setI S2 35 0 0) (lay0 hL2) hd hl (by omega) (by rw [x39]; exact hs) v8' hi (by omega) ?_
      rw [x39, q43]
      refine ⟨rfl, ?_⟩
      generalize rp (hI S 39) (hI S 43) n = g9
      have F3 : Fr (fun b => b = 35 ∨ b = 43) S2 (putA (setI S2 35 0 0) 43 g9) := (by repeat' (first | with_reducible apply Fr.setI | with_reducible apply Fr.putA | with_reducible apply Fr.setR | with_reducible apply Fr.cpyI | with_reducible apply Fr.newC | with_reducible exact Fr.rfl' | (simp; done) | (simp; omega)))
      have F : Fr (fun b => (22 ≤ b ∧ b ≤ 22 + 5) ∨ (b = 35 ∨ b = 43)) S (putA (setI S2 35 0 0) 43 g9) := F2.tr F3
      have nr : ∀ b, b < 22 ∨ 27 < b → hR (putA (setI S2 35 0 0) 43 g9) b = hR S b := fun b hb => by rw [← hS2]; exact (hB.2.1 b (by omega)).2
      have e35 : ∀ j, j ≠ 0 → hI (putA (setI S2 35 0 0) 43 g9) 35 j = hI S 35 j := fun j hj => by
        rw [hI_putA_ne (by decide), hI_setI, if_neg (fun q => hj q.2), q2 35 (by decide) (by omega)]
      have ne : ∀ b, b < 50 → ¬ (22 ≤ b ∧ b ≤ 22 + 5) → b ≠ 35 → b ≠ 43 → hI (putA (setI S2 35 0 0) 43 g9) b = hI S b := fun b hb h1 h2 h3 => by rw [hI_putA_ne h3, hI_setI_ne h2, q2 b hb h1]
      refine h.asm F (fun b hb hp => by omega) (fun b hb => by rw [← hS2]; exact o1 b hb) (e35 1 (by decide)) (e35 17 (by decide)) (e35 10 (by decide)) (e35 25 (by decide)) (by rw [ne 0 (by decide) (by omega) (by decide) (by decide)]) (by rw [ne 0 (by decide) (by omega) (by decide) (by decide)]) ?_ ?_ ?_ ?_ ?_
      · rw [vec_same (ne 39 (by decide) (by omega) (by decide) (by decide))]
        exact h4.fr F (Off.low16 hL (fun b hb => by omega))
      · have sl2 : SL S2 22 := by rw [← hS2]; exact (hB.sl h5 h4.1)
        exact sl2.fr F3 (fun b _ hb => by omega)
      · exact h6.fr F ⟨ne 44 (by decide) (by omega) (by decide) (by decide), ne 45 (by decide) (by omega) (by decide) (by decide), nr 33 (by omega)⟩ (fun k a hk ha => Off.low hL (h6.a50 hk ha) (fun b hb => by omega))
      · exact h7.fr F ⟨by rw [ne 0 (by decide) (by omega) (by decide) (by decide)], e35 8 (by decide), by rw [ne 0 (by decide) (by omega) (by decide) (by decide)], ne 41 (by decide) (by omega) (by decide) (by decide), nr 34 (by omega)⟩ (fun p a hpp ha => Off.low hL (h7.a50 hpp ha) (fun b hb => by omega))
      · exact h8.fr ⟨nr 33 (by omega), nr 34 (by omega)⟩
