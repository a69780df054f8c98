theorem bgs_fr {P : Nat → Prop} (h31 : P 31) (h32 : P 32) {S0 : hp} : ∀ (bs : List Int32) (S : hp) (n : Nat), Fr P S0 S → Fr P S0 (bgs S n bs)
  | [], S, n, h => h
  | b :: bs, S, n, h => bgs_fr h31 h32 bs (bg S n b) (n + 1) ((h.setI h32).setI h31)
theorem bms_fr {P : Nat → Prop} (h31 : P 49) (h32 : P 35) {S0 : hp} : ∀ (bs : List Int32) (S : hp) (n : Nat), Fr P S0 S → Fr P S0 (bms S n bs)
  | [], S, n, h => h
  | b :: bs, S, n, h => bms_fr h31 h32 bs (bgM S n b) (n + 1) ((h.setI h31).setI h32)
theorem bgs_R : ∀ (bs : List Int32) (S : hp) (n : Nat), hR (bgs S n bs) = hR S
  | [], S, n => rfl
  | b :: bs, S, n => (bgs_R bs (bg S n b) (n + 1)).trans (hR_bg S n b)
theorem bms_R : ∀ (bs : List Int32) (S : hp) (n : Nat), hR (bms S n bs) = hR S
  | [], S, n => rfl
  | b :: bs, S, n => (bms_R bs (bgM S n b) (n + 1)).trans (hR_bgM S n b)
theorem bgs_K : ∀ (bs : List Int32) (S : hp) (n : Nat), hK (bgs S n bs) = hK S
  | [], S, n => rfl
  | b :: bs, S, n => (bgs_K bs (bg S n b) (n + 1)).trans (hK_bg S n b)
theorem bgs_lay : ∀ (bs : List Int32) (S : hp) (n : Nat), Lay S → Lay (bgs S n bs)
  | [], S, n, h => h
  | b :: bs, S, n, h => bgs_lay bs (bg S n b) (n + 1) (by rw [Lay_bg]; exact h)
theorem bgs_ne {a : Nat} (h1 : a ≠ 31) (h2 : a ≠ 32) : ∀ (bs : List Int32) (S : hp) (n k : Nat), hI (bgs S n bs) a k = hI S a k
  | [], S, n, k => rfl
  | b :: bs, S, n, k => (bgs_ne h1 h2 bs (bg S n b) (n + 1) k).trans (by rw [hI_bg, if_neg (fun q => h1 q.1), if_neg (fun q => h2 q.1)])
theorem bms_ne {a k : Nat} (h1 : a ≠ 35 ∨ k ≠ 25) (h2 : a ≠ 49) : ∀ (bs : List Int32) (S : hp) (n : Nat), hI (bms S n bs) a k = hI S a k
  | [], S, n => rfl
  | b :: bs, S, n => (bms_ne h1 h2 bs (bgM S n b) (n + 1)).trans (by rw [hI_bgM, if_neg (by omega), if_neg (fun q => h2 q.1)])
theorem bgs_n : ∀ (bs : List Int32) (S : hp) (n : Nat), hI S 31 1 = nI n → hI (bgs S n bs) 31 1 = nI (n + bs.length)
  | [], S, n, h => h
  | b :: bs, S, n, h => by
    have := bgs_n bs (bg S n b) (n + 1) (by rw [hI_bg, if_pos (by decide)])
    rw [show n + (b :: bs).length = n + 1 + bs.length by simp; omega]
    exact this
theorem bms_n : ∀ (bs : List Int32) (S : hp) (n : Nat), hI S 35 25 = nI n → hI (bms S n bs) 35 25 = nI (n + bs.length)
  | [], S, n, h => h
  | b :: bs, S, n, h => by
    have := bms_n bs (bgM S n b) (n + 1) (by rw [hI_bgM, if_pos (by decide)])
    rw [show n + (b :: bs).length = n + 1 + bs.length by simp; omega]
    exact this
theorem bgs_v : ∀ (bs : List Int32) (S : hp) (n k : Nat), hI (bgs S n bs) 32 k = if n ≤ k ∧ k < n + bs.length then bs.getD (k - n) 0 else hI S 32 k
  | [], S, n, k => by
    have e : ¬ (n ≤ k ∧ k < n + ([] : List Int32).length) := by simp only [List.length_nil]; omega
    rw [if_neg e]; rfl
  | b :: bs, S, n, k => by
    have e : hI (bg S n b) 32 k = if k = n then b else hI S 32 k := by rw [hI_bg]; simp
    show hI (bgs (bg S n b) (n + 1) bs) 32 k = _
    rw [bgs_v bs (bg S n b) (n + 1) k, e, List.length_cons]
    by_cases h : k = n
    · subst h
      rw [if_neg (by omega), if_pos rfl, if_pos (by omega), Nat.sub_self]
      rfl
    · rw [if_neg h]
      by_cases h2 : n + 1 ≤ k ∧ k < n + 1 + bs.length
      · rw [if_pos h2, if_pos (by omega), show k - n = (k - (n + 1)) + 1 by omega]
        rfl
      · rw [if_neg h2, if_neg (by omega)]
theorem bms_v : ∀ (bs : List Int32) (S : hp) (n k : Nat), hI (bms S n bs) 49 k = if n ≤ k ∧ k < n + bs.length then bs.getD (k - n) 0 else hI S 49 k
  | [], S, n, k => by
    have e : ¬ (n ≤ k ∧ k < n + ([] : List Int32).length) := by simp only [List.length_nil]; omega
    rw [if_neg e]; rfl
  | b :: bs, S, n, k => by
    have e : hI (bgM S n b) 49 k = if k = n then b else hI S 49 k := by rw [hI_bgM]; simp
    show hI (bms (bgM S n b) (n + 1) bs) 49 k = _
    rw [bms_v bs (bgM S n b) (n + 1) k, e, List.length_cons]
    by_cases h : k = n
    · subst h
      rw [if_neg (by omega), if_pos rfl, if_pos (by omega), Nat.sub_self]
      rfl
    · rw [if_neg h]
      by_cases h2 : n + 1 ≤ k ∧ k < n + 1 + bs.length
      · rw [if_pos h2, if_pos (by omega), show k - n = (k - (n + 1)) + 1 by omega]
        rfl
      · rw [if_neg h2, if_neg (by omega)]
theorem Rel.ask {S : hp} (h : Rel S) (t : Int32) (bs : List Int32) (hb : bs.length ≤ 16) : Rel (bms (setI (setI (bgs (setI (setI S 31 1 0) 31 2 t) 0 bs) 35 0 0) 35 25 0) 0 bs) := by
  have e0 : hI (setI (setI S 31 1 0) 31 2 t) 31 1 = nI 0 := by simp only [hI_setI, ↓reduceIte, Nat.reduceEqDiff, and_false, false_and, true_and, and_true, forall_eq, forall_eq', exists_eq_left, exists_eq_left', Option.some.injEq, eq_self_iff_true, not_true, not_false_iff, false_implies, true_implies, forall_const, reduceCtorEq, ne_eq]; rfl
  have r : ∀ k, k ≠ 25 → k ≠ 0 → hI (bms (setI (setI (bgs (setI (setI S 31 1 0) 31 2 t) 0 bs) 35 0 0) 35 25 0) 0 bs) 35 k = hI S 35 k := fun k h1 h2 => by
    rw [bms_ne (Or.inr h1) (by decide), hI_setI, if_neg (fun q => h1 q.2), hI_setI, if_neg (fun q => h2 q.2), bgs_ne (by decide) (by decide), hI_setI, if_neg (fun q => absurd q.1 (by decide)), hI_setI, if_neg (fun q => absurd q.1 (by decide))]
  refine h.asked (bms_fr (by simp) (by simp) bs _ 0 (((bgs_fr (by simp) (by simp) bs _ 0 ((Fr.rfl'.setI (by simp)).setI (by simp))).setI (by simp)).setI (by simp))) ?_ ⟨bs.length, hb, ?_, ?_, fun k hk => ?_⟩ (r 1 (by decide) (by decide)) (r 17 (by decide) (by decide)) (r 8 (by decide) (by decide)) (r 10 (by decide) (by decide))
  · rw [bms_R, hR_setI, hR_setI, bgs_R]; rfl
  · rw [bms_ne (Or.inl (by decide)) (by decide), hI_setI, if_neg (fun q => absurd q.1 (by decide)), hI_setI, if_neg (fun q => absurd q.1 (by decide)), bgs_n bs _ 0 e0, Nat.zero_add]
  · rw [bms_n bs _ 0 (by simp only [hI_setI, ↓reduceIte, Nat.reduceEqDiff, and_false, false_and, true_and, and_true, forall_eq, forall_eq', exists_eq_left, exists_eq_left', Option.some.injEq, eq_self_iff_true, not_true, not_false_iff, false_implies, true_implies, forall_const, reduceCtorEq, ne_eq]; rfl), Nat.zero_add]
  · rw [bms_v, if_pos (by omega), bms_ne (Or.inl (by decide)) (by decide), hI_setI, if_neg (fun q => absurd q.1 (by decide)), hI_setI, if_neg (fun q => absurd q.1 (by decide)), bgs_v, if_pos (by omega)]
theorem p_ask : st_ask Rel := by
  intro S h x1 x2
  obtain ⟨d, m, l, ⟨hd, hm, hl⟩, v2, v3, v4, v5, v6, v7, v8, vS⟩ := h.view
  refine ⟨h.1.eqs.1, ?_⟩
  obtain ⟨Q, hQ⟩ : ∃ Q : Int32 → hp → Prop, Q = fun (r : Int32) (S1 : hp) => hK S1 35 = 11 ∧ wp_X12_ask (fun r2 S2 => r = r2 ∧ Rel S2) S1 35 x1 x2 := ⟨_, rfl⟩
  rw [← hQ]
  unfold wp_X11_ask wp_X0_startFor
  simp only [h.1.eqs, e_mouthAt vS (v2.2.2.2.2.2.2.1) hm, e_isFOS, bI0, ↓reduceIte, Nat.reduceEqDiff, and_false, false_and, true_and, and_true, forall_eq, forall_eq', exists_eq_left, exists_eq_left', Option.some.injEq, eq_self_iff_true, not_true, not_false_iff, false_implies, true_implies, forall_const, reduceCtorEq, ne_eq]
  have t3 : 0 ≤ (hI (setI S 35 0 0) 39 3).toInt := by simp only [hI_setI, v2, ↓reduceIte, Nat.reduceEqDiff, and_false, false_and, true_and, and_true, forall_eq, forall_eq', exists_eq_left, exists_eq_left', Option.some.injEq, eq_self_iff_true, not_true, not_false_iff, false_implies, true_implies, forall_const, reduceCtorEq, ne_eq]; exact tn0 (by omega)
  cases hb : rc x1 (nI m) with
  | false =>
    simp only [Bool.false_eq_true, ↓reduceIte, Nat.reduceEqDiff, and_false, false_and, true_and, and_true, forall_eq, forall_eq', exists_eq_left, exists_eq_left', Option.some.injEq, eq_self_iff_true, not_true, not_false_iff, false_implies, true_implies, forall_const, reduceCtorEq, ne_eq]
    simp only [hQ, wp_X12_ask, h.1.eqs, e_isMouthM (lay0 h.1) t3, hI_setI, v2, hb, bI_f, hK_putA, hN_putA, hR_putA, hC_putA, hK_setI, hN_setI, hR_setI, hC_setI, hI_setI, hK_setR, hN_setR, hI_setR, hC_setR, hR_setR, hK_cpyI, hN_cpyI, hR_cpyI, hC_cpyI, hI_cpyI, ↓reduceIte, Nat.reduceEqDiff, and_false, false_and, true_and, and_true, forall_eq, forall_eq', exists_eq_left, exists_eq_left', Option.some.injEq, eq_self_iff_true, not_true, not_false_iff, false_implies, true_implies, forall_const, reduceCtorEq, ne_eq]
    simpa using h.thr 0
  | true =>
    obtain ⟨j, hj, rfl⟩ := rc_nat (by omega) hb
    obtain ⟨r, c, m1, m2, m3, m4, m5, m6, m7, m8, m9⟩ := v5 j hj
    simp only [nI_clamp (show j < 2 ^ 31 by omega), show 16 + 4 = 20 from rfl, m1, ↓reduceIte, Nat.reduceEqDiff, and_false, false_and, true_and, and_true, forall_eq, forall_eq', exists_eq_left, exists_eq_left', Option.some.injEq, eq_self_iff_true, not_true, not_false_iff, false_implies, true_implies, forall_const, reduceCtorEq, ne_eq]
    cases hb2 : rg x2 0 1 with
    | false =>
      simp [hQ, wp_X12_ask, h.1.eqs, e_isMouthM (lay0 h.1) t3, hI_setI, v2, hb, hb2, e_in, l64_0, l64_1, l64_2, l64_5, l64_6, l64_7, l64_m1, l64_99, l64_m99, l64_255, l64_999, l64_m999, l64_297, l64_200, l64_m200, l64_97, l64_122, l64_48, l64_57, Int32.toInt_toInt64, bI_t, bI_f, i1_ne0, hK_putA, hN_putA, hR_putA, hC_putA, hK_setI, hN_setI, hR_setI, hC_setI, hI_setI, hK_setR, hN_setR, hI_setR, hC_setR, hR_setR, hK_cpyI, hN_cpyI, hR_cpyI, hC_cpyI, hI_cpyI]
      exact h.thr 0
    | true =>
      simp only [Bool.true_eq_false, ↓reduceIte, Nat.reduceEqDiff, and_false, false_and, true_and, and_true, forall_eq, forall_eq', exists_eq_left, exists_eq_left', Option.some.injEq, eq_self_iff_true, not_true, not_false_iff, false_implies, true_implies, forall_const, reduceCtorEq, ne_eq]
      refine c_tellingsBy vS v2.2.2.2.2.2.2.2 hl ?_
      have eT : ct (fun i => decide (hI S (16 + 5) (6 * i) = 0) && decide (hI S (16 + 5) (6 * i + 1) = nI j)) l = ct (tell_by S j) l := by
        refine ct_congr (fun i hi => ?_)
        unfold tell_by
        rw [show 16 + 5 = 21 from rfl, v6 _ (by omega), v6 _ (by omega), show 51 + (6 * i + 1) = 52 + 6 * i by omega]
      rw [eT]
      generalize hT : ct (tell_by S j) l = T
      simp only [h.1.eqs, hK_putA, hN_putA, hR_putA, hC_putA, hK_setI, hN_setI, hR_setI, hC_setI, hI_setI, hK_setR, hN_setR, hI_setR, hC_setR, hR_setR, hK_cpyI, hN_cpyI, hR_cpyI, hC_cpyI, hI_cpyI, ↓reduceIte, Nat.reduceEqDiff, and_false, false_and, true_and, and_true, forall_eq, forall_eq', exists_eq_left, exists_eq_left', Option.some.injEq, eq_self_iff_true, not_true, not_false_iff, false_implies, true_implies, forall_const, reduceCtorEq, ne_eq]
      have hr : r ≠ 31 ∧ r ≠ 32 := by
        have hM := mkd_isM c
        refine ⟨fun q => ?_, fun q => ?_⟩
        · rw [q, (h.1.1 31 (by decide)).1] at m6; rw [← m6] at hM; revert hM; unfold isM; decide
        · rw [q, (h.1.1 32 (by decide)).1] at m6; rw [← m6] at hM; revert hM; unfold isM; decide
      have ok : OKc (setI (setI S 31 1 0) 31 2 T) r 0 (mkd c) (nI j) (hI S 39 (42 + 2 * j)) T := by
        refine ⟨by rw [Lay_setI, Lay_setI]; exact h.1, by simp only [hI_setI, ↓reduceIte, Nat.reduceEqDiff, and_false, false_and, true_and, and_true, forall_eq, forall_eq', exists_eq_left, exists_eq_left', Option.some.injEq, eq_self_iff_true, not_true, not_false_iff, false_implies, true_implies, forall_const, reduceCtorEq, ne_eq]; rfl, m6, hr, ?_, ?_, by simp only [hI_setI, ↓reduceIte, Nat.reduceEqDiff, and_false, false_and, true_and, and_true, forall_eq, forall_eq', exists_eq_left, exists_eq_left', Option.some.injEq, eq_self_iff_true, not_true, not_false_iff, false_implies, true_implies, forall_const, reduceCtorEq, ne_eq]⟩
        · simp only [hI_setI, hr.1, m7, ↓reduceIte, Nat.reduceEqDiff, and_false, false_and, true_and, and_true, forall_eq, forall_eq', exists_eq_left, exists_eq_left', Option.some.injEq, eq_self_iff_true, not_true, not_false_iff, false_implies, true_implies, forall_const, reduceCtorEq, ne_eq]
        · simp only [hI_setI, hr.1, m8, ↓reduceIte, Nat.reduceEqDiff, and_false, false_and, true_and, and_true, forall_eq, forall_eq', exists_eq_left, exists_eq_left', Option.some.injEq, eq_self_iff_true, not_true, not_false_iff, false_implies, true_implies, forall_const, reduceCtorEq, ne_eq]
      have okm : ∀ bs, OKm (setI (setI (bgs (setI (setI S 31 1 0) 31 2 T) 0 bs) 35 0 0) 35 25 0) j 0 c l (hI S 39 (42 + 2 * j)) T := by
        intro bs
        have e : ∀ q, hI (setI (setI (bgs (setI (setI S 31 1 0) 31 2 T) 0 bs) 35 0 0) 35 25 0) 39 q = hI S 39 q := fun q => by
          rw [hI_setI, if_neg (fun q => absurd q.1 (by decide)), hI_setI, if_neg (fun q => absurd q.1 (by decide)), bgs_ne (by decide) (by decide), hI_setI, if_neg (fun q => absurd q.1 (by decide)), hI_setI, if_neg (fun q => absurd q.1 (by decide))]
        refine ⟨by rw [Lay_setI, Lay_setI]; exact bgs_lay bs _ 0 (by rw [Lay_setI, Lay_setI]; exact h.1), by simp only [hI_setI, ↓reduceIte, Nat.reduceEqDiff, and_false, false_and, true_and, and_true, forall_eq, forall_eq', exists_eq_left, exists_eq_left', Option.some.injEq, eq_self_iff_true, not_true, not_false_iff, false_implies, true_implies, forall_const, reduceCtorEq, ne_eq]; rfl, by omega, by rw [e]; exact v2.2.2.1, hl, ?_, by rw [e]; exact m3, by rw [e]⟩
        refine Eq.trans (ct_congr (fun i _ => ?_)) hT
        unfold tell_by
        rw [e, e]
      have lenm : (mtr c).length ≤ 16 := by unfold mtr; split <;> decide
      have lens : (str c).length ≤ 16 := by unfold str; split <;> decide
      have fin : ∀ (v : Int32) (bs : List Int32), (x2 = 0 → v = sval c (nI j) (hI S 39 (42 + 2 * j)) T ∧ bs = str c) → (¬ x2 = 0 → v = mval c (nI j) (hI S 39 (42 + 2 * j)) T ∧ bs = mtr c) → Q v (bgs (setI (setI S 31 1 0) 31 2 T) 0 bs) := by
        intro v bs g0 g1
        have hLb : Lay (bgs (setI (setI S 31 1 0) 31 2 T) 0 bs) := bgs_lay bs _ 0 (by rw [Lay_setI, Lay_setI]; exact h.1)
        have e3 : hI (setI (bgs (setI (setI S 31 1 0) 31 2 T) 0 bs) 35 0 0) 39 3 = nI m := by
          rw [hI_setI, if_neg (fun q => absurd q.1 (by decide)), bgs_ne (by decide) (by decide), hI_setI, if_neg (fun q => absurd q.1 (by decide)), hI_setI, if_neg (fun q => absurd q.1 (by decide))]; exact v2.2.1
        rw [hQ]
        simp only [wp_X12_ask, hLb.eqs, e_isMouthM (lay0 hLb) (by rw [e3]; exact tn0 (by omega)), e3, hb, hb2, e_in, l64_0, l64_1, l64_2, l64_5, l64_6, l64_7, l64_m1, l64_99, l64_m99, l64_255, l64_999, l64_m999, l64_297, l64_200, l64_m200, l64_97, l64_122, l64_48, l64_57, Int32.toInt_toInt64, bI_t, i1_ne0, hK_putA, hN_putA, hR_putA, hC_putA, hK_setI, hN_setI, hR_setI, hC_setI, hI_setI, hK_setR, hN_setR, hI_setR, hC_setR, hR_setR, hK_cpyI, hN_cpyI, hR_cpyI, hC_cpyI, hI_cpyI, ↓reduceIte, Nat.reduceEqDiff, and_false, false_and, true_and, and_true, forall_eq, forall_eq', exists_eq_left, exists_eq_left', Option.some.injEq, eq_self_iff_true, not_true, not_false_iff, false_implies, true_implies, forall_const, reduceCtorEq, ne_eq]
        refine ⟨fun q => ?_, fun q => ?_⟩
        · obtain ⟨rfl, rfl⟩ := g1 q
          exact m_mark m4 m5 (by omega) (okm _) ⟨rfl, h.ask T _ lenm⟩
        · obtain ⟨rfl, rfl⟩ := g0 q
          exact m_size m4 m5 (okm _) ⟨rfl, h.ask T _ lens⟩
      refine ⟨fun q => c_mark m4 m5 ok (fin _ _ (fun q2 => absurd q2 q) (fun _ => ⟨rfl, rfl⟩)), fun q => c_size m4 m5 ok (fin _ _ (fun _ => ⟨rfl, rfl⟩) (fun q2 => absurd q q2))⟩
