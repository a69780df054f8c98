theorem KA.facts {S S1 : hp} {n l : Nat} (h : Rel S) (hK1 : KA S n l S1) : Lay S1 ∧ RSt S1 16 (vec S 39 0) ∧ ∀ b, b < 50 → b ≠ 0 → b ≠ 34 → hI S1 b = hI S b ∧ hR S1 b = hR S b := by
  obtain ⟨a, a50, sa, ha, F, hR1, k34, k0, kO⟩ := hK1
  exact ⟨h.1.fr2 F kO, h.2.2.2.2.1.fr F (offA h.1 h.2.2.2.2.1.1 (by omega) sa (fun b hb => by omega)), fun b hb q1 q2 => F.2.2 b (Nat.lt_of_lt_of_le hb h.1.2.2) (by omega)⟩
theorem e_isLogFull {Q : Int32 → hp → Prop} {S : hp} {a n : Nat} (hS : SL S a) (hn : hI S a 9 = nI n) (h16 : n ≤ 16) : wp_X8_isLogFull Q S a ↔ Q (bI (decide (n = 16))) S := by
  unfold wp_X8_isLogFull
  have e : (nI n < (16 : Int32)) = (n < 16) := propext (nI_ltI (a := n) (b := 16) (by omega) (by omega))
  simp only [hS.eqs, hn, e, ↓reduceIte, Nat.reduceEqDiff, and_false, false_and, true_and, and_true, forall_eq, forall_eq', exists_eq_left, exists_eq_left', Option.some.injEq, eq_self_iff_true, not_true, not_false_iff, false_implies, true_implies, forall_const, reduceCtorEq, ne_eq]
  by_cases q : n = 16
  · subst q; simp [bI]
  · simp [q, show n < 16 by omega, bI]
theorem abs999 {x : Int32} (hx : x.toInt ≠ -2147483648) : ((999 : Int32) < (if 0 ≤ x then x else 0 - x)) = (rg x (-999) 999 = false) := by
  have hr := t_rng x
  apply propext
  rw [rg_f]
  by_cases h : 0 ≤ x
  · rw [if_pos h, t_lt]
    rw [t_le] at h
    have h0 : (0 : Int32).toInt = 0 := rfl
    have h9 : (999 : Int32).toInt = 999 := rfl
    omega
  · rw [if_neg h, t_lt]
    rw [t_le] at h
    have h0 : (0 : Int32).toInt = 0 := rfl
    have h9 : (999 : Int32).toInt = 999 := rfl
    have e : (0 - x).toInt = 0 - x.toInt := t_sub (a := 0) (by rw [h0]; omega)
    rw [e]
    omega
theorem e_hasRoomFor {Q : Int32 → hp → Prop} {S : hp} {a d p : Nat} {pd t : Int32} (hS : SL S a) (hd : d < 4) (hp : p < 3) (h1 : (hI S (a + 1) (3 * d + p) + pd).toInt ≠ -2147483648) (h2 : (hI S (a + 3) (3 * d + p) + t).toInt ≠ -2147483648) : wp_X8_hasRoomFor Q S a (nI d) (nI p) pd t ↔ Q (bI (rg (hI S (a + 1) (3 * d + p) + pd) (-999) 999 && rg (hI S (a + 3) (3 * d + p) + t) (-999) 999)) S := by
  unfold wp_X8_hasRoomFor
  simp only [e_at, hS.eqs, show vp_in (nI (3 * d + p)) 12 from vp_in_nI (by omega) (by omega), nI_clamp (show 3 * d + p < 2 ^ 31 by omega), abs999 h1, abs999 h2, ↓reduceIte, Nat.reduceEqDiff, and_false, false_and, true_and, and_true, forall_eq, forall_eq', exists_eq_left, exists_eq_left', Option.some.injEq, eq_self_iff_true, not_true, not_false_iff, false_implies, true_implies, forall_const, reduceCtorEq, ne_eq]
  cases rg (hI S (a + 1) (3 * d + p) + pd) (-999) 999 <;> cases rg (hI S (a + 3) (3 * d + p) + t) (-999) 999 <;> simp [bI]
theorem half_rg {t : Int32} (h : rg t (-99) 99 = true) : rg (t / 2) (-99) 99 = true := by
  have := rg_t.mp h
  have h9 : (t.toInt.tdiv 2).natAbs = t.toInt.natAbs / 2 := Int.natAbs_tdiv t.toInt 2
  have e : (t / 2).toInt = t.toInt.tdiv 2 := by
    rw [Int32.toInt_div]
    show (t.toInt.tdiv 2).bmod (2 ^ 32) = _
    refine bm ?_ ?_ <;> omega
  rw [rg_t, e]
  omega
theorem pad_rg {k : Nat} {t : Int32} (h : rg t (-99) 99 = true) : rg (pad k t) (-198) 198 = true := by
  have ht := rg_t.mp h
  have hh := rg_t.mp (half_rg h)
  unfold pad
  split
  · by_cases q : t ≤ 0
    · rw [if_pos q, rg_t]; omega
    · rw [if_neg q, rg_t]
      have e : (2 * t).toInt = 2 * t.toInt := t_mul (a := 2) (by show _ ≤ 2 * _ ∧ 2 * _ < _; omega)
      omega
  · rw [rg_t, t_neg (by omega)]; omega
  · rw [rg_t]; omega
  · rw [rg_t, t_neg (by omega)]; omega
  · rw [rg_t]; omega
theorem add_bd {x y : Int32} (hx : bd x) (hy : rg y (-198) 198 = true) : (x + y).toInt = x.toInt + y.toInt ∧ -1197 ≤ x.toInt + y.toInt ∧ x.toInt + y.toInt ≤ 1197 := by
  obtain ⟨h1, h2⟩ := hx
  have := rg_t.mp hy
  exact ⟨t_add (by omega), by omega, by omega⟩
theorem rg_wide {x : Int32} (h : rg x (-99) 99 = true) : rg x (-198) 198 = true := by have := rg_t.mp h; rw [rg_t]; omega
theorem p_tell : st_tell Rel := by
  intro S h x1 x2 x3 x4
  obtain ⟨d, m, l, ⟨hd, hm, hl⟩, v2, v3, v4, v5, v6, v7, v8, vS⟩ := h.view
  obtain ⟨n, lc, c1, c2, c3, c4, c5, c6, c7⟩ := h.2.2.2.2.2.2.2.1
  refine ⟨h.1.eqs.1, ?_⟩
  obtain ⟨Q, hQ⟩ : ∃ Q : Int32 → hp → Prop, Q = fun (r : Int32) (S1 : hp) => hK S1 35 = 11 ∧ wp_X12_tell (fun r2 S2 => r = r2 ∧ Rel S2) S1 35 x1 x2 x3 x4 := ⟨_, rfl⟩
  rw [← hQ]
  unfold wp_X11_tell wp_X8_addTelling
  have t3 : 0 ≤ (hI (setI S 35 0 0) 39 3).toInt := by simp only [hI_setI, v2, ↓reduceIte, Nat.reduceEqDiff, and_false, false_and, true_and, and_true, forall_eq, forall_eq', exists_eq_left, exists_eq_left', Option.some.injEq, eq_self_iff_true, not_true, not_false_iff, false_implies, true_implies, forall_const, reduceCtorEq, ne_eq]; exact tn0 (by omega)
  have t2 : 0 ≤ (hI (setI S 35 0 0) 39 2).toInt := by simp only [hI_setI, v2, ↓reduceIte, Nat.reduceEqDiff, and_false, false_and, true_and, and_true, forall_eq, forall_eq', exists_eq_left, exists_eq_left', Option.some.injEq, eq_self_iff_true, not_true, not_false_iff, false_implies, true_implies, forall_const, reduceCtorEq, ne_eq]; exact tn0 (by omega)
  simp only [h.1.eqs, e_mouthAt vS (v2.2.2.2.2.2.2.1) hm, e_hasPlace vS.eqs.1, e_isTold, v2, bI0, ↓reduceIte, Nat.reduceEqDiff, and_false, false_and, true_and, and_true, forall_eq, forall_eq', exists_eq_left, exists_eq_left', Option.some.injEq, eq_self_iff_true, not_true, not_false_iff, false_implies, true_implies, forall_const, reduceCtorEq, ne_eq]
  cases hb : rc x1 (nI m) with
  | false =>
    simp only [Bool.false_eq_true, ↓reduceIte, Nat.reduceEqDiff, and_false, false_and, true_and, and_true, forall_eq, forall_eq', exists_eq_left, exists_eq_left', Option.some.injEq, eq_self_iff_true, not_true, not_false_iff, false_implies, true_implies, forall_const, reduceCtorEq, ne_eq]
    simp [hQ, wp_X12_tell, h.1.eqs, e_isMouthM (lay0 h.1) t3, hI_setI, v2, hb, bI_f, hK_putA, hN_putA, hR_putA, hC_putA, hK_setI, hN_setI, hR_setI, hC_setI, hI_setI, hK_setR, hN_setR, hI_setR, hC_setR, hR_setR, hK_cpyI, hN_cpyI, hR_cpyI, hC_cpyI, hI_cpyI]
    exact h.thr 0
  | true =>
    obtain ⟨j, hj, rfl⟩ := rc_nat (by omega) hb
    obtain ⟨r, c, m1, m2, m3, m4, m5, m6, m7, m8, m9⟩ := v5 j hj
    simp only [nI_clamp (show j < 2 ^ 31 by omega), show 16 + 4 = 20 from rfl, m1, ↓reduceIte, Nat.reduceEqDiff, and_false, false_and, true_and, and_true, forall_eq, forall_eq', exists_eq_left, exists_eq_left', Option.some.injEq, eq_self_iff_true, not_true, not_false_iff, false_implies, true_implies, forall_const, reduceCtorEq, ne_eq]
    cases hb2 : rc x2 (nI d) with
    | false =>
      simp only [Bool.false_and, ↓reduceIte, Nat.reduceEqDiff, and_false, false_and, true_and, and_true, forall_eq, forall_eq', exists_eq_left, exists_eq_left', Option.some.injEq, eq_self_iff_true, not_true, not_false_iff, false_implies, true_implies, forall_const, reduceCtorEq, ne_eq]
      simp [hQ, wp_X12_tell, h.1.eqs, e_isMouthM (lay0 h.1) t3, e_isDummyM (lay0 h.1) t2, hI_setI, v2, hb, hb2, bI_t, bI_f, i1_ne0, hK_putA, hN_putA, hR_putA, hC_putA, hK_setI, hN_setI, hR_setI, hC_setI, hI_setI, hK_setR, hN_setR, hI_setR, hC_setR, hR_setR, hK_cpyI, hN_cpyI, hR_cpyI, hC_cpyI, hI_cpyI]
      exact h.thr 0
    | true =>
      cases hb3 : rg x3 0 2 with
      | false =>
        simp only [Bool.and_false, ↓reduceIte, Nat.reduceEqDiff, and_false, false_and, true_and, and_true, forall_eq, forall_eq', exists_eq_left, exists_eq_left', Option.some.injEq, eq_self_iff_true, not_true, not_false_iff, false_implies, true_implies, forall_const, reduceCtorEq, ne_eq]
        simp [hQ, wp_X12_tell, h.1.eqs, e_isMouthM (lay0 h.1) t3, e_isDummyM (lay0 h.1) t2, e_isPlaceM, hI_setI, v2, hb, hb2, hb3, bI_t, bI_f, i1_ne0, hK_putA, hN_putA, hR_putA, hC_putA, hK_setI, hN_setI, hR_setI, hC_setI, hI_setI, hK_setR, hN_setR, hI_setR, hC_setR, hR_setR, hK_cpyI, hN_cpyI, hR_cpyI, hC_cpyI, hI_cpyI]
        exact h.thr 0
      | true =>
        cases hb4 : rg x4 (-99) 99 with
        | false =>
          simp only [Bool.and_true, Bool.true_eq_false, ↓reduceIte, Nat.reduceEqDiff, and_false, false_and, true_and, and_true, forall_eq, forall_eq', exists_eq_left, exists_eq_left', Option.some.injEq, eq_self_iff_true, not_true, not_false_iff, false_implies, true_implies, forall_const, reduceCtorEq, ne_eq]
          simp [hQ, wp_X12_tell, h.1.eqs, e_isMouthM (lay0 h.1) t3, e_isDummyM (lay0 h.1) t2, e_isPlaceM, e_in, l64_0, l64_1, l64_2, l64_5, l64_6, l64_7, l64_m1, l64_99, l64_m99, l64_255, l64_999, l64_m999, l64_297, l64_200, l64_m200, l64_97, l64_122, l64_48, l64_57, Int32.toInt_toInt64, hI_setI, v2, hb, hb2, hb3, hb4, bI_t, bI_f, i1_ne0, hK_putA, hN_putA, hR_putA, hC_putA, hK_setI, hN_setI, hR_setI, hC_setI, hI_setI, hK_setR, hN_setR, hI_setR, hC_setR, hR_setR, hK_cpyI, hN_cpyI, hR_cpyI, hC_cpyI, hI_cpyI]
          exact h.thr 0
        | true =>
          obtain ⟨i, hi, rfl⟩ := rc_nat (by omega) hb2
          obtain ⟨p, hp, hp2, rfl⟩ := rg_nat hb3
          simp only [e_padding m6 m4 m5, Bool.and_true, Bool.true_eq_false, h.1.eqs, e_isLogFull vS v2.2.2.2.2.2.2.2 hl, bI0, ↓reduceIte, Nat.reduceEqDiff, and_false, false_and, true_and, and_true, forall_eq, forall_eq', exists_eq_left, exists_eq_left', Option.some.injEq, eq_self_iff_true, not_true, not_false_iff, false_implies, true_implies, forall_const, reduceCtorEq, ne_eq]
          have hpd : rg (pad c x4) (-198) 198 = true := pad_rg hb4
          generalize hpdE : pad c x4 = pd at hpd ⊢
          have t4 : hI (setI S 35 0 0) 39 (41 + 2 * j) = nI c := by simp only [hI_setI, m3, ↓reduceIte, Nat.reduceEqDiff, and_false, false_and, true_and, and_true, forall_eq, forall_eq', exists_eq_left, exists_eq_left', Option.some.injEq, eq_self_iff_true, not_true, not_false_iff, false_implies, true_implies, forall_const, reduceCtorEq, ne_eq]
          obtain ⟨b1, b2, b3⟩ := v7 (3 * i + p) (by omega)
          obtain ⟨a1, a2, a3⟩ := v4 (3 * i + p) (by omega)
          have eat : (3 : Int32) * nI i + nI p = nI (3 * i + p) := by rw [← nI_add, ← nI_mul]; rfl
          have e5 : (5 : Int32) + nI (3 * i + p) = nI (5 + (3 * i + p)) := nI_add 5 _
          have e29 : (29 : Int32) + nI (3 * i + p) = nI (29 + (3 * i + p)) := nI_add 29 _
          have w5 : vp_in (nI (5 + (3 * i + p))) 147 := vp_in_nI (by omega) (by omega)
          have w29 : vp_in (nI (29 + (3 * i + p))) 147 := vp_in_nI (by omega) (by omega)
          have k5 : (nI (5 + (3 * i + p))).toNatClampNeg = 5 + (3 * i + p) := nI_clamp (by omega)
          have k29 : (nI (29 + (3 * i + p))).toNatClampNeg = 29 + (3 * i + p) := nI_clamp (by omega)
          have e16 : ∀ z, z ≤ 16 → (nI z = (16 : Int32)) = (z = 16) := fun z hz => propext (nI_eq (a := z) (b := 16) (by omega) (by omega))
          obtain ⟨s1, s2, s3⟩ := add_bd b1 hpd
          obtain ⟨s4, s5, s6⟩ := add_bd b3 (rg_wide hb4)
          have FULL : (l = 16 ∨ rg (hI S 39 (5 + (3 * i + p)) + pd) (-999) 999 = false ∨ rg (hI S 39 (29 + (3 * i + p)) + x4) (-999) 999 = false) → Q (-1000003) S := by
            intro q
            simp only [hQ, wp_X12_tell, h.1.eqs, e_isMouthM (lay0 h.1) t3, e_isDummyM (lay0 h.1) t2, e_isPlaceM, e_padsOfM (lay0 h.1) (show j < 5 by omega) t4 m4 m5, e_in, l64_0, l64_1, l64_2, l64_5, l64_6, l64_7, l64_m1, l64_99, l64_m99, l64_255, l64_999, l64_m999, l64_297, l64_200, l64_m200, l64_97, l64_122, l64_48, l64_57, Int32.toInt_toInt64, hI_setI, v2, hb, hb2, hb3, hb4, bI_t, bI0, i1_ne0, vi4, cl4, eat, e5, e29, w5, w29, k5, k29, e16 l hl, hpdE, hK_putA, hN_putA, hR_putA, hC_putA, hK_setI, hN_setI, hR_setI, hC_setI, hI_setI, hK_setR, hN_setR, hI_setR, hC_setR, hR_setR, hK_cpyI, hN_cpyI, hR_cpyI, hC_cpyI, hI_cpyI, ↓reduceIte, Nat.reduceEqDiff, and_false, false_and, true_and, and_true, forall_eq, forall_eq', exists_eq_left, exists_eq_left', Option.some.injEq, eq_self_iff_true, not_true, not_false_iff, false_implies, true_implies, forall_const, reduceCtorEq, ne_eq]
            refine ⟨fun _ => h.thr 0, fun q1 => ⟨fun _ => h.thr 0, fun q2 => ⟨fun q3 => ?_, fun _ => h.thr 0⟩⟩⟩
            rcases q with q | q | q
            · exact absurd q q1
            · exact absurd q q2
            · exact absurd q q3
          by_cases hl16 : l = 16
          · simp only [hl16, decide_true, Bool.true_eq_false, ↓reduceIte, Nat.reduceEqDiff, and_false, false_and, true_and, and_true, forall_eq, forall_eq', exists_eq_left, exists_eq_left', Option.some.injEq, eq_self_iff_true, not_true, not_false_iff, false_implies, true_implies, forall_const, reduceCtorEq, ne_eq]
            exact FULL (Or.inl hl16)
          · simp only [hl16, decide_false, ↓reduceIte, Nat.reduceEqDiff, and_false, false_and, true_and, and_true, forall_eq, forall_eq', exists_eq_left, exists_eq_left', Option.some.injEq, eq_self_iff_true, not_true, not_false_iff, false_implies, true_implies, forall_const, reduceCtorEq, ne_eq]
            rw [e_hasRoomFor vS (show i < 4 by omega) (show p < 3 by omega) (by show (hI S 17 _ + pd).toInt ≠ _; rw [a1]; omega) (by show (hI S 19 _ + x4).toInt ≠ _; rw [a3]; omega)]
            simp only [show 16 + 1 = 17 from rfl, show 16 + 3 = 19 from rfl, a1, a3]
            cases g1 : rg (hI S 39 (5 + (3 * i + p)) + pd) (-999) 999 with
            | false => simp [bI]; exact FULL (Or.inr (Or.inl g1))
            | true =>
              cases g2 : rg (hI S 39 (29 + (3 * i + p)) + x4) (-999) 999 with
              | false => simp [bI]; exact FULL (Or.inr (Or.inr g2))
              | true =>
                simp only [Bool.and_true, bI_t, i1_ne0, ↓reduceIte, Nat.reduceEqDiff, and_false, false_and, true_and, and_true, forall_eq, forall_eq', exists_eq_left, exists_eq_left', Option.some.injEq, eq_self_iff_true, not_true, not_false_iff, false_implies, true_implies, forall_const, reduceCtorEq, ne_eq]
                refine ⟨h.1.eqs.1, c_keepAct h c1 c2 c3 c5 (fun S1 hKA => ?_)⟩
                obtain ⟨hL1, r16, low⟩ := hKA.facts h
                have q169 : hI S1 16 9 = nI l := by rw [(low 16 (by decide) (by decide) (by decide)).1]; exact v2.2.2.2.2.2.2.2
                have hcl : (nI (3 * i + p)).toNatClampNeg = 3 * i + p := nI_clamp (by omega)
                have hvv : vp_in (nI (3 * i + p)) 12 := vp_in_nI (by omega) (by omega)
                simp only [hL1.eqs, ↓reduceIte, Nat.reduceEqDiff, and_false, false_and, true_and, and_true, forall_eq, forall_eq', exists_eq_left, exists_eq_left', Option.some.injEq, eq_self_iff_true, not_true, not_false_iff, false_implies, true_implies, forall_const, reduceCtorEq, ne_eq]
                refine c_addLine r16.1 q169 (by omega) ?_
                simp only [e_at, hL1.eqs, hvv, hcl, hI_setI, hI_putA_ne (S := S1) (a := 16 + 5) (b := 17) (by decide), hI_putA_ne (S := S1) (a := 16 + 5) (b := 19) (by decide), (low 17 (by decide) (by decide) (by decide)).1, (low 19 (by decide) (by decide) (by decide)).1, a1, a3, hK_putA, hN_putA, hR_putA, hC_putA, hK_setI, hN_setI, hR_setI, hC_setI, hI_setI, hK_setR, hN_setR, hI_setR, hC_setR, hR_setR, hK_cpyI, hN_cpyI, hR_cpyI, hC_cpyI, hI_cpyI, ↓reduceIte, Nat.reduceEqDiff, and_false, false_and, true_and, and_true, forall_eq, forall_eq', exists_eq_left, exists_eq_left', Option.some.injEq, eq_self_iff_true, not_true, not_false_iff, false_implies, true_implies, forall_const, reduceCtorEq, ne_eq]
                generalize hS2 : setI (setI (setI (putA S1 (16 + 5) (put6 (hI S1 (16 + 5)) (6 * l) (ln6 0 (nI j) (nI i) (nI p) x4 pd))) 16 9 (nI (l + 1))) 17 (3 * i + p) (hI S 39 (5 + (3 * i + p)) + pd)) 19 (3 * i + p) (hI S 39 (29 + (3 * i + p)) + x4) = S2
                have F2 : Fr (fun b => 16 ≤ b ∧ b ≤ 21) S1 S2 := by rw [← hS2]; exact (by repeat' (first | with_reducible apply Fr.setI | with_reducible apply Fr.putA | with_reducible apply Fr.setR | with_reducible apply Fr.cpyI | with_reducible apply Fr.newC | with_reducible exact Fr.rfl' | (simp; done) | (simp; omega)))
                have hL2 : Lay S2 := by rw [← hS2]; exact hL1
                have q2 : ∀ b, b < 50 → ¬ (16 ≤ b ∧ b ≤ 21) → b ≠ 0 → b ≠ 34 → hI S2 b = hI S b := fun b hb h1 h2 h3 => (F2.2.2 b (Nat.lt_of_lt_of_le hb hL1.2.2) h1).1.trans (low b hb h2 h3).1
                have q39 := q2 39 (by decide) (by omega) (by decide) (by decide)
                have q35 := q2 35 (by decide) (by omega) (by decide) (by decide)
                have q41 := q2 41 (by decide) (by omega) (by decide) (by decide)
                have x3' : hI (setI S2 35 0 0) 39 = hI S 39 := (hI_setI_ne (by decide)).trans q39
                have t3' : 0 ≤ (hI (setI S2 35 0 0) 39 3).toInt := by rw [x3', v2.2.1]; exact tn0 (by omega)
                have t2' : 0 ≤ (hI (setI S2 35 0 0) 39 2).toInt := by rw [x3', v2.1]; exact tn0 (by omega)
                have t4' : hI (setI S2 35 0 0) 39 (41 + 2 * j) = nI c := by rw [x3']; exact m3
                simp only [hQ, wp_X12_tell, hL2.eqs, e_isMouthM (lay0 hL2) t3', e_isDummyM (lay0 hL2) t2', e_isPlaceM, e_padsOfM (lay0 hL2) (show j < 5 by omega) t4' m4 m5, e_in, l64_0, l64_1, l64_2, l64_5, l64_6, l64_7, l64_m1, l64_99, l64_m99, l64_255, l64_999, l64_m999, l64_297, l64_200, l64_m200, l64_97, l64_122, l64_48, l64_57, Int32.toInt_toInt64, x3', q39, v2, hb, hb2, hb3, hb4, bI_t, bI0, i1_ne0, vi4, cl4, eat, e5, e29, w5, w29, k5, k29, e16 l hl, hl16, hpdE, g1, g2, Bool.true_eq_false, hK_putA, hN_putA, hR_putA, hC_putA, hK_setI, hN_setI, hR_setI, hC_setI, hI_setI, hK_setR, hN_setR, hI_setR, hC_setR, hR_setR, hK_cpyI, hN_cpyI, hR_cpyI, hC_cpyI, hI_cpyI, ↓reduceIte, Nat.reduceEqDiff, and_false, false_and, true_and, and_true, forall_eq, forall_eq', exists_eq_left, exists_eq_left', Option.some.injEq, eq_self_iff_true, not_true, not_false_iff, false_implies, true_implies, forall_const, reduceCtorEq, ne_eq]
                refine m_keep (lay0 hL2) c1 (by rw [hI_setI, if_neg (by omega), q35]; exact c4) (fun S4 z1 z2 z3 z4 => ?_)
                have hL4 : Lay S4 := by
                  obtain ⟨y1, y2, y3, y4⟩ := z1
                  refine ⟨fun b hb => by rw [y2, y3]; exact hL2.1 b hb, fun q hq => by rw [y4]; exact hL2.2.1 q hq, by rw [y1]; exact hL2.2.2⟩
                have s39 : hI S4 39 = hI S 39 := (z2 39 (by decide) (by decide)).trans x3'
                simp only [hL4.eqs, ↓reduceIte, Nat.reduceEqDiff, and_false, false_and, true_and, and_true, forall_eq, forall_eq', exists_eq_left, exists_eq_left', Option.some.injEq, eq_self_iff_true, not_true, not_false_iff, false_implies, true_implies, forall_const, reduceCtorEq, ne_eq]
                refine m_logs hL4 (n := l) (by rw [s39]; exact v2.2.2.1) (by omega) ?_
                have f5 : ∀ k, k < 51 → k ≠ 4 → lnf (hI S 39) l (ln6 0 (nI j) (nI i) (nI p) x4 pd) k = hI S 39 k := fun k hk h4 => by unfold lnf; rw [if_neg h4, put6_out (by omega)]
                simp only [hL4.eqs, s39, w5, w29, k5, k29, hI_putA_s, hI_setI, f5 (5 + (3 * i + p)) (by omega) (by omega), f5 (29 + (3 * i + p)) (by omega) (by omega), show (29 + (3 * i + p) = 5 + (3 * i + p)) = False from eq_false (by omega), show (5 + (3 * i + p) = 29 + (3 * i + p)) = False from eq_false (by omega), hK_putA, hN_putA, hR_putA, hC_putA, hK_setI, hN_setI, hR_setI, hC_setI, hI_setI, hK_setR, hN_setR, hI_setR, hC_setR, hR_setR, hK_cpyI, hN_cpyI, hR_cpyI, hC_cpyI, hI_cpyI, ↓reduceIte, Nat.reduceEqDiff, and_false, false_and, true_and, and_true, forall_eq, forall_eq', exists_eq_left, exists_eq_left', Option.some.injEq, eq_self_iff_true, not_true, not_false_iff, false_implies, true_implies, forall_const, reduceCtorEq, ne_eq]
                generalize hS6 : setI (setI (putA S4 39 (lnf (hI S 39) l (ln6 0 (nI j) (nI i) (nI p) x4 pd))) 39 (5 + (3 * i + p)) (hI S 39 (5 + (3 * i + p)) + pd)) 39 (29 + (3 * i + p)) (hI S 39 (29 + (3 * i + p)) + x4) = S6
                have n6 : ∀ b, b ≠ 39 → hI S6 b = hI S4 b := fun b hb => by rw [← hS6, hI_setI_ne hb, hI_setI_ne hb, hI_putA_ne hb]
                have n62 : ∀ b, b ≠ 39 → b ≠ 41 → b ≠ 35 → hI S6 b = hI S2 b := fun b h1 h2 h3 => by rw [n6 b h1, z2 b h2 h3, hI_setI_ne h3]
                have v39 : ∀ k, hI S6 39 k = if k = 29 + (3 * i + p) then hI S 39 (29 + (3 * i + p)) + x4 else if k = 5 + (3 * i + p) then hI S 39 (5 + (3 * i + p)) + pd else lnf (hI S 39) l (ln6 0 (nI j) (nI i) (nI p) x4 pd) k := fun k => by
                  rw [← hS6]; simp only [hI_setI, hI_putA_s, ↓reduceIte, Nat.reduceEqDiff, and_false, false_and, true_and, and_true, forall_eq, forall_eq', exists_eq_left, exists_eq_left', Option.some.injEq, eq_self_iff_true, not_true, not_false_iff, false_implies, true_implies, forall_const, reduceCtorEq, ne_eq]
                have r6 : hR S6 = hR S2 := by rw [← hS6]; exact z1.2.2.2
                have F6 : Fr (fun b => b = 35 ∨ b = 39 ∨ b = 41) S2 S6 := by
                  obtain ⟨y1, y2, y3, y4⟩ := z1
                  refine ⟨by rw [← hS6]; show hC S2 ≤ hC S4; rw [y1]; exact Nat.le_refl _, fun b _ => by rw [← hS6]; show hK S4 b = _ ∧ hN S4 b = _; rw [y2, y3]; exact ⟨rfl, rfl⟩, fun b _ hb => ⟨n62 b (fun e => hb (Or.inr (Or.inl e))) (fun e => hb (Or.inr (Or.inr e))) (fun e => hb (Or.inl e)), by rw [r6]⟩⟩
                have F16 : Fr (fun b => (16 ≤ b ∧ b ≤ 21) ∨ b = 35 ∨ b = 39 ∨ b = 41) S1 S6 := F2.tr F6
                have e35 : ∀ q, q ≠ 8 → q ≠ 0 → hI S6 35 q = hI S 35 q := fun q h1 h2 => by rw [n6 35 (by decide), z4, if_neg h1, hI_setI, if_neg (by omega), q35]
                refine h.act c1 c2 c3 c5 hKA F16 (fun b _ => by rw [r6, ← hS2]; rfl) ?_ ?_ (e35 1 (by decide) (by decide)) (e35 17 (by decide) (by decide)) (e35 10 (by decide) (by decide)) (e35 25 (by decide) (by decide)) ?_
                · rw [n6 41 (by decide), z3, hI_setI_ne (by decide), q41, x3']
                · rw [n6 35 (by decide), z4, if_pos rfl]
                · have ve : ∀ k, k < 147 → vec S6 39 0 k = hI S6 39 k := fun k hk => by rw [vec_lt hk, Nat.zero_add]
                  have v0 : ∀ k, k < 147 → vec S 39 0 k = hI S 39 k := fun k hk => by rw [vec_lt hk, Nat.zero_add]
                  have keep : ∀ k, k < 51 → k ≠ 4 → k ≠ 5 + (3 * i + p) → k ≠ 29 + (3 * i + p) → vec S6 39 0 k = vec S 39 0 k := fun k h1 h2 h3 h4 => by
                    rw [ve k (by omega), v0 k (by omega), v39, if_neg h4, if_neg h3, f5 k h1 h2]
                  have nlE : nl (vec S 39 0) = l := by unfold nl; rw [v0 4 (by omega), v2.2.2.1]; exact nI_clamp (by omega)
                  have ndE : nd (vec S 39 0) = d := by unfold nd; rw [v0 2 (by omega), v2.1]; exact nI_clamp (by omega)
                  have nmE : nm (vec S 39 0) = m := by unfold nm; rw [v0 3 (by omega), v2.2.1]; exact nI_clamp (by omega)
                  have e4 : vec S6 39 0 4 = nI (l + 1) := by rw [ve 4 (by omega), v39, if_neg (by omega), if_neg (by omega)]; unfold lnf; rw [if_pos rfl]
                  have nl6 : nl (vec S6 39 0) = l + 1 := by unfold nl; rw [e4]; exact nI_clamp (by omega)
                  have old : ∀ k, 51 ≤ k → k < 51 + 6 * l → vec S6 39 0 k = vec S 39 0 k := fun k h1 h2 => by
                    rw [ve k (by omega), v0 k (by omega), v39, if_neg (by omega), if_neg (by omega)]; unfold lnf; rw [if_neg (by omega), put6_out (by omega)]
                  have new : ∀ q, q < 6 → vec S6 39 0 (51 + 6 * l + q) = ln6 0 (nI j) (nI i) (nI p) x4 pd q := fun q hq => by
                    rw [ve _ (by omega), v39, if_neg (by omega), if_neg (by omega)]; unfold lnf; rw [if_neg (by omega), put6_in hq]
                  have st1 : vec S 39 0 0 = 1 := by
                    rw [v0 0 (by omega)]
                    rcases v3 with ⟨_, q, _⟩ | ⟨q, _⟩
                    · omega
                    · exact q
                  have hW : WF (vec S6 39 0) := by
                    refine h.2.2.2.2.1.2.1.act ⟨keep 0 (by omega) (by omega) (by omega) (by omega), keep 1 (by omega) (by omega) (by omega) (by omega), keep 2 (by omega) (by omega) (by omega) (by omega), keep 3 (by omega) (by omega) (by omega) (by omega)⟩ st1 (fun k h1 h2 => keep k (by omega) (by omega) (by omega) (by omega)) (fun k hk => ?_) (by rw [nl6]; exact e4) (by rw [nl6]; omega) (fun i' hi' => ?_)
                    · obtain ⟨w1, w2, w3⟩ := v7 k hk
                      have g1' := rg_t.mp g1
                      have g2' := rg_t.mp g2
                      refine ⟨?_, ?_, ?_⟩
                      · by_cases e : k = 3 * i + p
                        · rw [ve _ (by omega), v39, if_neg (by omega), if_pos (by omega)]; exact g1'
                        · rw [keep _ (by omega) (by omega) (by omega) (by omega), v0 _ (by omega)]; exact w1
                      · rw [keep _ (by omega) (by omega) (by omega) (by omega), v0 _ (by omega)]; exact w2
                      · by_cases e : k = 3 * i + p
                        · rw [ve _ (by omega), v39, if_pos (by omega)]; exact g2'
                        · rw [keep _ (by omega) (by omega) (by omega) (by omega), v0 _ (by omega)]; exact w3
                    · rw [nl6] at hi'
                      by_cases e : i' = l
                      · subst e
                        have q0 := new 0 (by omega)
                        have q1 := new 1 (by omega)
                        have q2' := new 2 (by omega)
                        have q3 := new 3 (by omega)
                        have q4 := new 4 (by omega)
                        have q5 := new 5 (by omega)
                        rw [Nat.add_zero] at q0
                        rw [show 51 + 6 * i' + 1 = 52 + 6 * i' by omega] at q1
                        rw [show 51 + 6 * i' + 2 = 53 + 6 * i' by omega] at q2'
                        rw [show 51 + 6 * i' + 3 = 54 + 6 * i' by omega] at q3
                        rw [show 51 + 6 * i' + 4 = 55 + 6 * i' by omega] at q4
                        rw [show 51 + 6 * i' + 5 = 56 + 6 * i' by omega] at q5
                        have nd6 : nd (vec S6 39 0) = d := by unfold nd; rw [keep 2 (by omega) (by omega) (by omega) (by omega)]; exact ndE
                        have nm6 : nm (vec S6 39 0) = m := by unfold nm; rw [keep 3 (by omega) (by omega) (by omega) (by omega)]; exact nmE
                        exact Or.inl ⟨q0, j, i, p, q1, by rw [nm6]; exact hj, q2', by rw [nd6]; exact hi, q3, by omega, by rw [q4]; exact hb4, by rw [q5]; exact hpd⟩
                      · exact (h.2.2.2.2.1.2.1.2.2.2.2.2.2 i' (by rw [nlE]; omega)).same (keep 2 (by omega) (by omega) (by omega) (by omega)) (keep 3 (by omega) (by omega) (by omega) (by omega)) (fun k h1 h2 => old k (by omega) (by omega))
                  have c16 : ∀ q, q ≠ 9 → hI S6 16 q = hI S 16 q := fun q hq => by
                    rw [n62 16 (by decide) (by decide) (by decide), ← hS2, hI_setI, if_neg (by omega), hI_setI, if_neg (by omega), hI_setI, if_neg (by omega), hI_putA_ne (by decide), (low 16 (by decide) (by decide) (by decide)).1]
                  refine r16.upd F16 (fun b hb hp => ?_) ⟨by rw [r6, ← hS2]; rfl, by rw [r6, ← hS2]; rfl⟩ hW (keep 2 (by omega) (by omega) (by omega) (by omega)) (keep 3 (by omega) (by omega) (by omega) (by omega)) (fun k h1 h2 => keep k (by omega) (by omega) (by omega) (by omega)) ⟨?_, ?_, ?_, ?_, ?_⟩ (fun k hk => ?_) (fun k hk => ?_)
                  · exact (Off.low16 (a := 60) (P := fun b => (16 ≤ b ∧ b ≤ 21) ∨ b = 35 ∨ b = 39 ∨ b = 41) hL1 (fun b hb => by omega) b hb hp).2
                  · rw [c16 5 (by decide), keep 0 (by omega) (by omega) (by omega) (by omega), v0 0 (by omega)]; exact v2.2.2.2.1
                  · rw [c16 6 (by decide), keep 1 (by omega) (by omega) (by omega) (by omega), v0 1 (by omega)]; exact v2.2.2.2.2.1
                  · rw [c16 7 (by decide), keep 2 (by omega) (by omega) (by omega) (by omega), v0 2 (by omega), v2.1]; exact v2.2.2.2.2.2.1
                  · rw [c16 8 (by decide), keep 3 (by omega) (by omega) (by omega) (by omega), v0 3 (by omega), v2.2.1]; exact v2.2.2.2.2.2.2.1
                  · rw [n62 16 (by decide) (by decide) (by decide), e4, ← hS2]; simp [hI_setI]
                  · rw [ndE] at hk
                    obtain ⟨w1, w2, w3⟩ := v4 k hk
                    refine ⟨?_, ?_, ?_⟩
                    · show hI S6 17 k = _
                      rw [n62 17 (by decide) (by decide) (by decide), ve _ (by omega), v39, if_neg (by omega)]
                      by_cases e : k = 3 * i + p
                      · rw [if_pos (by omega), ← hS2]; simp [hI_setI, e]
                      · rw [if_neg (by omega), f5 _ (by omega) (by omega), ← w1, ← hS2, hI_setI, if_neg (by omega), hI_setI, if_neg (by omega), hI_setI, if_neg (by omega), hI_putA_ne (by decide), (low 17 (by decide) (by decide) (by decide)).1]
                    · show hI S6 18 k = _
                      rw [n62 18 (by decide) (by decide) (by decide), keep _ (by omega) (by omega) (by omega) (by omega), v0 _ (by omega), ← w2, ← hS2, hI_setI, if_neg (by omega), hI_setI, if_neg (by omega), hI_setI, if_neg (by omega), hI_putA_ne (by decide), (low 18 (by decide) (by decide) (by decide)).1]
                    · show hI S6 19 k = _
                      rw [n62 19 (by decide) (by decide) (by decide), ve _ (by omega), v39]
                      by_cases e : k = 3 * i + p
                      · rw [if_pos (by omega), ← hS2]; simp [hI_setI, e]
                      · rw [if_neg (by omega), if_neg (by omega), f5 _ (by omega) (by omega), ← w3, ← hS2, hI_setI, if_neg (by omega), hI_setI, if_neg (by omega), hI_setI, if_neg (by omega), hI_putA_ne (by decide), (low 19 (by decide) (by decide) (by decide)).1]
                  · rw [nl6] at hk
                    show hI S6 21 k = _
                    rw [n62 21 (by decide) (by decide) (by decide), ← hS2, hI_setI, if_neg (by omega), hI_setI, if_neg (by omega), hI_setI, if_neg (by omega), hI_putA_s]
                    by_cases e : k < 6 * l
                    · rw [put6_out (by omega), old _ (by omega) (by omega), v0 _ (by omega), ← v6 k e]
                      exact congrFun (low 21 (by decide) (by decide) (by decide)).1 k
                    · have := new (k - 6 * l) (by omega)
                      rw [show 51 + k = 51 + 6 * l + (k - 6 * l) by omega, this]
                      have e2 := put6_in (g := hI S1 (16 + 5)) (w := ln6 0 (nI j) (nI i) (nI p) x4 pd) (o := 6 * l) (c := k - 6 * l) (by omega)
                      rw [show 6 * l + (k - 6 * l) = k by omega] at e2
                      exact e2
