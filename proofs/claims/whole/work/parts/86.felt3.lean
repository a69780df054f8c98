theorem Wf_congr {A B : Nat → Int32} {d pl : Nat} (hp : pl < 3) (h : ∀ k, k < 3 * d → A k = B k) : Wf A d pl = Wf B d pl := by
  funext i
  unfold Wf
  by_cases c : i < d
  · rw [if_pos c, if_pos c, h (3 * i + pl) (by omega)]
  · rw [if_neg c, if_neg c]
theorem p_felt : st_felt Rel := by
  intro S h x1 x2 x3
  obtain ⟨d, m, l, ⟨hd, hm, hl⟩, v2, v3, v4, v5, v6, v7, v8, vS⟩ := h.view
  refine ⟨h.1.eqs.1, ?_⟩
  obtain ⟨Q, hQ⟩ : ∃ Q : Int32 → hp → Prop, Q = fun (r : Int32) (S1 : hp) => hK S1 35 = 11 ∧ wp_X12_felt (fun r2 S2 => r = r2 ∧ Rel S2) S1 35 x1 x2 x3 := ⟨_, rfl⟩
  rw [← hQ]
  unfold wp_X11_felt
  have h16 : 2 ^ d ≤ 16 := Nat.pow_le_pow_right (n := 2) (by omega) hd
  simp only [h.1.eqs, v2, e_isFOS, bI0, t_lt, t_le, c0, show (3 : Int32).toInt = 3 from rfl, show (1 : Int32).toInt = 1 from rfl, show (200 : Int32).toInt = 200 from rfl, ↓reduceIte, Nat.reduceEqDiff, and_false, false_and, true_and, and_true, forall_eq, forall_eq', exists_eq_left, exists_eq_left', Option.some.injEq, eq_self_iff_true, not_true, not_false_iff, false_implies, true_implies, forall_const, reduceCtorEq, ne_eq]
  rcases v3 with ⟨s0, -⟩ | ⟨s1, -⟩
  · simp only [s0, ↓reduceIte, Nat.reduceEqDiff, and_false, false_and, true_and, and_true, forall_eq, forall_eq', exists_eq_left, exists_eq_left', Option.some.injEq, eq_self_iff_true, not_true, not_false_iff, false_implies, true_implies, forall_const, reduceCtorEq, ne_eq]
    simp only [hQ, wp_X12_felt, h.1.eqs, e_isThereM (lay0 h.1), bI0, hI_setI, s0, show ((0 : Int32) = 1) = False from eq_false (by decide), decide_false, hK_putA, hN_putA, hR_putA, hC_putA, hK_setI, hN_setI, hR_setI, hC_setI, hI_setI, hK_setR, hN_setR, hI_setR, hC_setR, hR_setR, hK_cpyI, hN_cpyI, hR_cpyI, hC_cpyI, hI_cpyI, ↓reduceIte, Nat.reduceEqDiff, and_false, false_and, true_and, and_true, forall_eq, forall_eq', exists_eq_left, exists_eq_left', Option.some.injEq, eq_self_iff_true, not_true, not_false_iff, false_implies, true_implies, forall_const, reduceCtorEq, ne_eq]
    exact h.thr 0
  · simp only [s1, i1_ne0, ↓reduceIte, Nat.reduceEqDiff, and_false, false_and, true_and, and_true, forall_eq, forall_eq', exists_eq_left, exists_eq_left', Option.some.injEq, eq_self_iff_true, not_true, not_false_iff, false_implies, true_implies, forall_const, reduceCtorEq, ne_eq]
    have BAD : rg x1 0 2 = false ∨ rg x2 1 200 = false ∨ rg x3 0 1 = false → Q (-1000001) S := by
      intro q
      simp only [hQ, wp_X12_felt, h.1.eqs, e_isThereM (lay0 h.1), e_isPlaceM, e_in, l64_0, l64_1, l64_2, l64_5, l64_6, l64_7, l64_m1, l64_99, l64_m99, l64_255, l64_999, l64_m999, l64_297, l64_200, l64_m200, l64_97, l64_122, l64_48, l64_57, Int32.toInt_toInt64, bI0, hI_setI, s1, decide_true, Bool.true_eq_false, hK_putA, hN_putA, hR_putA, hC_putA, hK_setI, hN_setI, hR_setI, hC_setI, hI_setI, hK_setR, hN_setR, hI_setR, hC_setR, hR_setR, hK_cpyI, hN_cpyI, hR_cpyI, hC_cpyI, hI_cpyI, ↓reduceIte, Nat.reduceEqDiff, and_false, false_and, true_and, and_true, forall_eq, forall_eq', exists_eq_left, exists_eq_left', Option.some.injEq, eq_self_iff_true, not_true, not_false_iff, false_implies, true_implies, forall_const, reduceCtorEq, ne_eq]
      refine ⟨fun _ => h.thr 0, fun q1 => ⟨fun _ => h.thr 0, fun q2 => ⟨fun q3 => ?_, fun _ => h.thr 0⟩⟩⟩
      rcases q with q | q | q
      · exact absurd q q1
      · exact absurd q q2
      · exact absurd q q3
    refine ⟨fun z => BAD (Or.inl (rg_f.mpr (by omega))), fun z1 => ⟨fun z => BAD (Or.inl (rg_f.mpr (by omega))), fun z2 => ⟨fun z => BAD (Or.inr (Or.inl (rg_f.mpr (by omega)))), fun z3 => ⟨fun z => BAD (Or.inr (Or.inl (rg_f.mpr (by omega)))), fun z4 => ⟨fun z5 => ?_, fun z => BAD (Or.inr (Or.inr z))⟩⟩⟩⟩⟩
    have hb1 : rg x1 0 2 = true := rg_t.mpr (by omega)
    have hb2 : rg x2 1 200 = true := rg_t.mpr (by omega)
    have hb3 : rg x3 0 1 = true := by simpa using z5
    clear BAD
    obtain ⟨pl, hpl, hpl2, rfl⟩ := rg_nat hb1
    obtain ⟨b, hbb, hbb2, rfl⟩ := rg_nat (x := x2) (hi := 200) (rg_t.mpr (by omega))
    have tb := nI_toInt (n := b) (by omega)
    have hp3 : pl < 3 := by omega
    have hb0 : 0 < b := by omega
    obtain ⟨W, hW⟩ : ∃ W, W = Wf (fun k => hI S 39 (5 + k)) d pl := ⟨_, rfl⟩
    have eW : Wf (hI S 17) d pl = W := by rw [hW]; exact Wf_congr hp3 (fun k hk => (v4 k hk).1)
    have fin : ∀ g o v, isL W b (2 ^ d - 1) o → v = (match o with
        | none => -1000000
        | some k => if x3 = 0 then nI k else nI k * nI b - nI (ns W (hb (2 ^ d - 1)))) → Q v (putA S 30 g) := by
      intro g o v ho hv
      have hR := (h.putS (Or.inl rfl) g).thr 0
      have y39 : hI (setI (putA S 30 g) 35 0 0) 39 = hI S 39 := by rw [hI_setI_ne (by decide), hI_putA_ne (by decide)]
      have z39 : hI (putA S 30 g) 39 = hI S 39 := hI_putA_ne (by decide)
      simp only [hQ, wp_X12_felt, h.1.eqs, e_isThereM (S := setI (putA S 30 g) 35 0 0) h.1, e_isPlaceM, e_in, l64_0, l64_1, l64_2, l64_5, l64_6, l64_7, l64_m1, l64_99, l64_m99, l64_255, l64_999, l64_m999, l64_297, l64_200, l64_m200, l64_97, l64_122, l64_48, l64_57, Int32.toInt_toInt64, bI0, hI_setI, y39, z39, s1, hb1, hb2, hb3, decide_true, Bool.true_eq_false, hK_putA, hN_putA, hR_putA, hC_putA, hK_setI, hN_setI, hR_setI, hC_setI, hI_setI, hK_setR, hN_setR, hI_setR, hC_setR, hR_setR, hK_cpyI, hN_cpyI, hR_cpyI, hC_cpyI, hI_cpyI, ↓reduceIte, Nat.reduceEqDiff, and_false, false_and, true_and, and_true, forall_eq, forall_eq', exists_eq_left, exists_eq_left', Option.some.injEq, eq_self_iff_true, not_true, not_false_iff, false_implies, true_implies, forall_const, reduceCtorEq, ne_eq]
      refine c_feltM (S := setI (putA S 30 g) 35 0 0) (d := d) h.1 (by rw [y39]; exact v2.1) hd hp3 (fun k hk => by rw [y39]; exact (v7 k (by omega)).1) hb0 (by omega) (W := W) (by rw [y39]; exact hW) ho (fun g' => ⟨hv, hR.putS (Or.inr rfl) g'⟩)
    have hA17 : ∀ k, k < 3 * d → bd (hI S 17 k) := fun k hk => by rw [(v4 k hk).1]; exact (v7 k (by omega)).1
    refine c_fewestBolts h.1 vS v2.2.2.2.2.2.1 hd hp3 hA17 (by omega) (fun g o ho => ?_)
    rw [eW] at ho
    have hlt := isL_lt ho (by omega)
    unfold wB_X11_felt_70
    rw [enO_none hlt]
    refine ⟨fun q => ?_, fun q => ⟨fun q3 => ?_, fun q3 => ?_⟩⟩
    · subst q; exact fin g none _ ho rfl
    · cases o with
      | none => exact absurd rfl q
      | some k =>
        have e17 : hI (putA S 30 g) 17 = hI S 17 := hI_putA_ne (by decide)
        have e16 : hI (putA S 30 g) 16 = hI S 16 := hI_putA_ne (by decide)
        unfold wp_X2_feltNeeded
        simp only [h.1.eqs, hK_putA, hR_putA, e16, v2, sh4 d (show d < 5 by omega), ↓reduceIte, Nat.reduceEqDiff, and_false, false_and, true_and, and_true, forall_eq, forall_eq', exists_eq_left, exists_eq_left', Option.some.injEq, eq_self_iff_true, not_true, not_false_iff, false_implies, true_implies, forall_const, reduceCtorEq, ne_eq]
        refine c_strips30 vS v2.2.2.2.2.2.1 hd hp3 hA17 (by omega) ?_
        rw [eW]
        exact fin g (some k) _ ho (by simp only [if_neg q3]; rfl)
    · cases o with
      | none => exact absurd rfl q
      | some k => exact fin g (some k) _ ho (by simp only [if_pos q3]; rfl)
