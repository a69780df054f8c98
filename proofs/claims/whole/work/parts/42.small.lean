theorem Rel.flds {S S' : hp} (h : Rel S) (hf : Fr (fun b => b = 0 ∨ b = 35) S S') (hr : hR S' = hR S) (a1 : hI S' 35 1 = hI S' 0 11) (a2 : hI S' 35 17 = hI S' 0 10) (a3 : hI S' 0 8 = hI S 0 8) (a4 : hI S' 0 9 = hI S 0 9) (a5 : hI S' 35 8 = hI S 35 8) (a6 : hI S' 35 10 = hI S 35 10) (a7 : hI S' 35 25 = hI S 35 25) : Rel S' := by
  have hL := h.1
  have q : ∀ b, b < 50 → b ≠ 0 → b ≠ 35 → hI S' b = hI S b := fun b hb h0 h1 => (hf.2.2 b (Nat.lt_of_lt_of_le hb hL.2.2) (fun p => p.elim h0 h1)).1
  refine h.low hf (fun b hb => by omega) (hL.fr hf (fun b _ _ => by rw [hr])) (h.2.1.fr ⟨q 13 (by decide) (by decide) (by decide), q 36 (by decide) (by decide) (by decide), q 11 (by decide) (by decide) (by decide), q 12 (by decide) (by decide) (by decide), q 37 (by decide) (by decide) (by decide), q 38 (by decide) (by decide) (by decide), fun r hr => q (3 + r) (by omega) (by omega) (by omega)⟩) (h.2.2.1.fr ⟨by rw [q 14 (by decide) (by decide) (by decide)], a6, q 15 (by decide) (by decide) (by decide), q 42 (by decide) (by decide) (by decide)⟩) ⟨a1, a2⟩ (vec_same (q 39 (by decide) (by decide) (by decide))) ⟨q 44 (by decide) (by decide) (by decide), q 45 (by decide) (by decide) (by decide), by rw [hr]⟩ ⟨a3, a5, a4, q 41 (by decide) (by decide) (by decide), by rw [hr]⟩ (h.2.2.2.2.2.2.2.2.2.fr ⟨by rw [q 31 (by decide) (by decide) (by decide)], a7, q 32 (by decide) (by decide) (by decide), q 49 (by decide) (by decide) (by decide)⟩)
theorem Rel.thr {S : hp} (h : Rel S) (v : Int32) : Rel (setI S 35 0 v) :=
  h.flds (Fr.rfl'.setI (Or.inr rfl)) rfl (by simpa [hI_setI] using h.2.2.2.1.1) (by simpa [hI_setI] using h.2.2.2.1.2) (by simp [hI_setI]) (by simp [hI_setI]) (by simp [hI_setI]) (by simp [hI_setI]) (by simp [hI_setI])
/-- the status of both becomes v -/
theorem Rel.fin {S : hp} (h : Rel S) (v : Int32) : Rel (setI (setI S 0 11 v) 35 1 v) :=
  h.flds ((Fr.rfl'.setI (Or.inl rfl)).setI (Or.inr rfl)) rfl (by simp [hI_setI]) (by simpa [hI_setI] using h.2.2.2.1.2) (by simp [hI_setI]) (by simp [hI_setI]) (by simp [hI_setI]) (by simp [hI_setI]) (by simp [hI_setI])
theorem p_status : st_status Rel := by
  intro S h
  unfold wp_X11_status wp_X12_status
  simp only [h.1.eqs, hK_putA, hN_putA, hR_putA, hC_putA, hK_setI, hN_setI, hR_setI, hC_setI, hI_setI, hK_setR, hN_setR, hI_setR, hC_setR, hR_setR, hK_cpyI, hN_cpyI, hR_cpyI, hC_cpyI, hI_cpyI, ↓reduceIte, Nat.reduceEqDiff, and_false, false_and, true_and, and_true, forall_eq, forall_eq', exists_eq_left, exists_eq_left', Option.some.injEq, eq_self_iff_true, not_true, not_false_iff, false_implies, true_implies, forall_const, reduceCtorEq, ne_eq]
  exact ⟨by simp [h.2.2.2.1.1], h.thr 0⟩
theorem p_fault : st_fault Rel := by
  intro S h
  unfold wp_X11_fault wp_X12_fault
  simp only [h.1.eqs, hK_putA, hN_putA, hR_putA, hC_putA, hK_setI, hN_setI, hR_setI, hC_setI, hI_setI, hK_setR, hN_setR, hI_setR, hC_setR, hR_setR, hK_cpyI, hN_cpyI, hR_cpyI, hC_cpyI, hI_cpyI, ↓reduceIte, Nat.reduceEqDiff, and_false, false_and, true_and, and_true, forall_eq, forall_eq', exists_eq_left, exists_eq_left', Option.some.injEq, eq_self_iff_true, not_true, not_false_iff, false_implies, true_implies, forall_const, reduceCtorEq, ne_eq]
  exact ⟨by simp [h.2.2.2.1.2], h.thr 0⟩
theorem Rel.tape {S S' : hp} (h : Rel S) (hf : Fr (fun b => b = 14 ∨ b = 15 ∨ b = 42 ∨ b = 35) S S') (hr : hR S' = hR S) (a0 : RTape S') (a1 : hI S' 35 1 = hI S 35 1) (a2 : hI S' 35 17 = hI S 35 17) (a5 : hI S' 35 8 = hI S 35 8) (a7 : hI S' 35 25 = hI S 35 25) : Rel S' := by
  have hL := h.1
  have q : ∀ b, b < 50 → b ≠ 14 ∧ b ≠ 15 ∧ b ≠ 42 ∧ b ≠ 35 → hI S' b = hI S b := fun b hb h0 => (hf.2.2 b (Nat.lt_of_lt_of_le hb hL.2.2) (by omega)).1
  refine h.low hf (fun b hb => by omega) (hL.fr hf (fun b _ _ => by rw [hr])) (h.2.1.fr ⟨q 13 (by decide) (by decide), q 36 (by decide) (by decide), q 11 (by decide) (by decide), q 12 (by decide) (by decide), q 37 (by decide) (by decide), q 38 (by decide) (by decide), fun r hr => q (3 + r) (by omega) (by omega)⟩) a0 ⟨by rw [a1, q 0 (by decide) (by decide)]; exact h.2.2.2.1.1, by rw [a2, q 0 (by decide) (by decide)]; exact h.2.2.2.1.2⟩ (vec_same (q 39 (by decide) (by decide))) ⟨q 44 (by decide) (by decide), q 45 (by decide) (by decide), by rw [hr]⟩ ⟨by rw [q 0 (by decide) (by decide)], a5, by rw [q 0 (by decide) (by decide)], q 41 (by decide) (by decide), by rw [hr]⟩ (h.2.2.2.2.2.2.2.2.2.fr ⟨by rw [q 31 (by decide) (by decide)], a7, q 32 (by decide) (by decide), q 49 (by decide) (by decide)⟩)
theorem c0 : (0 : Int32).toInt = 0 := rfl
theorem p_feed : st_feed Rel := by
  intro S h x1
  obtain ⟨n, hn, t1, t2, t3⟩ := h.2.2.1
  unfold wp_X11_feed wp_X9_isFull wp_X9_add wp_X12_feed
  refine ⟨h.1.eqs.1, ?_⟩
  cases hb : rg x1 0 255 with
  | false =>
    have hb' := rg_f.mp hb
    simp only [t_lt, t_le, c0, show (255 : Int32).toInt = 255 from rfl]
    refine ⟨fun _ => ?_, fun h1 => ⟨fun h2 => absurd h2 (by omega), fun _ => ?_⟩⟩ <;> simp only [h.1.eqs, e_in, l64_0, l64_1, l64_2, l64_5, l64_6, l64_7, l64_m1, l64_99, l64_m99, l64_255, l64_999, l64_m999, l64_297, l64_200, l64_m200, l64_97, l64_122, l64_48, l64_57, Int32.toInt_toInt64, hb, bI_f, hK_putA, hN_putA, hR_putA, hC_putA, hK_setI, hN_setI, hR_setI, hC_setI, hI_setI, hK_setR, hN_setR, hI_setR, hC_setR, hR_setR, hK_cpyI, hN_cpyI, hR_cpyI, hC_cpyI, hI_cpyI, ↓reduceIte, Nat.reduceEqDiff, and_false, false_and, true_and, and_true, forall_eq, forall_eq', exists_eq_left, exists_eq_left', Option.some.injEq, eq_self_iff_true, not_true, not_false_iff, false_implies, true_implies, forall_const, reduceCtorEq, ne_eq] <;> exact h.thr 0
  | true =>
    have hb' := rg_t.mp hb
    have hc : (hI S 14 1 < (140 : Int32)) = (n < 140) := by rw [t1]; exact propext (nI_ltI (a := n) (b := 140) (by omega) (by omega))
    have hd : (hI S 35 10 = (140 : Int32)) = (n = 140) := by rw [t2]; exact propext (nI_eq (a := n) (b := 140) (by omega) (by omega))
    simp only [show (x1 < 0) = False by rw [t_lt, c0]; simp; omega, show (x1 ≤ 255) = True by rw [t_le]; simp; show x1.toInt ≤ 255; omega, h.1.eqs, e_in, l64_0, l64_1, l64_2, l64_5, l64_6, l64_7, l64_m1, l64_99, l64_m99, l64_255, l64_999, l64_m999, l64_297, l64_200, l64_m200, l64_97, l64_122, l64_48, l64_57, Int32.toInt_toInt64, hb, bI_t, i1_ne0, hc, hK_putA, hN_putA, hR_putA, hC_putA, hK_setI, hN_setI, hR_setI, hC_setI, hI_setI, hK_setR, hN_setR, hI_setR, hC_setR, hR_setR, hK_cpyI, hN_cpyI, hR_cpyI, hC_cpyI, hI_cpyI, ↓reduceIte, Nat.reduceEqDiff, and_false, false_and, true_and, and_true, forall_eq, forall_eq', exists_eq_left, exists_eq_left', Option.some.injEq, eq_self_iff_true, not_true, not_false_iff, false_implies, true_implies, forall_const, reduceCtorEq, ne_eq]
    by_cases h4 : n < 140
    · have hv : vp_in (nI n) 140 := vp_in_nI h4 (by omega)
      have hcl : (nI n).toNatClampNeg = n := nI_clamp (by omega)
      simp only [h4, show ¬ n = 140 by omega, hd, t1, t2, hv, hcl, h.1.eqs, hK_putA, hN_putA, hR_putA, hC_putA, hK_setI, hN_setI, hR_setI, hC_setI, hI_setI, hK_setR, hN_setR, hI_setR, hC_setR, hR_setR, hK_cpyI, hN_cpyI, hR_cpyI, hC_cpyI, hI_cpyI, ↓reduceIte, Nat.reduceEqDiff, and_false, false_and, true_and, and_true, forall_eq, forall_eq', exists_eq_left, exists_eq_left', Option.some.injEq, eq_self_iff_true, not_true, not_false_iff, false_implies, true_implies, forall_const, reduceCtorEq, ne_eq, and_false, false_and, if_false, if_true, Nat.reduceEqDiff]
      have hq : ¬ nI n = (140 : Int32) := fun q => absurd ((nI_eq (a := n) (b := 140) (by omega) (by omega)).mp q) (by omega)
      simp [nI_1, hcl, t1, t2, h4, hq, h.1.eqs, hv, hI_setI]
      refine h.tape (((((Fr.rfl'.setI (by simp)).setI (by simp)).setI (by simp)).setI (by simp)).setI (by simp)) rfl ⟨n + 1, by omega, by simp [hI_setI], by simp [hI_setI], fun k hk => ?_⟩ (by simp [hI_setI]) (by simp [hI_setI]) (by simp [hI_setI]) (by simp [hI_setI])
      by_cases hkn : k = n
      · simp [hI_setI, hkn, hb]
      · simp [hI_setI, hkn]; exact t3 k (by omega)
    · have h5 : n = 140 := by omega
      simp [h5, hd, h.1.eqs, h4, hI_setI]
      exact h.thr 0
