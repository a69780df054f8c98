/-- the objects that have references for good -/
def isO (b : Nat) : Prop := b = 0 ∨ b = 1 ∨ b = 2 ∨ b = 14 ∨ b = 16 ∨ b = 22 ∨ b = 28 ∨ b = 31 ∨ b = 35
theorem rl_isO : ∀ q ∈ rl, isO q.1 := by unfold isO; decide
theorem Lay.fr2 {P : Nat → Prop} {S S' : hp} (hL : Lay S) (h : Fr P S S') (hp : ∀ b, isO b → hR S' b = hR S b) : Lay S' := by
  refine ⟨fun a ha => ?_, fun q hq => ?_, Nat.le_trans hL.2.2 h.1⟩
  · have := h.2.1 a (Nat.lt_of_lt_of_le ha hL.2.2)
    rw [this.1, this.2]; exact hL.1 a ha
  · rw [hp q.1 (rl_isO q hq)]; exact hL.2.1 q hq
theorem Rel.asm {P : Nat → Prop} {S S' : hp} (h : Rel S) (hf : Fr P S S') (hP : ∀ b, b < 50 → P b → b = 0 ∨ (16 ≤ b ∧ b ≤ 30) ∨ (33 ≤ b ∧ b ≤ 35) ∨ (39 ≤ b ∧ b ≤ 41) ∨ (43 ≤ b ∧ b ≤ 48)) (hr : ∀ b, isO b → hR S' b = hR S b) (f1 : hI S' 35 1 = hI S 35 1) (f2 : hI S' 35 17 = hI S 35 17) (f3 : hI S' 35 10 = hI S 35 10) (f4 : hI S' 35 25 = hI S 35 25) (f5 : hI S' 0 10 = hI S 0 10) (f6 : hI S' 0 11 = hI S 0 11) (a1 : RSt S' 16 (vec S' 39 0)) (a2 : SL S' 22) (a3 : RImg S') (a4 : RActs S') (a5 : RDis S') : Rel S' := by
  obtain ⟨hL, h1, h2, h3, -, -, -, -, -, h9⟩ := h
  have q : ∀ b, b < 50 → ¬ (b = 0 ∨ (16 ≤ b ∧ b ≤ 30) ∨ (33 ≤ b ∧ b ≤ 35) ∨ (39 ≤ b ∧ b ≤ 41) ∨ (43 ≤ b ∧ b ≤ 48)) → hI S' b = hI S b := fun b hb h0 => (hf.2.2 b (Nat.lt_of_lt_of_le hb hL.2.2) (fun p => h0 (hP b hb p))).1
  exact ⟨hL.fr2 hf hr, h1.fr ⟨q 13 (by decide) (by decide), q 36 (by decide) (by decide), q 11 (by decide) (by decide), q 12 (by decide) (by decide), q 37 (by decide) (by decide), q 38 (by decide) (by decide), fun r hr => q (3 + r) (by omega) (by omega)⟩, h2.fr ⟨by rw [q 14 (by decide) (by decide)], f3, q 15 (by decide) (by decide), q 42 (by decide) (by decide)⟩, ⟨by rw [f1, f6]; exact h3.1, by rw [f2, f5]; exact h3.2⟩, a1, a2, a3, a4, a5, h9.fr ⟨by rw [q 31 (by decide) (by decide)], f4, q 32 (by decide) (by decide), q 49 (by decide) (by decide)⟩⟩
theorem RImg.at {S : hp} (h : RImg S) {k : Nat} (hk : k < 2) : (hI S 44 k = 0 ∧ hR S 33 k = none) ∨ (hI S 44 k = 1 ∧ ∃ a, hR S 33 k = some a ∧ 50 ≤ a ∧ RSt S a (vec S 45 (147 * k))) := h k hk
theorem Off.st {S : hp} {a : Nat} {P : Nat → Prop} (hL : Lay S) (ha : 50 ≤ a) (hp : ∀ b, P b → b < 50) : Off S a P := Off.low hL ha hp
theorem zz0 {S : hp} {a : Nat} {f : Nat → Int32} (h : RSt S a f) : isZ (hI S a 5) := by
  obtain ⟨hS, ⟨_, _, _, w, _⟩, ⟨f5, _⟩, _⟩ := h
  rw [f5]
  rcases w with ⟨w, _⟩ | ⟨w, _⟩
  · exact Or.inl w
  · exact Or.inr w
theorem RSt.l9 {S : hp} {a : Nat} {f : Nat → Int32} (h : RSt S a f) : hI S a 9 = nI (nl f) ∧ nl f ≤ 16 := by
  obtain ⟨hS, ⟨_, _, w, _⟩, ⟨_, _, _, _, f9⟩, _⟩ := h
  rw [f9]; exact w
theorem p_restore : st_restore Rel := by
  intro S h x1
  have hh := h
  obtain ⟨hL, h1, h2, h3, h4, h5, h6, h7, h8, h9⟩ := hh
  refine ⟨h.1.eqs.1, ?_⟩
  obtain ⟨Q, hQ⟩ : ∃ Q : Int32 → hp → Prop, Q = fun (r : Int32) (S1 : hp) => hK S1 35 = 11 ∧ wp_X12_restore (fun r2 S2 => r = r2 ∧ Rel S2) S1 35 x1 := ⟨_, rfl⟩
  rw [← hQ]
  unfold wp_X11_restore
  simp only [e_isImage, bI0]
  cases hb : rg x1 0 1 with
  | false =>
    simp only [↓reduceIte, Nat.reduceEqDiff, and_false, false_and, true_and, and_true, forall_eq, forall_eq', exists_eq_left, exists_eq_left', Option.some.injEq, eq_self_iff_true, not_true, not_false_iff, false_implies, true_implies, forall_const, reduceCtorEq, ne_eq]
    simp only [hQ, wp_X12_restore, h.1.eqs, e_in, l64_0, l64_1, l64_2, l64_5, l64_6, l64_7, l64_m1, l64_99, l64_m99, l64_255, l64_999, l64_m999, l64_297, l64_200, l64_m200, l64_97, l64_122, l64_48, l64_57, Int32.toInt_toInt64, hb, bI_f, hK_putA, hN_putA, hR_putA, hC_putA, hK_setI, hN_setI, hR_setI, hC_setI, hI_setI, hK_setR, hN_setR, hI_setR, hC_setR, hR_setR, hK_cpyI, hN_cpyI, hR_cpyI, hC_cpyI, hI_cpyI, ↓reduceIte, Nat.reduceEqDiff, and_false, false_and, true_and, and_true, forall_eq, forall_eq', exists_eq_left, exists_eq_left', Option.some.injEq, eq_self_iff_true, not_true, not_false_iff, false_implies, true_implies, forall_const, reduceCtorEq, ne_eq]
    simpa using h.thr 0
  | true =>
    obtain ⟨k, hk, hk2, rfl⟩ := rg_nat hb
    have hk' : k < 2 := by omega
    have hv : vp_in (nI k) 2 := vp_in_nI hk' (by omega)
    have hc : (nI k).toNatClampNeg = k := nI_clamp (by omega)
    simp only [h.1.eqs, hv, hc, Bool.true_eq_false, ↓reduceIte, Nat.reduceEqDiff, and_false, false_and, true_and, and_true, forall_eq, forall_eq', exists_eq_left, exists_eq_left', Option.some.injEq, eq_self_iff_true, not_true, not_false_iff, false_implies, true_implies, forall_const, reduceCtorEq, ne_eq]
    rcases h6.at hk' with ⟨g1, g2⟩ | ⟨g1, a, g2, g3, g4⟩
    · rw [g2]
      refine ⟨fun _ => ?_, fun r q => by cases q⟩
      simp only [hQ, wp_X12_restore, h.1.eqs, e_in, l64_0, l64_1, l64_2, l64_5, l64_6, l64_7, l64_m1, l64_99, l64_m99, l64_255, l64_999, l64_m999, l64_297, l64_200, l64_m200, l64_97, l64_122, l64_48, l64_57, Int32.toInt_toInt64, hb, bI_t, i1_ne0, hv, hc, hI_setI, g1, hK_putA, hN_putA, hR_putA, hC_putA, hK_setI, hN_setI, hR_setI, hC_setI, hI_setI, hK_setR, hN_setR, hI_setR, hC_setR, hR_setR, hK_cpyI, hN_cpyI, hR_cpyI, hC_cpyI, hI_cpyI, ↓reduceIte, Nat.reduceEqDiff, and_false, false_and, true_and, and_true, forall_eq, forall_eq', exists_eq_left, exists_eq_left', Option.some.injEq, eq_self_iff_true, not_true, not_false_iff, false_implies, true_implies, forall_const, reduceCtorEq, ne_eq]
      exact h.thr 0
    · rw [g2]
      refine ⟨(fun q => nomatch q), fun r q => ?_⟩
      cases q
      refine c_become h4.1 g4.1 (by omega) g4.l9.1 g4.l9.2 (zz0 g4) (fun S1 hB => ?_)
      have o1 : ∀ b, isO b → hR S1 b = hR S b := fun b hs => by
        unfold isO at hs
        by_cases e : b = 16
        · rw [e]; exact hB.2.2.1
        · exact (hB.2.1 b (by omega)).2
      have hL1 : Lay S1 := hL.fr2 hB.fr o1
      have k44 : hI S1 44 = hI S 44 := (hB.2.1 44 (by omega)).1
      have k45 : hI S1 45 = hI S 45 := (hB.2.1 45 (by omega)).1
      have k0 : hI S1 0 = hI S 0 := (hB.2.1 0 (by omega)).1
      have k35 : hI S1 35 = hI S 35 := (hB.2.1 35 (by omega)).1
      simp only [hQ, wp_X12_restore, hL1.eqs, e_in, l64_0, l64_1, l64_2, l64_5, l64_6, l64_7, l64_m1, l64_99, l64_m99, l64_255, l64_999, l64_m999, l64_297, l64_200, l64_m200, l64_97, l64_122, l64_48, l64_57, Int32.toInt_toInt64, hb, bI_t, i1_ne0, hv, hc, hI_setI, k44, g1, hK_putA, hN_putA, hR_putA, hC_putA, hK_setI, hN_setI, hR_setI, hC_setI, hI_setI, hK_setR, hN_setR, hI_setR, hC_setR, hR_setR, hK_cpyI, hN_cpyI, hR_cpyI, hC_cpyI, hI_cpyI, ↓reduceIte, Nat.reduceEqDiff, and_false, false_and, true_and, and_true, forall_eq, forall_eq', exists_eq_left, exists_eq_left', Option.some.injEq, eq_self_iff_true, not_true, not_false_iff, false_implies, true_implies, forall_const, reduceCtorEq, ne_eq]
      refine c_restoreM (S := setI (setI S1 0 8 0) 35 0 0) hL1 hk' ⟨rfl, ?_⟩
      have r1 : RSt S1 16 (vec S 45 (147 * k)) := Bec.rst g4 h4.1 hB h4.1.nom
      generalize hf0 : cp (hI (setI (setI S1 0 8 0) 35 0 0) 39) (hI (setI (setI S1 0 8 0) 35 0 0) 45) 0 (147 * k) 147 = f0
      have hf1 : ∀ i, i < 147 → f0 (0 + i) = hI S 45 (147 * k + i) := fun i hi => by
        rw [← hf0, cp_in hi, hI_setI_ne (by decide), hI_setI_ne (by decide), k45]
      have F1 : Fr (fun b => b = 0 ∨ b = 35 ∨ b = 39) S1 (setI (putA (setI (setI S1 0 8 0) 35 0 0) 39 f0) 35 8 0) := (by repeat' (first | with_reducible apply Fr.setI | with_reducible apply Fr.putA | with_reducible apply Fr.setR | with_reducible apply Fr.cpyI | with_reducible apply Fr.newC | with_reducible exact Fr.rfl' | (simp; done) | (simp; omega)))
      have F : Fr (fun b => (16 ≤ b ∧ b ≤ 16 + 5) ∨ (b = 0 ∨ b = 35 ∨ b = 39)) S (setI (putA (setI (setI S1 0 8 0) 35 0 0) 39 f0) 35 8 0) := hB.fr.tr F1
      have ev : vec (setI (putA (setI (setI S1 0 8 0) 35 0 0) 39 f0) 35 8 0) 39 0 = vec S 45 (147 * k) := vec_eq (fun i hi => by rw [hI_setI_ne (by decide), hI_putA_s]; exact hf1 i hi)
      have n33 : hR S1 33 = hR S 33 := (hB.2.1 33 (by omega)).2
      have n34 : hR S1 34 = hR S 34 := (hB.2.1 34 (by omega)).2
      refine h.asm F (fun b hb hp => by omega) o1 ?_ ?_ ?_ ?_ ?_ ?_ ?_ ?_ ?_ ?_ ?_
      · simp [hI_setI, hI_putA, k35]
      · simp [hI_setI, hI_putA, k35]
      · simp [hI_setI, hI_putA, k35]
      · simp [hI_setI, hI_putA, k35]
      · simp [hI_setI, hI_putA, k0]
      · simp [hI_setI, hI_putA, k0]
      · rw [ev]
        exact r1.fr F1 (Off.low16 hL1 (fun b hb => by omega))
      · exact h5.fr F (fun b _ hb => by omega)
      · refine h6.fr F ⟨?_, ?_, n33⟩ (fun k a hk ha => Off.low hL (h6.a50 hk ha) (fun b hb => by omega))
        · rw [hI_setI_ne (by decide), hI_putA_ne (by decide), hI_setI_ne (by decide), hI_setI_ne (by decide), k44]
        · rw [hI_setI_ne (by decide), hI_putA_ne (by decide), hI_setI_ne (by decide), hI_setI_ne (by decide), k45]
      · obtain ⟨n, l, c1, c2, c3, c4, c5, c6, c7⟩ := h7
        refine ⟨0, l, by omega, c2, ?_, ?_, ?_, fun p a hp ha => ?_, fun j hj => by omega⟩
        · simp [hI_setI, hI_putA]; rfl
        · simp [hI_setI, hI_putA]; rfl
        · simp [hI_setI, hI_putA, k0, c5]
        · have ha' : hR S 34 p = some a := by rw [← n34]; exact ha
          obtain ⟨z1, z2⟩ := c6 p a hp ha'
          exact ⟨z1, z2.fr F (fun b _ hb => by omega)⟩
      · exact h8.fr ⟨n33, n34⟩
theorem p_undo : st_undo Rel := by
  intro S h
  have hh := h
  obtain ⟨hL, h1, h2, h3, h4, h5, h6, h7, h8, h9⟩ := hh
  obtain ⟨n, l, c1, c2, c3, c4, c5, c6, c7⟩ := h7
  refine ⟨h.1.eqs.1, ?_⟩
  obtain ⟨Q, hQ⟩ : ∃ Q : Int32 → hp → Prop, Q = fun (r : Int32) (S1 : hp) => hK S1 35 = 11 ∧ wp_X12_undo (fun r2 S2 => r = r2 ∧ Rel S2) S1 35  := ⟨_, rfl⟩
  rw [← hQ]
  unfold wp_X11_undo wB_X11_undo_20n1 wB_X11_undo_20
  have hv : vp_in (nI l) 24 := vp_in_nI c2 (by omega)
  have hc : (nI l).toNatClampNeg = l := nI_clamp (by omega)
  simp only [h.1.eqs, c3, c5, hv, hc, ↓reduceIte, Nat.reduceEqDiff, and_false, false_and, true_and, and_true, forall_eq, forall_eq', exists_eq_left, exists_eq_left', Option.some.injEq, eq_self_iff_true, not_true, not_false_iff, false_implies, true_implies, forall_const, reduceCtorEq, ne_eq]
  by_cases hn : n = 0
  · subst hn
    have : nI 0 ≤ 0 := by decide
    simp only [this, ↓reduceIte, Nat.reduceEqDiff, and_false, false_and, true_and, and_true, forall_eq, forall_eq', exists_eq_left, exists_eq_left', Option.some.injEq, eq_self_iff_true, not_true, not_false_iff, false_implies, true_implies, forall_const, reduceCtorEq, ne_eq]
    simp only [hQ, wp_X12_undo, h.1.eqs, hI_setI, c4, show (nI 0 = 0) = True from eq_true rfl, hK_putA, hN_putA, hR_putA, hC_putA, hK_setI, hN_setI, hR_setI, hC_setI, hI_setI, hK_setR, hN_setR, hI_setR, hC_setR, hR_setR, hK_cpyI, hN_cpyI, hR_cpyI, hC_cpyI, hI_cpyI, ↓reduceIte, Nat.reduceEqDiff, and_false, false_and, true_and, and_true, forall_eq, forall_eq', exists_eq_left, exists_eq_left', Option.some.injEq, eq_self_iff_true, not_true, not_false_iff, false_implies, true_implies, forall_const, reduceCtorEq, ne_eq]
    exact h.thr 0
  · have hpos : (nI n ≤ 0) = False := eq_false (nI_nle (by omega) (by omega))
    have hne : (nI n = 0) = False := eq_false (nI_ne0 (by omega) (by omega))
    simp only [hpos, ↓reduceIte, Nat.reduceEqDiff, and_false, false_and, true_and, and_true, forall_eq, forall_eq', exists_eq_left, exists_eq_left', Option.some.injEq, eq_self_iff_true, not_true, not_false_iff, false_implies, true_implies, forall_const, reduceCtorEq, ne_eq]
    obtain ⟨a, g2, g4⟩ := c7 0 (by omega)
    rw [show (l + 24 - 0) % 24 = l by omega] at g2
    obtain ⟨g3, -⟩ := c6 l a c2 g2
    rw [g2]
    refine ⟨(fun q => nomatch q), fun r q => ?_⟩
    cases q
    refine c_become h4.1 g4.1 (by omega) g4.l9.1 g4.l9.2 (zz0 g4) (fun S1 hB => ?_)
    have o1 : ∀ b, isO b → hR S1 b = hR S b := fun b hs => by
      unfold isO at hs
      by_cases e : b = 16
      · rw [e]; exact hB.2.2.1
      · exact (hB.2.1 b (by omega)).2
    have hL1 : Lay S1 := hL.fr2 hB.fr o1
    have k44 : hI S1 44 = hI S 44 := (hB.2.1 44 (by omega)).1
    have k45 : hI S1 45 = hI S 45 := (hB.2.1 45 (by omega)).1
    have k41 : hI S1 41 = hI S 41 := (hB.2.1 41 (by omega)).1
    have k0 : hI S1 0 = hI S 0 := (hB.2.1 0 (by omega)).1
    have k35 : hI S1 35 = hI S 35 := (hB.2.1 35 (by omega)).1
    have em : nI l + (24 : Int32) - 1 - (nI l + (24 : Int32) - 1) / 24 * 24 = nI ((l + 23) % 24) := by
      have e1 : nI l + (24 : Int32) - 1 = nI (l + 23) := (congrArg (· - (1 : Int32)) (nI_add l 24)).trans (nI_pred (l + 23))
      rw [e1]
      exact pk_rem (a := l + 23) (d := 24) (by omega) (by omega) (by omega)
    have e8 : nI n - 1 = nI (n - 1) := nI_sub1 (by omega)
    simp only [hL1.eqs, k0, hI_setI, c3, c5, em, e8, hK_putA, hN_putA, hR_putA, hC_putA, hK_setI, hN_setI, hR_setI, hC_setI, hI_setI, hK_setR, hN_setR, hI_setR, hC_setR, hR_setR, hK_cpyI, hN_cpyI, hR_cpyI, hC_cpyI, hI_cpyI, ↓reduceIte, Nat.reduceEqDiff, and_false, false_and, true_and, and_true, forall_eq, forall_eq', exists_eq_left, exists_eq_left', Option.some.injEq, eq_self_iff_true, not_true, not_false_iff, false_implies, true_implies, forall_const, reduceCtorEq, ne_eq]
    simp only [hQ, wp_X12_undo, hL1.eqs, hI_setI, k35, c4, hne, e8, hK_putA, hN_putA, hR_putA, hC_putA, hK_setI, hN_setI, hR_setI, hC_setI, hI_setI, hK_setR, hN_setR, hI_setR, hC_setR, hR_setR, hK_cpyI, hN_cpyI, hR_cpyI, hC_cpyI, hI_cpyI, ↓reduceIte, Nat.reduceEqDiff, and_false, false_and, true_and, and_true, forall_eq, forall_eq', exists_eq_left, exists_eq_left', Option.some.injEq, eq_self_iff_true, not_true, not_false_iff, false_implies, true_implies, forall_const, reduceCtorEq, ne_eq]
    generalize hS2 : setI (setI (setI (setI S1 0 9 (nI ((l + 23) % 24))) 0 8 (nI (n - 1))) 35 0 0) 35 8 (nI (n - 1)) = S2
    have F2 : Fr (fun b => b = 0 ∨ b = 35) S1 S2 := by rw [← hS2]; exact (by repeat' (first | with_reducible apply Fr.setI | with_reducible apply Fr.putA | with_reducible apply Fr.setR | with_reducible apply Fr.cpyI | with_reducible apply Fr.newC | with_reducible exact Fr.rfl' | (simp; done) | (simp; omega)))
    have hL2 : Lay S2 := by rw [← hS2]; exact hL1
    have q41 : hI S2 41 = hI S 41 := by rw [← hS2, hI_setI_ne (by decide), hI_setI_ne (by decide), hI_setI_ne (by decide), hI_setI_ne (by decide), k41]
    refine c_undoM (S := S2) (kk0 := n - 1) hL2 (by omega) (by rw [← hS2]; simp [hI_setI]) ⟨rfl, ?_⟩
    have r1 : RSt S1 16 (vec S 41 (147 * (n - 1 - 0))) := Bec.rst g4 h4.1 hB h4.1.nom
    generalize hf0 : cp (hI S2 39) (hI S2 41) 0 (147 * (n - 1)) 147 = f0
    have hf1 : ∀ i, i < 147 → f0 (0 + i) = hI S 41 (147 * (n - 1 - 0) + i) := fun i hi => by
      rw [← hf0, cp_in hi, q41, Nat.sub_zero]
    have F1 : Fr (fun b => (b = 0 ∨ b = 35) ∨ b = 39) S1 (putA S2 39 f0) := (F2.tr (P2 := fun b => b = 39) ((Fr.rfl' (P := fun b => b = 39)).putA rfl))
    have F : Fr (fun b => (16 ≤ b ∧ b ≤ 16 + 5) ∨ ((b = 0 ∨ b = 35) ∨ b = 39)) S (putA S2 39 f0) := hB.fr.tr F1
    have ev : vec (putA S2 39 f0) 39 0 = vec S 41 (147 * (n - 1 - 0)) := vec_eq (fun i hi => by rw [hI_putA_s]; exact hf1 i hi)
    have n33 : hR (putA S2 39 f0) 33 = hR S 33 := by rw [← hS2]; exact (hB.2.1 33 (by omega)).2
    have n34 : hR (putA S2 39 f0) 34 = hR S 34 := by rw [← hS2]; exact (hB.2.1 34 (by omega)).2
    have p0 : hI (putA S2 39 f0) 0 = hI S2 0 := hI_putA_ne (by decide)
    have p35 : hI (putA S2 39 f0) 35 = hI S2 35 := hI_putA_ne (by decide)
    refine h.asm F (fun b hb hp => by omega) (fun b hb => by rw [hR_putA, ← hS2]; exact o1 b hb) ?_ ?_ ?_ ?_ ?_ ?_ ?_ ?_ ?_ ?_ ?_
    · rw [p35, ← hS2]; simp [hI_setI, k35]
    · rw [p35, ← hS2]; simp [hI_setI, k35]
    · rw [p35, ← hS2]; simp [hI_setI, k35]
    · rw [p35, ← hS2]; simp [hI_setI, k35]
    · rw [p0, ← hS2]; simp [hI_setI, k0]
    · rw [p0, ← hS2]; simp [hI_setI, k0]
    · rw [ev]
      exact r1.fr F1 (Off.low16 hL1 (fun b hb => by omega))
    · exact h5.fr F (fun b _ hb => by omega)
    · refine h6.fr F ⟨?_, ?_, n33⟩ (fun k a hk ha => Off.low hL (h6.a50 hk ha) (fun b hb => by omega))
      · rw [hI_putA_ne (by decide), ← hS2, hI_setI_ne (by decide), hI_setI_ne (by decide), hI_setI_ne (by decide), hI_setI_ne (by decide), k44]
      · rw [hI_putA_ne (by decide), ← hS2, hI_setI_ne (by decide), hI_setI_ne (by decide), hI_setI_ne (by decide), hI_setI_ne (by decide), k45]
    · refine ⟨n - 1, (l + 23) % 24, by omega, Nat.mod_lt _ (by omega), ?_, ?_, ?_, fun p a hp ha => ?_, fun j hj => ?_⟩
      · rw [p0, ← hS2]; simp [hI_setI]
      · rw [p35, ← hS2]; simp [hI_setI]
      · rw [p0, ← hS2]; simp [hI_setI]
      · rw [n34] at ha
        obtain ⟨z1, z2⟩ := c6 p a hp ha
        exact ⟨z1, z2.fr F (fun b _ hb => by omega)⟩
      · obtain ⟨a2, y1, y2⟩ := c7 (j + 1) (by omega)
        have z50 := (c6 _ a2 (Nat.mod_lt _ (by omega)) y1).1
        refine ⟨a2, ?_, ?_⟩
        · rw [n34, show ((l + 23) % 24 + 24 - j) % 24 = (l + 24 - (j + 1)) % 24 by omega]; exact y1
        · have ev2 : vec (putA S2 39 f0) 41 (147 * (n - 1 - 1 - j)) = vec S 41 (147 * (n - 1 - (j + 1))) := by
            rw [show n - 1 - 1 - j = n - 1 - (j + 1) by omega]
            exact vec_same (by rw [hI_putA_ne (by decide), q41])
          rw [ev2]
          exact y2.fr F (Off.low hL z50 (fun b hb => by omega))
    · exact h8.fr ⟨n33, n34⟩
