def pof (d : Nat) (K : Nat → Int32) : Nat := if d < 3 then 1 else if K (if K 1 ≤ K 2 then 1 else 2) ≤ K 3 then (if K 1 ≤ K 2 then 1 else 2) else 3
theorem pof_rg (d : Nat) (K : Nat → Int32) : pof d K = 1 ∨ (3 ≤ d ∧ (pof d K = 2 ∨ pof d K = 3)) := by
  unfold pof
  by_cases c : d < 3
  · rw [if_pos c]; exact Or.inl rfl
  · rw [if_neg c]
    by_cases c1 : K 1 ≤ K 2
    · simp only [if_pos c1]
      by_cases c2 : K 1 ≤ K 3
      · rw [if_pos c2]; exact Or.inl rfl
      · rw [if_neg c2]; exact Or.inr ⟨by omega, Or.inr rfl⟩
    · simp only [if_neg c1]
      by_cases c2 : K 2 ≤ K 3
      · rw [if_pos c2]; exact Or.inr ⟨by omega, Or.inl rfl⟩
      · rw [if_neg c2]; exact Or.inr ⟨by omega, Or.inr rfl⟩
theorem c_partnerOfFirst {Q : Int32 → hp → Prop} {S : hp} {d : Nat} (hL : Lay S) (vS : SL S 16) (hd : hI S 16 7 = nI d) (hd4 : d ≤ 4) (h : Q (nI (pof d (uC d (unl (hI S 17))))) S) : wp_X2_partnerOfFirst Q S 28 16 := by
  have k28 := (hL.1 28 (by decide)).1
  obtain ⟨K, hK⟩ : ∃ K, K = uC d (unl (hI S 17)) := ⟨_, rfl⟩
  rw [← hK] at h
  -- one step of the loop
  have stp : ∀ (bk : hp → Nat → Nat → Int32 → Int32 → Int32 → Prop) (l2 : Int32) (b q : Nat), b < 10 → q < 10 → ¬ l2 < nI q → bk S 28 16 l2 (nI (if K b ≤ K q then b else q)) (nI (q + 1)) → wB_X2_partnerOfFirst_29 bk Q S 28 16 l2 (nI b) (nI q) := fun bk l2 b q hb hq hn hx => by
    unfold wB_X2_partnerOfFirst_29 wB_X2_partnerOfFirst_54
    refine ⟨fun z => absurd z hn, fun _ => ⟨k28, c_unlikePairs vS hd hd4 hq ⟨k28, c_unlikePairs vS hd hd4 hb ?_⟩⟩⟩
    simp only [nI_1, ↓reduceIte, Nat.reduceEqDiff, and_false, false_and, true_and, and_true, forall_eq, forall_eq', exists_eq_left, exists_eq_left', Option.some.injEq, eq_self_iff_true, not_true, not_false_iff, false_implies, true_implies, forall_const, reduceCtorEq, ne_eq]
    rw [← hK]
    refine ⟨fun z => ?_, fun z => ?_⟩
    · rw [if_pos z] at hx; exact hx
    · rw [if_neg z] at hx; exact hx
  have two : 3 ≤ d → ∀ l2 : Int32, l2 = 3 → ∃ n, wl_X2_partnerOfFirst_29 Q n S 28 16 l2 1 2 := fun h3 l2 e => by
    subst e
    refine ⟨3, stp _ 3 1 2 (by omega) (by omega) (by decide) ?_⟩
    refine stp _ 3 _ 3 (by by_cases c : K 1 ≤ K 2 <;> simp [c]) (by omega) (by decide) ?_
    refine ⟨fun _ => ?_, fun q => absurd (by decide) q⟩
    unfold pof at h
    rw [if_neg (show ¬ d < 3 by omega)] at h
    exact h
  have one : d < 3 → ∀ l2 : Int32, l2 < 2 → ∃ n, wl_X2_partnerOfFirst_29 Q n S 28 16 l2 1 2 := fun h3 l2 e => by
    refine ⟨1, fun _ => ?_, fun q => absurd e q⟩
    unfold pof at h
    rw [if_pos h3] at h
    exact h
  unfold wp_X2_partnerOfFirst wB_X2_partnerOfFirst_23
  simp only [vS.eqs, hd, d2m d (by omega), ↓reduceIte, Nat.reduceEqDiff, and_false, false_and, true_and, and_true, forall_eq, forall_eq', exists_eq_left, exists_eq_left', Option.some.injEq, eq_self_iff_true, not_true, not_false_iff, false_implies, true_implies, forall_const, reduceCtorEq, ne_eq]
  have dc : d = 0 ∨ d = 1 ∨ d = 2 ∨ d = 3 ∨ d = 4 := by omega
  rcases dc with e | e | e | e | e
  · subst e; exact ⟨fun _ => one (by omega) _ (by decide), fun q => absurd q (by decide)⟩
  · subst e; exact ⟨fun q => absurd (by decide) q, fun q => one (by omega) _ (by decide)⟩
  · subst e; exact ⟨fun _ => one (by omega) _ (by decide), fun q => absurd q (by decide)⟩
  · subst e; exact ⟨fun q => absurd (by decide) q, fun q => two (by omega) _ (by decide)⟩
  · subst e; exact ⟨fun _ => two (by omega) _ (by decide), fun q => absurd q (by decide)⟩
/-- who the partner of x is, when the first's is p -/
def prt (d p x : Nat) : Option Nat := if x = 0 then (if p < d then some p else none) else if x = p then some 0 else rb d p x
theorem c_partnerOf {Q : Int32 → hp → Prop} {S : hp} {d p x b0 : Nat} (vS : SL S 16) (hd : hI S 16 7 = nI d) (hd4 : d ≤ 4) (hp : p < 10) (hx : x < 10) (h : Q (enO (prt d p x)) S) : wp_X2_partnerOf Q S b0 16 (nI p) (nI x) := by
  unfold wp_X2_partnerOf
  unfold prt at h
  have q1 : (nI x = nI p) = (x = p) := propext (nI_eq (by omega) (by omega))
  simp only [vS.eqs, e_hasDummy vS.eqs.1, hd, nI_z (show x < 2147483648 by omega), q1, bI0, ↓reduceIte, Nat.reduceEqDiff, and_false, false_and, true_and, and_true, forall_eq, forall_eq', exists_eq_left, exists_eq_left', Option.some.injEq, eq_self_iff_true, not_true, not_false_iff, false_implies, true_implies, forall_const, reduceCtorEq, ne_eq]
  refine ⟨fun z => ⟨fun z2 => ?_, fun z2 => ?_⟩, fun z => ⟨fun z2 => ?_, fun z2 => ?_⟩⟩
  · rw [if_neg z, if_neg z2] at h; exact c_restBut vS hd hd4 hp hx h
  · rw [if_neg z, if_pos z2] at h; exact h
  · have : ¬ p < d := by rw [rc_f, nI_toInt (by omega), nI_toInt (by omega)] at z2; omega
    rw [if_pos z, if_neg this] at h; exact h
  · have : p < d := by
      have := rc_t.mp (show rc (nI p) (nI d) = true by simpa using z2)
      rw [nI_toInt (by omega), nI_toInt (by omega)] at this; omega
    rw [if_pos z, if_pos this] at h; exact h
theorem prt_dg : ∀ d, d < 5 → ∀ p, p < 4 → (p = 1 ∨ (3 ≤ d ∧ 2 ≤ p)) → ∀ x, x < d → prt d p x = (if dg d (codeT d p) x = 4 then none else some (dg d (codeT d p) x)) := by decide +kernel
theorem ro_code {d : Nat} (hd : d ≤ 4) (U : Nat → Nat → Int32) {k : Nat → Int32} (hk : ∀ c, k c = cs d (dg d c) U d) : ro (vld d) k (5 ^ d) = some (codeT d (pof d (uC d U))) ∧ k (codeT d (pof d (uC d U))) = uC d U (pof d (uC d U)) := by
  obtain ⟨c0, c1, c2, c31, c32, c33, c41, c42, c43⟩ := cs_eq U
  have dc : d = 0 ∨ d = 1 ∨ d = 2 ∨ d = 3 ∨ d = 4 := by omega
  rcases dc with e | e | e | e | e
  · subst e; exact ⟨ro_1 (a := 0) (by decide) v0, (hk 0).trans c0⟩
  · subst e; exact ⟨ro_1 (a := 4) (by decide) v1, (hk 4).trans c1⟩
  · subst e; exact ⟨ro_1 (a := 5) (by decide) vv2, (hk 5).trans c2⟩
  · subst e
    have k1 : k 29 = uC 3 U 1 := (hk 29).trans c31
    have k2 : k 70 = uC 3 U 2 := (hk 70).trans c32
    have k3 : k 111 = uC 3 U 3 := (hk 111).trans c33
    have r := ro_3 (v := vld 3) (k := k) (a := 29) (b := 70) (c := 111) (n := 125) (by omega) (by omega) (by omega) vv3
    rw [show 5 ^ 3 = 125 by decide, r]
    unfold pof codeT
    rw [if_neg (show ¬ 3 < 3 by omega)]
    by_cases q1 : uC 3 U 1 ≤ uC 3 U 2
    · simp only [k1, k2, k3, if_pos q1]
      by_cases q2 : uC 3 U 1 ≤ uC 3 U 3
      · simp [q2, k1]
      · simp [q2, k3]
    · simp only [k1, k2, k3, if_neg q1]
      by_cases q2 : uC 3 U 2 ≤ uC 3 U 3
      · simp [q2, k2]
      · simp [q2, k3]
  · subst e
    have k1 : k 142 = uC 4 U 1 := (hk 142).trans c41
    have k2 : k 326 = uC 4 U 2 := (hk 326).trans c42
    have k3 : k 430 = uC 4 U 3 := (hk 430).trans c43
    have r := ro_3 (v := vld 4) (k := k) (a := 142) (b := 326) (c := 430) (n := 625) (by omega) (by omega) (by omega) vv4
    rw [show 5 ^ 4 = 625 by decide, r]
    unfold pof codeT
    rw [if_neg (show ¬ 4 < 3 by omega)]
    by_cases q1 : uC 4 U 1 ≤ uC 4 U 2
    · simp only [k1, k2, k3, if_pos q1]
      by_cases q2 : uC 4 U 1 ≤ uC 4 U 3
      · simp [q2, k1]
      · simp [q2, k3]
    · simp only [k1, k2, k3, if_neg q1]
      by_cases q2 : uC 4 U 2 ≤ uC 4 U 3
      · simp [q2, k2]
      · simp [q2, k3]
theorem Rel.putT {S : hp} (h : Rel S) (g h2 : Nat → Int32) : Rel (tw S g h2) := by
  have hL := h.1
  have hf : Fr (fun b => b = 47 ∨ b = 48) S (tw S g h2) := (Fr.rfl'.putA (Or.inl rfl)).putA (Or.inr rfl)
  have q : ∀ b, b ≠ 47 → b ≠ 48 → hI (tw S g h2) b = hI S b := fun b hb hb2 => by
    show hI (putA (putA S 47 g) 48 h2) b = _
    rw [hI_putA_ne hb2, hI_putA_ne hb]
  refine h.low hf (fun b hb => by omega) (hL.fr hf (fun b _ _ => rfl)) (h.2.1.fr ⟨q 13 (by decide) (by decide), q 36 (by decide) (by decide), q 11 (by decide) (by decide), q 12 (by decide) (by decide), q 37 (by decide) (by decide), q 38 (by decide) (by decide), fun r hr => q (3 + r) (by omega) (by omega)⟩) (h.2.2.1.fr ⟨by rw [q 14 (by decide) (by decide)], by rw [q 35 (by decide) (by decide)], q 15 (by decide) (by decide), q 42 (by decide) (by decide)⟩) ⟨by rw [q 35 (by decide) (by decide), q 0 (by decide) (by decide)]; exact h.2.2.2.1.1, by rw [q 35 (by decide) (by decide), q 0 (by decide) (by decide)]; exact h.2.2.2.1.2⟩ (vec_same (q 39 (by decide) (by decide))) ⟨q 44 (by decide) (by decide), q 45 (by decide) (by decide), rfl⟩ ⟨by rw [q 0 (by decide) (by decide)], by rw [q 35 (by decide) (by decide)], by rw [q 0 (by decide) (by decide)], q 41 (by decide) (by decide), rfl⟩ (h.2.2.2.2.2.2.2.2.2.fr ⟨by rw [q 31 (by decide) (by decide)], by rw [q 35 (by decide) (by decide)], q 32 (by decide) (by decide), q 49 (by decide) (by decide)⟩)
theorem p_twins : st_twins Rel := by
  intro S h x1
  obtain ⟨d, m, l, ⟨hd, hm, hl⟩, v2, v3, v4, v5, v6, v7, v8, vS⟩ := h.view
  refine ⟨h.1.eqs.1, ?_⟩
  obtain ⟨Q, hQ⟩ : ∃ Q : Int32 → hp → Prop, Q = fun (r : Int32) (S1 : hp) => hK S1 35 = 11 ∧ wp_X12_twins (fun r2 S2 => r = r2 ∧ Rel S2) S1 35 x1 := ⟨_, rfl⟩
  rw [← hQ]
  have x39 : hI (setI S 35 0 0) 39 = hI S 39 := hI_setI_ne (by decide)
  unfold wp_X11_twins wB_X11_twins_32
  simp only [h.1.eqs, v2, e_hasDummy vS.eqs.1, bI0, ↓reduceIte, Nat.reduceEqDiff, and_false, false_and, true_and, and_true, forall_eq, forall_eq', exists_eq_left, exists_eq_left', Option.some.injEq, eq_self_iff_true, not_true, not_false_iff, false_implies, true_implies, forall_const, reduceCtorEq, ne_eq]
  rcases v3 with ⟨s0, -⟩ | ⟨s1, -⟩
  · simp only [s0, ↓reduceIte, Nat.reduceEqDiff, and_false, false_and, true_and, and_true, forall_eq, forall_eq', exists_eq_left, exists_eq_left', Option.some.injEq, eq_self_iff_true, not_true, not_false_iff, false_implies, true_implies, forall_const, reduceCtorEq, ne_eq]
    simp only [hQ, wp_X12_twins, h.1.eqs, e_isThereM (lay0 h.1), bI0, hI_setI, s0, show ((0 : Int32) = 1) = False from eq_false (by decide), decide_false, hK_putA, hN_putA, hR_putA, hC_putA, hK_setI, hN_setI, hR_setI, hC_setI, hI_setI, hK_setR, hN_setR, hI_setR, hC_setR, hR_setR, hK_cpyI, hN_cpyI, hR_cpyI, hC_cpyI, hI_cpyI, ↓reduceIte, Nat.reduceEqDiff, and_false, false_and, true_and, and_true, forall_eq, forall_eq', exists_eq_left, exists_eq_left', Option.some.injEq, eq_self_iff_true, not_true, not_false_iff, false_implies, true_implies, forall_const, reduceCtorEq, ne_eq]
    exact h.thr 0
  · simp only [s1, i1_ne0, ↓reduceIte, Nat.reduceEqDiff, and_false, false_and, true_and, and_true, forall_eq, forall_eq', exists_eq_left, exists_eq_left', Option.some.injEq, eq_self_iff_true, not_true, not_false_iff, false_implies, true_implies, forall_const, reduceCtorEq, ne_eq]
    have td : (nI d - 1).toInt = (d : Int) - 1 := by
      have e1 : (1 : Int32).toInt = 1 := rfl
      rw [t_sub (by rw [nI_toInt (by omega), e1]; omega), nI_toInt (by omega), e1]
    obtain ⟨U, hU⟩ : ∃ U, U = unl (fun k => hI S 39 (5 + k)) := ⟨_, rfl⟩
    have eU : uC d (unl (hI S 17)) = uC d U := by
      funext p
      have e : ∀ i j, i < d → j < d → unl (hI S 17) i j = U i j := fun i j hi hj => by
        rw [hU]; unfold unl
        refine sm_congr (fun p hp => ?_)
        show ab (hI S 17 (3 * i + p) - hI S 17 (3 * j + p)) = ab (hI S 39 (5 + (3 * i + p)) - hI S 39 (5 + (3 * j + p)))
        rw [(v4 (3 * i + p) (by omega)).1, (v4 (3 * j + p) (by omega)).1]
      have e2 : ∀ o1 o2, uo d (unl (hI S 17)) o1 o2 = uo d U o1 o2 := fun o1 o2 => by
        cases o1 with
        | none => cases o2 <;> rfl
        | some i => cases o2 with
          | none => rfl
          | some j =>
            show (if i < d ∧ j < d then _ else (0 : Int32)) = (if i < d ∧ j < d then _ else 0)
            by_cases c : i < d ∧ j < d
            · rw [if_pos c, if_pos c, e i j c.1 c.2]
            · rw [if_neg c, if_neg c]
      unfold uC; rw [e2, e2]
    obtain ⟨pp, hpp⟩ : ∃ pp, pp = pof d (uC d U) := ⟨_, rfl⟩
    have hpr := pof_rg d (uC d U)
    rw [← hpp] at hpr
    have W : ∀ v, (x1 = -1 → v = uC d U pp) → (∀ x, x < d → x1 = nI x → v = enO (prt d pp x)) → (x1 = -1 ∨ ∃ x, x < d ∧ x1 = nI x) → Q v S := by
      intro v g0 g1 g2
      have hr : rg x1 (-1) ((d : Int) - 1) = true := by
        rcases g2 with q | ⟨x, hx, q⟩
        · rw [q, rg_t]; have : (-1 : Int32).toInt = -1 := rfl; omega
        · rw [q, rg_t, nI_toInt (by omega)]; omega
      simp only [hQ, wp_X12_twins, h.1.eqs, e_isThereM (lay0 h.1), e_in, l64_0, l64_1, l64_2, l64_5, l64_6, l64_7, l64_m1, l64_99, l64_m99, l64_255, l64_999, l64_m999, l64_297, l64_200, l64_m200, l64_97, l64_122, l64_48, l64_57, Int32.toInt_toInt64, bI0, hI_setI, s1, vi2, cl2, v2, td, hr, decide_true, Bool.true_eq_false, hK_putA, hN_putA, hR_putA, hC_putA, hK_setI, hN_setI, hR_setI, hC_setI, hI_setI, hK_setR, hN_setR, hI_setR, hC_setR, hR_setR, hK_cpyI, hN_cpyI, hR_cpyI, hC_cpyI, hI_cpyI, ↓reduceIte, Nat.reduceEqDiff, and_false, false_and, true_and, and_true, forall_eq, forall_eq', exists_eq_left, exists_eq_left', Option.some.injEq, eq_self_iff_true, not_true, not_false_iff, false_implies, true_implies, forall_const, reduceCtorEq, ne_eq]
      obtain ⟨r1, r2⟩ := ro_code hd U (k := fun c => cs d (dg d c) U d) (fun _ => rfl)
      refine c_layTwins (S := setI S 35 0 0) (lay0 h.1) hd (by rw [x39]; exact v2.1) (k := fun c => cs d (dg d c) U d) (b := codeT d pp) (fun c => by rw [x39, hU]) (fun c _ _ => ?_) (by rw [hpp]; exact r1) (fun g hh hg => ?_)
      · rw [hU]
        exact ne_none (cs_rg hd (fun k hk => (v7 k hk).1) d (Nat.le_refl _)).1
      · have RT := (h.thr 0).putT g hh
        have kT : hK (tw (setI S 35 0 0) g hh) = hK S := rfl
        have nT : hN (tw (setI S 35 0 0) g hh) = hN S := rfl
        have rT : hR (tw (setI S 35 0 0) g hh) = hR S := rfl
        simp only [h.1.eqs, kT, nT, rT, hI_tw, ↓reduceIte, Nat.reduceEqDiff, and_false, false_and, true_and, and_true, forall_eq, forall_eq', exists_eq_left, exists_eq_left', Option.some.injEq, eq_self_iff_true, not_true, not_false_iff, false_implies, true_implies, forall_const, reduceCtorEq, ne_eq]
        rcases g2 with q | ⟨x, hx, q⟩
        · refine ⟨fun z => absurd z (by rw [q]; decide), fun _ => ⟨?_, RT⟩⟩
          rw [g0 q, hpp]; exact r2.symm
        · refine ⟨fun _ => ?_, fun z => absurd (by rw [q, t_le, nI_toInt (by omega)]; show (0 : Int) ≤ _; omega) z⟩
          have hv := g1 x hx q
          have hd2 := prt_dg d (by omega) pp (by omega) (by omega) x hx
          have l5 := dg_lt d (codeT d pp) x
          rw [q]
          simp only [show vp_in (nI x) 4 from vp_in_nI (by omega) (by omega), nI_clamp (show x < 2 ^ 31 by omega), hg x hx, ↓reduceIte, Nat.reduceEqDiff, and_false, false_and, true_and, and_true, forall_eq, forall_eq', exists_eq_left, exists_eq_left', Option.some.injEq, eq_self_iff_true, not_true, not_false_iff, false_implies, true_implies, forall_const, reduceCtorEq, ne_eq]
          have q4 : (nI (dg d (codeT d pp) x) = (4 : Int32)) = (dg d (codeT d pp) x = 4) := propext ⟨fun q => (nI_eq (a := dg d (codeT d pp) x) (b := 4) (by omega) (by omega)).mp q, fun q => by rw [q]; rfl⟩
          rw [q4]
          refine ⟨fun z => ⟨?_, RT⟩, fun z => ⟨?_, RT⟩⟩
          · rw [hv, hd2, if_neg z]; rfl
          · rw [hv, hd2, if_pos z]; rfl
    refine ⟨fun q => c_partnerOfFirst h.1 vS v2.2.2.2.2.2.1 hd ?_, fun q => ⟨fun q2 => c_partnerOfFirst h.1 vS v2.2.2.2.2.2.1 hd ?_, fun q2 => ?_⟩⟩
    · simp only [h.1.eqs, ↓reduceIte, Nat.reduceEqDiff, and_false, false_and, true_and, and_true, forall_eq, forall_eq', exists_eq_left, exists_eq_left', Option.some.injEq, eq_self_iff_true, not_true, not_false_iff, false_implies, true_implies, forall_const, reduceCtorEq, ne_eq]
      rw [eU, ← hpp]
      refine ⟨fun z => absurd q z, fun _ => c_unlikePairs vS v2.2.2.2.2.2.1 hd (by omega) ?_⟩
      rw [eU]
      exact W _ (fun _ => rfl) (fun x hx e => absurd (q.symm.trans e) (fun y => by
        have y2 := congrArg Int32.toInt y
        rw [nI_toInt (by omega)] at y2
        have : (-1 : Int32).toInt = -1 := rfl
        omega)) (Or.inl q)
    · have hb : rc x1 (nI d) = true := by simpa using q2
      obtain ⟨x, hx, e⟩ := rc_nat (by omega) hb
      simp only [h.1.eqs, ↓reduceIte, Nat.reduceEqDiff, and_false, false_and, true_and, and_true, forall_eq, forall_eq', exists_eq_left, exists_eq_left', Option.some.injEq, eq_self_iff_true, not_true, not_false_iff, false_implies, true_implies, forall_const, reduceCtorEq, ne_eq]
      rw [eU, ← hpp]
      refine ⟨fun _ => ?_, fun z => absurd z q⟩
      rw [e]
      refine c_partnerOf vS v2.2.2.2.2.2.1 hd (by omega) (by omega) ?_
      refine W _ (fun z => absurd z q) (fun x' hx' e' => ?_) (Or.inr ⟨x, hx, e⟩)
      have := (nI_eq (a := x) (b := x') (by omega) (by omega)).mp (e.symm.trans e')
      rw [this]
    · have hb := rc_f.mp q2
      have hr : rg x1 (-1) ((d : Int) - 1) = false := by
        rw [rg_f]
        rw [nI_toInt (by omega)] at hb
        rcases hb with y | y
        · refine Or.inl ?_
          have : ¬ x1.toInt = -1 := fun z => q (Int32.toInt_inj.mp z)
          omega
        · exact Or.inr (by omega)
      simp only [hQ, wp_X12_twins, h.1.eqs, e_isThereM (lay0 h.1), e_in, l64_0, l64_1, l64_2, l64_5, l64_6, l64_7, l64_m1, l64_99, l64_m99, l64_255, l64_999, l64_m999, l64_297, l64_200, l64_m200, l64_97, l64_122, l64_48, l64_57, Int32.toInt_toInt64, bI0, hI_setI, s1, vi2, cl2, v2, td, hr, decide_true, Bool.true_eq_false, hK_putA, hN_putA, hR_putA, hC_putA, hK_setI, hN_setI, hR_setI, hC_setI, hI_setI, hK_setR, hN_setR, hI_setR, hC_setR, hR_setR, hK_cpyI, hN_cpyI, hR_cpyI, hC_cpyI, hI_cpyI, ↓reduceIte, Nat.reduceEqDiff, and_false, false_and, true_and, and_true, forall_eq, forall_eq', exists_eq_left, exists_eq_left', Option.some.injEq, eq_self_iff_true, not_true, not_false_iff, false_implies, true_implies, forall_const, reduceCtorEq, ne_eq]
      exact h.thr 0
