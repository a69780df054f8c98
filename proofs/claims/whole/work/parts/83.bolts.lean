theorem mnI : ∀ D, D < 16 → ∀ s, s < 16 → nI D &&& (nI s ^^^ (-1 : Int32)) = nI (mn D s) := by decide +kernel
theorem mn_le (D s : Nat) : mn D s ≤ D := Nat.sub_le _ _
theorem sb_mn (s D : Nat) : (sb s D = true) = (mn s D = 0) := by unfold sb mn; rw [decide_eq_true_eq]
theorem c_strips30 {Q : Int32 → hp → Prop} {S : hp} {g : Nat → Int32} {d pl D : Nat} (vS : SL S 16) (hd : hI S 16 7 = nI d) (hd4 : d ≤ 4) (hp : pl < 3) (hA : ∀ k, k < 3 * d → bd (hI S 17 k)) (hD : D < 16) (h : Q (nI (ns (Wf (hI S 17) d pl) (hb D))) (putA S 30 g)) : wp_X2_stripsOf Q (putA S 30 g) 16 (nI pl) (nI D) := by
  have e : hI (putA S 30 g) 17 = hI S 17 := hI_putA_ne (by decide)
  refine c_stripsOf (S := putA S 30 g) vS (by rw [hI_putA_ne (by decide)]; exact hd) hd4 hp (by rw [e]; exact hA) hD ?_
  rw [e]; exact h
theorem sh4 : ∀ d, d < 5 → (1 : Int32) <<< (nI d &&& 31) - (1 : Int32) = nI (2 ^ d - 1) := by decide +kernel
theorem nI_ltn {a b : Nat} (ha : a < 2147483648) (hb : b < 2147483648) : (nI a < nI b) = (a < b) := by
  rw [t_lt, nI_toInt ha, nI_toInt hb]; apply propext; omega
theorem isL_lt {W : Nat → Nat} {b D : Nat} {o : Option Nat} (h : isL W b D o) (hD : D < 16) : ∀ k, o = some k → k < 100 := fun k e => by
  subst e
  have := h.2.2
  omega
theorem isN_lt {W : Nat → Nat} {b D n : Nat} {o : Option Nat} (h : isN W b D n o) (hD : D < 16) : ∀ k, o = some k → k < 100 := fun k e => by
  subst e
  have := h.2.2
  omega
theorem c_fewestBolts {Q : Int32 → hp → Prop} {S : hp} {d pl b : Nat} (hL : Lay S) (vS : SL S 16) (hd : hI S 16 7 = nI d) (hd4 : d ≤ 4) (hp : pl < 3) (hA : ∀ k, k < 3 * d → bd (hI S 17 k)) (hb200 : b ≤ 200) (h : ∀ g o, isL (Wf (hI S 17) d pl) b (2 ^ d - 1) o → Q (enO o) (putA S 30 g)) : wp_X2_fewestBolts Q S 28 16 (nI pl) (nI b) := by
  obtain ⟨W, hW⟩ : ∃ W, W = Wf (hI S 17) d pl := ⟨_, rfl⟩
  rw [← hW] at h
  have hW9 : ∀ i, W i ≤ 999 := fun i => by rw [hW]; exact Wf_le hd4 hp hA i
  have hns : ∀ p, ns W p ≤ 3996 := fun p => by rw [← nsu_4]; exact nsu_le hW9 4
  have h16 : 2 ^ d ≤ 16 := Nat.pow_le_pow_right (n := 2) (by omega) hd4
  have kP : ∀ g, hK (putA S 30 g) = hK S := fun g => rfl
  have nP : ∀ g, hN (putA S 30 g) = hN S := fun g => rfl
  have rP : ∀ g, hR (putA S 30 g) = hR S := fun g => rfl
  have main : ∀ t D g, D + t = 2 ^ d → 0 < D → (∀ D', D' < D → ∃ o, isL W b D' o ∧ g D' = enO o) → wl_X2_fewestBolts_20 Q (t + 1) (putA S 30 g) 28 16 (nI pl) (nI b) (nI (2 ^ d - 1)) (nI D) := by
    intro t
    induction t with
    | zero =>
      intro D g hD h0 hg
      unfold wl_X2_fewestBolts_20 wB_X2_fewestBolts_20
      simp only [hL.eqs, kP, nP, rP, hI_putA_s, nI_ltn (show 2 ^ d - 1 < 2147483648 by omega) (show D < 2147483648 by omega), show vp_in (nI (2 ^ d - 1)) 16 from vp_in_nI (by omega) (by omega), nI_clamp (show 2 ^ d - 1 < 2 ^ 31 by omega), ↓reduceIte, Nat.reduceEqDiff, and_false, false_and, true_and, and_true, forall_eq, forall_eq', exists_eq_left, exists_eq_left', Option.some.injEq, eq_self_iff_true, not_true, not_false_iff, false_implies, true_implies, forall_const, reduceCtorEq, ne_eq]
      refine ⟨fun _ => ?_, fun q => absurd (by omega) q⟩
      obtain ⟨o, o1, o2⟩ := hg (2 ^ d - 1) (by omega)
      rw [o2]
      exact h g o o1
    | succ t ih =>
      intro D g hD h0 hg
      have hD16 : D < 16 := by omega
      have inner : ∀ u s o, s + u = D + 1 → 0 < s → isN W b D s o → wl_X2_fewestBolts_53 (wl_X2_fewestBolts_20 Q (t + 1)) Q (u + 1) (putA S 30 (fun i => if i = D then enO o else g i)) 28 16 (nI pl) (nI b) (nI (2 ^ d - 1)) (nI D) (nI s) := by
        intro u
        induction u with
        | zero =>
          intro s o hs h0s ho
          have : s = D + 1 := by omega
          subst this
          unfold wl_X2_fewestBolts_53 wB_X2_fewestBolts_53
          simp only [nI_ltn (show D < 2147483648 by omega) (show D + 1 < 2147483648 by omega), nI_1, ↓reduceIte, Nat.reduceEqDiff, and_false, false_and, true_and, and_true, forall_eq, forall_eq', exists_eq_left, exists_eq_left', Option.some.injEq, eq_self_iff_true, not_true, not_false_iff, false_implies, true_implies, forall_const, reduceCtorEq, ne_eq]
          refine ⟨fun _ => ih (D + 1) _ (by omega) (by omega) (fun D' hD' => ?_), fun q => absurd (by omega) q⟩
          by_cases c : D' = D
          · subst c; exact ⟨o, isN_L hD16 ho, if_pos rfl⟩
          · obtain ⟨o', q1, q2⟩ := hg D' (by omega)
            exact ⟨o', q1, by rw [if_neg c]; exact q2⟩
        | succ u ihu =>
          intro s o hs h0s ho
          have hs16 : s < 16 := by omega
          have nx := ihu (s + 1)
          have ml := mn_le D s
          have ml2 := mn_le s D
          unfold wl_X2_fewestBolts_53 wB_X2_fewestBolts_53 wB_X2_fewestBolts_123
          simp only [hL.eqs, kP, nP, rP, hI_putA_s, nI_ltn (show D < 2147483648 by omega) (show s < 2147483648 by omega), mnI D hD16 s hs16, mnI s hs16 D hD16, show vp_in (nI (mn D s)) 16 from vp_in_nI (by omega) (by omega), nI_clamp (show mn D s < 2 ^ 31 by omega), nI_z (show mn s D < 2147483648 by omega), nI_1, ↓reduceIte, Nat.reduceEqDiff, and_false, false_and, true_and, and_true, forall_eq, forall_eq', exists_eq_left, exists_eq_left', Option.some.injEq, eq_self_iff_true, not_true, not_false_iff, false_implies, true_implies, forall_const, reduceCtorEq, ne_eq]
          refine ⟨fun q => absurd q (by omega), fun _ => ⟨fun z => ?_, fun z => ?_⟩⟩
          · exact nx o (by omega) (by omega) (isN_skip ho (fun y => z (by rw [← sb_mn]; exact y.2.1)))
          · have hsb : sb s D = true := by rw [sb_mn]; exact z
            have hlt := mn_lt D hD16 s hs16 h0s hsb
            obtain ⟨o', p1, p2⟩ := hg (mn D s) hlt
            rw [if_neg (show ¬ mn D s = D by omega), p2, enO_none (isL_lt p1 (by omega))]
            refine ⟨fun y => ?_, fun y => c_strips30 vS hd hd4 hp hA hs16 ?_⟩
            · refine nx o (by omega) (by omega) (isN_skip ho (fun ⟨_, _, _, j, hj⟩ => ?_))
              subst y
              exact p1 j hj
            · rw [← hW]
              have hn := hns (hb s)
              rw [nI_ltn (by omega) (by omega)]
              refine ⟨fun y2 => nx o (by omega) (by omega) (isN_skip ho (fun y3 => by have := y3.2.2.1; omega)), fun y2 => ?_⟩
              cases o' with
              | none => exact absurd rfl y
              | some m =>
                have hm100 := isL_lt p1 (by omega) m rfl
                have add := isN_add hD16 hs16 ho h0s hsb (by omega) p1
                have nx2 := nx _ (by omega) (by omega) add
                simp only [hL.eqs, kP, nP, rP, show vp_in (nI D) 16 from vp_in_nI (by omega) (by omega), nI_clamp (show D < 2 ^ 31 by omega), ↓reduceIte, Nat.reduceEqDiff, and_false, false_and, true_and, and_true, forall_eq, forall_eq', exists_eq_left, exists_eq_left', Option.some.injEq, eq_self_iff_true, not_true, not_false_iff, false_implies, true_implies, forall_const, reduceCtorEq, ne_eq]
                unfold wp_X2_fewer
                simp only [hL.eqs, kP, nP, rP, hI_putA_s, show vp_in (nI D) 16 from vp_in_nI (by omega) (by omega), nI_clamp (show D < 2 ^ 31 by omega), enO_none (isN_lt ho hD16), setI_putA, ↓reduceIte, Nat.reduceEqDiff, and_false, false_and, true_and, and_true, forall_eq, forall_eq', exists_eq_left, exists_eq_left', Option.some.injEq, eq_self_iff_true, not_true, not_false_iff, false_implies, true_implies, forall_const, reduceCtorEq, ne_eq]
                have sg : ∀ v, v = enO (nxt o (some m)) → (fun i => if i = D then v else if i = D then enO o else g i) = (fun i => if i = D then enO (nxt o (some m)) else g i) := fun v hv => by
                  funext i
                  by_cases c : i = D
                  · rw [if_pos c, if_pos c, hv]
                  · rw [if_neg c, if_neg c, if_neg c]
                have em : enO (some m) + 1 = nI (m + 1) := nI_1 m
                rw [em]
                refine ⟨fun w => ?_, fun w => ?_⟩
                · rw [sg _ ?_]
                  · exact nx2
                  · cases o with
                    | none => exact absurd rfl w
                    | some k0 =>
                      have hk := isN_lt ho hD16 k0 rfl
                      show (if nI (m + 1) < nI k0 then nI (m + 1) else nI k0) = enO (if m + 1 < k0 then some (m + 1) else some k0)
                      have el := nI_ltn (a := m + 1) (b := k0) (by omega) (by omega)
                      by_cases c : m + 1 < k0
                      · rw [if_pos (show nI (m + 1) < nI k0 by rw [el]; exact c), if_pos c]; rfl
                      · rw [if_neg (show ¬ nI (m + 1) < nI k0 by rw [el]; exact c), if_neg c]; rfl
                · rw [sg _ ?_]
                  · exact nx2
                  · subst w; rfl
      unfold wl_X2_fewestBolts_20 wB_X2_fewestBolts_20
      simp only [hL.eqs, kP, nP, rP, nI_ltn (show 2 ^ d - 1 < 2147483648 by omega) (show D < 2147483648 by omega), ↓reduceIte, Nat.reduceEqDiff, and_false, false_and, true_and, and_true, forall_eq, forall_eq', exists_eq_left, exists_eq_left', Option.some.injEq, eq_self_iff_true, not_true, not_false_iff, false_implies, true_implies, forall_const, reduceCtorEq, ne_eq]
      refine ⟨fun q => absurd q (by omega), fun _ => c_strips30 vS hd hd4 hp hA hD16 ?_⟩
      rw [← hW]
      have hn := hns (hb D)
      have st := inner D 1 _ (by omega) (by omega) (isN_0 (W := W) (b := b) (D := D))
      unfold wB_X2_fewestBolts_49
      simp only [hL.eqs, kP, nP, rP, show vp_in (nI D) 16 from vp_in_nI (by omega) (by omega), nI_clamp (show D < 2 ^ 31 by omega), nI_z (show ns W (hb D) < 2147483648 by omega), setI_putA, ↓reduceIte, Nat.reduceEqDiff, and_false, false_and, true_and, and_true, forall_eq, forall_eq', exists_eq_left, exists_eq_left', Option.some.injEq, eq_self_iff_true, not_true, not_false_iff, false_implies, true_implies, forall_const, reduceCtorEq, ne_eq]
      refine ⟨fun z => ⟨D + 1, ?_⟩, fun z => ⟨D + 1, ?_⟩⟩
      · rw [if_neg z] at st; exact st
      · rw [if_pos z] at st; exact st
  unfold wp_X2_fewestBolts
  simp only [hL.eqs, vS.eqs, hd, sh4 d (by omega), show vp_in (0 : Int32) 16 from vp_in_nI (n := 0) (by omega) (by omega), show ((0 : Int32)).toNatClampNeg = 0 from rfl, setI_asA, ↓reduceIte, Nat.reduceEqDiff, and_false, false_and, true_and, and_true, forall_eq, forall_eq', exists_eq_left, exists_eq_left', Option.some.injEq, eq_self_iff_true, not_true, not_false_iff, false_implies, true_implies, forall_const, reduceCtorEq, ne_eq]
  refine ⟨_, main (2 ^ d - 1) 1 _ (by have := Nat.two_pow_pos d; omega) (by omega) (fun D' hD' => ⟨some 0, ⟨?_, fun j hj => by omega, by omega⟩, ?_⟩)⟩
  · have : D' = 0 := by omega
    subst this
    show decide (ns W (hb 0) = 0) = true
    rfl
  · have : D' = 0 := by omega
    subst this
    rfl
