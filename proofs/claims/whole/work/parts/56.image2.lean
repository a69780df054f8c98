theorem offA {S : hp} {a x : Nat} {R : Nat → Prop} (hL : Lay S) (hx : SL S x) (hxa : x ≠ a) (ha : SL S a ∨ hC S ≤ a) (hlow : ∀ b, R b → b < 50 ∧ (b < x ∨ x + 5 < b)) : Off S x (fun b => (a ≤ b ∧ b ≤ a + 5) ∨ R b) := by
  intro b hb h
  rcases h with h | h
  · rcases ha with ha | ha
    · have dis := ha.dis hx hxa
      refine ⟨by omega, fun hm => ?_⟩
      have := ha.nom b hb hm
      omega
    · omega
  · obtain ⟨h5, h6⟩ := hlow b h
    exact (Off.low16 (a := x) (P := R) hL hlow) b hb h
theorem p_image : st_image Rel := by
  intro S h x1
  have hh := h
  obtain ⟨hL, h1, h2, h3, h4, h5, h6, h7, h8, h9⟩ := hh
  obtain ⟨d, m, l, ⟨hd, hm, hl⟩, v2, v3, -, -, -, -, -, -⟩ := h.view
  refine ⟨h.1.eqs.1, ?_⟩
  obtain ⟨Q, hQ⟩ : ∃ Q : Int32 → hp → Prop, Q = fun (r : Int32) (S1 : hp) => hK S1 35 = 11 ∧ wp_X12_image (fun r2 S2 => r = r2 ∧ Rel S2) S1 35 x1 := ⟨_, rfl⟩
  rw [← hQ]
  unfold wp_X11_image
  simp only [e_isImage, bI0]
  cases hb : rg x1 0 1 with
  | false =>
    simp only [↓reduceIte, Nat.reduceEqDiff, and_false, false_and, true_and, and_true, forall_eq, forall_eq', exists_eq_left, exists_eq_left', Option.some.injEq, eq_self_iff_true, not_true, not_false_iff, false_implies, true_implies, forall_const, reduceCtorEq, ne_eq]
    simp only [hQ, wp_X12_image, h.1.eqs, e_in, l64_0, l64_1, l64_2, l64_5, l64_6, l64_7, l64_m1, l64_99, l64_m99, l64_255, l64_999, l64_m999, l64_297, l64_200, l64_m200, l64_97, l64_122, l64_48, l64_57, Int32.toInt_toInt64, hb, bI_f, hK_putA, hN_putA, hR_putA, hC_putA, hK_setI, hN_setI, hR_setI, hC_setI, hI_setI, hK_setR, hN_setR, hI_setR, hC_setR, hR_setR, hK_cpyI, hN_cpyI, hR_cpyI, hC_cpyI, hI_cpyI, ↓reduceIte, Nat.reduceEqDiff, and_false, false_and, true_and, and_true, forall_eq, forall_eq', exists_eq_left, exists_eq_left', Option.some.injEq, eq_self_iff_true, not_true, not_false_iff, false_implies, true_implies, forall_const, reduceCtorEq, ne_eq]
    simpa using h.thr 0
  | true =>
    obtain ⟨k, hk, hk2, rfl⟩ := rg_nat hb
    have hk' : k < 2 := by omega
    have hv : vp_in (nI k) 2 := vp_in_nI hk' (by omega)
    have hc : (nI k).toNatClampNeg = k := nI_clamp (by omega)
    simp only [h.1.eqs, v2, hv, hc, Bool.true_eq_false, ↓reduceIte, Nat.reduceEqDiff, and_false, false_and, true_and, and_true, forall_eq, forall_eq', exists_eq_left, exists_eq_left', Option.some.injEq, eq_self_iff_true, not_true, not_false_iff, false_implies, true_implies, forall_const, reduceCtorEq, ne_eq]
    rcases v3 with ⟨s0, -⟩ | ⟨s1, -⟩
    · simp only [s0, ↓reduceIte, Nat.reduceEqDiff, and_false, false_and, true_and, and_true, forall_eq, forall_eq', exists_eq_left, exists_eq_left', Option.some.injEq, eq_self_iff_true, not_true, not_false_iff, false_implies, true_implies, forall_const, reduceCtorEq, ne_eq]
      simp only [hQ, wp_X12_image, h.1.eqs, e_in, e_isThereM (lay0 h.1), l64_0, l64_1, l64_2, l64_5, l64_6, l64_7, l64_m1, l64_99, l64_m99, l64_255, l64_999, l64_m999, l64_297, l64_200, l64_m200, l64_97, l64_122, l64_48, l64_57, Int32.toInt_toInt64, hb, bI_t, i1_ne0, hI_setI, s0, show ((0 : Int32) = 1) = False from eq_false (by decide), decide_false, bI_f, hK_putA, hN_putA, hR_putA, hC_putA, hK_setI, hN_setI, hR_setI, hC_setI, hI_setI, hK_setR, hN_setR, hI_setR, hC_setR, hR_setR, hK_cpyI, hN_cpyI, hR_cpyI, hC_cpyI, hI_cpyI, ↓reduceIte, Nat.reduceEqDiff, and_false, false_and, true_and, and_true, forall_eq, forall_eq', exists_eq_left, exists_eq_left', Option.some.injEq, eq_self_iff_true, not_true, not_false_iff, false_implies, true_implies, forall_const, reduceCtorEq, ne_eq]
      exact h.thr 0
    · simp only [s1, i1_ne0, ↓reduceIte, Nat.reduceEqDiff, and_false, false_and, true_and, and_true, forall_eq, forall_eq', exists_eq_left, exists_eq_left', Option.some.injEq, eq_self_iff_true, not_true, not_false_iff, false_implies, true_implies, forall_const, reduceCtorEq, ne_eq]
      have ho : ∀ a, hR S 33 k = some a → SL S a ∧ 50 ≤ a := fun a ha => by
        rcases h6.at hk' with ⟨_, g2⟩ | ⟨_, a', g2, g3, g4⟩
        · rw [g2] at ha; cases ha
        · rw [g2] at ha; cases ha; exact ⟨g4.1, g3⟩
      have W : ∀ (o : Option Nat), hR S 33 k = o → ∀ a S', (o = some a ∨ (o = none ∧ a = hC S)) → 50 ≤ a → (∀ P, (∀ b, a ≤ b ∧ b ≤ a + 5 → P b) → Fr P S S') → (∀ b, isO b → hR S' b = hR S b) → RSt S' a (vec S 39 0) → hK S' 33 = 15 ∧ vp_in (nI k) (hN S' 33) ∧ hK S' a = 7 ∧ Q 1 (setR S' 33 k (some a)) := by
        intro o ho2 a S' ha a50 hF hO hR1
        have F := hF _ (fun b hb => hb)
        have low : ∀ b, b < 50 → hI S' b = hI S b ∧ hR S' b = hR S b := fun b hb => F.2.2 b (Nat.lt_of_lt_of_le hb hL.2.2) (by omega)
        have hL' : Lay S' := hL.fr2 F hO
        have sa : SL S a ∨ hC S ≤ a := ha.elim (fun q => Or.inl (ho a (ho2.trans q)).1) (fun q => Or.inr (by omega))
        refine ⟨hL'.eqs.2.2.2.2.2.2.2.2.2.2.2.2.2.2.2.2.2.2.2.2.2.2.2.2.2.2.2.2.2.2.2.2.2.1, by rw [(hL'.1 33 (by decide)).2]; exact hv, hR1.1.eqs.1, ?_⟩
        have hLr : Lay (setR S' 33 k (some a)) := hL'.fr2 (P := fun b => b = 33) (Fr.rfl'.setR rfl) (fun b hb => hR_setR_ne (by unfold isO at hb; omega))
        have q39 : hI (setR S' 33 k (some a)) 39 = hI S 39 := (low 39 (by decide)).1
        simp only [hQ, wp_X12_image, hLr.eqs, e_in, e_isThereM (lay0 hLr), l64_0, l64_1, l64_2, l64_5, l64_6, l64_7, l64_m1, l64_99, l64_m99, l64_255, l64_999, l64_m999, l64_297, l64_200, l64_m200, l64_97, l64_122, l64_48, l64_57, Int32.toInt_toInt64, hb, bI_t, i1_ne0, hI_setI, q39, s1, decide_true, hK_putA, hN_putA, hR_putA, hC_putA, hK_setI, hN_setI, hR_setI, hC_setI, hI_setI, hK_setR, hN_setR, hI_setR, hC_setR, hR_setR, hK_cpyI, hN_cpyI, hR_cpyI, hC_cpyI, hI_cpyI, ↓reduceIte, Nat.reduceEqDiff, and_false, false_and, true_and, and_true, forall_eq, forall_eq', exists_eq_left, exists_eq_left', Option.some.injEq, eq_self_iff_true, not_true, not_false_iff, false_implies, true_implies, forall_const, reduceCtorEq, ne_eq]
        refine c_imageM (S := setI (setR S' 33 k (some a)) 35 0 0) (lay0 hLr) hk' ⟨rfl, ?_⟩
        generalize hg : cp (hI (setI (setR S' 33 k (some a)) 35 0 0) 45) (hI (setI (setR S' 33 k (some a)) 35 0 0) 39) (147 * k) 0 147 = g
        have e45 : hI (setI (setR S' 33 k (some a)) 35 0 0) 45 = hI S 45 := (hI_setI_ne (by decide)).trans (low 45 (by decide)).1
        have e39 : hI (setI (setR S' 33 k (some a)) 35 0 0) 39 = hI S 39 := (hI_setI_ne (by decide)).trans (low 39 (by decide)).1
        rw [e45, e39] at hg
        generalize hT : setI (putA (setI (setR S' 33 k (some a)) 35 0 0) 45 g) 44 k 1 = T
        have FT : Fr (fun b => b = 33 ∨ b = 35 ∨ b = 45 ∨ b = 44) S' T := by rw [← hT]; exact (by repeat' (first | with_reducible apply Fr.setI | with_reducible apply Fr.putA | with_reducible apply Fr.setR | with_reducible apply Fr.cpyI | with_reducible apply Fr.newC | with_reducible exact Fr.rfl' | (simp; done) | (simp; omega)))
        have FA : Fr (fun b => (a ≤ b ∧ b ≤ a + 5) ∨ (b = 33 ∨ b = 35 ∨ b = 45 ∨ b = 44)) S T := F.tr FT
        have T33 : ∀ j, hR T 33 j = if j = k then some a else hR S 33 j := fun j => by
          rw [← hT]; show hR (setR S' 33 k (some a)) 33 j = _
          rw [hR_setR, (low 33 (by decide)).2]; simp
        have T34 : hR T 34 = hR S 34 := by
          rw [← hT]; show hR (setR S' 33 k (some a)) 34 = _
          rw [hR_setR_ne (by decide), (low 34 (by decide)).2]
        have T45 : hI T 45 = g := by rw [← hT, hI_setI_ne (by decide), hI_putA_s]
        have T44 : ∀ j, hI T 44 j = if j = k then 1 else hI S 44 j := fun j => by
          rw [← hT, hI_setI, hI_putA_ne (by decide), hI_setI_ne (by decide)]
          show (if 44 = 44 ∧ j = k then (1 : Int32) else hI S' 44 j) = _
          rw [(low 44 (by decide)).1]; simp
        have TR : ∀ b, b < 50 → b ≠ 33 → hR T b = hR S b := fun b hb h9 => by
          rw [← hT]; show hR (setR S' 33 k (some a)) b = _
          rw [hR_setR_ne h9, (low b hb).2]
        have T35 : ∀ j, j ≠ 0 → hI T 35 j = hI S 35 j := fun j hj => by
          rw [← hT, hI_setI_ne (by decide), hI_putA_ne (by decide), hI_setI, if_neg (fun q => hj q.2)]
          exact congrFun (low 35 (by decide)).1 j
        have T0 : hI T 0 = hI S 0 := by rw [← hT, hI_setI_ne (by decide), hI_putA_ne (by decide), hI_setI_ne (by decide)]; exact (low 0 (by decide)).1
        have T39 : hI T 39 = hI S 39 := by rw [← hT, hI_setI_ne (by decide), hI_putA_ne (by decide), e39]
        have T41 : hI T 41 = hI S 41 := by rw [← hT, hI_setI_ne (by decide), hI_putA_ne (by decide), hI_setI_ne (by decide)]; exact (low 41 (by decide)).1
        have oth : ∀ x, SL S x → (hR S 33 k = some x → False) → x ≠ a := fun x hx q e => by
          subst e
          rcases ha with ha | ⟨_, ha⟩
          · exact q (ho2.trans ha)
          · have := hx.1.1; omega
        have oA : ∀ p x, p < 24 → hR S 34 p = some x → 50 ≤ x ∧ SL S x ∧ x ≠ a := fun p x hp hx => by
          obtain ⟨n, l0, c1, c2, c3, c4, c5, c6, c7⟩ := h7
          obtain ⟨z1, z2⟩ := c6 p x hp hx
          exact ⟨z1, z2, oth x z2 (fun q => h8.2.1 p k x hp hk' hx q)⟩
        have oI : ∀ k2 x, k2 < 2 → k2 ≠ k → hR S 33 k2 = some x → 50 ≤ x ∧ SL S x ∧ x ≠ a := fun k2 x h2 hne hx => by
          rcases h6.at h2 with ⟨_, g2⟩ | ⟨_, a', g2, g3, g4⟩
          · rw [g2] at hx; cases hx
          · rw [g2] at hx; cases hx
            refine ⟨g3, g4.1, oth _ g4.1 (fun q => ?_)⟩
            rcases (show (k2 = 0 ∧ k = 1) ∨ (k2 = 1 ∧ k = 0) by omega) with ⟨rfl, rfl⟩ | ⟨rfl, rfl⟩
            · exact h8.2.2 _ g2 q
            · exact h8.2.2 _ q g2
        refine h.asm FA (fun b hb hp => by omega) (fun b hb => TR b (by unfold isO at hb; omega) (by unfold isO at hb; omega)) (T35 1 (by decide)) (T35 17 (by decide)) (T35 10 (by decide)) (T35 25 (by decide)) (by rw [T0]) (by rw [T0]) ?_ ?_ ?_ ?_ ?_
        · rw [vec_same T39]
          exact h4.fr FA (offA hL h4.1 (by omega) sa (fun b hb => by omega))
        · exact h5.fr FA (fun b hb hp => (offA hL h5 (by omega) sa (R := fun b => b = 33 ∨ b = 35 ∨ b = 45 ∨ b = 44) (fun b hb => by omega) b hb hp).1)
        · intro k2 h2
          by_cases e : k2 = k
          · subst e
            refine Or.inr ⟨by rw [T44, if_pos rfl], a, by rw [T33, if_pos rfl], a50, ?_⟩
            have ev : vec T 45 (147 * k2) = vec S 39 0 := vec_eq (fun i hi => by rw [T45, ← hg, cp_in hi])
            rw [ev]
            exact hR1.fr FT (fun b hb hp => ⟨by omega, by
              have := Off.low (P := fun b => b = 33 ∨ b = 35 ∨ b = 45 ∨ b = 44) hL' a50 (fun b hb => by omega) b hb hp
              exact this.2⟩)
          · rw [T44, if_neg e, T33, if_neg e]
            have ev : vec T 45 (147 * k2) = vec S 45 (147 * k2) := vec_eq (fun i hi => by rw [T45, ← hg, cp_out (by omega)])
            rw [ev]
            rcases h6.at h2 with g2 | ⟨g1, x, g2, g3, g4⟩
            · exact Or.inl g2
            · obtain ⟨z1, z2, z3⟩ := oI k2 x h2 e g2
              exact Or.inr ⟨g1, x, g2, g3, g4.fr FA (offA hL z2 z3 sa (fun b hb => by omega))⟩
        · refine h7.fr FA ⟨by rw [T0], T35 8 (by decide), by rw [T0], T41, T34⟩ (fun p x hp hx => ?_)
          obtain ⟨z1, z2, z3⟩ := oA p x hp hx
          exact offA hL z2 z3 sa (fun b hb => by omega)
        · refine ⟨fun p q x hp hq => by rw [T34]; exact h8.1 p q x hp hq, fun p k2 x hp h2 hx => ?_, fun x hx0 hx1 => ?_⟩
          · rw [T34] at hx
            obtain ⟨z1, z2, z3⟩ := oA p x hp hx
            rw [T33]
            by_cases e : k2 = k
            · rw [if_pos e]; exact fun q => z3 (Option.some.inj q).symm
            · rw [if_neg e]; exact h8.2.1 p k2 x hp h2 hx
          · rw [T33] at hx0 hx1
            rcases (show k = 0 ∨ k = 1 by omega) with rfl | rfl
            · rw [if_pos rfl] at hx0
              rw [if_neg (by omega)] at hx1
              exact (oI 1 x (by omega) (by omega) hx1).2.2 (Option.some.inj hx0).symm
            · rw [if_neg (by omega)] at hx0
              rw [if_pos rfl] at hx1
              exact (oI 0 x (by omega) (by omega) hx0).2.2 (Option.some.inj hx1).symm
      refine ⟨fun q => c_copyOver hL h4 (fun a ha => nomatch ha) (fun a S' z1 z2 z3 z4 z5 => W none q a S' z1 z2 z3 z4 z5), fun r q => c_copyOver hL h4 (fun a ha => ho a (q.trans ha)) (fun a S' z1 z2 z3 z4 z5 => W (some r) q a S' z1 z2 z3 z4 z5)⟩
