/-- n steps of a loop -/
def fo {α : Type} (g : Nat → α → α) : Nat → α → α
  | 0, a => a
  | n + 1, a => g n (fo g n a)
theorem fo_congr {α : Type} {g h : Nat → α → α} {a : α} : ∀ {n : Nat}, (∀ k, k < n → ∀ x, g k x = h k x) → fo g n a = fo h n a
  | 0, _ => rfl
  | n + 1, e => by
    show g n (fo g n a) = h n (fo h n a)
    rw [fo_congr (n := n) (fun k hk x => e k (by omega) x), e n (by omega)]
def ab (x : Int32) : Int32 := if 0 ≤ x then x else 0 - x
def gO (A B : Nat → Int32) (k : Nat) (z : Int32) : Int32 := z ||| (if A k = B k then (0 : Int32) else (1 : Int32) <<< (nI k &&& 31))
def gU (A B : Nat → Int32) (k : Nat) (z : Int32) : Int32 := z + ab (A k - B k)
theorem c_otherPlaces {Q : Int32 → hp → Prop} {S : hp} {a x d b : Nat} (ha : SL S a) (hx : SL S x) (hd : hI S a 7 = nI d) (hd4 : d ≤ 4) (h : Q (fo (gO (hI S (a + 1)) (hI S (x + 1))) (3 * d) 0) S) : wp_X2_otherPlaces Q S b a x := by
  have e3 : (3 : Int32) * nI d = nI (3 * d) := by rw [← nI_mul]; rfl
  have key : ∀ k j, j + k = 3 * d → wl_X2_otherPlaces_5 Q (k + 1) S a x (fo (gO (hI S (a + 1)) (hI S (x + 1))) j 0) (nI j) := by
    intro k
    induction k with
    | zero =>
      intro j hj
      have : j = 3 * d := by omega
      subst this
      unfold wl_X2_otherPlaces_5 wB_X2_otherPlaces_5
      simp only [ha.eqs, hd, e3, ↓reduceIte, Nat.reduceEqDiff, and_false, false_and, true_and, and_true, forall_eq, forall_eq', exists_eq_left, exists_eq_left', Option.some.injEq, eq_self_iff_true, not_true, not_false_iff, false_implies, true_implies, forall_const, reduceCtorEq, ne_eq]
      exact ⟨fun _ => h, fun q => absurd (nI_le (Nat.le_refl _) (by omega)) q⟩
    | succ k ih =>
      intro j hj
      have := ih (j + 1) (by omega)
      unfold wl_X2_otherPlaces_5 wB_X2_otherPlaces_5 wB_X2_otherPlaces_42
      simp only [ha.eqs, hx.eqs, hd, e3, show vp_in (nI j) 12 from vp_in_nI (by omega) (by omega), nI_clamp (show j < 2 ^ 31 by omega), nI_1, ↓reduceIte, Nat.reduceEqDiff, and_false, false_and, true_and, and_true, forall_eq, forall_eq', exists_eq_left, exists_eq_left', Option.some.injEq, eq_self_iff_true, not_true, not_false_iff, false_implies, true_implies, forall_const, reduceCtorEq, ne_eq]
      refine ⟨fun q => absurd q (nI_ge (by omega) (by omega)), fun _ => ⟨fun q => ?_, fun q => ?_⟩⟩
      · have e : fo (gO (hI S (a + 1)) (hI S (x + 1))) (j + 1) 0 = fo (gO (hI S (a + 1)) (hI S (x + 1))) j 0 ||| (1 : Int32) <<< (nI j &&& 31) := by
          show gO _ _ j _ = _; unfold gO; rw [if_neg q]
        rw [← e]; exact this
      · have e : fo (gO (hI S (a + 1)) (hI S (x + 1))) (j + 1) 0 = fo (gO (hI S (a + 1)) (hI S (x + 1))) j 0 ||| 0 := by
          show gO _ _ j _ = _; unfold gO; rw [if_pos q]
        rw [← e]; exact this
  exact ⟨3 * d + 1, key (3 * d) 0 (by omega)⟩
theorem c_unlikeness {Q : Int32 → hp → Prop} {S : hp} {a x d b : Nat} (ha : SL S a) (hx : SL S x) (hd : hI S a 7 = nI d) (hd4 : d ≤ 4) (h : Q (fo (gU (hI S (a + 1)) (hI S (x + 1))) (3 * d) 0) S) : wp_X2_unlikeness Q S b a x := by
  have e3 : (3 : Int32) * nI d = nI (3 * d) := by rw [← nI_mul]; rfl
  have key : ∀ k j, j + k = 3 * d → wl_X2_unlikeness_5 Q (k + 1) S a x (fo (gU (hI S (a + 1)) (hI S (x + 1))) j 0) (nI j) := by
    intro k
    induction k with
    | zero =>
      intro j hj
      have : j = 3 * d := by omega
      subst this
      unfold wl_X2_unlikeness_5 wB_X2_unlikeness_5
      simp only [ha.eqs, hd, e3, ↓reduceIte, Nat.reduceEqDiff, and_false, false_and, true_and, and_true, forall_eq, forall_eq', exists_eq_left, exists_eq_left', Option.some.injEq, eq_self_iff_true, not_true, not_false_iff, false_implies, true_implies, forall_const, reduceCtorEq, ne_eq]
      exact ⟨fun _ => h, fun q => absurd (nI_le (Nat.le_refl _) (by omega)) q⟩
    | succ k ih =>
      intro j hj
      have := ih (j + 1) (by omega)
      unfold wl_X2_unlikeness_5 wB_X2_unlikeness_5
      simp only [ha.eqs, hx.eqs, hd, e3, show vp_in (nI j) 12 from vp_in_nI (by omega) (by omega), nI_clamp (show j < 2 ^ 31 by omega), nI_1, ↓reduceIte, Nat.reduceEqDiff, and_false, false_and, true_and, and_true, forall_eq, forall_eq', exists_eq_left, exists_eq_left', Option.some.injEq, eq_self_iff_true, not_true, not_false_iff, false_implies, true_implies, forall_const, reduceCtorEq, ne_eq]
      exact ⟨fun q => absurd q (nI_ge (by omega) (by omega)), fun _ => this⟩
  exact ⟨3 * d + 1, key (3 * d) 0 (by omega)⟩
theorem sub0 {a b : Int32} : (a - b = 0) = (a = b) := propext ⟨fun h => by
  have h2 : a - b + b = 0 + b := by rw [h]
  rw [Int32.sub_add_cancel, Int32.zero_add] at h2
  exact h2, fun h => by rw [h, Int32.sub_self]⟩
theorem c_lentM {Q : Int32 → hp → Prop} {S : hp} {d kk0 : Nat} {x2 : Int32} (hL : Lay S) (hk : kk0 < 2) (hd : hI S 39 2 = nI d) (hd4 : d ≤ 4) (h0 : x2 = 0 → Q (fo (gO (fun k => hI S 39 (5 + k)) (fun k => hI S 45 (147 * kk0 + 5 + k))) (3 * d) 0) S) (h1 : ¬ x2 = 0 → Q (fo (gU (fun k => hI S 39 (5 + k)) (fun k => hI S 45 (147 * kk0 + 5 + k))) (3 * d) 0) S) : ∃ n, wl_X12_lent_79 Q n S 35 (nI kk0) x2 0 0 0 := by
  have e3 : (3 : Int32) * nI d = nI (3 * d) := by rw [← nI_mul]; rfl
  have key : ∀ k j, j + k = 3 * d → wl_X12_lent_79 Q (k + 1) S 35 (nI kk0) x2 (fo (gO (fun k => hI S 39 (5 + k)) (fun k => hI S 45 (147 * kk0 + 5 + k))) j 0) (fo (gU (fun k => hI S 39 (5 + k)) (fun k => hI S 45 (147 * kk0 + 5 + k))) j 0) (nI j) := by
    intro k
    induction k with
    | zero =>
      intro j hj
      have : j = 3 * d := by omega
      subst this
      unfold wl_X12_lent_79 wB_X12_lent_79
      simp only [hL.eqs, vi2, cl2, hd, e3, ↓reduceIte, Nat.reduceEqDiff, and_false, false_and, true_and, and_true, forall_eq, forall_eq', exists_eq_left, exists_eq_left', Option.some.injEq, eq_self_iff_true, not_true, not_false_iff, false_implies, true_implies, forall_const, reduceCtorEq, ne_eq]
      exact ⟨fun _ => ⟨h1, h0⟩, fun q => absurd (nI_le (Nat.le_refl _) (by omega)) q⟩
    | succ k ih =>
      intro j hj
      have := ih (j + 1) (by omega)
      have a5 : (5 : Int32) + nI j = nI (5 + j) := nI_add 5 j
      have a6 : (147 : Int32) * nI kk0 + (5 : Int32) + nI j = nI (147 * kk0 + 5 + j) := by rw [← nI_add, ← nI_add, ← nI_mul]; rfl
      unfold wl_X12_lent_79 wB_X12_lent_79 wB_X12_lent_133 wB_X12_lent_150
      simp only [hL.eqs, vi2, cl2, hd, e3, a5, a6, show vp_in (nI (5 + j)) 147 from vp_in_nI (by omega) (by omega), show vp_in (nI (147 * kk0 + 5 + j)) 294 from vp_in_nI (by omega) (by omega), nI_clamp (show 5 + j < 2 ^ 31 by omega), nI_clamp (show 147 * kk0 + 5 + j < 2 ^ 31 by omega), nI_1, sub0, ↓reduceIte, Nat.reduceEqDiff, and_false, false_and, true_and, and_true, forall_eq, forall_eq', exists_eq_left, exists_eq_left', Option.some.injEq, eq_self_iff_true, not_true, not_false_iff, false_implies, true_implies, forall_const, reduceCtorEq, ne_eq]
      refine ⟨fun q => absurd q (nI_ge (by omega) (by omega)), fun _ => ?_⟩
      have eo : ∀ v, v = (if hI S 39 (5 + j) = hI S 45 (147 * kk0 + 5 + j) then (0 : Int32) else (1 : Int32) <<< (nI j &&& 31)) → fo (gO (fun k => hI S 39 (5 + k)) (fun k => hI S 45 (147 * kk0 + 5 + k))) j 0 ||| v = fo (gO (fun k => hI S 39 (5 + k)) (fun k => hI S 45 (147 * kk0 + 5 + k))) (j + 1) 0 := fun v hv => by rw [hv]; rfl
      have eu : ∀ v, v = ab (hI S 39 (5 + j) - hI S 45 (147 * kk0 + 5 + j)) → fo (gU (fun k => hI S 39 (5 + k)) (fun k => hI S 45 (147 * kk0 + 5 + k))) j 0 + v = fo (gU (fun k => hI S 39 (5 + k)) (fun k => hI S 45 (147 * kk0 + 5 + k))) (j + 1) 0 := fun v hv => by rw [hv]; rfl
      refine ⟨fun q => ?_, fun q => ?_⟩
      · rw [eo 0 (by rw [if_pos q])]
        refine ⟨fun q2 => ?_, fun q2 => ?_⟩
        · rw [eu _ (by unfold ab; rw [if_pos q2])]; exact this
        · rw [eu _ (by unfold ab; rw [if_neg q2, Int32.zero_sub])]; exact this
      · rw [eo _ (by rw [if_neg q])]
        refine ⟨fun q2 => ?_, fun q2 => ?_⟩
        · rw [eu _ (by unfold ab; rw [if_pos q2])]; exact this
        · rw [eu _ (by unfold ab; rw [if_neg q2, Int32.zero_sub])]; exact this
  exact ⟨3 * d + 1, key (3 * d) 0 (by omega)⟩
theorem p_lent : st_lent Rel := by
  intro S h x1 x2
  have hh := h
  obtain ⟨hL, h1, h2, h3, h4, h5, h6, h7, h8, h9⟩ := hh
  obtain ⟨d, m, l, ⟨hd, hm, hl⟩, v2, v3, v4, v5, v6, v7, v8, vS⟩ := h.view
  refine ⟨h.1.eqs.1, ?_⟩
  obtain ⟨Q, hQ⟩ : ∃ Q : Int32 → hp → Prop, Q = fun (r : Int32) (S1 : hp) => hK S1 35 = 11 ∧ wp_X12_lent (fun r2 S2 => r = r2 ∧ Rel S2) S1 35 x1 x2 := ⟨_, rfl⟩
  rw [← hQ]
  unfold wp_X11_lent
  simp only [h.1.eqs, v2, e_isImage, e_isFOS, bI0, ↓reduceIte, Nat.reduceEqDiff, and_false, false_and, true_and, and_true, forall_eq, forall_eq', exists_eq_left, exists_eq_left', Option.some.injEq, eq_self_iff_true, not_true, not_false_iff, false_implies, true_implies, forall_const, reduceCtorEq, ne_eq]
  rcases v3 with ⟨s0, -⟩ | ⟨s1, -⟩
  · simp only [s0, ↓reduceIte, Nat.reduceEqDiff, and_false, false_and, true_and, and_true, forall_eq, forall_eq', exists_eq_left, exists_eq_left', Option.some.injEq, eq_self_iff_true, not_true, not_false_iff, false_implies, true_implies, forall_const, reduceCtorEq, ne_eq]
    simp only [hQ, wp_X12_lent, h.1.eqs, e_isThereM (lay0 h.1), bI0, hI_setI, s0, show ((0 : Int32) = 1) = False from eq_false (by decide), decide_false, hK_putA, hN_putA, hR_putA, hC_putA, hK_setI, hN_setI, hR_setI, hC_setI, hI_setI, hK_setR, hN_setR, hI_setR, hC_setR, hR_setR, hK_cpyI, hN_cpyI, hR_cpyI, hC_cpyI, hI_cpyI, ↓reduceIte, Nat.reduceEqDiff, and_false, false_and, true_and, and_true, forall_eq, forall_eq', exists_eq_left, exists_eq_left', Option.some.injEq, eq_self_iff_true, not_true, not_false_iff, false_implies, true_implies, forall_const, reduceCtorEq, ne_eq]
    exact h.thr 0
  · simp only [s1, i1_ne0, ↓reduceIte, Nat.reduceEqDiff, and_false, false_and, true_and, and_true, forall_eq, forall_eq', exists_eq_left, exists_eq_left', Option.some.injEq, eq_self_iff_true, not_true, not_false_iff, false_implies, true_implies, forall_const, reduceCtorEq, ne_eq]
    cases hb : rg x1 0 1 with
    | false =>
      simp only [↓reduceIte, Nat.reduceEqDiff, and_false, false_and, true_and, and_true, forall_eq, forall_eq', exists_eq_left, exists_eq_left', Option.some.injEq, eq_self_iff_true, not_true, not_false_iff, false_implies, true_implies, forall_const, reduceCtorEq, ne_eq]
      simp [hQ, wp_X12_lent, h.1.eqs, e_isThereM (lay0 h.1), e_in, l64_0, l64_1, l64_2, l64_5, l64_6, l64_7, l64_m1, l64_99, l64_m99, l64_255, l64_999, l64_m999, l64_297, l64_200, l64_m200, l64_97, l64_122, l64_48, l64_57, Int32.toInt_toInt64, bI0, hI_setI, s1, hb, hK_putA, hN_putA, hR_putA, hC_putA, hK_setI, hN_setI, hR_setI, hC_setI, hI_setI, hK_setR, hN_setR, hI_setR, hC_setR, hR_setR, hK_cpyI, hN_cpyI, hR_cpyI, hC_cpyI, hI_cpyI]
      exact h.thr 0
    | true =>
      cases hb2 : rg x2 0 1 with
      | false =>
        simp only [Bool.true_eq_false, ↓reduceIte, Nat.reduceEqDiff, and_false, false_and, true_and, and_true, forall_eq, forall_eq', exists_eq_left, exists_eq_left', Option.some.injEq, eq_self_iff_true, not_true, not_false_iff, false_implies, true_implies, forall_const, reduceCtorEq, ne_eq]
        simp [hQ, wp_X12_lent, h.1.eqs, e_isThereM (lay0 h.1), e_in, l64_0, l64_1, l64_2, l64_5, l64_6, l64_7, l64_m1, l64_99, l64_m99, l64_255, l64_999, l64_m999, l64_297, l64_200, l64_m200, l64_97, l64_122, l64_48, l64_57, Int32.toInt_toInt64, bI0, hI_setI, s1, hb, hb2, hK_putA, hN_putA, hR_putA, hC_putA, hK_setI, hN_setI, hR_setI, hC_setI, hI_setI, hK_setR, hN_setR, hI_setR, hC_setR, hR_setR, hK_cpyI, hN_cpyI, hR_cpyI, hC_cpyI, hI_cpyI]
        exact h.thr 0
      | true =>
        obtain ⟨k, hk, hk2, rfl⟩ := rg_nat hb
        have hk' : k < 2 := by omega
        have hv : vp_in (nI k) 2 := vp_in_nI hk' (by omega)
        have hc : (nI k).toNatClampNeg = k := nI_clamp (by omega)
        have e147 : (147 : Int32) * nI k + (2 : Int32) = nI (147 * k + 2) := by rw [← nI_add, ← nI_mul]; rfl
        simp only [Bool.true_eq_false, h.1.eqs, hv, hc, ↓reduceIte, Nat.reduceEqDiff, and_false, false_and, true_and, and_true, forall_eq, forall_eq', exists_eq_left, exists_eq_left', Option.some.injEq, eq_self_iff_true, not_true, not_false_iff, false_implies, true_implies, forall_const, reduceCtorEq, ne_eq]
        rcases h6.at hk' with ⟨g1, g2⟩ | ⟨g1, a, g2, g3, g4⟩
        · rw [g2]
          refine ⟨fun _ => ?_, fun r q => nomatch q⟩
          simp [hQ, wp_X12_lent, h.1.eqs, e_isThereM (lay0 h.1), e_in, l64_0, l64_1, l64_2, l64_5, l64_6, l64_7, l64_m1, l64_99, l64_m99, l64_255, l64_999, l64_m999, l64_297, l64_200, l64_m200, l64_97, l64_122, l64_48, l64_57, Int32.toInt_toInt64, bI0, hI_setI, s1, hb, hb2, hv, hc, g1, hK_putA, hN_putA, hR_putA, hC_putA, hK_setI, hN_setI, hR_setI, hC_setI, hI_setI, hK_setR, hN_setR, hI_setR, hC_setR, hR_setR, hK_cpyI, hN_cpyI, hR_cpyI, hC_cpyI, hI_cpyI]
          exact h.thr 0
        · rw [g2]
          refine ⟨(fun q => nomatch q), fun r q => ?_⟩
          cases q
          obtain ⟨hS, hW, ⟨-, -, f7, -, -⟩, hA, -, -⟩ := g4
          have e7 : hI S a 7 = hI S 45 (147 * k + 2) := by rw [f7, vec_lt (by omega)]
          have w47 : vp_in (nI (147 * k + 2)) 294 := vp_in_nI (by omega) (by omega)
          have k47 : (nI (147 * k + 2)).toNatClampNeg = 147 * k + 2 := nI_clamp (by omega)
          simp only [hS.eqs, ↓reduceIte, Nat.reduceEqDiff, and_false, false_and, true_and, and_true, forall_eq, forall_eq', exists_eq_left, exists_eq_left', Option.some.injEq, eq_self_iff_true, not_true, not_false_iff, false_implies, true_implies, forall_const, reduceCtorEq, ne_eq]
          rw [e7]
          refine ⟨fun q => ?_, fun q => ?_⟩
          · have ndE : nd (vec S 45 (147 * k)) = d := by unfold nd; rw [vec_lt (by omega), q]; exact nI_clamp (by omega)
            have eB : ∀ i, i < 3 * d → hI S (a + 1) i = hI S 45 (147 * k + 5 + i) := fun i hi => by
              rw [(hA i (by rw [ndE]; exact hi)).1, vec_lt (by omega)]; congr 1; omega
            have W : ∀ v, (x2 = 0 → v = fo (gO (hI S 17) (hI S (a + 1))) (3 * d) 0) → (¬ x2 = 0 → v = fo (gU (hI S 17) (hI S (a + 1))) (3 * d) 0) → Q v S := by
              intro v y0 y1
              simp only [hQ, wp_X12_lent, h.1.eqs, e_isThereM (lay0 h.1), e_in, l64_0, l64_1, l64_2, l64_5, l64_6, l64_7, l64_m1, l64_99, l64_m99, l64_255, l64_999, l64_m999, l64_297, l64_200, l64_m200, l64_97, l64_122, l64_48, l64_57, Int32.toInt_toInt64, bI0, hI_setI, s1, hb, hb2, hv, hc, g1, i1_ne0, e147, w47, k47, vi2, cl2, v2, q, decide_true, Bool.true_eq_false, hK_putA, hN_putA, hR_putA, hC_putA, hK_setI, hN_setI, hR_setI, hC_setI, hI_setI, hK_setR, hN_setR, hI_setR, hC_setR, hR_setR, hK_cpyI, hN_cpyI, hR_cpyI, hC_cpyI, hI_cpyI, ↓reduceIte, Nat.reduceEqDiff, and_false, false_and, true_and, and_true, forall_eq, forall_eq', exists_eq_left, exists_eq_left', Option.some.injEq, eq_self_iff_true, not_true, not_false_iff, false_implies, true_implies, forall_const, reduceCtorEq, ne_eq]
              refine c_lentM (S := setI S 35 0 0) (lay0 h.1) hk' (d := d) (by rw [hI_setI_ne (by decide)]; exact v2.1) hd (fun z => ⟨?_, h.thr 0⟩) (fun z => ⟨?_, h.thr 0⟩)
              · rw [y0 z, hI_setI_ne (by decide), hI_setI_ne (by decide)]
                refine fo_congr (fun i hi x => ?_)
                unfold gO; rw [(v4 i hi).1, eB i hi]
              · rw [y1 z, hI_setI_ne (by decide), hI_setI_ne (by decide)]
                refine fo_congr (fun i hi x => ?_)
                unfold gU; rw [(v4 i hi).1, eB i hi]
            refine ⟨fun z => c_unlikeness vS hS v2.2.2.2.2.2.1 hd (W _ (fun z2 => absurd z2 z) (fun _ => rfl)), fun z => c_otherPlaces vS hS v2.2.2.2.2.2.1 hd (W _ (fun _ => rfl) (fun z2 => absurd z z2))⟩
          · simp [hQ, wp_X12_lent, h.1.eqs, e_isThereM (lay0 h.1), e_in, l64_0, l64_1, l64_2, l64_5, l64_6, l64_7, l64_m1, l64_99, l64_m99, l64_255, l64_999, l64_m999, l64_297, l64_200, l64_m200, l64_97, l64_122, l64_48, l64_57, Int32.toInt_toInt64, bI0, hI_setI, s1, hb, hb2, hv, hc, g1, e147, w47, k47, vi2, cl2, v2, q, hK_putA, hN_putA, hR_putA, hC_putA, hK_setI, hN_setI, hR_setI, hC_setI, hI_setI, hK_setR, hN_setR, hI_setR, hC_setR, hR_setR, hK_cpyI, hN_cpyI, hR_cpyI, hC_cpyI, hI_cpyI]
            exact h.thr 0
