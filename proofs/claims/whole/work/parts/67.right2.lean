theorem fo_none {α : Type} {g : Nat → Option α → Option α} (hg : ∀ k, g k none = none) {a : Option α} {p : Nat} (h : fo g p a = none) : ∀ t, fo g (p + t) a = none
  | 0 => h
  | t + 1 => by
    show g (p + t) (fo g (p + t) a) = none
    rw [fo_none hg h t]; exact hg _
theorem c_rightBy {Q : Int32 → hp → Prop} {S : hp} {m d i w b0 : Nat} (vS : SL S 16) (h8 : hI S 16 8 = nI m) (hm : m ≤ 5) (hd : d ≤ 4) (hi : i < d) (hw : w ≤ 6) (v5 : ∀ j, j < m → MouthV S j) {pin : Nat → Int32} (hpin : ∀ p, p < 3 → hI S 19 (3 * i + p) - hI S 17 (3 * i + p) = pin p) (h : Q (rC (nI w) (fo (rst pin (fun p => who (kof S) (bof S) (pin p) m) (kof S) (bof S) (nI w)) 3 (some (0, -1000000)))) S) : wp_X2_rightBy Q S b0 16 (nI i) (nI w) := by
  have key : ∀ t p, p + t = 3 → ∀ b a, fo (rst pin (fun p => who (kof S) (bof S) (pin p) m) (kof S) (bof S) (nI w)) p (some (0, -1000000)) = some (b, a) → wl_X2_rightBy_10 Q (t + 1) S 16 (nI i) (nI w) b a (nI p) := by
    intro t
    induction t with
    | zero =>
      intro p hp b a hacc
      have : p = 3 := by omega
      subst this
      rw [hacc] at h
      unfold wl_X2_rightBy_10 wB_X2_rightBy_10
      refine ⟨fun _ => ⟨fun q => ?_, fun q => ?_⟩, fun q => absurd (nI_le (a := 3) (b := 3) (by omega) (by omega)) q⟩
      · unfold rC at h; simp only at h; rw [if_neg q] at h; exact h
      · unfold rC at h; simp only at h; rw [if_pos q] at h; exact h
    | succ t ih =>
      intro p hp b a hacc
      have nx : fo (rst pin (fun p => who (kof S) (bof S) (pin p) m) (kof S) (bof S) (nI w)) (p + 1) (some (0, -1000000)) = rst pin (fun p => who (kof S) (bof S) (pin p) m) (kof S) (bof S) (nI w) p (some (b, a)) := by rw [← hacc]; rfl
      unfold wl_X2_rightBy_10 wB_X2_rightBy_10 wB_X2_rightBy_97
      have e1 : (1 : Int32) + nI p = nI (1 + p) := nI_add 1 p
      have e4 : (4 : Int32) + nI p = nI (4 + p) := nI_add 4 p
      refine ⟨fun q => absurd q (nI_ge (a := p) (b := 3) (by omega) (by omega)), fun _ => e_at.mpr ⟨vS.eqs.1, (e_pinch vS (show 3 * i + p < 12 by omega)).mpr ?_⟩⟩
      rw [show 16 + 3 = 19 from rfl, show 16 + 1 = 17 from rfl, hpin p (by omega)]
      refine ⟨fun q => ?_, fun q => ?_⟩
      · refine c_cheapestFor vS h8 hm v5 ⟨fun z => ?_, fun r z => ?_⟩
        · have hn : who (kof S) (bof S) (pin p) m = none := by
            cases hh : who (kof S) (bof S) (pin p) m with
            | none => rfl
            | some i => rw [hh] at z; cases z
          have e9 : fo (rst pin (fun p => who (kof S) (bof S) (pin p) m) (kof S) (bof S) (nI w)) (p + 1) (some (0, -1000000)) = none := by
            rw [nx]; unfold rst; simp only; rw [if_neg q, hn]
          have e10 := fo_none (fun _ => rfl) e9 t
          rw [show p + 1 + t = 3 by omega] at e10
          rw [e10] at h
          exact h
        · cases hh : who (kof S) (bof S) (pin p) m with
          | none => rw [hh] at z; cases z
          | some u =>
            rw [hh] at z
            cases z
            obtain ⟨hu, -⟩ := who_lt _ _ _ m u hh
            obtain ⟨k1, k2, k3, k4, k5, k6, k7⟩ := (v5 u (by omega)).k
            have e9 : fo (rst pin (fun p => who (kof S) (bof S) (pin p) m) (kof S) (bof S) (nI w)) (p + 1) (some (0, -1000000)) = some (b + bof S u, if nI w = nI (1 + p) then nI u else if nI w = nI (4 + p) then told (kof S u) (pin p) else a) := by
              rw [nx]; unfold rst; simp only; rw [if_neg q, hh]
            refine ⟨by rw [k5]; exact mkd_isM _, ?_⟩
            simp only [k6, k7, e1, e4, nI_1, ↓reduceIte, Nat.reduceEqDiff, and_false, false_and, true_and, and_true, forall_eq, forall_eq', exists_eq_left, exists_eq_left', Option.some.injEq, eq_self_iff_true, not_true, not_false_iff, false_implies, true_implies, forall_const, reduceCtorEq, ne_eq]
            refine ⟨fun y1 => ⟨fun y4 => ?_, fun y4 => c_leastTold k5 k2 k3 ?_⟩, fun y1 => ?_⟩
            · rw [if_neg y1, if_neg y4] at e9; exact ih (p + 1) (by omega) _ _ e9
            · rw [if_neg y1, if_pos y4] at e9; exact ih (p + 1) (by omega) _ _ e9
            · rw [if_pos y1] at e9; exact ih (p + 1) (by omega) _ _ e9
      · simp only [nI_1, ↓reduceIte, Nat.reduceEqDiff, and_false, false_and, true_and, and_true, forall_eq, forall_eq', exists_eq_left, exists_eq_left', Option.some.injEq, eq_self_iff_true, not_true, not_false_iff, false_implies, true_implies, forall_const, reduceCtorEq, ne_eq]
        refine ih (p + 1) (by omega) b a ?_
        rw [nx]; unfold rst; simp only; rw [if_pos q]
  exact ⟨4, key 3 0 (by omega) 0 (-1000000) rfl⟩
theorem c_rightM {Q : Int32 → hp → Prop} {S : hp} {m d i w : Nat} (hL : Lay S) (h8 : hI S 39 3 = nI m) (hm : m ≤ 5) (hd : d ≤ 4) (hi : i < d) (hw : w ≤ 6) (v5 : ∀ j, j < m → hI S 39 (41 + 2 * j) = nI (kof S j) ∧ 1 ≤ kof S j ∧ kof S j ≤ 5) {pin : Nat → Int32} (hpin : ∀ p, p < 3 → hI S 39 (29 + 3 * i + p) - hI S 39 (5 + 3 * i + p) = pin p) (h : Q (rM pin (fun p => who (kof S) (bof S) (pin p) m) (kof S) w (fo (mst pin (fun p => who (kof S) (bof S) (pin p) m) (bof S)) 3 (some 0))) S) : ∃ n, wl_X12_right_33 Q n S 35 (nI i) (nI w) 0 0 := by
  have k35 := (hL.1 35 (by decide)).1
  have key : ∀ t p, p + t = 3 → ∀ s, fo (mst pin (fun p => who (kof S) (bof S) (pin p) m) (bof S)) p (some 0) = some s → wl_X12_right_33 Q (t + 1) S 35 (nI i) (nI w) s (nI p) := by
    intro t
    induction t with
    | zero =>
      intro p hp s hacc
      have : p = 3 := by omega
      subst this
      rw [hacc] at h
      unfold wl_X12_right_33 wB_X12_right_33
      refine ⟨fun _ => ⟨fun q => ?_, fun q => ?_⟩, fun q => absurd (nI_le (a := 3) (b := 3) (by omega) (by omega)) q⟩
      · have hw0 : w ≠ 0 := fun e => by subst e; exact q rfl
        have em : nI w - (1 : Int32) - (nI w - (1 : Int32)) / 3 * 3 = nI ((w - 1) % 3) := by
          rw [nI_sub1 (by omega)]; exact pk_rem (a := w - 1) (d := 3) (by omega) (by omega) (by omega)
        have e4 : ((4 : Int32) ≤ nI w) = (4 ≤ w) := propext (nI_leI (a := 4) (b := w) (by omega) (by omega))
        unfold rM at h
        simp only at h
        rw [if_neg hw0] at h
        rw [em]
        refine ⟨k35, (e_pinchOfM hL (show i < 4 by omega) (Nat.mod_lt _ (by omega))).mpr ?_⟩
        rw [hpin _ (Nat.mod_lt _ (by omega))]
        refine ⟨fun q2 => ⟨fun q3 => ?_, fun q3 => ?_⟩, fun q2 => ?_⟩
        · rw [e4] at q3
          rw [if_neg q2, if_neg (by omega)] at h
          refine ⟨k35, c_whoForM hL h8 hm v5 ⟨k35, ?_⟩⟩
          cases hh : who (kof S) (bof S) (pin ((w - 1) % 3)) m with
          | none =>
            exfalso
            -- with nobody there the loop has ended before
            have hp9 : (w - 1) % 3 < 3 := Nat.mod_lt _ (by omega)
            have e9 : fo (mst pin (fun p => who (kof S) (bof S) (pin p) m) (bof S)) ((w - 1) % 3 + 1) (some 0) = none := by
              show mst pin (fun p => who (kof S) (bof S) (pin p) m) (bof S) ((w - 1) % 3) _ = none
              unfold mst
              split
              · rfl
              · rw [if_neg q2]; simp only [hh]
            have e10 := fo_none (fun _ => rfl) e9 (2 - (w - 1) % 3)
            rw [show (w - 1) % 3 + 1 + (2 - (w - 1) % 3) = 3 by omega, hacc] at e10
            cases e10
          | some u =>
            rw [hh] at h
            obtain ⟨hu, -⟩ := who_lt _ _ _ m u hh
            obtain ⟨k1, k2, k3⟩ := v5 u (by omega)
            exact c_toldFor hL (by omega) k1 k2 k3 h
        · rw [e4] at q3
          rw [if_neg q2, if_pos (by omega)] at h
          exact ⟨k35, c_whoForM hL h8 hm v5 h⟩
        · rw [if_pos q2] at h; exact h
      · have hw0 : w = 0 := (nI_eq (a := w) (b := 0) (by omega) (by omega)).mp q
        unfold rM at h; simp only at h; rw [if_pos hw0] at h; exact h
    | succ t ih =>
      intro p hp s hacc
      have nx : fo (mst pin (fun p => who (kof S) (bof S) (pin p) m) (bof S)) (p + 1) (some 0) = mst pin (fun p => who (kof S) (bof S) (pin p) m) (bof S) p (some s) := by rw [← hacc]; rfl
      unfold wl_X12_right_33 wB_X12_right_33 wB_X12_right_71 wB_X12_right_87
      refine ⟨fun q => absurd q (nI_ge (a := p) (b := 3) (by omega) (by omega)), fun _ => ⟨k35, (e_pinchOfM hL (show i < 4 by omega) (show p < 3 by omega)).mpr ⟨k35, c_whoForM hL h8 hm v5 ?_⟩⟩⟩
      rw [hpin p (by omega), oI_none (fun u hu => by have := who_lt _ _ _ m u hu; omega)]
      have z : pin p = 0 → wl_X12_right_33 Q (t + 1) S 35 (nI i) (nI w) (s + 0) (nI (p + 1)) := fun q => by
        rw [Int32.add_zero]
        refine ih (p + 1) (by omega) s ?_
        rw [nx]; unfold mst; simp only; rw [if_pos q]
      simp only [nI_1, ↓reduceIte, Nat.reduceEqDiff, and_false, false_and, true_and, and_true, forall_eq, forall_eq', exists_eq_left, exists_eq_left', Option.some.injEq, eq_self_iff_true, not_true, not_false_iff, false_implies, true_implies, forall_const, reduceCtorEq, ne_eq]
      refine ⟨fun q => ⟨fun q2 => absurd q q2, fun _ => z q⟩, fun q => ⟨fun q2 => ⟨fun _ => ⟨k35, ?_⟩, fun q3 => absurd q3 q⟩, fun q2 => ?_⟩⟩
      · cases hh : who (kof S) (bof S) (pin p) m with
        | none => exact absurd hh q2
        | some u =>
          obtain ⟨hu, -⟩ := who_lt _ _ _ m u hh
          show wp_X12_bribeOf _ S 35 (nI u)
          refine (e_bribeOfM hL (show u < 5 by omega)).mpr ?_
          refine ih (p + 1) (by omega) (s + bof S u) ?_
          rw [nx]; unfold mst; simp only; rw [if_neg q, hh]
      · have e9 : fo (mst pin (fun p => who (kof S) (bof S) (pin p) m) (bof S)) (p + 1) (some 0) = none := by
          rw [nx]; unfold mst; simp only; rw [if_neg q, q2]
        have e10 := fo_none (fun _ => rfl) e9 t
        rw [show p + 1 + t = 3 by omega] at e10
        rw [e10] at h
        exact h
  exact ⟨4, key 3 0 (by omega) 0 rfl⟩
theorem p_right : st_right Rel := by
  intro S h x1 x2
  obtain ⟨d, m, l, ⟨hd, hm, hl⟩, v2, v3, v4, v5, v6, v7, v8, vS⟩ := h.view
  refine ⟨h.1.eqs.1, ?_⟩
  obtain ⟨Q, hQ⟩ : ∃ Q : Int32 → hp → Prop, Q = fun (r : Int32) (S1 : hp) => hK S1 35 = 11 ∧ wp_X12_right (fun r2 S2 => r = r2 ∧ Rel S2) S1 35 x1 x2 := ⟨_, rfl⟩
  rw [← hQ]
  have t2 : 0 ≤ (hI (setI S 35 0 0) 39 2).toInt := by simp only [hI_setI, v2, ↓reduceIte, Nat.reduceEqDiff, and_false, false_and, true_and, and_true, forall_eq, forall_eq', exists_eq_left, exists_eq_left', Option.some.injEq, eq_self_iff_true, not_true, not_false_iff, false_implies, true_implies, forall_const, reduceCtorEq, ne_eq]; exact tn0 (by omega)
  have BAD : (rc x1 (nI d) = false ∨ rg x2 0 6 = false) → Q (-1000001) S := by
    intro q
    simp only [hQ, wp_X12_right, h.1.eqs, e_in, e_isDummyM (lay0 h.1) t2, l64_0, l64_1, l64_2, l64_5, l64_6, l64_7, l64_m1, l64_99, l64_m99, l64_255, l64_999, l64_m999, l64_297, l64_200, l64_m200, l64_97, l64_122, l64_48, l64_57, Int32.toInt_toInt64, hI_setI, v2, bI0, hK_putA, hN_putA, hR_putA, hC_putA, hK_setI, hN_setI, hR_setI, hC_setI, hI_setI, hK_setR, hN_setR, hI_setR, hC_setR, hR_setR, hK_cpyI, hN_cpyI, hR_cpyI, hC_cpyI, hI_cpyI, ↓reduceIte, Nat.reduceEqDiff, and_false, false_and, true_and, and_true, forall_eq, forall_eq', exists_eq_left, exists_eq_left', Option.some.injEq, eq_self_iff_true, not_true, not_false_iff, false_implies, true_implies, forall_const, reduceCtorEq, ne_eq]
    refine ⟨fun _ => h.thr 0, fun q1 => ⟨fun q2 => ?_, fun _ => h.thr 0⟩⟩
    rcases q with q | q
    · exact absurd q q1
    · exact absurd q q2
  unfold wp_X11_right
  simp only [h.1.eqs, v2, e_hasDummy vS.eqs.1, bI0, ↓reduceIte, Nat.reduceEqDiff, and_false, false_and, true_and, and_true, forall_eq, forall_eq', exists_eq_left, exists_eq_left', Option.some.injEq, eq_self_iff_true, not_true, not_false_iff, false_implies, true_implies, forall_const, reduceCtorEq, ne_eq]
  refine ⟨fun q => BAD (Or.inl q), fun q1 => ?_⟩
  have hb1 : rc x1 (nI d) = true := by simpa using q1
  simp only [t_lt, t_le, c0, show (6 : Int32).toInt = 6 from rfl]
  refine ⟨fun q => BAD (Or.inr (rg_f.mpr (by omega))), fun q2 => ⟨fun q3 => ?_, fun q => BAD (Or.inr (rg_f.mpr (by omega)))⟩⟩
  have hb2 : rg x2 0 6 = true := rg_t.mpr (by omega)
  obtain ⟨i, hi, rfl⟩ := rc_nat (by omega) hb1
  obtain ⟨w, hw, hw2, rfl⟩ := rg_nat hb2
  refine c_rightBy vS v2.2.2.2.2.2.2.1 hm hd hi (by omega) v5 (pin := fun p => hI S 39 (29 + 3 * i + p) - hI S 39 (5 + 3 * i + p)) (fun p hp => ?_) ?_
  · obtain ⟨w1, w2, w3⟩ := v4 (3 * i + p) (by omega)
    rw [w1, w3, show 29 + (3 * i + p) = 29 + 3 * i + p by omega, show 5 + (3 * i + p) = 5 + 3 * i + p by omega]
  · simp only [hQ, wp_X12_right, h.1.eqs, e_in, e_isDummyM (lay0 h.1) t2, l64_0, l64_1, l64_2, l64_5, l64_6, l64_7, l64_m1, l64_99, l64_m99, l64_255, l64_999, l64_m999, l64_297, l64_200, l64_m200, l64_97, l64_122, l64_48, l64_57, Int32.toInt_toInt64, hI_setI, v2, hb1, hb2, bI0, bI_t, i1_ne0, Bool.true_eq_false, hK_putA, hN_putA, hR_putA, hC_putA, hK_setI, hN_setI, hR_setI, hC_setI, hI_setI, hK_setR, hN_setR, hI_setR, hC_setR, hR_setR, hK_cpyI, hN_cpyI, hR_cpyI, hC_cpyI, hI_cpyI, ↓reduceIte, Nat.reduceEqDiff, and_false, false_and, true_and, and_true, forall_eq, forall_eq', exists_eq_left, exists_eq_left', Option.some.injEq, eq_self_iff_true, not_true, not_false_iff, false_implies, true_implies, forall_const, reduceCtorEq, ne_eq]
    have x39 : hI (setI S 35 0 0) 39 = hI S 39 := hI_setI_ne (by decide)
    have ek : kof (setI S 35 0 0) = kof S := by unfold kof; rw [x39]
    have eb : bof (setI S 35 0 0) = bof S := by unfold bof; rw [x39]
    refine c_rightM (S := setI S 35 0 0) (lay0 h.1) (m := m) (d := d) (by rw [x39]; exact v2.2.1) hm hd hi (by omega) (fun j hj => ?_) (pin := fun p => hI S 39 (29 + 3 * i + p) - hI S 39 (5 + 3 * i + p)) (fun p hp => by rw [x39]) ⟨?_, h.thr 0⟩
    · obtain ⟨k1, k2, k3, -⟩ := (v5 j hj).k
      rw [x39, ek]; exact ⟨k1, k2, k3⟩
    · rw [ek, eb]
      exact r_eq _ _ _ _ (by omega)
