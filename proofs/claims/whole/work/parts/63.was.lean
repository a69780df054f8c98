/-- a line done again on a row of inches -/
def stp (f : Nat → Int32) (i : Nat) (g : Nat → Int32) : Nat → Int32 := if f (51 + 6 * i) = 0 then (fun k => if k = 3 * (f (53 + 6 * i)).toNatClampNeg + (f (54 + 6 * i)).toNatClampNeg then g k + f (56 + 6 * i) else g k) else if f (51 + 6 * i) = 1 then (fun k => if k < 12 then g k - lsM (g k) (f (17 + k)) (f 1) else g k) else sw g 0 (f (52 + 6 * i)).toNatClampNeg (f (53 + 6 * i)).toNatClampNeg 3
def rp (f : Nat → Int32) (g0 : Nat → Int32) : Nat → (Nat → Int32)
  | 0 => fun k => if k < 12 then f (17 + k) else g0 k
  | i + 1 => stp f i (rp f g0 i)
theorem rp_bd {S : hp} {d m l : Nat} (hd : d ≤ 4) (v7 : ∀ k, k < 12 → bd (hI S 39 (5 + k)) ∧ bd (hI S 39 (17 + k)) ∧ bd (hI S 39 (29 + k))) (v8 : ∀ i, i < l → LineV S d m i) (hs : rg (hI S 39 1) 2 20 = true) (hl : l ≤ 16) (g0 : Nat → Int32) : ∀ i, i ≤ l → ∀ k, k < 12 → -(999 + 198 * (i : Int)) ≤ (rp (hI S 39) g0 i k).toInt ∧ (rp (hI S 39) g0 i k).toInt ≤ 999 + 198 * (i : Int)
  | 0, _, k, hk => by
    have := (v7 k hk).2.1
    unfold bd at this
    show -(999 + 198 * ((0 : Nat) : Int)) ≤ (if k < 12 then hI S 39 (17 + k) else g0 k).toInt ∧ _ ≤ _
    simp only [rp]
    rw [if_pos hk]
    omega
  | i + 1, hi, k, hk => by
    have ih := rp_bd hd v7 v8 hs hl g0 i (by omega)
    have ihk := ih k hk
    have mk := (v7 k hk).2.1
    unfold bd at mk
    simp only [rp]
    unfold stp
    rcases v8 i (by omega) with ⟨e0, mm, dd, pp, q1, q2, q3, q4, q5, q6, q7, q8⟩ | e1 | ⟨e2, a, b, q1, q2, q3, q4, q5⟩
    · rw [if_pos e0]
      have h8 := rg_t.mp q8
      by_cases e : k = 3 * (hI S 39 (53 + 6 * i)).toNatClampNeg + (hI S 39 (54 + 6 * i)).toNatClampNeg
      · rw [if_pos e, t_add (by omega)]; omega
      · rw [if_neg e]; omega
    · rw [if_neg (by rw [e1]; decide), if_pos e1, if_pos hk]
      have := ls_rg (999 + 198 * (i : Int)) (by omega) ihk (m := hI S 39 (17 + k)) (by omega) hs
      omega
    · rw [if_neg (by rw [e2]; decide), if_neg (by rw [e2]; decide)]
      have ca : (hI S 39 (52 + 6 * i)).toNatClampNeg = a := by rw [q1]; exact nI_clamp (by omega)
      have cb : (hI S 39 (53 + 6 * i)).toNatClampNeg = b := by rw [q3]; exact nI_clamp (by omega)
      rw [ca, cb]
      unfold sw
      by_cases h1 : 0 + 3 * a ≤ k ∧ k < 0 + 3 * a + 3
      · rw [if_pos h1]; have := ih (0 + 3 * b + (k - (0 + 3 * a))) (by omega); omega
      · rw [if_neg h1]
        by_cases h2 : 0 + 3 * b ≤ k ∧ k < 0 + 3 * b + 3
        · rw [if_pos h2]; have := ih (0 + 3 * a + (k - (0 + 3 * b))) (by omega); omega
        · rw [if_neg h2]; omega
/-- the model's inner loops -/
theorem m_was12 {bk : hp → Nat → Int32 → Int32 → Int32 → Int32 → Prop} {Q : Int32 → hp → Prop} {S : hp} {g : Nat → Int32} {x1 x2 x3 x4 : Int32} (hL : Lay S) (hs : rg (hI S 39 1) 2 20 = true) (h : bk (putA S 43 (fun k => if k < 12 then g k - lsM (g k) (hI S 39 (17 + k)) (hI S 39 1) else g k)) 35 x1 x2 x3 (x4 + 1)) : ∃ n, wl_X12_was_139 bk Q n (putA S 43 g) 35 x1 x2 x3 x4 0 := by
  have key : ∀ k j, j + k = 12 → wl_X12_was_139 bk Q (k + 1) (putA S 43 (fst g (fun k => g k - lsM (g k) (hI S 39 (17 + k)) (hI S 39 1)) j)) 35 x1 x2 x3 x4 (nI j) := by
    intro k
    induction k with
    | zero =>
      intro j hj
      have : j = 12 := by omega
      subst this
      unfold wl_X12_was_139 wB_X12_was_139 wB_X12_was_261
      refine ⟨fun _ => ?_, fun q => absurd (nI_le (a := 12) (b := 12) (by omega) (by omega)) q⟩
      simp only [↓reduceIte, Nat.reduceEqDiff, and_false, false_and, true_and, and_true, forall_eq, forall_eq', exists_eq_left, exists_eq_left', Option.some.injEq, eq_self_iff_true, not_true, not_false_iff, false_implies, true_implies, forall_const, reduceCtorEq, ne_eq]
      exact h
    | succ k ih =>
      intro j hj
      have := ih (j + 1) (by omega)
      have a17 : (17 : Int32) + nI j = nI (17 + j) := nI_add 17 j
      have fj : fst g (fun k => g k - lsM (g k) (hI S 39 (17 + k)) (hI S 39 1)) j j = g j := by unfold fst; rw [if_neg (by omega)]
      unfold wl_X12_was_139 wB_X12_was_139
      refine ⟨fun q => absurd q (nI_ge (a := j) (b := 12) (by omega) (by omega)), fun _ => ?_⟩
      simp only [hL.eqs, a17, show vp_in (nI j) 12 from vp_in_nI (by omega) (by omega), show vp_in (nI (17 + j)) 147 from vp_in_nI (by omega) (by omega), nI_clamp (show j < 2 ^ 31 by omega), nI_clamp (show 17 + j < 2 ^ 31 by omega), hI_putA_s, hI_putA_ne (S := S) (a := 43) (b := 39) (by decide), e_lessOfM (S := putA S 43 (fst g (fun k => g k - lsM (g k) (hI S 39 (17 + k)) (hI S 39 1)) j)) hL (by rw [hI_putA_ne (by decide)]; exact hs), fj, setI_putA, nI_1, hK_putA, hN_putA, hR_putA, hC_putA, hK_setI, hN_setI, hR_setI, hC_setI, hI_setI, hK_setR, hN_setR, hI_setR, hC_setR, hR_setR, hK_cpyI, hN_cpyI, hR_cpyI, hC_cpyI, hI_cpyI, ↓reduceIte, Nat.reduceEqDiff, and_false, false_and, true_and, and_true, forall_eq, forall_eq', exists_eq_left, exists_eq_left', Option.some.injEq, eq_self_iff_true, not_true, not_false_iff, false_implies, true_implies, forall_const, reduceCtorEq, ne_eq]
      have e := fst_s g (fun k => g k - lsM (g k) (hI S 39 (17 + k)) (hI S 39 1)) j
      rw [e]
      exact this
  refine ⟨13, ?_⟩
  have := key 12 0 (by omega)
  rw [fst_0] at this
  exact this
theorem m_was3 {bk : hp → Nat → Int32 → Int32 → Int32 → Int32 → Prop} {Q : Int32 → hp → Prop} {S : hp} {g : Nat → Int32} {x1 x2 x3 : Int32} {i a b : Nat} (hL : Lay S) (hi : i < 16) (ha : a < 4) (hb : b < 4) (hab : a ≠ b) (q1 : hI S 39 (52 + 6 * i) = nI a) (q2 : hI S 39 (53 + 6 * i) = nI b) (h : bk (putA S 43 (sw g 0 a b 3)) 35 x1 x2 x3 (nI i + 1)) : ∃ n, wl_X12_was_189 bk Q n (putA S 43 g) 35 x1 x2 x3 (nI i) 0 := by
  have key : ∀ k t, t + k = 3 → wl_X12_was_189 bk Q (k + 1) (putA S 43 (sw g 0 a b t)) 35 x1 x2 x3 (nI i) (nI t) := by
    intro k
    induction k with
    | zero =>
      intro t ht
      have : t = 3 := by omega
      subst this
      unfold wl_X12_was_189 wB_X12_was_189 wB_X12_was_261
      refine ⟨fun _ => ?_, fun q => absurd (nI_le (a := 3) (b := 3) (by omega) (by omega)) q⟩
      simp only [↓reduceIte, Nat.reduceEqDiff, and_false, false_and, true_and, and_true, forall_eq, forall_eq', exists_eq_left, exists_eq_left', Option.some.injEq, eq_self_iff_true, not_true, not_false_iff, false_implies, true_implies, forall_const, reduceCtorEq, ne_eq]
      exact h
    | succ k ih =>
      intro t ht
      have := ih (t + 1) (by omega)
      have w1 := sw_at1 (g := g) (o := 0) (i := a) (j := b) (t := t) (by omega) hab
      have w2 := sw_at2 (g := g) (o := 0) (i := a) (j := b) (t := t) (by omega) hab
      have w3 := sw_s (g := g) (o := 0) (i := a) (j := b) (t := t) (by omega) hab
      simp only [Nat.zero_add] at w1 w2 w3
      have ea : (3 : Int32) * nI a + nI t = nI (3 * a + t) := by rw [← nI_add, ← nI_mul]; rfl
      have eb : (3 : Int32) * nI b + nI t = nI (3 * b + t) := by rw [← nI_add, ← nI_mul]; rfl
      unfold wl_X12_was_189 wB_X12_was_189
      refine ⟨fun q => absurd q (nI_ge (a := t) (b := 3) (by omega) (by omega)), fun _ => ⟨(hL.1 35 (by decide)).1, ?_⟩⟩
      refine (e_lineOfM (S := putA S 43 (sw g 0 a b t)) (c := 1) hL hi (by omega)).mpr ?_
      rw [hI_putA_ne (by decide), show 51 + 6 * i + 1 = 52 + 6 * i by omega, q1]
      simp only [hL.eqs, ea, hK_putA, hN_putA, hR_putA, hC_putA, hK_setI, hN_setI, hR_setI, hC_setI, hI_setI, hK_setR, hN_setR, hI_setR, hC_setR, hR_setR, hK_cpyI, hN_cpyI, hR_cpyI, hC_cpyI, hI_cpyI, ↓reduceIte, Nat.reduceEqDiff, and_false, false_and, true_and, and_true, forall_eq, forall_eq', exists_eq_left, exists_eq_left', Option.some.injEq, eq_self_iff_true, not_true, not_false_iff, false_implies, true_implies, forall_const, reduceCtorEq, ne_eq]
      refine (e_lineOfM (S := putA S 43 (sw g 0 a b t)) (c := 2) hL hi (by omega)).mpr ?_
      rw [hI_putA_ne (by decide), show 51 + 6 * i + 2 = 53 + 6 * i by omega, q2]
      simp only [hL.eqs, eb, show vp_in (nI (3 * a + t)) 12 from vp_in_nI (by omega) (by omega), show vp_in (nI (3 * b + t)) 12 from vp_in_nI (by omega) (by omega), nI_clamp (show 3 * a + t < 2 ^ 31 by omega), nI_clamp (show 3 * b + t < 2 ^ 31 by omega), hI_putA_s, setI_putA, w1, w2, w3, nI_1, hK_putA, hN_putA, hR_putA, hC_putA, hK_setI, hN_setI, hR_setI, hC_setI, hI_setI, hK_setR, hN_setR, hI_setR, hC_setR, hR_setR, hK_cpyI, hN_cpyI, hR_cpyI, hC_cpyI, hI_cpyI, ↓reduceIte, Nat.reduceEqDiff, and_false, false_and, true_and, and_true, forall_eq, forall_eq', exists_eq_left, exists_eq_left', Option.some.injEq, eq_self_iff_true, not_true, not_false_iff, false_implies, true_implies, forall_const, reduceCtorEq, ne_eq]
      exact this
  refine ⟨4, ?_⟩
  have := key 3 0 (by omega)
  rw [sw_0] at this
  exact this
theorem m_was {Q : Int32 → hp → Prop} {S : hp} {n d m l i p : Nat} (hL : Lay S) (hd : d ≤ 4) (hl : l ≤ 16) (hn : n ≤ l) (hs : 0 < l → rg (hI S 39 1) 2 20 = true) (v8 : ∀ i, i < l → LineV S d m i) (hi : i < d) (hp : p < 3) (h : Q (rp (hI S 39) (hI S 43) n (3 * i + p)) (putA S 43 (rp (hI S 39) (hI S 43) n))) : ∃ k, wl_X12_was_42 Q k S 35 (nI n) (nI i) (nI p) 0 := by
  have eat : (3 : Int32) * nI i + nI p = nI (3 * i + p) := by rw [← nI_add, ← nI_mul]; rfl
  have key2 : ∀ k j, j + k = n → wl_X12_was_75 Q (k + 1) (putA S 43 (rp (hI S 39) (hI S 43) j)) 35 (nI n) (nI i) (nI p) (nI j) := by
    intro k
    induction k with
    | zero =>
      intro j hj
      have : j = n := by omega
      subst this
      unfold wl_X12_was_75 wB_X12_was_75
      refine ⟨fun _ => ?_, fun q => absurd (nI_le (Nat.le_refl _) (by omega)) q⟩
      simp only [hL.eqs, eat, show vp_in (nI (3 * i + p)) 12 from vp_in_nI (by omega) (by omega), nI_clamp (show 3 * i + p < 2 ^ 31 by omega), hI_putA_s, hK_putA, hN_putA, hR_putA, hC_putA, hK_setI, hN_setI, hR_setI, hC_setI, hI_setI, hK_setR, hN_setR, hI_setR, hC_setR, hR_setR, hK_cpyI, hN_cpyI, hR_cpyI, hC_cpyI, hI_cpyI, ↓reduceIte, Nat.reduceEqDiff, and_false, false_and, true_and, and_true, forall_eq, forall_eq', exists_eq_left, exists_eq_left', Option.some.injEq, eq_self_iff_true, not_true, not_false_iff, false_implies, true_implies, forall_const, reduceCtorEq, ne_eq]
      exact h
    | succ k ih =>
      intro j hj
      have nx := ih (j + 1) (by omega)
      have hs' := hs (by omega)
      unfold wl_X12_was_75 wB_X12_was_75
      refine ⟨fun q => absurd q (nI_ge (by omega) (by omega)), fun _ => ⟨(hL.1 35 (by decide)).1, ?_⟩⟩
      refine (e_lineOfM (S := putA S 43 (rp (hI S 39) (hI S 43) j)) (c := 0) hL (show j < 16 by omega) (by omega)).mpr ?_
      rw [hI_putA_ne (by decide), Nat.add_zero]
      rcases v8 j (by omega) with ⟨e0, mm, dd, pp, q1, q2, q3, q4, q5, q6, q7, q8⟩ | e1 | ⟨e2, a, b, q1, q2, q3, q4, q5⟩
      · refine ⟨fun q => absurd e0 q, fun _ => ?_⟩
        simp only [hL.eqs, hK_putA, hN_putA, hR_putA, hC_putA, hK_setI, hN_setI, hR_setI, hC_setI, hI_setI, hK_setR, hN_setR, hI_setR, hC_setR, hR_setR, hK_cpyI, hN_cpyI, hR_cpyI, hC_cpyI, hI_cpyI, ↓reduceIte, Nat.reduceEqDiff, and_false, false_and, true_and, and_true, forall_eq, forall_eq', exists_eq_left, exists_eq_left', Option.some.injEq, eq_self_iff_true, not_true, not_false_iff, false_implies, true_implies, forall_const, reduceCtorEq, ne_eq]
        refine (e_lineOfM (S := putA S 43 (rp (hI S 39) (hI S 43) j)) (c := 2) hL (show j < 16 by omega) (by omega)).mpr ?_
        rw [hI_putA_ne (by decide), show 51 + 6 * j + 2 = 53 + 6 * j by omega, q3]
        simp only [hL.eqs, hK_putA, hN_putA, hR_putA, hC_putA, hK_setI, hN_setI, hR_setI, hC_setI, hI_setI, hK_setR, hN_setR, hI_setR, hC_setR, hR_setR, hK_cpyI, hN_cpyI, hR_cpyI, hC_cpyI, hI_cpyI, ↓reduceIte, Nat.reduceEqDiff, and_false, false_and, true_and, and_true, forall_eq, forall_eq', exists_eq_left, exists_eq_left', Option.some.injEq, eq_self_iff_true, not_true, not_false_iff, false_implies, true_implies, forall_const, reduceCtorEq, ne_eq]
        refine (e_lineOfM (S := putA S 43 (rp (hI S 39) (hI S 43) j)) (c := 3) hL (show j < 16 by omega) (by omega)).mpr ?_
        have ed : (3 : Int32) * nI dd + nI pp = nI (3 * dd + pp) := by rw [← nI_add, ← nI_mul]; rfl
        rw [hI_putA_ne (by decide), show 51 + 6 * j + 3 = 54 + 6 * j by omega, q5, ed]
        simp only [hL.eqs, show vp_in (nI (3 * dd + pp)) 12 from vp_in_nI (by omega) (by omega), nI_clamp (show 3 * dd + pp < 2 ^ 31 by omega), hI_putA_s, hK_putA, hN_putA, hR_putA, hC_putA, hK_setI, hN_setI, hR_setI, hC_setI, hI_setI, hK_setR, hN_setR, hI_setR, hC_setR, hR_setR, hK_cpyI, hN_cpyI, hR_cpyI, hC_cpyI, hI_cpyI, ↓reduceIte, Nat.reduceEqDiff, and_false, false_and, true_and, and_true, forall_eq, forall_eq', exists_eq_left, exists_eq_left', Option.some.injEq, eq_self_iff_true, not_true, not_false_iff, false_implies, true_implies, forall_const, reduceCtorEq, ne_eq]
        refine (e_lineOfM (S := putA S 43 (rp (hI S 39) (hI S 43) j)) (c := 5) hL (show j < 16 by omega) (by omega)).mpr ?_
        rw [hI_putA_ne (by decide), show 51 + 6 * j + 5 = 56 + 6 * j by omega]
        unfold wB_X12_was_261
        simp only [hL.eqs, show vp_in (nI (3 * dd + pp)) 12 from vp_in_nI (by omega) (by omega), setI_putA, nI_1, hK_putA, hN_putA, hR_putA, hC_putA, hK_setI, hN_setI, hR_setI, hC_setI, hI_setI, hK_setR, hN_setR, hI_setR, hC_setR, hR_setR, hK_cpyI, hN_cpyI, hR_cpyI, hC_cpyI, hI_cpyI, ↓reduceIte, Nat.reduceEqDiff, and_false, false_and, true_and, and_true, forall_eq, forall_eq', exists_eq_left, exists_eq_left', Option.some.injEq, eq_self_iff_true, not_true, not_false_iff, false_implies, true_implies, forall_const, reduceCtorEq, ne_eq]
        have e : (fun k => if k = 3 * dd + pp then rp (hI S 39) (hI S 43) j (3 * dd + pp) + hI S 39 (56 + 6 * j) else rp (hI S 39) (hI S 43) j k) = rp (hI S 39) (hI S 43) (j + 1) := by
          show _ = stp (hI S 39) j (rp (hI S 39) (hI S 43) j)
          unfold stp
          rw [if_pos e0, q3, q5, nI_clamp (show dd < 2 ^ 31 by omega), nI_clamp (show pp < 2 ^ 31 by omega)]
          funext k
          by_cases ek : k = 3 * dd + pp
          · rw [if_pos ek, if_pos ek, ek]
          · rw [if_neg ek, if_neg ek]
        rw [e]
        exact nx
      · refine ⟨fun _ => ⟨fun q => absurd e1 q, fun _ => ?_⟩, fun q => absurd (e1.symm.trans q) (by decide)⟩
        refine m_was12 hL hs' ?_
        rw [nI_1]
        have e : (fun k => if k < 12 then rp (hI S 39) (hI S 43) j k - lsM (rp (hI S 39) (hI S 43) j k) (hI S 39 (17 + k)) (hI S 39 1) else rp (hI S 39) (hI S 43) j k) = rp (hI S 39) (hI S 43) (j + 1) := by
          show _ = stp (hI S 39) j (rp (hI S 39) (hI S 43) j)
          unfold stp
          rw [if_neg (by rw [e1]; decide), if_pos e1]
        rw [e]
        exact nx
      · refine ⟨fun _ => ⟨fun _ => ?_, fun q => absurd (e2.symm.trans q) (by decide)⟩, fun q => absurd (e2.symm.trans q) (by decide)⟩
        refine m_was3 hL (by omega) (show a < 4 by omega) (show b < 4 by omega) (by omega) q1 q3 ?_
        rw [nI_1]
        have e : sw (rp (hI S 39) (hI S 43) j) 0 a b 3 = rp (hI S 39) (hI S 43) (j + 1) := by
          show _ = stp (hI S 39) j (rp (hI S 39) (hI S 43) j)
          unfold stp
          rw [if_neg (by rw [e2]; decide), if_neg (by rw [e2]; decide), q1, q3, nI_clamp (show a < 2 ^ 31 by omega), nI_clamp (show b < 2 ^ 31 by omega)]
        rw [e]
        exact nx
  have key : ∀ k j, j + k = 12 → wl_X12_was_42 Q (k + 1) (putA S 43 (fst (hI S 43) (fun k => hI S 39 (17 + k)) j)) 35 (nI n) (nI i) (nI p) (nI j) := by
    intro k
    induction k with
    | zero =>
      intro j hj
      have : j = 12 := by omega
      subst this
      unfold wl_X12_was_42 wB_X12_was_42
      refine ⟨fun _ => ⟨n + 1, ?_⟩, fun q => absurd (nI_le (a := 12) (b := 12) (by omega) (by omega)) q⟩
      exact key2 n 0 (by omega)
    | succ k ih =>
      intro j hj
      have := ih (j + 1) (by omega)
      have a17 : (17 : Int32) + nI j = nI (17 + j) := nI_add 17 j
      unfold wl_X12_was_42 wB_X12_was_42
      refine ⟨fun q => absurd q (nI_ge (a := j) (b := 12) (by omega) (by omega)), fun _ => ?_⟩
      simp only [hL.eqs, a17, show vp_in (nI j) 12 from vp_in_nI (by omega) (by omega), show vp_in (nI (17 + j)) 147 from vp_in_nI (by omega) (by omega), nI_clamp (show j < 2 ^ 31 by omega), nI_clamp (show 17 + j < 2 ^ 31 by omega), hI_putA_ne (S := S) (a := 43) (b := 39) (by decide), setI_putA, nI_1, hK_putA, hN_putA, hR_putA, hC_putA, hK_setI, hN_setI, hR_setI, hC_setI, hI_setI, hK_setR, hN_setR, hI_setR, hC_setR, hR_setR, hK_cpyI, hN_cpyI, hR_cpyI, hC_cpyI, hI_cpyI, ↓reduceIte, Nat.reduceEqDiff, and_false, false_and, true_and, and_true, forall_eq, forall_eq', exists_eq_left, exists_eq_left', Option.some.injEq, eq_self_iff_true, not_true, not_false_iff, false_implies, true_implies, forall_const, reduceCtorEq, ne_eq]
      have e := fst_s (hI S 43) (fun k => hI S 39 (17 + k)) j
      rw [e]
      exact this
  refine ⟨13, ?_⟩
  have := key 12 0 (by omega)
  rw [fst_0, putA_self] at this
  exact this
