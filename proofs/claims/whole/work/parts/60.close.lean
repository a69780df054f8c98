/-- 147 numbers, as a street -/
def cut (g : Nat → Int32) : Nat → Int32 := fun k => if k < 147 then g k else 0
theorem cut_lt {g : Nat → Int32} {k : Nat} (h : k < 147) : cut g k = g k := if_pos h
theorem vec_cut (S : hp) (g : Nat → Int32) : vec (putA S 39 g) 39 0 = cut g := by
  funext k
  unfold vec cut
  rw [hI_putA_s, Nat.zero_add]
theorem vec_cut0 (S : hp) : vec S 39 0 = cut (hI S 39) := by
  funext k
  unfold vec cut
  rw [Nat.zero_add]
theorem Rel.fin2 {S S1 S2 S4 : hp} {n lc d l : Nat} {g : Nat → Int32} (h : Rel S) (c1 : n ≤ 24) (c2 : lc < 24) (c3 : hI S 0 8 = nI n) (c5 : hI S 0 9 = nI lc) (hKA : KA S n lc S1) (F2 : Fr (fun b => 16 ≤ b ∧ b ≤ 21) S1 S2) (r2 : hR S2 = hR S1) (z1 : hC S4 = hC S2 ∧ hK S4 = hK S2 ∧ hN S4 = hN S2 ∧ hR S4 = hR S2) (z2 : ∀ b, b ≠ 41 → b ≠ 35 → hI S4 b = hI (setI S2 35 0 0) b) (z3 : hI S4 41 = wasN n (hI (setI S2 35 0 0) 41) (hI (setI S2 35 0 0) 39)) (z4 : ∀ j, hI S4 35 j = if j = 8 then nI (if n = 24 then 24 else n + 1) else hI (setI S2 35 0 0) 35 j) (hd : hI S 39 2 = nI d ∧ d ≤ 4) (hst : hI S 39 0 = 1) (hg : ∀ k, k < 4 ∨ (41 ≤ k ∧ k < 51) → g k = hI S 39 k) (hb : ∀ k, k < 12 → bd (g (5 + k)) ∧ bd (g (17 + k)) ∧ bd (g (29 + k))) (h4 : g 4 = nI l) (h16 : l ≤ 16) (hln : ∀ i, i < l → LineOK (cut g) i) (hf : hI S2 16 5 = hI S 39 0 ∧ hI S2 16 6 = hI S 39 1 ∧ hI S2 16 7 = hI S 39 2 ∧ hI S2 16 8 = hI S 39 3 ∧ hI S2 16 9 = nI l) (hA : ∀ k, k < 3 * d → hI S2 17 k = g (5 + k) ∧ hI S2 18 k = g (17 + k) ∧ hI S2 19 k = g (29 + k)) (hG : ∀ k, k < 6 * l → hI S2 21 k = g (51 + k)) : Rel (putA S4 39 g) := by
  obtain ⟨hL1, r16, low⟩ := hKA.facts h
  have q2 : ∀ b, b < 50 → ¬ (16 ≤ b ∧ b ≤ 21) → b ≠ 0 → b ≠ 34 → hI S2 b = hI S b := fun b hb h1 h2 h3 => (F2.2.2 b (Nat.lt_of_lt_of_le hb hL1.2.2) h1).1.trans (low b hb h2 h3).1
  have n62 : ∀ b, b ≠ 39 → b ≠ 41 → b ≠ 35 → hI (putA S4 39 g) b = hI S2 b := fun b h1 h2 h3 => by rw [hI_putA_ne h1, z2 b h2 h3, hI_setI_ne h3]
  have r6 : hR (putA S4 39 g) = hR S2 := z1.2.2.2
  have F6 : Fr (fun b => b = 35 ∨ b = 39 ∨ b = 41) S2 (putA S4 39 g) := by
    obtain ⟨y1, y2, y3, y4⟩ := z1
    refine ⟨by show hC S2 ≤ hC S4; rw [y1]; exact Nat.le_refl _, fun b _ => by show hK S4 b = _ ∧ hN S4 b = _; rw [y2, y3]; exact ⟨rfl, rfl⟩, fun b _ hb => ⟨n62 b (fun e => hb (Or.inr (Or.inl e))) (fun e => hb (Or.inr (Or.inr e))) (fun e => hb (Or.inl e)), by rw [r6]⟩⟩
  have F16 : Fr (fun b => (16 ≤ b ∧ b ≤ 21) ∨ b = 35 ∨ b = 39 ∨ b = 41) S1 (putA S4 39 g) := F2.tr F6
  have e35 : ∀ q, q ≠ 8 → q ≠ 0 → hI (putA S4 39 g) 35 q = hI S 35 q := fun q h1 h2 => by
    rw [hI_putA_ne (by decide), z4, if_neg h1, hI_setI, if_neg (by omega), q2 35 (by decide) (by omega) (by decide) (by decide)]
  refine h.act c1 c2 c3 c5 hKA F16 (fun b _ => by rw [r6, r2]) ?_ ?_ (e35 1 (by decide) (by decide)) (e35 17 (by decide) (by decide)) (e35 10 (by decide) (by decide)) (e35 25 (by decide) (by decide)) ?_
  · rw [hI_putA_ne (by decide), z3, hI_setI_ne (by decide), hI_setI_ne (by decide), q2 41 (by decide) (by omega) (by decide) (by decide), q2 39 (by decide) (by omega) (by decide) (by decide)]
  · rw [hI_putA_ne (by decide), z4, if_pos rfl]
  · rw [vec_cut]
    have v0 : ∀ k, k < 147 → vec S 39 0 k = hI S 39 k := fun k hk => by rw [vec_lt hk, Nat.zero_add]
    have ce : ∀ k, k < 4 ∨ (41 ≤ k ∧ k < 51) → cut g k = vec S 39 0 k := fun k hk => by rw [cut_lt (by omega), v0 k (by omega)]; exact hg k hk
    have ndE : nd (vec S 39 0) = d := by unfold nd; rw [v0 2 (by omega), hd.1]; exact nI_clamp (by omega)
    have nlE : nl (cut g) = l := by unfold nl; rw [cut_lt (by omega), h4]; exact nI_clamp (by omega)
    have hW : WF (cut g) := by
      refine h.2.2.2.2.1.2.1.act ⟨ce 0 (by omega), ce 1 (by omega), ce 2 (by omega), ce 3 (by omega)⟩ (by rw [v0 0 (by omega)]; exact hst) (fun k h1 h2 => ce k (Or.inr ⟨h1, h2⟩)) (fun k hk => ?_) (by rw [nlE, cut_lt (by omega)]; exact h4) (by rw [nlE]; exact h16) (fun i hi => hln i (by rw [nlE] at hi; exact hi))
      rw [cut_lt (by omega), cut_lt (by omega), cut_lt (by omega)]
      exact hb k hk
    refine r16.upd F16 (fun b hb hp => ?_) ⟨by rw [r6, r2], by rw [r6, r2]⟩ hW (ce 2 (by omega)) (ce 3 (by omega)) (fun k h1 h2 => ce k (Or.inr ⟨h1, h2⟩)) ⟨?_, ?_, ?_, ?_, ?_⟩ (fun k hk => ?_) (fun k hk => ?_)
    · exact (Off.low16 (a := 60) (P := fun b => (16 ≤ b ∧ b ≤ 21) ∨ b = 35 ∨ b = 39 ∨ b = 41) hL1 (fun b hb => by omega) b hb hp).2
    · rw [n62 16 (by decide) (by decide) (by decide), ce 0 (by omega), v0 0 (by omega)]; exact hf.1
    · rw [n62 16 (by decide) (by decide) (by decide), ce 1 (by omega), v0 1 (by omega)]; exact hf.2.1
    · rw [n62 16 (by decide) (by decide) (by decide), ce 2 (by omega), v0 2 (by omega)]; exact hf.2.2.1
    · rw [n62 16 (by decide) (by decide) (by decide), ce 3 (by omega), v0 3 (by omega)]; exact hf.2.2.2.1
    · rw [n62 16 (by decide) (by decide) (by decide), cut_lt (by omega), h4]; exact hf.2.2.2.2
    · rw [ndE] at hk
      rw [n62 (16 + 1) (by decide) (by decide) (by decide), n62 (16 + 2) (by decide) (by decide) (by decide), n62 (16 + 3) (by decide) (by decide) (by decide), cut_lt (by omega), cut_lt (by omega), cut_lt (by omega)]
      exact hA k hk
    · rw [nlE] at hk
      rw [n62 (16 + 5) (by decide) (by decide) (by decide), cut_lt (by omega)]
      exact hG k hk
theorem setI_same (S : hp) (a k : Nat) : setI S a k (hI S a k) = S := by
  rw [setI_asA]
  have e : (fun i => if i = k then hI S a k else hI S a i) = hI S a := by
    funext i
    by_cases h : i = k
    · rw [if_pos h, h]
    · rw [if_neg h]
  rw [e, putA_self]
/-- the first j of h, the rest of g -/
def fst (g h : Nat → Int32) (j : Nat) : Nat → Int32 := fun i => if i < j then h i else g i
theorem fst_0 (g h : Nat → Int32) : fst g h 0 = g := by funext i; unfold fst; simp
theorem fst_s (g h : Nat → Int32) (j : Nat) : (fun i => if i = j then h j else fst g h j i) = fst g h (j + 1) := by
  funext i
  unfold fst
  by_cases e : i = j
  · subst e; rw [if_pos rfl, if_pos (by omega)]
  · rw [if_neg e]
    by_cases e2 : i < j
    · rw [if_pos e2, if_pos (by omega)]
    · rw [if_neg e2, if_neg (by omega)]
theorem putA_comm (S : hp) {a b : Nat} (h : a ≠ b) (g1 g2 : Nat → Int32) : putA (putA S a g1) b g2 = putA (putA S b g2) a g1 := by
  unfold putA
  simp only [Prod.mk.injEq, true_and, and_true]
  funext c
  by_cases h1 : c = a
  · subst h1; simp [h]
  · by_cases h2 : c = b
    · subst h2; simp [h1]
    · simp [h1, h2]
theorem c_endLog {Q : Int32 → hp → Prop} {S : hp} {d : Nat} (hL : Lay S) (hd : hI S 16 7 = nI d) (hd4 : d ≤ 4) (h : Q (hI S 16 9) (setI (putA (putA S 18 (fst (hI S 18) (hI S 17) (3 * d))) 19 (fst (hI S 19) (hI S 17) (3 * d))) 16 9 0)) : wp_X8_endLog Q S 16 := by
  have e3 : (3 : Int32) * nI d = nI (3 * d) := by rw [← nI_mul]; rfl
  have key : ∀ k j, j + k = 3 * d → wl_X8_endLog_2 Q (k + 1) (putA (putA S 18 (fst (hI S 18) (hI S 17) j)) 19 (fst (hI S 19) (hI S 17) j)) 16 (nI j) := by
    intro k
    induction k with
    | zero =>
      intro j hj
      have : j = 3 * d := by omega
      subst this
      unfold wl_X8_endLog_2 wB_X8_endLog_2
      simp only [hL.eqs, hI_putA, hd, e3, hK_putA, hN_putA, hR_putA, hC_putA, hK_setI, hN_setI, hR_setI, hC_setI, hI_setI, hK_setR, hN_setR, hI_setR, hC_setR, hR_setR, hK_cpyI, hN_cpyI, hR_cpyI, hC_cpyI, hI_cpyI, ↓reduceIte, Nat.reduceEqDiff, and_false, false_and, true_and, and_true, forall_eq, forall_eq', exists_eq_left, exists_eq_left', Option.some.injEq, eq_self_iff_true, not_true, not_false_iff, false_implies, true_implies, forall_const, reduceCtorEq, ne_eq]
      exact ⟨fun _ => h, fun q => absurd (nI_le (Nat.le_refl _) (by omega)) q⟩
    | succ k ih =>
      intro j hj
      unfold wl_X8_endLog_2 wB_X8_endLog_2 wp_X8_make
      have hv : vp_in (nI j) 12 := vp_in_nI (by omega) (by omega)
      have hc : (nI j).toNatClampNeg = j := nI_clamp (by omega)
      have := ih (j + 1) (by omega)
      simp only [hL.eqs, hv, hc, hI_putA, hd, e3, nI_1, hK_putA, hN_putA, hR_putA, hC_putA, hK_setI, hN_setI, hR_setI, hC_setI, hI_setI, hK_setR, hN_setR, hI_setR, hC_setR, hR_setR, hK_cpyI, hN_cpyI, hR_cpyI, hC_cpyI, hI_cpyI, ↓reduceIte, Nat.reduceEqDiff, and_false, false_and, true_and, and_true, forall_eq, forall_eq', exists_eq_left, exists_eq_left', Option.some.injEq, eq_self_iff_true, not_true, not_false_iff, false_implies, true_implies, forall_const, reduceCtorEq, ne_eq]
      refine ⟨fun q => absurd q (nI_ge (by omega) (by omega)), fun _ => ?_⟩
      have s1 : setI (putA (putA S 18 (fst (hI S 18) (hI S 17) j)) 19 (fst (hI S 19) (hI S 17) j)) 17 j (hI S 17 j) = putA (putA S 18 (fst (hI S 18) (hI S 17) j)) 19 (fst (hI S 19) (hI S 17) j) := by
        have e : hI (putA (putA S 18 (fst (hI S 18) (hI S 17) j)) 19 (fst (hI S 19) (hI S 17) j)) 17 j = hI S 17 j := by rw [hI_putA_ne (by decide), hI_putA_ne (by decide)]
        conv => lhs; rw [← e]
        exact setI_same _ _ _
      rw [s1, putA_comm S (show (18 : Nat) ≠ 19 by decide), setI_putA, putA_comm S (show (19 : Nat) ≠ 18 by decide), setI_putA, fst_s, fst_s]
      exact this
  refine ⟨3 * d + 1, ?_⟩
  have := key (3 * d) 0 (by omega)
  rw [fst_0, fst_0, putA_self, putA_self] at this
  exact this
/-- a street's numbers as its log is closed -/
def clo (g : Nat → Int32) (j : Nat) : Nat → Int32 := fun k => if k = 4 then 0 else if 17 ≤ k ∧ k < 17 + j then g (k - 12) else if 29 ≤ k ∧ k < 29 + j then g (k - 24) else g k
theorem c_closeM {Q : Int32 → hp → Prop} {S : hp} {v : Int32} (hL : Lay S) (h : Q v (putA S 39 (clo (hI S 39) 12))) : ∃ n, wl_X12_close_35 Q n (setI S 39 4 0) 35 v 0 := by
  have key : ∀ k j, j + k = 12 → wl_X12_close_35 Q (k + 1) (putA S 39 (clo (hI S 39) j)) 35 v (nI j) := by
    intro k
    induction k with
    | zero =>
      intro j hj
      have : j = 12 := by omega
      subst this
      exact ⟨fun _ => h, fun q => absurd (nI_le (a := 12) (b := 12) (by omega) (by omega)) q⟩
    | succ k ih =>
      intro j hj
      unfold wl_X12_close_35 wB_X12_close_35
      have a5 : (5 : Int32) + nI j = nI (5 + j) := nI_add 5 j
      have a17 : (17 : Int32) + nI j = nI (17 + j) := nI_add 17 j
      have a29 : (29 : Int32) + nI j = nI (29 + j) := nI_add 29 j
      have := ih (j + 1) (by omega)
      refine ⟨fun q => absurd q (nI_ge (a := j) (b := 12) (by omega) (by omega)), fun _ => ?_⟩
      simp only [hL.eqs, a5, a17, a29, show vp_in (nI (5 + j)) 147 from vp_in_nI (by omega) (by omega), show vp_in (nI (17 + j)) 147 from vp_in_nI (by omega) (by omega), show vp_in (nI (29 + j)) 147 from vp_in_nI (by omega) (by omega), nI_clamp (show 5 + j < 2 ^ 31 by omega), nI_clamp (show 17 + j < 2 ^ 31 by omega), nI_clamp (show 29 + j < 2 ^ 31 by omega), setI_putA, hI_putA_s, nI_1, show (5 + j = 17 + j) = False from eq_false (by omega), hK_putA, hN_putA, hR_putA, hC_putA, hK_setI, hN_setI, hR_setI, hC_setI, hI_setI, hK_setR, hN_setR, hI_setR, hC_setR, hR_setR, hK_cpyI, hN_cpyI, hR_cpyI, hC_cpyI, hI_cpyI, ↓reduceIte, Nat.reduceEqDiff, and_false, false_and, true_and, and_true, forall_eq, forall_eq', exists_eq_left, exists_eq_left', Option.some.injEq, eq_self_iff_true, not_true, not_false_iff, false_implies, true_implies, forall_const, reduceCtorEq, ne_eq]
      have e5 : clo (hI S 39) j (5 + j) = hI S 39 (5 + j) := by unfold clo; rw [if_neg (by omega), if_neg (by omega), if_neg (by omega)]
      have e : (fun i => if i = 29 + j then clo (hI S 39) j (5 + j) else if i = 17 + j then clo (hI S 39) j (5 + j) else clo (hI S 39) j i) = clo (hI S 39) (j + 1) := by
        rw [e5]
        funext i
        unfold clo
        by_cases h1 : i = 29 + j
        · subst h1; rw [if_pos rfl, if_neg (by omega), if_neg (by omega), if_pos (by omega)]; congr 1; omega
        · rw [if_neg h1]
          by_cases h2 : i = 17 + j
          · subst h2; rw [if_pos rfl, if_neg (by omega), if_pos (by omega)]; congr 1; omega
          · rw [if_neg h2]
            by_cases h3 : i = 4
            · rw [if_pos h3, if_pos h3]
            · rw [if_neg h3, if_neg h3]
              by_cases h4 : 17 ≤ i ∧ i < 17 + j
              · rw [if_pos h4, if_pos (by omega)]
              · rw [if_neg h4]
                by_cases h5 : 29 ≤ i ∧ i < 29 + j
                · rw [if_pos h5, if_neg (show ¬ (17 ≤ i ∧ i < 17 + (j + 1)) by omega), if_pos (by omega)]
                · rw [if_neg h5, if_neg (show ¬ (17 ≤ i ∧ i < 17 + (j + 1)) by omega), if_neg (by omega)]
      rw [e]
      exact this
  refine ⟨13, ?_⟩
  have := key 12 0 (by omega)
  have e : clo (hI S 39) 0 = fun i => if i = 4 then 0 else hI S 39 i := by
    funext i
    unfold clo
    by_cases h3 : i = 4
    · rw [if_pos h3, if_pos h3]
    · rw [if_neg h3, if_neg h3, if_neg (by omega), if_neg (by omega)]
  rw [e, ← setI_asA] at this
  exact this
theorem p_close : st_close Rel := by
  intro S h
  obtain ⟨d, m, l, ⟨hd, hm, hl⟩, v2, v3, v4, v5, v6, v7, v8, vS⟩ := h.view
  obtain ⟨n, lc, c1, c2, c3, c4, c5, c6, c7⟩ := h.2.2.2.2.2.2.2.1
  refine ⟨h.1.eqs.1, ?_⟩
  obtain ⟨Q, hQ⟩ : ∃ Q : Int32 → hp → Prop, Q = fun (r : Int32) (S1 : hp) => hK S1 35 = 11 ∧ wp_X12_close (fun r2 S2 => r = r2 ∧ Rel S2) S1 35  := ⟨_, rfl⟩
  rw [← hQ]
  unfold wp_X11_close
  simp only [h.1.eqs, v2, ↓reduceIte, Nat.reduceEqDiff, and_false, false_and, true_and, and_true, forall_eq, forall_eq', exists_eq_left, exists_eq_left', Option.some.injEq, eq_self_iff_true, not_true, not_false_iff, false_implies, true_implies, forall_const, reduceCtorEq, ne_eq]
  rcases v3 with ⟨s0, -⟩ | ⟨s1, -⟩
  · simp only [s0, ↓reduceIte, Nat.reduceEqDiff, and_false, false_and, true_and, and_true, forall_eq, forall_eq', exists_eq_left, exists_eq_left', Option.some.injEq, eq_self_iff_true, not_true, not_false_iff, false_implies, true_implies, forall_const, reduceCtorEq, ne_eq]
    simp only [hQ, wp_X12_close, h.1.eqs, e_isThereM (lay0 h.1), bI0, hI_setI, s0, show ((0 : Int32) = 1) = False from eq_false (by decide), decide_false, hK_putA, hN_putA, hR_putA, hC_putA, hK_setI, hN_setI, hR_setI, hC_setI, hI_setI, hK_setR, hN_setR, hI_setR, hC_setR, hR_setR, hK_cpyI, hN_cpyI, hR_cpyI, hC_cpyI, hI_cpyI, ↓reduceIte, Nat.reduceEqDiff, and_false, false_and, true_and, and_true, forall_eq, forall_eq', exists_eq_left, exists_eq_left', Option.some.injEq, eq_self_iff_true, not_true, not_false_iff, false_implies, true_implies, forall_const, reduceCtorEq, ne_eq]
    exact h.thr 0
  · simp only [s1, i1_ne0, ↓reduceIte, Nat.reduceEqDiff, and_false, false_and, true_and, and_true, forall_eq, forall_eq', exists_eq_left, exists_eq_left', Option.some.injEq, eq_self_iff_true, not_true, not_false_iff, false_implies, true_implies, forall_const, reduceCtorEq, ne_eq]
    refine c_keepAct h c1 c2 c3 c5 (fun S1 hKA => ?_)
    obtain ⟨hL1, r16, low⟩ := hKA.facts h
    have l16 := (low 16 (by decide) (by decide) (by decide)).1
    have l17 := (low 17 (by decide) (by decide) (by decide)).1
    have l18 := (low 18 (by decide) (by decide) (by decide)).1
    have l19 := (low 19 (by decide) (by decide) (by decide)).1
    have l21 := (low 21 (by decide) (by decide) (by decide)).1
    simp only [hL1.eqs, ↓reduceIte, Nat.reduceEqDiff, and_false, false_and, true_and, and_true, forall_eq, forall_eq', exists_eq_left, exists_eq_left', Option.some.injEq, eq_self_iff_true, not_true, not_false_iff, false_implies, true_implies, forall_const, reduceCtorEq, ne_eq]
    refine c_endLog hL1 (d := d) (by rw [l16]; exact v2.2.2.2.2.2.1) hd ?_
    rw [l16, v2.2.2.2.2.2.2.2]
    generalize hS2 : setI (putA (putA S1 18 (fst (hI S1 18) (hI S1 17) (3 * d))) 19 (fst (hI S1 19) (hI S1 17) (3 * d))) 16 9 0 = S2
    have F2 : Fr (fun b => 16 ≤ b ∧ b ≤ 21) S1 S2 := by rw [← hS2]; exact (by repeat' (first | with_reducible apply Fr.setI | with_reducible apply Fr.putA | with_reducible apply Fr.setR | with_reducible apply Fr.cpyI | with_reducible apply Fr.newC | with_reducible exact Fr.rfl' | (simp; done) | (simp; omega)))
    have hL2 : Lay S2 := by rw [← hS2]; exact hL1
    have q39 : hI S2 39 = hI S 39 := by rw [← hS2, hI_setI_ne (by decide), hI_putA_ne (by decide), hI_putA_ne (by decide)]; exact (low 39 (by decide) (by decide) (by decide)).1
    have q35 : hI S2 35 = hI S 35 := by rw [← hS2, hI_setI_ne (by decide), hI_putA_ne (by decide), hI_putA_ne (by decide)]; exact (low 35 (by decide) (by decide) (by decide)).1
    simp only [hQ, wp_X12_close, hL2.eqs, e_isThereM (lay0 hL2), bI0, hI_setI, q39, s1, decide_true, Bool.true_eq_false, hK_putA, hN_putA, hR_putA, hC_putA, hK_setI, hN_setI, hR_setI, hC_setI, hI_setI, hK_setR, hN_setR, hI_setR, hC_setR, hR_setR, hK_cpyI, hN_cpyI, hR_cpyI, hC_cpyI, hI_cpyI, ↓reduceIte, Nat.reduceEqDiff, and_false, false_and, true_and, and_true, forall_eq, forall_eq', exists_eq_left, exists_eq_left', Option.some.injEq, eq_self_iff_true, not_true, not_false_iff, false_implies, true_implies, forall_const, reduceCtorEq, ne_eq]
    refine m_keep (lay0 hL2) c1 (by rw [hI_setI, if_neg (by omega), q35]; exact c4) (fun S4 z1 z2 z3 z4 => ?_)
    have hL4 : Lay S4 := by
      obtain ⟨y1, y2, y3, y4⟩ := z1
      refine ⟨fun b hb => by rw [y2, y3]; exact hL2.1 b hb, fun q hq => by rw [y4]; exact hL2.2.1 q hq, by rw [y1]; exact hL2.2.2⟩
    have s39 : hI S4 39 = hI S 39 := (z2 39 (by decide) (by decide)).trans ((hI_setI_ne (by decide)).trans q39)
    simp only [hL4.eqs, vi4, cl4, s39, v2, ↓reduceIte, Nat.reduceEqDiff, and_false, false_and, true_and, and_true, forall_eq, forall_eq', exists_eq_left, exists_eq_left', Option.some.injEq, eq_self_iff_true, not_true, not_false_iff, false_implies, true_implies, forall_const, reduceCtorEq, ne_eq]
    refine c_closeM hL4 ⟨rfl, ?_⟩
    rw [s39]
    have i0 : (0 : Int32) = nI 0 := rfl
    refine h.fin2 c1 c2 c3 c5 hKA F2 (by rw [← hS2]; rfl) z1 z2 z3 z4 ⟨v2.1, hd⟩ s1 (l := 0) (fun k hk => ?_) (fun k hk => ?_) ?_ (by omega) (fun i hi => by omega) ⟨?_, ?_, ?_, ?_, ?_⟩ (fun k hk => ⟨?_, ?_, ?_⟩) (fun k hk => by omega)
    · unfold clo; rw [if_neg (by omega), if_neg (by omega), if_neg (by omega)]
    · obtain ⟨w1, w2, w3⟩ := v7 k hk
      refine ⟨?_, ?_, ?_⟩
      · unfold clo; rw [if_neg (by omega), if_neg (by omega), if_neg (by omega)]; exact w1
      · unfold clo; rw [if_neg (by omega), if_pos (by omega), show 17 + k - 12 = 5 + k by omega]; exact w1
      · unfold clo; rw [if_neg (by omega), if_neg (by omega), if_pos (by omega), show 29 + k - 24 = 5 + k by omega]; exact w1
    · unfold clo; rw [if_pos rfl, i0]
    · rw [← hS2, hI_setI, if_neg (by omega), hI_putA_ne (by decide), hI_putA_ne (by decide), l16]; exact v2.2.2.2.1
    · rw [← hS2, hI_setI, if_neg (by omega), hI_putA_ne (by decide), hI_putA_ne (by decide), l16]; exact v2.2.2.2.2.1
    · rw [← hS2, hI_setI, if_neg (by omega), hI_putA_ne (by decide), hI_putA_ne (by decide), l16, v2.1]; exact v2.2.2.2.2.2.1
    · rw [← hS2, hI_setI, if_neg (by omega), hI_putA_ne (by decide), hI_putA_ne (by decide), l16, v2.2.1]; exact v2.2.2.2.2.2.2.1
    · rw [← hS2, hI_setI, if_pos ⟨rfl, rfl⟩, i0]
    · rw [← hS2, hI_setI_ne (by decide), hI_putA_ne (by decide), hI_putA_ne (by decide), l17, (v4 k hk).1]; unfold clo; rw [if_neg (by omega), if_neg (by omega), if_neg (by omega)]
    · rw [← hS2, hI_setI_ne (by decide), hI_putA_ne (by decide), hI_putA_s]; unfold fst clo; rw [if_pos hk, if_neg (by omega), if_pos (by omega), l17, (v4 k hk).1, show 17 + k - 12 = 5 + k by omega]
    · rw [← hS2, hI_setI_ne (by decide), hI_putA_s]; unfold fst clo; rw [if_pos hk, if_neg (by omega), if_neg (by omega), if_pos (by omega), l17, (v4 k hk).1, show 29 + k - 24 = 5 + k by omega]
