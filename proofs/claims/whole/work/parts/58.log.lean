/-- the six parts of a line -/
def ln6 (x1 x2 x3 x4 x5 x6 : Int32) (c : Nat) : Int32 := match c with
  | 0 => x1
  | 1 => x2
  | 2 => x3
  | 3 => x4
  | 4 => x5
  | _ => x6
def put6 (g : Nat → Int32) (o : Nat) (w : Nat → Int32) : Nat → Int32 := fun k => if o ≤ k ∧ k < o + 6 then w (k - o) else g k
theorem put6_in {g w : Nat → Int32} {o c : Nat} (hc : c < 6) : put6 g o w (o + c) = w c := by unfold put6; rw [if_pos (by omega), show o + c - o = c by omega]
theorem put6_out {g w : Nat → Int32} {o k : Nat} (h : k < o ∨ o + 6 ≤ k) : put6 g o w k = g k := by unfold put6; rw [if_neg (by omega)]
theorem set6 (g : Nat → Int32) (o : Nat) (x1 x2 x3 x4 x5 x6 : Int32) : (fun i => if i = o + 5 then x6 else if i = o + 4 then x5 else if i = o + 3 then x4 else if i = o + 2 then x3 else if i = o + 1 then x2 else if i = o then x1 else g i) = put6 g o (ln6 x1 x2 x3 x4 x5 x6) := by
  funext i
  unfold put6
  by_cases h : o ≤ i ∧ i < o + 6
  · rw [if_pos h]
    rcases (show i = o ∨ i = o + 1 ∨ i = o + 2 ∨ i = o + 3 ∨ i = o + 4 ∨ i = o + 5 by omega) with e | e | e | e | e | e <;> subst e <;> simp [ln6]
  · rw [if_neg h, if_neg (by omega), if_neg (by omega), if_neg (by omega), if_neg (by omega), if_neg (by omega), if_neg (by omega)]
theorem c_addLine {Q : hp → Prop} {S : hp} {a n : Nat} {x1 x2 x3 x4 x5 x6 : Int32} (hS : SL S a) (hn : hI S a 9 = nI n) (h16 : n < 16) (h : Q (setI (putA S (a + 5) (put6 (hI S (a + 5)) (6 * n) (ln6 x1 x2 x3 x4 x5 x6))) a 9 (nI (n + 1)))) : wp_X8_addLine Q S a x1 x2 x3 x4 x5 x6 := by
  unfold wp_X8_addLine
  have e : (6 : Int32) * nI n = nI (6 * n) := by rw [← nI_mul]; rfl
  have e1 : nI (6 * n) + (1 : Int32) = nI (6 * n + 1) := nI_add _ 1
  have e2 : nI (6 * n) + (2 : Int32) = nI (6 * n + 2) := nI_add _ 2
  have e3 : nI (6 * n) + (3 : Int32) = nI (6 * n + 3) := nI_add _ 3
  have e4 : nI (6 * n) + (4 : Int32) = nI (6 * n + 4) := nI_add _ 4
  have e5 : nI (6 * n) + (5 : Int32) = nI (6 * n + 5) := nI_add _ 5
  have ne : (a = a + 5) = False := eq_false (by omega)
  simp only [hS.eqs, hn, e, e1, e2, e3, e4, e5, show vp_in (nI (6 * n)) 96 from vp_in_nI (by omega) (by omega), show vp_in (nI (6 * n + 1)) 96 from vp_in_nI (by omega) (by omega), show vp_in (nI (6 * n + 2)) 96 from vp_in_nI (by omega) (by omega), show vp_in (nI (6 * n + 3)) 96 from vp_in_nI (by omega) (by omega), show vp_in (nI (6 * n + 4)) 96 from vp_in_nI (by omega) (by omega), show vp_in (nI (6 * n + 5)) 96 from vp_in_nI (by omega) (by omega), nI_clamp (show 6 * n < 2 ^ 31 by omega), nI_clamp (show 6 * n + 1 < 2 ^ 31 by omega), nI_clamp (show 6 * n + 2 < 2 ^ 31 by omega), nI_clamp (show 6 * n + 3 < 2 ^ 31 by omega), nI_clamp (show 6 * n + 4 < 2 ^ 31 by omega), nI_clamp (show 6 * n + 5 < 2 ^ 31 by omega), hN_setI, hI_setI, ne, nI_1, ↓reduceIte, Nat.reduceEqDiff, and_false, false_and, true_and, and_true, forall_eq, forall_eq', exists_eq_left, exists_eq_left', Option.some.injEq, eq_self_iff_true, not_true, not_false_iff, false_implies, true_implies, forall_const, reduceCtorEq, ne_eq]
  rw [setI_asA S (a + 5), setI_putA, setI_putA, setI_putA, setI_putA, setI_putA, set6]
  exact h
/-- a street's numbers with one line more -/
def lnf (g : Nat → Int32) (n : Nat) (w : Nat → Int32) : Nat → Int32 := fun k => if k = 4 then nI (n + 1) else put6 g (51 + 6 * n) w k
theorem m_logs {Q : hp → Prop} {S : hp} {n : Nat} {x1 x2 x3 x4 x5 x6 : Int32} (hL : Lay S) (hn : hI S 39 4 = nI n) (h16 : n < 16) (h : Q (putA S 39 (lnf (hI S 39) n (ln6 x1 x2 x3 x4 x5 x6)))) : wp_X12_logs Q S 35 x1 x2 x3 x4 x5 x6 := by
  unfold wp_X12_logs
  have e : (51 : Int32) + (6 : Int32) * nI n = nI (51 + 6 * n) := i2 51 6 n
  have e1 : nI (51 + 6 * n) + (1 : Int32) = nI (51 + 6 * n + 1) := nI_add _ 1
  have e2 : nI (51 + 6 * n) + (2 : Int32) = nI (51 + 6 * n + 2) := nI_add _ 2
  have e3 : nI (51 + 6 * n) + (3 : Int32) = nI (51 + 6 * n + 3) := nI_add _ 3
  have e4 : nI (51 + 6 * n) + (4 : Int32) = nI (51 + 6 * n + 4) := nI_add _ 4
  have e5 : nI (51 + 6 * n) + (5 : Int32) = nI (51 + 6 * n + 5) := nI_add _ 5
  have nn1 : (4 = 51 + 6 * n) = False := eq_false (by omega)
  have nn2 : (4 = 51 + 6 * n + 1) = False := eq_false (by omega)
  have nn3 : (4 = 51 + 6 * n + 2) = False := eq_false (by omega)
  have nn4 : (4 = 51 + 6 * n + 3) = False := eq_false (by omega)
  have nn5 : (4 = 51 + 6 * n + 4) = False := eq_false (by omega)
  have nn6 : (4 = 51 + 6 * n + 5) = False := eq_false (by omega)
  simp only [hL.eqs, vi4, cl4, hn, e, e1, e2, e3, e4, e5, show vp_in (nI (51 + 6 * n)) 147 from vp_in_nI (by omega) (by omega), show vp_in (nI (51 + 6 * n + 1)) 147 from vp_in_nI (by omega) (by omega), show vp_in (nI (51 + 6 * n + 2)) 147 from vp_in_nI (by omega) (by omega), show vp_in (nI (51 + 6 * n + 3)) 147 from vp_in_nI (by omega) (by omega), show vp_in (nI (51 + 6 * n + 4)) 147 from vp_in_nI (by omega) (by omega), show vp_in (nI (51 + 6 * n + 5)) 147 from vp_in_nI (by omega) (by omega), nI_clamp (show 51 + 6 * n < 2 ^ 31 by omega), nI_clamp (show 51 + 6 * n + 1 < 2 ^ 31 by omega), nI_clamp (show 51 + 6 * n + 2 < 2 ^ 31 by omega), nI_clamp (show 51 + 6 * n + 3 < 2 ^ 31 by omega), nI_clamp (show 51 + 6 * n + 4 < 2 ^ 31 by omega), nI_clamp (show 51 + 6 * n + 5 < 2 ^ 31 by omega), hN_setI, hI_setI, nn1, nn2, nn3, nn4, nn5, nn6, nI_1, ↓reduceIte, Nat.reduceEqDiff, and_false, false_and, true_and, and_true, forall_eq, forall_eq', exists_eq_left, exists_eq_left', Option.some.injEq, eq_self_iff_true, not_true, not_false_iff, false_implies, true_implies, forall_const, reduceCtorEq, ne_eq]
  rw [setI_asA S 39, setI_putA, setI_putA, setI_putA, setI_putA, setI_putA, set6, setI_putA]
  exact h
theorem WF.act {f f' : Nat → Int32} (h : WF f) (h01 : f' 0 = f 0 ∧ f' 1 = f 1 ∧ f' 2 = f 2 ∧ f' 3 = f 3) (hst : f 0 = 1) (hm : ∀ k, 41 ≤ k → k < 51 → f' k = f k) (hb : ∀ k, k < 12 → bd (f' (5 + k)) ∧ bd (f' (17 + k)) ∧ bd (f' (29 + k))) (h4 : f' 4 = nI (nl f')) (h16 : nl f' ≤ 16) (hln : ∀ i, i < nl f' → LineOK f' i) : WF f' := by
  obtain ⟨w2, w3, w4, w0, wm, wb, wl⟩ := h
  have e2 : nd f' = nd f := by unfold nd; rw [h01.2.2.1]
  have e3 : nm f' = nm f := by unfold nm; rw [h01.2.2.2]
  refine ⟨by rw [h01.2.2.1, e2]; exact w2, by rw [h01.2.2.2, e3]; exact w3, ⟨h4, h16⟩, ?_, fun j hj => ?_, hb, hln⟩
  · rcases w0 with ⟨q, _⟩ | ⟨q1, q2⟩
    · rw [hst] at q; exact absurd q (by decide)
    · exact Or.inr ⟨by rw [h01.1]; exact q1, by rw [h01.2.1]; exact q2⟩
  · rw [e3] at hj
    have ek : kd f' j = kd f j := by unfold kd; rw [hm _ (by omega) (by omega)]
    rw [hm _ (by omega) (by omega), hm _ (by omega) (by omega), ek]
    exact wm j hj
theorem LineOK.same {f f' : Nat → Int32} {i : Nat} (h : LineOK f i) (e2 : f' 2 = f 2) (e3 : f' 3 = f 3) (e : ∀ k, 51 + 6 * i ≤ k → k < 57 + 6 * i → f' k = f k) : LineOK f' i := by
  unfold LineOK nm nd
  rw [e2, e3, e _ (by omega) (by omega), e _ (by omega) (by omega), e _ (by omega) (by omega), e _ (by omega) (by omega), e _ (by omega) (by omega), e _ (by omega) (by omega)]
  exact h
theorem RSt.upd {P : Nat → Prop} {S S' : hp} {a : Nat} {f f' : Nat → Int32} (h : RSt S a f) (hF : Fr P S S') (hP : ∀ b, b < hC S → P b → ¬ isM (hK S b)) (hr : hR S' a = hR S a ∧ hR S' (a + 4) = hR S (a + 4)) (hW : WF f') (e2 : f' 2 = f 2) (e3 : f' 3 = f 3) (hm : ∀ k, 41 ≤ k → k < 51 → f' k = f k) (hf : hI S' a 5 = f' 0 ∧ hI S' a 6 = f' 1 ∧ hI S' a 7 = f' 2 ∧ hI S' a 8 = f' 3 ∧ hI S' a 9 = f' 4) (hA : ∀ k, k < 3 * nd f → hI S' (a + 1) k = f' (5 + k) ∧ hI S' (a + 2) k = f' (17 + k) ∧ hI S' (a + 3) k = f' (29 + k)) (hG : ∀ k, k < 6 * nl f' → hI S' (a + 5) k = f' (51 + k)) : RSt S' a f' := by
  obtain ⟨hS, hW0, hF0, hA0, hM, hG0⟩ := h
  have q2 : nd f' = nd f := by unfold nd; rw [e2]
  have q3 : nm f' = nm f := by unfold nm; rw [e3]
  have w4 := hW0.2.1.2
  have k : ∀ i, i ≤ 5 → hK S' (a + i) = hK S (a + i) ∧ hN S' (a + i) = hN S (a + i) := fun i hi => hF.2.1 (a + i) (by have := hS.1.1; omega)
  have k0 := k 0 (by omega)
  rw [Nat.add_zero] at k0
  have sl : SL S' a := by
    obtain ⟨⟨d0, d1, d2, d3, d4, d5, d6⟩, ⟨n1, n2, n3, n4, n5⟩, dr, dm⟩ := hS
    refine ⟨⟨Nat.lt_of_lt_of_le d0 hF.1, by rw [k0.1]; exact d1, by rw [(k 1 (by omega)).1]; exact d2, by rw [(k 2 (by omega)).1]; exact d3, by rw [(k 3 (by omega)).1]; exact d4, by rw [(k 4 (by omega)).1]; exact d5, by rw [(k 5 (by omega)).1]; exact d6⟩, ⟨by rw [(k 1 (by omega)).2]; exact n1, by rw [(k 2 (by omega)).2]; exact n2, by rw [(k 3 (by omega)).2]; exact n3, by rw [(k 4 (by omega)).2]; exact n4, by rw [(k 5 (by omega)).2]; exact n5⟩, by rw [hr.1]; exact dr, fun j r hj hq => ?_⟩
    rw [hr.2] at hq
    obtain ⟨z1, z2⟩ := dm j r hj hq
    exact ⟨Nat.lt_of_lt_of_le z1 hF.1, by rw [(hF.2.1 r z1).1]; exact z2⟩
  refine ⟨sl, hW, hf, by rw [q2]; exact hA, fun j hj => ?_, hG⟩
  rw [q3] at hj
  obtain ⟨r, h1, h2, h3, h4, h5⟩ := hM j hj
  have ek : kd f' j = kd f j := by unfold kd; rw [hm _ (by omega) (by omega)]
  have hI' := (hF.2.2 r h2 (fun p => hP r h2 p (by rw [h3]; exact mkd_isM _))).1
  exact ⟨r, by rw [hr.2]; exact h1, Nat.lt_of_lt_of_le h2 hF.1, by rw [ek, (hF.2.1 r h2).1]; exact h3, by rw [hI']; exact h4, by rw [hI', hm _ (by omega) (by omega)]; exact h5⟩
