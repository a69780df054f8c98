theorem Rel.asked {S S' : hp} (h : Rel S) (hf : Fr (fun b => b = 31 ∨ b = 32 ∨ b = 49 ∨ b = 35) S S') (hr : hR S' = hR S) (a0 : RTr S') (a1 : hI S' 35 1 = hI S 35 1) (a2 : hI S' 35 17 = hI S 35 17) (a5 : hI S' 35 8 = hI S 35 8) (a7 : hI S' 35 10 = hI S 35 10) : Rel S' := by
  have hL := h.1
  have q : ∀ b, b < 50 → b ≠ 31 ∧ b ≠ 32 ∧ b ≠ 49 ∧ b ≠ 35 → hI S' b = hI S b := fun b hb h0 => (hf.2.2 b (Nat.lt_of_lt_of_le hb hL.2.2) (by omega)).1
  refine h.low hf (fun b hb => by omega) (hL.fr hf (fun b _ _ => by rw [hr])) (h.2.1.fr ⟨q 13 (by decide) (by decide), q 36 (by decide) (by decide), q 11 (by decide) (by decide), q 12 (by decide) (by decide), q 37 (by decide) (by decide), q 38 (by decide) (by decide), fun r hr => q (3 + r) (by omega) (by omega)⟩) (h.2.2.1.fr ⟨by rw [q 14 (by decide) (by decide)], a7, q 15 (by decide) (by decide), q 42 (by decide) (by decide)⟩) ⟨by rw [a1, q 0 (by decide) (by decide)]; exact h.2.2.2.1.1, by rw [a2, q 0 (by decide) (by decide)]; exact h.2.2.2.1.2⟩ (vec_same (q 39 (by decide) (by decide))) ⟨q 44 (by decide) (by decide), q 45 (by decide) (by decide), by rw [hr]⟩ ⟨by rw [q 0 (by decide) (by decide)], a5, by rw [q 0 (by decide) (by decide)], q 41 (by decide) (by decide), by rw [hr]⟩ a0
/-- a body begins: of the class, of the reference -/
def bg (S : hp) (n : Nat) (b : Int32) : hp := setI (setI S 32 n b) 31 1 (nI (n + 1))
def bgM (S : hp) (n : Nat) (b : Int32) : hp := setI (setI S 49 n b) 35 25 (nI (n + 1))
theorem hK_bg (S : hp) (n : Nat) (b : Int32) : hK (bg S n b) = hK S := rfl
theorem hK_bgM (S : hp) (n : Nat) (b : Int32) : hK (bgM S n b) = hK S := rfl
theorem hR_bg (S : hp) (n : Nat) (b : Int32) : hR (bg S n b) = hR S := rfl
theorem hR_bgM (S : hp) (n : Nat) (b : Int32) : hR (bgM S n b) = hR S := rfl
theorem Lay_bg (S : hp) (n : Nat) (b : Int32) : Lay (bg S n b) = Lay S := rfl
theorem Lay_bgM (S : hp) (n : Nat) (b : Int32) : Lay (bgM S n b) = Lay S := rfl
theorem hI_bg (S : hp) (n : Nat) (b : Int32) (a k : Nat) : hI (bg S n b) a k = if a = 31 ∧ k = 1 then nI (n + 1) else if a = 32 ∧ k = n then b else hI S a k := rfl
theorem hI_bgM (S : hp) (n : Nat) (b : Int32) (a k : Nat) : hI (bgM S n b) a k = if a = 35 ∧ k = 25 then nI (n + 1) else if a = 49 ∧ k = n then b else hI S a k := rfl
theorem e_begin {Q : hp → Prop} {S : hp} {b : Int32} (hL : Lay S) (n : Nat) (h : hI S 31 1 = nI n) (hn : n < 16) : wp_X0_begin Q S 31 b ↔ Q (bg S n b) := by
  unfold wp_X0_begin
  have h1 : ¬ (16 : Int32) ≤ nI n := nI_ge (b := 16) hn (by omega)
  simp only [hL.eqs, h, h1, show vp_in (nI n) 16 from vp_in_nI hn (by omega), nI_clamp (show n < 2 ^ 31 by omega), hI_setI, nI_1, ↓reduceIte, Nat.reduceEqDiff, and_false, false_and, true_and, and_true, forall_eq, forall_eq', exists_eq_left, exists_eq_left', Option.some.injEq, eq_self_iff_true, not_true, not_false_iff, false_implies, true_implies, forall_const, reduceCtorEq, ne_eq]
  rfl
theorem e_began {Q : hp → Prop} {S : hp} {b : Int32} (hL : Lay S) (n : Nat) (h : hI S 35 25 = nI n) (hn : n < 16) : wp_X12_began Q S 35 b ↔ Q (bgM S n b) := by
  unfold wp_X12_began
  have h1 : ¬ (16 : Int32) ≤ nI n := nI_ge (b := 16) hn (by omega)
  simp only [hL.eqs, h, h1, show vp_in (nI n) 16 from vp_in_nI hn (by omega), nI_clamp (show n < 2 ^ 31 by omega), hI_setI, nI_1, ↓reduceIte, Nat.reduceEqDiff, and_false, false_and, true_and, and_true, forall_eq, forall_eq', exists_eq_left, exists_eq_left', Option.some.injEq, eq_self_iff_true, not_true, not_false_iff, false_implies, true_implies, forall_const, reduceCtorEq, ne_eq]
  rfl
def tell_by (S : hp) (j : Nat) (i : Nat) : Bool := decide (hI S 39 (51 + 6 * i) = 0) && decide (hI S 39 (52 + 6 * i) = nI j)
theorem e_isTelling {Q : Int32 → hp → Prop} {S : hp} {a i : Nat} (hS : SL S a) (hi : i < 16) : wp_X8_isTelling Q S a (nI i) ↔ Q (bI (decide (hI S (a + 5) (6 * i) = 0))) S := by
  unfold wp_X8_isTelling
  have e := e_part (Q := fun r3 S1 => (¬r3 = 0 → Q 0 S1) ∧ (r3 = 0 → Q 1 S1)) (c := 0) hS hi (by omega)
  simp only [hS.eqs, ↓reduceIte, Nat.reduceEqDiff, and_false, false_and, true_and, and_true, forall_eq, forall_eq', exists_eq_left, exists_eq_left', Option.some.injEq, eq_self_iff_true, not_true, not_false_iff, false_implies, true_implies, forall_const, reduceCtorEq, ne_eq]
  refine Iff.trans e ?_
  simp only [Nat.add_zero]
  by_cases h : hI S (a + 5) (6 * i) = 0 <;> simp [h, bI]
theorem e_isTellingBy {Q : Int32 → hp → Prop} {S : hp} {a i : Nat} {x : Int32} (hS : SL S a) (hi : i < 16) : wp_X8_isTellingBy Q S a (nI i) x ↔ Q (bI (decide (hI S (a + 5) (6 * i) = 0) && decide (hI S (a + 5) (6 * i + 1) = x))) S := by
  unfold wp_X8_isTellingBy
  simp only [hS.eqs, e_isTelling hS hi, bI0, ↓reduceIte, Nat.reduceEqDiff, and_false, false_and, true_and, and_true, forall_eq, forall_eq', exists_eq_left, exists_eq_left', Option.some.injEq, eq_self_iff_true, not_true, not_false_iff, false_implies, true_implies, forall_const, reduceCtorEq, ne_eq]
  have e := e_part (Q := fun r7 S5 => (¬r7 = x → Q 0 S5) ∧ (r7 = x → Q 1 S5)) (c := 1) hS hi (by omega)
  by_cases h : hI S (a + 5) (6 * i) = 0
  · simp only [h, decide_true, Bool.true_and, Bool.true_eq_false, ↓reduceIte, Nat.reduceEqDiff, and_false, false_and, true_and, and_true, forall_eq, forall_eq', exists_eq_left, exists_eq_left', Option.some.injEq, eq_self_iff_true, not_true, not_false_iff, false_implies, true_implies, forall_const, reduceCtorEq, ne_eq]
    refine Iff.trans e ?_
    by_cases h2 : hI S (a + 5) (6 * i + 1) = x <;> simp [h2, bI]
  · simp [h, bI]
theorem e_isTellingOf {Q : Int32 → hp → Prop} {S : hp} {a i : Nat} {x : Int32} (hS : SL S a) (hi : i < 16) : wp_X8_isTellingOf Q S a (nI i) x ↔ Q (bI (decide (hI S (a + 5) (6 * i) = 0) && decide (hI S (a + 5) (6 * i + 2) = x))) S := by
  unfold wp_X8_isTellingOf
  simp only [hS.eqs, e_isTelling hS hi, bI0, ↓reduceIte, Nat.reduceEqDiff, and_false, false_and, true_and, and_true, forall_eq, forall_eq', exists_eq_left, exists_eq_left', Option.some.injEq, eq_self_iff_true, not_true, not_false_iff, false_implies, true_implies, forall_const, reduceCtorEq, ne_eq]
  have e := e_part (Q := fun r7 S5 => (¬r7 = x → Q 0 S5) ∧ (r7 = x → Q 1 S5)) (c := 2) hS hi (by omega)
  by_cases h : hI S (a + 5) (6 * i) = 0
  · simp only [h, decide_true, Bool.true_and, Bool.true_eq_false, ↓reduceIte, Nat.reduceEqDiff, and_false, false_and, true_and, and_true, forall_eq, forall_eq', exists_eq_left, exists_eq_left', Option.some.injEq, eq_self_iff_true, not_true, not_false_iff, false_implies, true_implies, forall_const, reduceCtorEq, ne_eq]
    refine Iff.trans e ?_
    by_cases h2 : hI S (a + 5) (6 * i + 2) = x <;> simp [h2, bI]
  · simp [h, bI]
theorem c_tellingsBy {Q : Int32 → hp → Prop} {S : hp} {a l : Nat} {x : Int32} (hS : SL S a) (hl : hI S a 9 = nI l) (h16 : l ≤ 16) (h : Q (ct (fun i => decide (hI S (a + 5) (6 * i) = 0) && decide (hI S (a + 5) (6 * i + 1) = x)) l) S) : wp_X8_tellingsBy Q S a x := by
  have key : ∀ k j, j + k = l → wl_X8_tellingsBy_4 Q (k + 1) S a x (ct (fun i => decide (hI S (a + 5) (6 * i) = 0) && decide (hI S (a + 5) (6 * i + 1) = x)) j) (nI j) := by
    intro k
    induction k with
    | zero =>
      intro j hj
      have : j = l := by omega
      subst this
      refine ⟨hS.eqs.1, fun _ => h, fun q => absurd ?_ q⟩
      rw [hl]; exact nI_le (Nat.le_refl _) (by omega)
    | succ k ih =>
      intro j hj
      unfold wl_X8_tellingsBy_4 wB_X8_tellingsBy_4 wB_X8_tellingsBy_24
      refine ⟨hS.eqs.1, fun q => absurd q ?_, fun _ => ?_⟩
      · rw [hl]; exact nI_ge (by omega) (by omega)
      · simp only [e_isTellingBy hS (show j < 16 by omega), nI_1, bI0, ↓reduceIte, Nat.reduceEqDiff, and_false, false_and, true_and, and_true, forall_eq, forall_eq', exists_eq_left, exists_eq_left', Option.some.injEq, eq_self_iff_true, not_true, not_false_iff, false_implies, true_implies, forall_const, reduceCtorEq, ne_eq]
        have := ih (j + 1) (by omega)
        refine ⟨fun q => ?_, fun q => ?_⟩
        · rw [ct_f q]; exact this
        · rw [ct_t (by simpa using q)]; exact this
  exact ⟨l + 1, key l 0 (by omega)⟩
theorem c_markLoop {Q : Int32 → hp → Prop} {S : hp} {l j : Nat} {k : Int32} (hL : Lay S) (hl : hI S 39 4 = nI l) (h16 : l ≤ 16) (h : Q (if k = 1 then nI j + ct (tell_by S j) l else if k = 3 then nI j + ct (tell_by S j) l - 1000 else 2 * (nI j + ct (tell_by S j) l)) S) : ∃ n, wl_X12_markOf_69 Q n S 35 (nI j) k (nI j) 0 := by
  have key : ∀ t i, i + t = l → wl_X12_markOf_69 Q (t + 1) S 35 (nI j) k (nI j + ct (tell_by S j) i) (nI i) := by
    intro t
    induction t with
    | zero =>
      intro i hi
      have : i = l := by omega
      subst this
      unfold wl_X12_markOf_69 wB_X12_markOf_69
      simp only [hL.eqs, vi4, cl4, hl, ↓reduceIte, Nat.reduceEqDiff, and_false, false_and, true_and, and_true, forall_eq, forall_eq', exists_eq_left, exists_eq_left', Option.some.injEq, eq_self_iff_true, not_true, not_false_iff, false_implies, true_implies, forall_const, reduceCtorEq, ne_eq]
      refine ⟨fun _ => ⟨fun q1 => ⟨fun q3 => ?_, fun q3 => ?_⟩, fun q1 => ?_⟩, fun q => absurd (nI_le (Nat.le_refl _) (by omega)) q⟩
      · rw [if_neg q1, if_neg q3] at h; exact h
      · rw [if_neg q1, if_pos q3] at h; exact h
      · rw [if_pos q1] at h; exact h
    | succ t ih =>
      intro i hi
      unfold wl_X12_markOf_69 wB_X12_markOf_69 wB_X12_markOf_106 wB_X12_markOf_107
      simp only [hL.eqs, vi4, cl4, hl, ↓reduceIte, Nat.reduceEqDiff, and_false, false_and, true_and, and_true, forall_eq, forall_eq', exists_eq_left, exists_eq_left', Option.some.injEq, eq_self_iff_true, not_true, not_false_iff, false_implies, true_implies, forall_const, reduceCtorEq, ne_eq]
      refine ⟨fun q => absurd q (nI_ge (by omega) (by omega)), fun _ => ?_⟩
      refine (e_lineOfM (c := 0) hL (show i < 16 by omega) (by omega)).mpr ?_
      have := ih (i + 1) (by omega)
      simp only [nI_1, Nat.add_zero, ↓reduceIte, Nat.reduceEqDiff, and_false, false_and, true_and, and_true, forall_eq, forall_eq', exists_eq_left, exists_eq_left', Option.some.injEq, eq_self_iff_true, not_true, not_false_iff, false_implies, true_implies, forall_const, reduceCtorEq, ne_eq]
      refine ⟨fun q => ?_, fun q => ?_⟩
      · rw [Int32.add_zero, ct_f (p := tell_by S j) (by simp [tell_by, q])]; exact this
      · simp only [hL.eqs, ↓reduceIte, Nat.reduceEqDiff, and_false, false_and, true_and, and_true, forall_eq, forall_eq', exists_eq_left, exists_eq_left', Option.some.injEq, eq_self_iff_true, not_true, not_false_iff, false_implies, true_implies, forall_const, reduceCtorEq, ne_eq]
        refine (e_lineOfM (c := 1) hL (show i < 16 by omega) (by omega)).mpr ?_
        have e9 : 51 + 6 * i + 1 = 52 + 6 * i := by omega
        rw [e9]
        refine ⟨fun q2 => ?_, fun q2 => ?_⟩
        · rw [Int32.add_zero, ct_f (p := tell_by S j) (by simp [tell_by, q2])]; exact this
        · rw [Int32.add_assoc, ct_t (p := tell_by S j) (by simp [tell_by, q, q2])]; exact this
  have := key l 0 (by omega)
  refine ⟨l + 1, ?_⟩
  have e : nI j + ct (tell_by S j) 0 = nI j := Int32.add_zero _
  rw [e] at this
  exact this
