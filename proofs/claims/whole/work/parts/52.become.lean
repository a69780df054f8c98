theorem SL.dis {S : hp} {a d : Nat} (ha : SL S a) (hd : SL S d) (hne : d ≠ a) : d + 5 < a ∨ a + 5 < d := by
  have k1 := ha.eqs
  have k2 := hd.eqs
  by_cases h1 : d + 5 < a
  · exact Or.inl h1
  by_cases h2 : a + 5 < d
  · exact Or.inr h2
  exfalso
  rcases (show (d = a + 1 ∨ d = a + 2 ∨ d = a + 3 ∨ d = a + 4 ∨ d = a + 5) ∨ (a = d + 1 ∨ a = d + 2 ∨ a = d + 3 ∨ a = d + 4 ∨ a = d + 5) by omega) with (h | h | h | h | h) | (h | h | h | h | h)
  · have := k2.1; rw [h, k1.2.1] at this; omega
  · have := k2.1; rw [h, k1.2.2.1] at this; omega
  · have := k2.1; rw [h, k1.2.2.2.1] at this; omega
  · have := k2.1; rw [h, k1.2.2.2.2.1] at this; omega
  · have := k2.1; rw [h, k1.2.2.2.2.2.1] at this; omega
  · have := k1.1; rw [h, k2.2.1] at this; omega
  · have := k1.1; rw [h, k2.2.2.1] at this; omega
  · have := k1.1; rw [h, k2.2.2.2.1] at this; omega
  · have := k1.1; rw [h, k2.2.2.2.2.1] at this; omega
  · have := k1.1; rw [h, k2.2.2.2.2.2.1] at this; omega
/-- a whole row of references put in place -/
def putR (S : hp) (a : Nat) (g : Nat → Option Nat) : hp := (S.1, S.2.1, S.2.2.1, S.2.2.2.1, (fun b => if b = a then g else S.2.2.2.2 b))
theorem hC_putR (S : hp) (a : Nat) (g : Nat → Option Nat) : hC (putR S a g) = hC S := rfl
theorem hK_putR (S : hp) (a : Nat) (g : Nat → Option Nat) : hK (putR S a g) = hK S := rfl
theorem hN_putR (S : hp) (a : Nat) (g : Nat → Option Nat) : hN (putR S a g) = hN S := rfl
theorem hI_putR (S : hp) (a : Nat) (g : Nat → Option Nat) : hI (putR S a g) = hI S := rfl
theorem hR_putR (S : hp) (a : Nat) (g : Nat → Option Nat) (b : Nat) : hR (putR S a g) b = if b = a then g else hR S b := rfl
theorem setR_putR (S : hp) (a k : Nat) (g : Nat → Option Nat) (v : Option Nat) : setR (putR S a g) a k v = putR S a (fun i => if i = k then v else g i) := by
  unfold setR putR
  simp only [Prod.mk.injEq, true_and]
  funext b j
  by_cases hb : b = a
  · simp [hb]
  · simp [hb]
theorem putR_self (S : hp) (a : Nat) : putR S a (hR S a) = S := by
  unfold putR hR
  obtain ⟨c, k, n, i, r⟩ := S
  simp only [Prod.mk.injEq, true_and]
  funext b
  by_cases hb : b = a
  · simp [hb]
  · simp [hb]
/-- the street d has become the street a -/
def Bec (S : hp) (d a l : Nat) (S' : hp) : Prop := (hC S' = hC S ∧ hK S' = hK S ∧ hN S' = hN S) ∧ (∀ b, b < d ∨ d + 5 < b → hI S' b = hI S b ∧ hR S' b = hR S b) ∧ hR S' d = hR S d ∧ (hI S' d 5 = hI S a 5 ∧ hI S' d 6 = hI S a 6 ∧ hI S' d 7 = hI S a 7 ∧ hI S' d 8 = hI S a 8 ∧ hI S' d 9 = hI S a 9) ∧ (∀ k, k < 12 → hI S' (d + 1) k = hI S (a + 1) k ∧ hI S' (d + 2) k = hI S (a + 2) k ∧ hI S' (d + 3) k = hI S (a + 3) k) ∧ (∀ j, j < 5 → hR S' (d + 4) j = hR S (a + 4) j) ∧ ∀ k, k < 6 * l → hI S' (d + 5) k = hI S (a + 5) k
theorem becL {Q : hp → Prop} {S : hp} {d a : Nat} (hd : SL S d) (ha : SL S a) (hne : d + 5 < a ∨ a + 5 < d) (hz : isZ (hI S a 5)) (h : Q (setI (setI (setI (setI (setI (putR S (d + 4) (fun j => if j < 5 then hR S (a + 4) j else hR S (d + 4) j)) d 5 (hI S a 5)) d 6 (hI S a 6)) d 7 (hI S a 7)) d 8 (hI S a 8)) d 9 (hI S a 9))) : ∃ n, wl_X8_become_76 Q n S d a 0 := by
  have n1 : (a = d) = False := eq_false (by omega)
  have n2 : (a = d + 4) = False := eq_false (by omega)
  have n3 : (d = d + 4) = False := eq_false (by omega)
  have n4 : (a + 4 = d + 4) = False := eq_false (by omega)
  have key : ∀ k j, j + k = 5 → wl_X8_become_76 Q (k + 1) (putR S (d + 4) (fun i => if i < j then hR S (a + 4) i else hR S (d + 4) i)) d a (nI j) := by
    intro k
    induction k with
    | zero =>
      intro j hj
      have : j = 5 := by omega
      subst this
      unfold wl_X8_become_76 wB_X8_become_76
      refine ⟨fun _ => ?_, fun q => absurd (nI_le (a := 5) (b := 5) (by omega) (by omega)) q⟩
      simp only [hK_putR, hI_putR, ha.eqs, hd.eqs, hz, hI_setI, n1, ↓reduceIte, Nat.reduceEqDiff, and_false, false_and, true_and, and_true, forall_eq, forall_eq', exists_eq_left, exists_eq_left', Option.some.injEq, eq_self_iff_true, not_true, not_false_iff, false_implies, true_implies, forall_const, reduceCtorEq, ne_eq]
      exact h
    | succ k ih =>
      intro j hj
      unfold wl_X8_become_76 wB_X8_become_76
      refine ⟨fun q => absurd q (nI_ge (a := j) (b := 5) (by omega) (by omega)), fun _ => ?_⟩
      have := ih (j + 1) (by omega)
      simp only [hK_putR, hN_putR, hR_putR, hI_putR, ha.eqs, hd.eqs, n2, n3, n4, show vp_in (nI j) 5 from vp_in_nI (by omega) (by omega), nI_clamp (show j < 2 ^ 31 by omega), setR_putR, nI_1, ↓reduceIte, Nat.reduceEqDiff, and_false, false_and, true_and, and_true, forall_eq, forall_eq', exists_eq_left, exists_eq_left', Option.some.injEq, eq_self_iff_true, not_true, not_false_iff, false_implies, true_implies, forall_const, reduceCtorEq, ne_eq]
      have e : ∀ v, hR S (a + 4) j = v → (fun i => if i = j then v else if i < j then hR S (a + 4) i else hR S (d + 4) i) = fun i => if i < j + 1 then hR S (a + 4) i else hR S (d + 4) i := by
        intro v hv
        funext i
        by_cases h1 : i = j
        · subst h1; rw [if_pos rfl, if_pos (by omega), hv]
        · rw [if_neg h1]
          by_cases h2 : i < j
          · rw [if_pos h2, if_pos (by omega)]
          · rw [if_neg h2, if_neg (by omega)]
      refine ⟨fun q => ?_, fun r q => ⟨(ha.2.2.2 j r (by omega) q).2, ?_⟩⟩
      · rw [e _ q]; exact this
      · rw [e _ q]; exact this
  have := key 5 0 (by omega)
  refine ⟨6, ?_⟩
  have e : (fun i => if i < 0 then hR S (a + 4) i else hR S (d + 4) i) = hR S (d + 4) := by funext i; simp
  rw [e, putR_self] at this
  exact this
theorem SL.cpy {S : hp} {a x d sp dp n : Nat} (h : SL S a) : SL (cpyI S x d sp dp n) a := h
theorem c_become {Q : hp → Prop} {S : hp} {d a l : Nat} (hd : SL S d) (ha : SL S a) (hne : d ≠ a) (hl : hI S a 9 = nI l) (h16 : l ≤ 16) (hz : isZ (hI S a 5)) (h : ∀ S', Bec S d a l S' → Q S') : wp_X8_become Q S d a := by
  have dis := ha.dis hd hne
  have e12 : (nI 12).toNatClampNeg = 12 := nI_clamp (by omega)
  have p12 : ¬ nI 12 < 0 := nI_pos (by omega)
  have e6 : (6 : Int32) * nI l = nI (6 * l) := by rw [← nI_mul]; rfl
  unfold wp_X8_become
  simp only [hd.eqs, ha.eqs, e12, p12, cl0, hK_cpyI, hN_cpyI, hR_cpyI, Nat.zero_add, Nat.le_refl, ↓reduceIte, Nat.reduceEqDiff, and_false, false_and, true_and, and_true, forall_eq, forall_eq', exists_eq_left, exists_eq_left', Option.some.injEq, eq_self_iff_true, not_true, not_false_iff, false_implies, true_implies, forall_const, reduceCtorEq, ne_eq]
  have x1 : hI (cpyI (cpyI (cpyI S (a + 1) (d + 1) 0 0 12) (a + 2) (d + 2) 0 0 12) (a + 3) (d + 3) 0 0 12) a = hI S a := by
    rw [hI_cpyI_ne (by omega), hI_cpyI_ne (by omega), hI_cpyI_ne (by omega)]
  rw [x1, hl, e6, nI_clamp (show 6 * l < 2 ^ 31 by omega)]
  refine ⟨nI_pos (by omega), by omega, by omega, ?_⟩
  generalize hT : cpyI (cpyI (cpyI (cpyI S (a + 1) (d + 1) 0 0 12) (a + 2) (d + 2) 0 0 12) (a + 3) (d + 3) 0 0 12) (a + 5) (d + 5) 0 0 (6 * l) = T
  have tC : hC T = hC S := by rw [← hT]; rfl
  have tK : hK T = hK S := by rw [← hT]; rfl
  have tN : hN T = hN S := by rw [← hT]; rfl
  have tR : hR T = hR S := by rw [← hT]; rfl
  have tI : ∀ b, b ≠ d + 1 → b ≠ d + 2 → b ≠ d + 3 → b ≠ d + 5 → hI T b = hI S b := fun b q1 q2 q3 q5 => by
    rw [← hT, hI_cpyI_ne q5, hI_cpyI_ne q3, hI_cpyI_ne q2, hI_cpyI_ne q1]
  have t1 : ∀ k, k < 12 → hI T (d + 1) k = hI S (a + 1) k := fun k hk => by
    rw [← hT, hI_cpyI_ne (by omega), hI_cpyI_ne (by omega), hI_cpyI_ne (by omega), hI_cpyI, if_pos (by omega)]; simp
  have t2 : ∀ k, k < 12 → hI T (d + 2) k = hI S (a + 2) k := fun k hk => by
    rw [← hT, hI_cpyI_ne (by omega), hI_cpyI_ne (by omega), hI_cpyI, if_pos (by omega), hI_cpyI_ne (by omega)]; simp
  have t3 : ∀ k, k < 12 → hI T (d + 3) k = hI S (a + 3) k := fun k hk => by
    rw [← hT, hI_cpyI_ne (by omega), hI_cpyI, if_pos (by omega), hI_cpyI_ne (by omega), hI_cpyI_ne (by omega)]; simp
  have t5 : ∀ k, k < 6 * l → hI T (d + 5) k = hI S (a + 5) k := fun k hk => by
    rw [← hT, hI_cpyI, if_pos (by omega), hI_cpyI_ne (by omega), hI_cpyI_ne (by omega), hI_cpyI_ne (by omega)]; simp
  have sd : SL T d := by rw [← hT]; exact hd.cpy.cpy.cpy.cpy
  have sa : SL T a := by rw [← hT]; exact ha.cpy.cpy.cpy.cpy
  have ta := tI a (by omega) (by omega) (by omega) (by omega)
  have td := tI d (by omega) (by omega) (by omega) (by omega)
  refine becL sd sa (by omega) (by rw [ta]; exact hz) (h _ ?_)
  rw [ta, tR]
  refine ⟨⟨tC, tK, tN⟩, fun b hb => ⟨?_, ?_⟩, ?_, ⟨?_, ?_, ?_, ?_, ?_⟩, fun k hk => ⟨?_, ?_, ?_⟩, fun j hj => ?_, fun k hk => ?_⟩
  · rw [hI_setI_ne (by omega), hI_setI_ne (by omega), hI_setI_ne (by omega), hI_setI_ne (by omega), hI_setI_ne (by omega), hI_putR, tI b (by omega) (by omega) (by omega) (by omega)]
  · simp only [hR_setI, hR_putR, tR]; rw [if_neg (by omega)]
  · simp only [hR_setI, hR_putR, tR]; rw [if_neg (by omega)]
  · simp only [hI_setI, ↓reduceIte, Nat.reduceEqDiff, and_false, false_and, true_and, and_true, forall_eq, forall_eq', exists_eq_left, exists_eq_left', Option.some.injEq, eq_self_iff_true, not_true, not_false_iff, false_implies, true_implies, forall_const, reduceCtorEq, ne_eq]
  · simp only [hI_setI, ↓reduceIte, Nat.reduceEqDiff, and_false, false_and, true_and, and_true, forall_eq, forall_eq', exists_eq_left, exists_eq_left', Option.some.injEq, eq_self_iff_true, not_true, not_false_iff, false_implies, true_implies, forall_const, reduceCtorEq, ne_eq]
  · simp only [hI_setI, ↓reduceIte, Nat.reduceEqDiff, and_false, false_and, true_and, and_true, forall_eq, forall_eq', exists_eq_left, exists_eq_left', Option.some.injEq, eq_self_iff_true, not_true, not_false_iff, false_implies, true_implies, forall_const, reduceCtorEq, ne_eq]
  · simp only [hI_setI, ↓reduceIte, Nat.reduceEqDiff, and_false, false_and, true_and, and_true, forall_eq, forall_eq', exists_eq_left, exists_eq_left', Option.some.injEq, eq_self_iff_true, not_true, not_false_iff, false_implies, true_implies, forall_const, reduceCtorEq, ne_eq]
  · simp only [hI_setI, ↓reduceIte, Nat.reduceEqDiff, and_false, false_and, true_and, and_true, forall_eq, forall_eq', exists_eq_left, exists_eq_left', Option.some.injEq, eq_self_iff_true, not_true, not_false_iff, false_implies, true_implies, forall_const, reduceCtorEq, ne_eq]
  · rw [hI_setI_ne (by omega), hI_setI_ne (by omega), hI_setI_ne (by omega), hI_setI_ne (by omega), hI_setI_ne (by omega), hI_putR, t1 k hk]
  · rw [hI_setI_ne (by omega), hI_setI_ne (by omega), hI_setI_ne (by omega), hI_setI_ne (by omega), hI_setI_ne (by omega), hI_putR, t2 k hk]
  · rw [hI_setI_ne (by omega), hI_setI_ne (by omega), hI_setI_ne (by omega), hI_setI_ne (by omega), hI_setI_ne (by omega), hI_putR, t3 k hk]
  · simp only [hR_setI, hR_putR, ↓reduceIte, Nat.reduceEqDiff, and_false, false_and, true_and, and_true, forall_eq, forall_eq', exists_eq_left, exists_eq_left', Option.some.injEq, eq_self_iff_true, not_true, not_false_iff, false_implies, true_implies, forall_const, reduceCtorEq, ne_eq]; rw [if_pos hj]
  · rw [hI_setI_ne (by omega), hI_setI_ne (by omega), hI_setI_ne (by omega), hI_setI_ne (by omega), hI_setI_ne (by omega), hI_putR, t5 k hk]
theorem Bec.fr {S S' : hp} {d a l : Nat} (h : Bec S d a l S') : Fr (fun b => d ≤ b ∧ b ≤ d + 5) S S' := by
  obtain ⟨⟨c, k, n⟩, o, -⟩ := h
  exact ⟨by rw [c]; exact Nat.le_refl _, fun b _ => by rw [k, n]; exact ⟨rfl, rfl⟩, fun b _ hb => o b (by omega)⟩
theorem Bec.sl {S S' : hp} {d a l : Nat} (h : Bec S d a l S') (hd : SL S d) (ha : SL S a) : SL S' d := by
  obtain ⟨⟨c, k, n⟩, o, r, -, -, m, -⟩ := h
  obtain ⟨d1, d2, d3, d4⟩ := hd
  refine ⟨by rw [c, k]; exact d1, by rw [n]; exact d2, by rw [r]; exact d3, fun j q hj hq => ?_⟩
  rw [m j hj] at hq
  rw [c, k]
  exact ha.2.2.2 j q hj hq
theorem Bec.rst {S S' : hp} {d a : Nat} {f : Nat → Int32} (hR0 : RSt S a f) (hd : SL S d) (h : Bec S d a (nl f) S') (hdm : ∀ r, r < hC S → isM (hK S r) → r < d ∨ d + 5 < r) : RSt S' d f := by
  have hsl := h.sl hd hR0.1
  obtain ⟨⟨c, k, n⟩, o, r, ⟨i5, i6, i7, i8, i9⟩, ar, m, g⟩ := h
  obtain ⟨hS, hW, ⟨f5, f6, f7, f8, f9⟩, hA, hM, hG⟩ := hR0
  have w2 := hW.1.2
  have w4 := hW.2.1.2
  refine ⟨hsl, hW, ⟨by rw [i5]; exact f5, by rw [i6]; exact f6, by rw [i7]; exact f7, by rw [i8]; exact f8, by rw [i9]; exact f9⟩, fun q hq => ?_, fun j hj => ?_, fun q hq => ?_⟩
  · obtain ⟨a1, a2, a3⟩ := ar q (by omega)
    rw [a1, a2, a3]; exact hA q hq
  · obtain ⟨z, h1, h2, h3, h4, h5⟩ := hM j hj
    have hz := o z (hdm z h2 (by rw [h3]; exact mkd_isM _))
    exact ⟨z, by rw [m j (by omega)]; exact h1, by rw [c]; exact h2, by rw [k]; exact h3, by rw [hz.1]; exact h4, by rw [hz.1]; exact h5⟩
  · rw [g q hq]; exact hG q hq
