/-! the tape, read by both -/
def isF (x : Int32) : Bool := rg x 48 57
/-- how many figures stand from p on, of at most t -/
def nf (T : Nat → Int32) : Nat → Nat → Nat
  | 0, _ => 0
  | t + 1, p => if isF (T p) = true then nf T t (p + 1) + 1 else 0
def figs (T : Nat → Int32) (n p : Nat) : Nat := nf T (n - p) p
theorem nf_le (T : Nat → Int32) : ∀ t p, nf T t p ≤ t
  | 0, p => Nat.le_refl _
  | t + 1, p => by
    have := nf_le T t (p + 1)
    unfold nf
    by_cases c : isF (T p) = true
    · rw [if_pos c]; omega
    · rw [if_neg c]; omega
/-- the value of the first two figures -/
def fval (T : Nat → Int32) (p l : Nat) : Int32 := if l ≤ 1 then T p - 48 else 10 * (T p - 48) + T (p + 1) - 48
/-- the token at p: kind, value, length -/
def tok (T : Nat → Int32) (n p : Nat) : Int32 × Int32 × Nat :=
  if n ≤ p then (1, -1000000, 0)
  else if rg (T p) 97 122 = true then (2, T p, 1)
  else if isF (T p) = true then (if figs T n p ≤ 2 then 3 else 0, fval T p (figs T n p), figs T n p)
  else if T p = 44 ∨ T p = 59 then (4, T p, 1)
  else (0, T p, 1)
/-- the reference's fields, once the token at p is read -/
def Tk (S : hp) (p : Nat) (k v : Int32) (q : Nat) (g : Nat → Int32) : Prop := g 12 = nI p ∧ g 13 = k ∧ g 14 = v ∧ g 11 = nI q ∧ ∀ i, i ≠ 11 → i ≠ 12 → i ≠ 13 → i ≠ 14 → g i = hI S 35 i
theorem c_figs {Q : hp → Prop} {S : hp} {n p : Nat} {T : Nat → Int32} (hL : Lay S) (hn : n ≤ 140) (hT : hI S 42 = T) (H : ∀ g, Tk S p (if figs T n p ≤ 2 then 3 else 0) (fval T p (figs T n p)) (p + figs T n p) g → Q (putA S 35 g)) (h10 : hI S 35 10 = nI n) : ∀ t j g, p + j + t = n → 1 ≤ j → nf T t (p + j) + j = figs T n p → Tk S p (g 13) (fval T p j) (p + j) g → wl_X12_nextToken_165 Q (t + 1) (putA S 35 g) 35 := by
  have kP : ∀ g, hK (putA S 35 g) = hK S := fun g => rfl
  have nP : ∀ g, hN (putA S 35 g) = hN S := fun g => rfl
  have rP : ∀ g, hR (putA S 35 g) = hR S := fun g => rfl
  have fin : ∀ t j g, p + j + t = n → 1 ≤ j → j = figs T n p → Tk S p (g 13) (fval T p j) (p + j) g → wB_X12_nextToken_255 Q (putA S 35 g) 35 := by
    intro t j g hj h1 hf ⟨g1, g2, g3, g4, g5⟩
    unfold wB_X12_nextToken_255 wB_X12_nextToken_274
    have e : nI (p + j) - nI p = nI j := by rw [← nI_add, Int32.add_comm, Int32.add_sub_cancel]
    have el : (nI j ≤ (2 : Int32)) = (j ≤ 2) := by
      rw [t_le, nI_toInt (by omega)]
      have : (2 : Int32).toInt = 2 := rfl
      rw [this]; apply propext; omega
    simp only [hL.eqs, kP, nP, rP, hI_putA_s, g1, g4, e, el, setI_putA, ↓reduceIte, Nat.reduceEqDiff, and_false, false_and, true_and, and_true, forall_eq, forall_eq', exists_eq_left, exists_eq_left', Option.some.injEq, eq_self_iff_true, not_true, not_false_iff, false_implies, true_implies, forall_const, reduceCtorEq, ne_eq]
    refine ⟨fun z => H _ ⟨?_, ?_, ?_, ?_, ?_⟩, fun z => H _ ⟨?_, ?_, ?_, ?_, ?_⟩⟩
    · simpa using g1
    · rw [← hf, if_pos z]; simp
    · rw [← hf]; simpa using g3
    · rw [← hf]; simpa using g4
    · intro i a b c d; simp [c]; exact g5 i a b c d
    · simpa using g1
    · rw [← hf, if_neg z]; simp
    · rw [← hf]; simpa using g3
    · rw [← hf]; simpa using g4
    · intro i a b c d; simp [c]; exact g5 i a b c d
  intro t
  induction t with
  | zero =>
    intro j g hj h1 hf hg
    obtain ⟨g1, g2, g3, g4, g5⟩ := hg
    unfold wl_X12_nextToken_165 wB_X12_nextToken_165
    have g10 : g 10 = nI n := by rw [g5 10 (by decide) (by decide) (by decide) (by decide)]; exact h10
    simp only [hL.eqs, kP, nP, rP, hI_putA_s, g10, g4, ↓reduceIte, Nat.reduceEqDiff, and_false, false_and, true_and, and_true, forall_eq, forall_eq', exists_eq_left, exists_eq_left', Option.some.injEq, eq_self_iff_true, not_true, not_false_iff, false_implies, true_implies, forall_const, reduceCtorEq, ne_eq]
    exact ⟨fun _ => fin 0 j g hj h1 (by rw [← hf]; show j = 0 + j; omega) ⟨g1, g2, g3, g4, g5⟩, fun q => absurd (nI_le (by omega) (by omega)) q⟩
  | succ t ih =>
    intro j g hj h1 hf hg
    obtain ⟨g1, g2, g3, g4, g5⟩ := hg
    have g10 : g 10 = nI n := by rw [g5 10 (by decide) (by decide) (by decide) (by decide)]; exact h10
    unfold nf at hf
    unfold wl_X12_nextToken_165 wB_X12_nextToken_165
    have h42 : hI (putA S 35 g) 42 = T := by rw [hI_putA_ne (by decide)]; exact hT
    have e : nI (p + j) - nI p = nI j := by rw [← nI_add, Int32.add_comm, Int32.add_sub_cancel]
    have el : ((2 : Int32) ≤ nI j) = (2 ≤ j) := by
      rw [t_le, nI_toInt (by omega)]
      have : (2 : Int32).toInt = 2 := rfl
      rw [this]; apply propext; omega
    unfold wB_X12_nextToken_239
    simp only [hL.eqs, kP, nP, rP, hI_putA_s, h42, g10, g4, g1, g3, e, el, e_in, l64_0, l64_1, l64_2, l64_5, l64_6, l64_7, l64_m1, l64_99, l64_m99, l64_255, l64_999, l64_m999, l64_297, l64_200, l64_m200, l64_97, l64_122, l64_48, l64_57, Int32.toInt_toInt64, show vp_in (nI (p + j)) 140 from vp_in_nI (by omega) (by omega), nI_clamp (show p + j < 2 ^ 31 by omega), setI_putA, bI0, ↓reduceIte, Nat.reduceEqDiff, and_false, false_and, true_and, and_true, forall_eq, forall_eq', exists_eq_left, exists_eq_left', Option.some.injEq, eq_self_iff_true, not_true, not_false_iff, false_implies, true_implies, forall_const, reduceCtorEq, ne_eq]
    refine ⟨fun q => absurd q (nI_ge (by omega) (by omega)), fun _ => ⟨fun z => ?_, fun z => ?_⟩⟩
    · rw [if_neg (show ¬ isF (T (p + j)) = true by unfold isF; rw [z]; decide)] at hf
      exact fin (t + 1) j g hj h1 (by omega) ⟨g1, g2, g3, g4, g5⟩
    · rw [if_pos (show isF (T (p + j)) = true by unfold isF; simpa using z)] at hf
      refine ⟨fun z2 => ih (j + 1) _ (by omega) (by omega) (by rw [← hf, show p + (j + 1) = p + j + 1 by omega]; omega) ⟨?_, ?_, ?_, ?_, ?_⟩, fun z2 => ih (j + 1) _ (by omega) (by omega) (by rw [← hf, show p + (j + 1) = p + j + 1 by omega]; omega) ⟨?_, ?_, ?_, ?_, ?_⟩⟩
      · simpa using g1
      · rfl
      · have : fval T p (j + 1) = fval T p j := by unfold fval; rw [if_neg (by omega), if_neg (by omega)]
        rw [this]; simp [g3]
      · simp; rw [nI_1]; congr 1
      · intro i a b c d; simp [a, d]; exact g5 i a b c d
      · simpa using g1
      · rfl
      · have hj1 : j = 1 := by omega
        subst hj1
        simp [fval]
      · simp; rw [nI_1]; congr 1
      · intro i a b c d; simp [a, d]; exact g5 i a b c d
theorem m_tok {Q : hp → Prop} {S : hp} {n p : Nat} {T : Nat → Int32} (hL : Lay S) (hn : n ≤ 140) (hp : p ≤ n) (hT : hI S 42 = T) (h10 : hI S 35 10 = nI n) (h11 : hI S 35 11 = nI p) (H : ∀ g, Tk S p (tok T n p).1 (tok T n p).2.1 (p + (tok T n p).2.2) g → Q (putA S 35 g)) : wp_X12_nextToken Q S 35 := by
  have k35 : hK S 35 = 11 := (hL.1 35 (by decide)).1
  have kP : ∀ g, hK (putA S 35 g) = hK S := fun g => rfl
  have nP : ∀ g, hN (putA S 35 g) = hN S := fun g => rfl
  have rP : ∀ g, hR (putA S 35 g) = hR S := fun g => rfl
  have h42 : ∀ g, hI (putA S 35 g) 42 = T := fun g => by rw [hI_putA_ne (by decide)]; exact hT
  unfold wp_X12_nextToken
  simp only [hL.eqs, setI_asA, kP, nP, rP, hI_putA_s, h42, h10, h11, ↓reduceIte, Nat.reduceEqDiff, and_false, false_and, true_and, and_true, forall_eq, forall_eq', exists_eq_left, exists_eq_left', Option.some.injEq, eq_self_iff_true, not_true, not_false_iff, false_implies, true_implies, forall_const, reduceCtorEq, ne_eq]
  unfold tok at H
  by_cases c : n ≤ p
  · have hpn : p = n := by omega
    rw [if_pos c] at H
    refine ⟨fun _ => ?_, fun q => absurd (nI_le c (by omega)) q⟩
    unfold wB_X12_nextToken_34 wB_X12_nextToken_118 wB_X12_nextToken_142
    simp only [hL.eqs, kP, nP, rP, hI_putA_s, setI_putA, h10, h11, hpn, Nat.reduceEqDiff, i1_ne0, ↓reduceIte, Nat.reduceEqDiff, and_false, false_and, true_and, and_true, forall_eq, forall_eq', exists_eq_left, exists_eq_left', Option.some.injEq, eq_self_iff_true, not_true, not_false_iff, false_implies, true_implies, forall_const, reduceCtorEq, ne_eq]
    refine ⟨fun _ => ⟨fun _ => H _ ⟨?_, ?_, ?_, ?_, ?_⟩, fun q => absurd q (by decide)⟩, fun q => absurd (nI_le (Nat.le_refl _) (by omega)) q⟩
    · simp [hpn]
    · simp
    · simp
    · simp [hpn]
    · intro i a b c d; simp [a, b, c, d]
  · rw [if_neg c] at H
    refine ⟨fun q => absurd q (nI_ge (by omega) (by omega)), fun _ => ⟨vp_in_nI (by omega) (by omega), ?_⟩⟩
    rw [nI_clamp (show p < 2 ^ 31 by omega)]
    have tk : ∀ k v, Tk S p k v (p + 1) (fun i => if i = 11 then nI p + 1 else if i = 13 then k else if i = 14 then v else if i = 12 then nI p else hI S 35 i) := fun k v => by
      refine ⟨?_, ?_, ?_, ?_, ?_⟩
      · simp
      · simp
      · simp
      · simp; rw [nI_1]
      · intro i a b c d; simp [a, b, c, d]
    have hne : ¬ nI p = nI n := fun q => by have := (nI_eq (a := p) (b := n) (by omega) (by omega)).mp q; omega
    have hge : ¬ nI n ≤ nI p := nI_ge (by omega) (by omega)
    -- a token of one byte
    have one : ∀ k, k ≠ 3 → (∀ g, Tk S p k (T p) (p + 1) g → Q (putA S 35 g)) → wB_X12_nextToken_118 Q (putA S 35 (fun i => if i = 14 then T p else if i = 12 then nI p else hI S 35 i)) 35 k 35 := fun k hk h => by
      unfold wB_X12_nextToken_118 wB_X12_nextToken_142
      simp only [hL.eqs, kP, nP, rP, hI_putA_s, setI_putA, h10, h11, hge, hk, ↓reduceIte, Nat.reduceEqDiff, and_false, false_and, true_and, and_true, forall_eq, forall_eq', exists_eq_left, exists_eq_left', Option.some.injEq, eq_self_iff_true, not_true, not_false_iff, false_implies, true_implies, forall_const, reduceCtorEq, ne_eq]
      exact h _ (tk k (T p))
    unfold wB_X12_nextToken_34 wB_X12_nextToken_113
    simp only [hL.eqs, kP, nP, rP, hI_putA_s, setI_putA, h10, h11, hne, e_in, l64_0, l64_1, l64_2, l64_5, l64_6, l64_7, l64_m1, l64_99, l64_m99, l64_255, l64_999, l64_m999, l64_297, l64_200, l64_m200, l64_97, l64_122, l64_48, l64_57, Int32.toInt_toInt64, bI0, ↓reduceIte, Nat.reduceEqDiff, and_false, false_and, true_and, and_true, forall_eq, forall_eq', exists_eq_left, exists_eq_left', Option.some.injEq, eq_self_iff_true, not_true, not_false_iff, false_implies, true_implies, forall_const, reduceCtorEq, ne_eq]
    refine ⟨fun z => ⟨fun z2 => ⟨fun z3 => ?_, fun z3 => ⟨fun z4 => ?_, fun z4 => ?_⟩⟩, fun z2 => ?_⟩, fun z => ?_⟩
    · rw [if_neg (by rw [z]; decide), if_neg (by unfold isF; rw [z2]; decide), if_pos (Or.inl z3)] at H
      exact one 4 (by decide) H
    · rw [if_neg (by rw [z]; decide), if_neg (by unfold isF; rw [z2]; decide), if_neg (fun y => y.elim z3 z4)] at H
      exact one 0 (by decide) H
    · rw [if_neg (by rw [z]; decide), if_neg (by unfold isF; rw [z2]; decide), if_pos (Or.inr z4)] at H
      exact one 4 (by decide) H
    · have hF : isF (T p) = true := by unfold isF; simpa using z2
      rw [if_neg (by rw [z]; decide), if_pos hF] at H
      unfold wB_X12_nextToken_118 wB_X12_nextToken_142
      simp only [hL.eqs, kP, nP, rP, hI_putA_s, setI_putA, h10, h11, hge, ↓reduceIte, Nat.reduceEqDiff, and_false, false_and, true_and, and_true, forall_eq, forall_eq', exists_eq_left, exists_eq_left', Option.some.injEq, eq_self_iff_true, not_true, not_false_iff, false_implies, true_implies, forall_const, reduceCtorEq, ne_eq]
      refine ⟨n - (p + 1) + 1, ?_⟩
      have ef : nf T (n - (p + 1)) (p + 1) + 1 = figs T n p := by
        unfold figs
        rw [show n - p = (n - (p + 1)) + 1 by omega]
        show _ = (if isF (T p) = true then nf T (n - (p + 1)) (p + 1) + 1 else 0)
        rw [if_pos hF]
      refine c_figs hL hn hT H h10 (n - (p + 1)) 1 _ (by omega) (by omega) ef ⟨?_, ?_, ?_, ?_, ?_⟩
      · simp
      · rfl
      · simp [fval]
      · simp; rw [nI_1]
      · intro i a b c d; simp [a, b, c, d]
    · rw [if_pos (by simpa using z)] at H
      exact one 2 (by decide) H
