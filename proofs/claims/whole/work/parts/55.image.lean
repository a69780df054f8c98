/-- a new street, at the end of the heap -/
def newSt (S : hp) : hp := setR (newC (setR (newC (setR (newC (setR (newC (setR (newC (newC S 7 0) 12 12) (hC S) 0 (some (hC S + 1))) 12 12) (hC S) 1 (some (hC S + 2))) 12 12) (hC S) 2 (some (hC S + 3))) 14 5) (hC S) 3 (some (hC S + 4))) 12 96) (hC S) 4 (some (hC S + 5))
theorem newSt_C (S : hp) : hC (newSt S) = hC S + 6 := rfl
theorem e_newSt {Q : hp → Prop} {S : hp} (h : Q (newSt S)) : wp_X8_init Q (newC S 7 0) (hC S) := by
  unfold wp_X8_init
  have e0 : hC (newC S 7 0) = hC S + 1 := rfl
  simp only [hC_newC, hC_setR, hK_newC, hK_setR, ↓reduceIte, Nat.reduceEqDiff, and_false, false_and, true_and, and_true, forall_eq, forall_eq', exists_eq_left, exists_eq_left', Option.some.injEq, eq_self_iff_true, not_true, not_false_iff, false_implies, true_implies, forall_const, reduceCtorEq, ne_eq, show (hC S = hC S + 1) = False from eq_false (by omega), show (hC S = hC S + 1 + 1) = False from eq_false (by omega), show (hC S = hC S + 1 + 1 + 1) = False from eq_false (by omega), show (hC S = hC S + 1 + 1 + 1 + 1) = False from eq_false (by omega), show (hC S = hC S + 1 + 1 + 1 + 1 + 1) = False from eq_false (by omega)]
  exact h
theorem newSt_fr (S : hp) : Fr (fun _ => False) S (newSt S) := by
  have g : ∀ (S1 : hp) (k : Nat) (v : Option Nat), hC S < hC S1 → Fr (fun _ => False) S S1 → Fr (fun _ => False) S (setR S1 (hC S) k v) := by
    intro S1 k v h1 h
    exact ⟨h.1, h.2.1, fun b hb hp => ⟨(h.2.2 b hb hp).1, by rw [hR_setR_ne (by omega)]; exact (h.2.2 b hb hp).2⟩⟩
  unfold newSt
  refine g _ _ _ ?_ (Fr.newC (g _ _ _ ?_ (Fr.newC (g _ _ _ ?_ (Fr.newC (g _ _ _ ?_ (Fr.newC (g _ _ _ ?_ (Fr.newC (Fr.newC Fr.rfl'))))))))))
  all_goals simp only [hC_newC, hC_setR]; omega
theorem newSt_sl (S : hp) : SL (newSt S) (hC S) := by
  have p : ∀ i j : Nat, i ≠ j → ((hC S + i = hC S + j) = False) := fun i j h => eq_false (by omega)
  have p0 : ∀ j : Nat, 0 < j → ((hC S = hC S + j) = False) := fun j h => eq_false (by omega)
  have p1 : ∀ j : Nat, 0 < j → ((hC S + j = hC S) = False) := fun j h => eq_false (by omega)
  have cc : hC (newSt S) = hC S + 6 := rfl
  have kk9 : ∀ b, hK (newSt S) b = if b = hC S + 5 then 12 else if b = hC S + 4 then 14 else if b = hC S + 3 then 12 else if b = hC S + 2 then 12 else if b = hC S + 1 then 12 else if b = hC S then 7 else hK S b := fun b => rfl
  have nn9 : ∀ b, hN (newSt S) b = if b = hC S + 5 then 96 else if b = hC S + 4 then 5 else if b = hC S + 3 then 12 else if b = hC S + 2 then 12 else if b = hC S + 1 then 12 else if b = hC S then 0 else hN S b := fun b => rfl
  have rr9 : ∀ j, hR (newSt S) (hC S) j = if j = 4 then some (hC S + 5) else if j = 3 then some (hC S + 4) else if j = 2 then some (hC S + 3) else if j = 1 then some (hC S + 2) else if j = 0 then some (hC S + 1) else none := fun j => by
    unfold newSt
    simp only [hR_setR, hR_newC, hC_newC, hC_setR, show (hC S = hC S + 1) = False from eq_false (by omega), show (hC S = hC S + 1 + 1) = False from eq_false (by omega), show (hC S = hC S + 1 + 1 + 1) = False from eq_false (by omega), show (hC S = hC S + 1 + 1 + 1 + 1) = False from eq_false (by omega), show (hC S = hC S + 1 + 1 + 1 + 1 + 1) = False from eq_false (by omega), ↓reduceIte, Nat.reduceEqDiff, and_false, false_and, true_and, and_true, forall_eq, forall_eq', exists_eq_left, exists_eq_left', Option.some.injEq, eq_self_iff_true, not_true, not_false_iff, false_implies, true_implies, forall_const, reduceCtorEq, ne_eq]
  have rm : ∀ j, hR (newSt S) (hC S + 4) j = none := fun j => by
    unfold newSt
    simp only [hR_setR, hR_newC, hC_newC, hC_setR, show (hC S + 4 = hC S) = False from eq_false (by omega), show (hC S + 4 = hC S + 1) = False from eq_false (by omega), show (hC S + 4 = hC S + 1 + 1) = False from eq_false (by omega), show (hC S + 4 = hC S + 1 + 1 + 1) = False from eq_false (by omega), show (hC S + 4 = hC S + 1 + 1 + 1 + 1 + 1) = False from eq_false (by omega), show (hC S + 4 = hC S + 1 + 1 + 1 + 1) = True from eq_true (by omega), ↓reduceIte, Nat.reduceEqDiff, and_false, false_and, true_and, and_true, forall_eq, forall_eq', exists_eq_left, exists_eq_left', Option.some.injEq, eq_self_iff_true, not_true, not_false_iff, false_implies, true_implies, forall_const, reduceCtorEq, ne_eq]
  refine ⟨⟨by rw [cc]; omega, ?_, ?_, ?_, ?_, ?_, ?_⟩, ⟨?_, ?_, ?_, ?_, ?_⟩, ⟨by rw [rr9]; rfl, by rw [rr9]; rfl, by rw [rr9]; rfl, by rw [rr9]; rfl, by rw [rr9]; rfl⟩, fun j r _ hr => by rw [rm] at hr; cases hr⟩
  all_goals first
    | (rw [kk9]; simp [p, p0, p1]; done)
    | (rw [nn9]; simp [p, p0, p1]; done)
/-- the street 16 is copied over an old copy, or a new one: the copy's place, and the heap then -/
theorem c_copyOver {Q : Nat → hp → Prop} {S : hp} {o : Option Nat} {f : Nat → Int32} (hL : Lay S) (h16 : RSt S 16 f) (ho : ∀ a, o = some a → SL S a ∧ 50 ≤ a) (h : ∀ a S', (o = some a ∨ (o = none ∧ a = hC S)) → 50 ≤ a → (∀ P, (∀ b, a ≤ b ∧ b ≤ a + 5 → P b) → Fr P S S') → (∀ b, isO b → hR S' b = hR S b) → RSt S' a f → Q a S') : wp_X11_copyOver Q S 0 o := by
  unfold wp_X11_copyOver wB_X11_copyOver_15
  refine ⟨fun hn => ?_, fun a ha => ?_⟩
  · simp only [↓reduceIte, Nat.reduceEqDiff, and_false, false_and, true_and, and_true, forall_eq, forall_eq', exists_eq_left, exists_eq_left', Option.some.injEq, eq_self_iff_true, not_true, not_false_iff, false_implies, true_implies, forall_const, reduceCtorEq, ne_eq]
    refine e_newSt ?_
    have F := newSt_fr S
    have sl := newSt_sl S
    have q : ∀ b, b < 50 → hI (newSt S) b = hI S b ∧ hR (newSt S) b = hR S b := fun b hb => F.2.2 b (Nat.lt_of_lt_of_le hb hL.2.2) (fun x => x)
    have hL' : Lay (newSt S) := hL.fr2 F (fun b hb => (q b (by unfold isO at hb; omega)).2)
    have r16 : RSt (newSt S) 16 f := h16.fr F (fun b _ hb => hb.elim)
    have h50 : 50 ≤ hC S := hL.2.2
    simp only [hL'.eqs, sl.eqs.1, ↓reduceIte, Nat.reduceEqDiff, and_false, false_and, true_and, and_true, forall_eq, forall_eq', exists_eq_left, exists_eq_left', Option.some.injEq, eq_self_iff_true, not_true, not_false_iff, false_implies, true_implies, forall_const, reduceCtorEq, ne_eq]
    refine c_become sl r16.1 (by omega) r16.l9.1 r16.l9.2 (zz0 r16) (fun S' hB => ?_)
    refine h _ S' (Or.inr ⟨hn, rfl⟩) h50 (fun P hP => ?_) (fun b hb => ?_) (Bec.rst r16 sl hB sl.nom)
    · exact (F.tr hB.fr).mono (fun b hb => hb.elim False.elim (fun x => hP b x))
    · have hb5 : b < 50 := by unfold isO at hb; omega
      rw [(hB.2.1 b (by omega)).2, (q b hb5).2]
  · obtain ⟨sa, a50⟩ := ho a ha
    simp only [hL.eqs, sa.eqs.1, ↓reduceIte, Nat.reduceEqDiff, and_false, false_and, true_and, and_true, forall_eq, forall_eq', exists_eq_left, exists_eq_left', Option.some.injEq, eq_self_iff_true, not_true, not_false_iff, false_implies, true_implies, forall_const, reduceCtorEq, ne_eq]
    refine c_become sa h16.1 (by omega) h16.l9.1 h16.l9.2 (zz0 h16) (fun S' hB => ?_)
    refine h _ S' (Or.inl ha) a50 (fun P hP => hB.fr.mono (fun b hb => hP b hb)) (fun b hb => ?_) (Bec.rst h16 sa hB sa.nom)
    have hb5 : b < 50 := by unfold isO at hb; omega
    exact (hB.2.1 b (by omega)).2
