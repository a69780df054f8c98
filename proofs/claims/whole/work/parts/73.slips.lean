def sm (f : Nat → Int32) : Nat → Int32
  | 0 => 0
  | n + 1 => sm f n + f n
theorem sm_congr {f g : Nat → Int32} : ∀ {n : Nat}, (∀ k, k < n → f k = g k) → sm f n = sm g n
  | 0, _ => rfl
  | n + 1, h => by
    show sm f n + f n = sm g n + g n
    rw [sm_congr (n := n) (fun k hk => h k (by omega)), h n (by omega)]
theorem sm_0 : ∀ n, sm (fun _ => 0) n = 0
  | 0 => rfl
  | n + 1 => by show sm (fun _ => 0) n + 0 = 0; rw [sm_0 n]; rfl
theorem sm_delta (f : Nat → Int32) (j : Nat) (v : Int32) : ∀ n, sm (fun k => f k + (if k = j then v else 0)) n = sm f n + (if j < n then v else 0)
  | 0 => by rw [if_neg (by omega)]; rfl
  | n + 1 => by
    show sm (fun k => f k + (if k = j then v else 0)) n + (f n + (if n = j then v else 0)) = sm f n + f n + (if j < n + 1 then v else 0)
    rw [sm_delta f j v n]
    by_cases c : j < n
    · rw [if_pos c, if_neg (show ¬ n = j by omega), if_pos (show j < n + 1 by omega), Int32.add_zero, Int32.add_assoc, Int32.add_comm v, ← Int32.add_assoc]
    · rw [if_neg c, Int32.add_zero]
      by_cases c2 : n = j
      · rw [if_pos c2, if_pos (show j < n + 1 by omega), Int32.add_assoc]
      · rw [if_neg c2, if_neg (show ¬ j < n + 1 by omega), Int32.add_zero, Int32.add_zero]
/-- the slips of a dummy, by mouth and place -/
def slS (L : Nat → Int32) (dd : Int32) (i : Nat) (g : Nat → Int32) : Nat → Int32 := if L (6 * i) = 0 ∧ L (6 * i + 2) = dd then (fun j => if j = (3 * L (6 * i + 1) + L (6 * i + 3)).toNatClampNeg then g (3 * L (6 * i + 1) + L (6 * i + 3)).toNatClampNeg + (L (6 * i + 4) - L (6 * i + 5)) else g j) else g
def slT (L : Nat → Int32) (dd : Int32) (n : Nat) (g : Nat → Int32) : Nat → Int32 := fo (slS L dd) n g
def msS (L : Nat → Int32) (dd : Int32) (s pp i : Nat) (z : Int32) : Int32 := z + (if L (6 * i) = 0 ∧ L (6 * i + 2) = dd ∧ L (6 * i + 3) = nI pp ∧ ((nI s >>> (L (6 * i + 1) &&& 31)) &&& (1 : Int32)) = 1 then L (6 * i + 4) - L (6 * i + 5) else 0)
def ms (L : Nat → Int32) (dd : Int32) (s pp n : Nat) : Int32 := fo (msS L dd s pp) n 0
def slp (T : Nat → Int32) (s pp : Nat) : Nat → Int32 := fun mm => if s / 2 ^ mm % 2 = 1 then T (3 * mm + pp) else 0
theorem hasM32 : ∀ s, s < 32 → ∀ p, p < 5 → (((nI s >>> (nI p &&& 31)) &&& (1 : Int32)) = (1 : Int32) ↔ s / 2 ^ p % 2 = 1) := by decide +kernel
/-- a line by which a mouth below five tells a place below three -/
def LT (L : Nat → Int32) (i : Nat) : Prop := L (6 * i) = 0 → ∃ mm pp : Nat, L (6 * i + 1) = nI mm ∧ mm < 5 ∧ L (6 * i + 3) = nI pp ∧ pp < 3
theorem slip_eq {L : Nat → Int32} {dd : Int32} {g : Nat → Int32} (hg : ∀ k, k < 15 → g k = 0) {s pp : Nat} (hs : s < 32) (hp : pp < 3) : ∀ {n : Nat}, (∀ i, i < n → LT L i) → sm (slp (slT L dd n g) s pp) 5 = ms L dd s pp n
  | 0, _ => by
    show sm (slp g s pp) 5 = 0
    rw [← sm_0 5]
    refine sm_congr (fun k hk => ?_)
    unfold slp
    rw [hg _ (by omega), ite_self]
  | n + 1, h => by
    have ih := slip_eq (dd := dd) hg hs hp (n := n) (fun i hi => h i (by omega))
    have e1 : slT L dd (n + 1) g = slS L dd n (slT L dd n g) := rfl
    have e2 : ms L dd s pp (n + 1) = msS L dd s pp n (ms L dd s pp n) := rfl
    rw [e1, e2]
    unfold slS msS
    by_cases c : L (6 * n) = 0 ∧ L (6 * n + 2) = dd
    · obtain ⟨mm, p0, q1, q2, q3, q4⟩ := h n (by omega) c.1
      have ek : (3 * L (6 * n + 1) + L (6 * n + 3)).toNatClampNeg = 3 * mm + p0 := by
        rw [q1, q3]
        have : (3 : Int32) * nI mm + nI p0 = nI (3 * mm + p0) := by rw [← nI_add, ← nI_mul]; rfl
        rw [this]; exact nI_clamp (by omega)
      rw [if_pos c, ek, ← ih, q3, q1]
      by_cases c2 : p0 = pp
      · subst c2
        have e3 : sm (slp (fun j => if j = 3 * mm + p0 then slT L dd n g (3 * mm + p0) + (L (6 * n + 4) - L (6 * n + 5)) else slT L dd n g j) s p0) 5 = sm (fun k => slp (slT L dd n g) s p0 k + (if k = mm then (if s / 2 ^ mm % 2 = 1 then L (6 * n + 4) - L (6 * n + 5) else 0) else 0)) 5 := by
          refine sm_congr (fun k hk => ?_)
          unfold slp
          by_cases c3 : k = mm
          · subst c3
            by_cases c4 : s / 2 ^ k % 2 = 1
            · simp [c4]
            · simp [c4]
          · have c5 : ¬ 3 * k + p0 = 3 * mm + p0 := by omega
            rw [if_neg c3, Int32.add_zero]
            simp only [if_neg c5]
        rw [e3, sm_delta, if_pos q2]
        congr 1
        have := hasM32 s hs mm q2
        by_cases c4 : s / 2 ^ mm % 2 = 1
        · rw [if_pos c4, if_pos ⟨c.1, c.2, rfl, this.mpr c4⟩]
        · rw [if_neg c4, if_neg (fun z => c4 (this.mp z.2.2.2))]
      · rw [if_neg (fun z => c2 ((nI_eq (by omega) (by omega)).mp z.2.2.1)), Int32.add_zero]
        refine sm_congr (fun k hk => ?_)
        unfold slp
        have c5 : ¬ 3 * k + pp = 3 * mm + p0 := by omega
        simp only [if_neg c5]
    · rw [if_neg c, if_neg (fun z => c ⟨z.1, z.2.1⟩), ih, Int32.add_zero]
theorem c_addSlips {Q : hp → Prop} {S : hp} {l : Nat} {dd : Int32} (hL : Lay S) (vS : SL S 16) (hl : hI S 16 9 = nI l) (h16 : l ≤ 16) (hT : ∀ i, i < l → LT (hI S 21) i) (h : Q (putA S 29 (slT (hI S 21) dd l (fun i => if i < 15 then 0 else hI S 29 i)))) : wp_X2_addSlips Q S 28 16 dd := by
  have ka : ∀ g, hK (putA S 29 g) = hK S := fun g => rfl
  have key : ∀ t i, i + t = l → wl_X2_addSlips_10 Q (t + 1) (putA S 29 (slT (hI S 21) dd i (fun i => if i < 15 then 0 else hI S 29 i))) 28 16 dd (nI i) := by
    intro t
    induction t with
    | zero =>
      intro i hi
      have : i = l := by omega
      subst this
      unfold wl_X2_addSlips_10 wB_X2_addSlips_10
      simp only [hL.eqs, vS.eqs, hI_putA, hl, hK_putA, hN_putA, hR_putA, hC_putA, hK_setI, hN_setI, hR_setI, hC_setI, hI_setI, hK_setR, hN_setR, hI_setR, hC_setR, hR_setR, hK_cpyI, hN_cpyI, hR_cpyI, hC_cpyI, hI_cpyI, ↓reduceIte, Nat.reduceEqDiff, and_false, false_and, true_and, and_true, forall_eq, forall_eq', exists_eq_left, exists_eq_left', Option.some.injEq, eq_self_iff_true, not_true, not_false_iff, false_implies, true_implies, forall_const, reduceCtorEq, ne_eq]
      exact ⟨fun _ => h, fun q => absurd (nI_le (Nat.le_refl _) (by omega)) q⟩
    | succ t ih =>
      intro i hi
      have nx := ih (i + 1) (by omega)
      have e1 : slT (hI S 21) dd (i + 1) (fun i => if i < 15 then 0 else hI S 29 i) = slS (hI S 21) dd i (slT (hI S 21) dd i (fun i => if i < 15 then 0 else hI S 29 i)) := rfl
      rw [e1] at nx
      generalize slT (hI S 21) dd i (fun i => if i < 15 then 0 else hI S 29 i) = g at nx
      have vS' : SL (putA S 29 g) 16 := vS
      have pt : ∀ (c : Nat), c < 6 → ∀ Q, wp_X8_part Q (putA S 29 g) 16 (nI i) (nI c) ↔ Q (hI S 21 (6 * i + c)) (putA S 29 g) := fun c hc Q => by
        rw [e_part vS' (show i < 16 by omega) hc]
        rw [hI_putA_ne (by decide)]
      have p1 : ∀ Q, wp_X8_part Q (putA S 29 g) 16 (nI i) (1 : Int32) ↔ Q (hI S 21 (6 * i + 1)) (putA S 29 g) := fun Q => pt 1 (by omega) Q
      have p3 : ∀ Q, wp_X8_part Q (putA S 29 g) 16 (nI i) (3 : Int32) ↔ Q (hI S 21 (6 * i + 3)) (putA S 29 g) := fun Q => pt 3 (by omega) Q
      have p4 : ∀ Q, wp_X8_part Q (putA S 29 g) 16 (nI i) (4 : Int32) ↔ Q (hI S 21 (6 * i + 4)) (putA S 29 g) := fun Q => pt 4 (by omega) Q
      have p5 : ∀ Q, wp_X8_part Q (putA S 29 g) 16 (nI i) (5 : Int32) ↔ Q (hI S 21 (6 * i + 5)) (putA S 29 g) := fun Q => pt 5 (by omega) Q
      unfold wl_X2_addSlips_10 wB_X2_addSlips_10 wB_X2_addSlips_67
      simp only [hL.eqs, vS.eqs, hI_putA, hl, e_isTellingOf vS' (show i < 16 by omega), p1, p3, p4, p5, bI0, nI_1, wp_X8_at, setI_putA, hK_putA, hN_putA, hR_putA, hC_putA, hK_setI, hN_setI, hR_setI, hC_setI, hI_setI, hK_setR, hN_setR, hI_setR, hC_setR, hR_setR, hK_cpyI, hN_cpyI, hR_cpyI, hC_cpyI, hI_cpyI, ↓reduceIte, Nat.reduceEqDiff, and_false, false_and, true_and, and_true, forall_eq, forall_eq', exists_eq_left, exists_eq_left', Option.some.injEq, eq_self_iff_true, not_true, not_false_iff, false_implies, true_implies, forall_const, reduceCtorEq, ne_eq]
      unfold slS at nx
      refine ⟨fun z => absurd z (nI_ge (by omega) (by omega)), fun _ => ⟨fun z => ?_, fun z => ?_⟩⟩
      · rw [if_neg (fun y => by rw [Bool.and_eq_false_iff] at z; rcases z with z | z <;> simp [y] at z)] at nx
        exact nx
      · have z' : hI S 21 (6 * i) = 0 ∧ hI S 21 (6 * i + 2) = dd := by simpa using z
        obtain ⟨mm, p0, q1, q2, q3, q4⟩ := hT i (by omega) z'.1
        rw [if_pos z'] at nx
        have hv : vp_in (3 * hI S 21 (6 * i + 1) + hI S 21 (6 * i + 3)) 15 := by
          rw [q1, q3]
          have : (3 : Int32) * nI mm + nI p0 = nI (3 * mm + p0) := by rw [← nI_add, ← nI_mul]; rfl
          rw [this]
          exact vp_in_nI (by omega) (by omega)
        exact ⟨hv, hv, nx⟩
  unfold wp_X2_addSlips
  simp only [hL.eqs, ↓reduceIte, Nat.reduceEqDiff, and_false, false_and, true_and, and_true, forall_eq, forall_eq', exists_eq_left, exists_eq_left', Option.some.injEq, eq_self_iff_true, not_true, not_false_iff, false_implies, true_implies, forall_const, reduceCtorEq, ne_eq]
  exact c_fill (n := 15) (hL.1 29 (by decide)).1 (hL.1 29 (by decide)).2 (by omega) ⟨_, key l 0 (by omega)⟩
