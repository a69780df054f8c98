/-- the bolt that a code gives to a dummy, and the loads -/
def fc (k c i : Nat) : Nat := c / k ^ i % k
def ld (W : Nat → Nat) (k c n j : Nat) : Nat := nsu W (fun i => decide (fc k c i = j)) n
def okn (W : Nat → Nat) (b k c : Nat) : Nat → Bool
  | 0 => true
  | n + 1 => okn W b k c n && decide (ld W k c (n + 1) (fc k c n) ≤ b)
theorem ld_s (W : Nat → Nat) (k c n j : Nat) : ld W k c (n + 1) j = if fc k c n = j then ld W k c n j + W n else ld W k c n j := by
  show nsu W (fun i => decide (fc k c i = j)) n + (if decide (fc k c n = j) = true then W n else 0) = _
  by_cases e : fc k c n = j
  · rw [if_pos e, decide_eq_true e, if_pos rfl]; rfl
  · rw [if_neg e, decide_eq_false e]; rfl
theorem okn_ld {W : Nat → Nat} {b k c : Nat} : ∀ n, okn W b k c n = true → ∀ j, ld W k c n j ≤ b
  | 0, _, j => Nat.zero_le _
  | n + 1, h, j => by
    have h' : okn W b k c n = true ∧ ld W k c (n + 1) (fc k c n) ≤ b := by
      have : (okn W b k c n && decide (ld W k c (n + 1) (fc k c n) ≤ b)) = true := h
      simpa using this
    by_cases e : fc k c n = j
    · rw [← e]; exact h'.2
    · rw [ld_s, if_neg e]; exact okn_ld n h'.1 j
theorem ld_up (W : Nat → Nat) (k c j n : Nat) : ∀ m, ld W k c n j ≤ ld W k c (n + m) j
  | 0 => Nat.le_refl _
  | m + 1 => by
    have := ld_up W k c j n m
    rw [show n + (m + 1) = n + m + 1 by omega, ld_s]
    by_cases e : fc k c (n + m) = j
    · rw [if_pos e]; omega
    · rw [if_neg e]; exact this
theorem ld_okn {W : Nat → Nat} {b k c d : Nat} (h : ∀ i, i < d → ld W k c d (fc k c i) ≤ b) : ∀ n, n ≤ d → okn W b k c n = true
  | 0, _ => rfl
  | n + 1, hn => by
    show (okn W b k c n && decide (ld W k c (n + 1) (fc k c n) ≤ b)) = true
    rw [ld_okn h n (by omega)]
    have a := ld_up W k c (fc k c n) (n + 1) (d - (n + 1))
    rw [show n + 1 + (d - (n + 1)) = d by omega] at a
    have b := h n (by omega)
    rw [Bool.true_and, decide_eq_true_eq]
    omega
theorem ld_le {W : Nat → Nat} (hW : ∀ i, W i ≤ 999) (k c n j : Nat) : ld W k c n j ≤ 999 * n := nsu_le hW n
theorem nI_dvk : ∀ k, k < 5 → 0 < k → ∀ c, c < 256 → nI c / nI k = nI (c / k) ∧ nI c - nI (c / k) * nI k = nI (c % k) := by decide +kernel
theorem Wf_p {A : Nat → Int32} {d pl i : Nat} (hd : d ≤ 4) (hp : pl < 3) (hA : ∀ k, k < 3 * d → bd (A k)) (hi : i < d) : (A (3 * i + pl) ≤ 0 → nI (Wf A d pl i) = 0) ∧ (¬ A (3 * i + pl) ≤ 0 → nI (Wf A d pl i) = A (3 * i + pl)) := by
  have e := Wf_v hd hp hA hi
  have c9 : (0 : Int32).toInt = 0 := rfl
  constructor
  · intro q
    rw [← e]
    by_cases c : A (3 * i + pl) < 0
    · rw [if_pos c]
    · rw [if_neg c]
      rw [t_le, c9] at q
      rw [t_lt, c9] at c
      apply Int32.toInt_inj.mp
      rw [c9]; omega
  · intro q
    rw [← e, if_neg]
    rw [t_le, c9] at q
    rw [t_lt, c9]; omega
theorem c_isCut {Q : Int32 → hp → Prop} {S : hp} {d pl b k : Nat} (hL : Lay S) (h2 : hI S 39 2 = nI d) (hd4 : d ≤ 4) (hp : pl < 3) (hA : ∀ k, k < 3 * d → bd (hI S 39 (5 + k))) (hb200 : b ≤ 200) (hk : 0 < k ∧ k ≤ 4) {g0 : Nat → Int32} {W : Nat → Nat} (hW : W = Wf (fun k => hI S 39 (5 + k)) d pl) (H1 : (∃ c, c < k ^ d ∧ okn W b k c d = true) → ∀ g, Q 1 (putA S 46 g)) (H0 : (∀ c, c < k ^ d → okn W b k c d = false) → ∀ g, Q 0 (putA S 46 g)) : wp_X12_isCut Q (putA S 46 g0) 35 (nI pl) (nI b) (nI k) := by
  have kP : ∀ g, hK (putA S 46 g) = hK S := fun g => rfl
  have nP : ∀ g, hN (putA S 46 g) = hN S := fun g => rfl
  have rP : ∀ g, hR (putA S 46 g) = hR S := fun g => rfl
  have h39 : ∀ g, hI (putA S 46 g) 39 = hI S 39 := fun g => hI_putA_ne (by decide)
  have hW9 : ∀ i, W i ≤ 999 := fun i => by rw [hW]; exact Wf_le hd4 hp hA i
  have p256 : ∀ i, i ≤ 4 → k ^ i ≤ 256 := fun i hi => Nat.le_trans (Nat.pow_le_pow_left hk.2 i) (Nat.pow_le_pow_right (n := 4) (by omega) hi)
  have pd := p256 d hd4
  have kz : ¬ nI k = 0 := by rw [nI_z (by omega)]; omega
  -- over the codes
  have main : ∀ t c g, c + t = k ^ d → (∀ c', c' < c → okn W b k c' d = false) → wl_X12_isCut_32 Q (t + 1) (putA S 46 g) 35 (nI pl) (nI b) (nI k) (nI (k ^ d)) (nI c) := by
    intro t
    induction t with
    | zero =>
      intro c g hc hno
      have : c = k ^ d := by omega
      subst this
      unfold wl_X12_isCut_32 wB_X12_isCut_32
      exact ⟨fun _ => H0 hno g, fun q => absurd (nI_le (Nat.le_refl _) (by omega)) q⟩
    | succ t ih =>
      intro c g hc hno
      -- the dummies
      have items : ∀ u i g, i + u = d → (∀ j, j < 4 → g j = nI (ld W k c i j)) → wl_X12_isCut_72 (wl_X12_isCut_32 Q (t + 1)) Q (u + 1) (putA S 46 g) 35 (nI pl) (nI b) (nI k) (nI (k ^ d)) (nI c) (nI (c / k ^ i)) (bI (okn W b k c i)) (nI i) := by
        intro u
        induction u with
        | zero =>
          intro i g hi hg
          have : i = d := by omega
          subst this
          unfold wl_X12_isCut_72 wB_X12_isCut_72
          simp only [hL.eqs, kP, nP, rP, h39, vi2, cl2, h2, bI0, nI_1, ↓reduceIte, Nat.reduceEqDiff, and_false, false_and, true_and, and_true, forall_eq, forall_eq', exists_eq_left, exists_eq_left', Option.some.injEq, eq_self_iff_true, not_true, not_false_iff, false_implies, true_implies, forall_const, reduceCtorEq, ne_eq]
          refine ⟨fun _ => ⟨fun z => ih (c + 1) g (by omega) (fun c' hc' => ?_), fun z => H1 ⟨c, by omega, by simpa using z⟩ g⟩, fun q => absurd (nI_le (Nat.le_refl _) (by omega)) q⟩
          by_cases e : c' = c
          · subst e; exact z
          · exact hno c' (by omega)
        | succ u ihu =>
          intro i g hi hg
          have hci : c / k ^ i < 256 := Nat.lt_of_le_of_lt (Nat.div_le_self _ _) (by omega)
          obtain ⟨d1, d2⟩ := nI_dvk k (by omega) hk.1 _ hci
          have ef : c / k ^ i % k = fc k c i := rfl
          have hf : fc k c i < k := Nat.mod_lt _ hk.1
          have en : c / k ^ i / k = c / k ^ (i + 1) := by rw [Nat.div_div_eq_div_mul, ← Nat.pow_succ]
          rw [ef, en] at d2
          rw [en] at d1
          have a5 : (5 : Int32) + (3 : Int32) * nI i + nI pl = nI (5 + (3 * i + pl)) := (i3 5 3 i pl).trans (by rw [Nat.add_assoc])
          have wp := Wf_p (A := fun k => hI S 39 (5 + k)) (d := d) (pl := pl) (i := i) hd4 hp hA (by omega)
          rw [← hW] at wp
          have gl := hg (fc k c i) (by omega)
          have l1 := ld_le hW9 k c i (fc k c i)
          have l2 := hW9 i
          have e46 : ∀ v, v = nI (W i) → g (fc k c i) + v = nI (ld W k c (i + 1) (fc k c i)) := fun v hv => by
            rw [gl, hv, nI_add, ld_s, if_pos rfl]
          have go : ∀ v, v = nI (W i) → wB_X12_isCut_119 (wl_X12_isCut_32 Q (t + 1)) (wl_X12_isCut_72 (wl_X12_isCut_32 Q (t + 1)) Q (u + 1)) Q (putA S 46 g) 35 (nI pl) (nI b) (nI k) (nI (k ^ d)) (nI c) (nI (c / k ^ i)) (bI (okn W b k c i)) (nI i) v (g (fc k c i)) (nI (fc k c i)) 46 := fun v hv => by
            have nx := ihu (i + 1) (fun j => if j = fc k c i then nI (ld W k c (i + 1) (fc k c i)) else g j) (by omega) (fun j hj => by
              by_cases e : j = fc k c i
              · rw [if_pos e, e]
              · rw [if_neg e, ld_s, if_neg (fun y => e y.symm)]; exact hg j hj)
            have eo : okn W b k c (i + 1) = (okn W b k c i && decide (ld W k c (i + 1) (fc k c i) ≤ b)) := rfl
            rw [eo] at nx
            have l3 := ld_le hW9 k c (i + 1) (fc k c i)
            unfold wB_X12_isCut_119 wB_X12_isCut_143 wB_X12_isCut_144
            simp only [hL.eqs, kP, nP, rP, hI_putA_s, d1, d2, kz, e46 v hv, show vp_in (nI (fc k c i)) 4 from vp_in_nI (by omega) (by omega), nI_clamp (show fc k c i < 2 ^ 31 by omega), setI_putA, bI0, nI_1, nI_ltn (show b < 2147483648 by omega) (show ld W k c (i + 1) (fc k c i) < 2147483648 by omega), ↓reduceIte, Nat.reduceEqDiff, and_false, false_and, true_and, and_true, forall_eq, forall_eq', exists_eq_left, exists_eq_left', Option.some.injEq, eq_self_iff_true, not_true, not_false_iff, false_implies, true_implies, forall_const, reduceCtorEq, ne_eq]
            refine ⟨fun z => ?_, fun z => ⟨fun z2 => ?_, fun z2 => ?_⟩⟩
            · rw [z] at nx; exact nx
            · rw [decide_eq_false (show ¬ ld W k c (i + 1) (fc k c i) ≤ b by omega), Bool.and_false] at nx; exact nx
            · rw [Bool.not_eq_false] at z
              rw [z, decide_eq_true (show ld W k c (i + 1) (fc k c i) ≤ b by omega)] at nx; exact nx
          unfold wl_X12_isCut_72 wB_X12_isCut_72
          simp only [hL.eqs, kP, nP, rP, h39, vi2, cl2, h2, a5, hI_putA_s, d1, d2, kz, show vp_in (nI (5 + (3 * i + pl))) 147 from vp_in_nI (by omega) (by omega), nI_clamp (show 5 + (3 * i + pl) < 2 ^ 31 by omega), show vp_in (nI (fc k c i)) 4 from vp_in_nI (by omega) (by omega), nI_clamp (show fc k c i < 2 ^ 31 by omega), ↓reduceIte, Nat.reduceEqDiff, and_false, false_and, true_and, and_true, forall_eq, forall_eq', exists_eq_left, exists_eq_left', Option.some.injEq, eq_self_iff_true, not_true, not_false_iff, false_implies, true_implies, forall_const, reduceCtorEq, ne_eq]
          exact ⟨fun z => absurd z (nI_ge (by omega) (by omega)), fun _ => ⟨fun z => go 0 (wp.1 z).symm, fun z => go _ (wp.2 z).symm⟩⟩
      -- the bolts are made new
      have zero : ∀ u j g, j + u = 4 → (∀ j', j' < j → g j' = 0) → wl_X12_isCut_46 (wl_X12_isCut_32 Q (t + 1)) Q (u + 1) (putA S 46 g) 35 (nI pl) (nI b) (nI k) (nI (k ^ d)) (nI c) (nI c) (nI j) := by
        intro u
        induction u with
        | zero =>
          intro j g hj hg
          have : j = 4 := by omega
          subst this
          unfold wl_X12_isCut_46 wB_X12_isCut_46
          refine ⟨fun _ => ⟨d + 1, ?_⟩, fun q => absurd (nI_le (a := 4) (b := 4) (by omega) (by omega)) q⟩
          have := items d 0 g (by omega) (fun j hj => hg j hj)
          rw [Nat.pow_zero, Nat.div_one] at this
          exact this
        | succ u ihu =>
          intro j g hj hg
          unfold wl_X12_isCut_46 wB_X12_isCut_46
          simp only [hL.eqs, kP, nP, rP, show vp_in (nI j) 4 from vp_in_nI (by omega) (by omega), nI_clamp (show j < 2 ^ 31 by omega), setI_putA, nI_1, ↓reduceIte, Nat.reduceEqDiff, and_false, false_and, true_and, and_true, forall_eq, forall_eq', exists_eq_left, exists_eq_left', Option.some.injEq, eq_self_iff_true, not_true, not_false_iff, false_implies, true_implies, forall_const, reduceCtorEq, ne_eq]
          refine ⟨fun z => absurd z (nI_ge (a := j) (b := 4) (by omega) (by omega)), fun _ => ihu (j + 1) _ (by omega) (fun j' hj' => ?_)⟩
          by_cases e : j' = j
          · rw [if_pos e]
          · rw [if_neg e]; exact hg j' (by omega)
      unfold wl_X12_isCut_32 wB_X12_isCut_32
      exact ⟨fun z => absurd z (nI_ge (by omega) (by omega)), fun _ => ⟨5, zero 4 0 g (by omega) (fun j' hj' => by omega)⟩⟩
  have pw : ∀ t i, i + t = d → wl_X12_isCut_6 Q (t + 1) (putA S 46 g0) 35 (nI pl) (nI b) (nI k) (nI (k ^ i)) (nI i) := by
    intro t
    induction t with
    | zero =>
      intro i hi
      have : i = d := by omega
      subst this
      unfold wl_X12_isCut_6 wB_X12_isCut_6
      simp only [hL.eqs, kP, nP, rP, h39, vi2, cl2, h2, ↓reduceIte, Nat.reduceEqDiff, and_false, false_and, true_and, and_true, forall_eq, forall_eq', exists_eq_left, exists_eq_left', Option.some.injEq, eq_self_iff_true, not_true, not_false_iff, false_implies, true_implies, forall_const, reduceCtorEq, ne_eq]
      exact ⟨fun _ => ⟨_, main (k ^ i) 0 g0 (by omega) (fun c' hc' => by omega)⟩, fun q => absurd (nI_le (Nat.le_refl _) (by omega)) q⟩
    | succ t ih =>
      intro i hi
      have nx := ih (i + 1) (by omega)
      have e5 : nI (k ^ i) * nI k = nI (k ^ (i + 1)) := by rw [Nat.pow_succ]; exact nI_mul _ k
      unfold wl_X12_isCut_6 wB_X12_isCut_6
      simp only [hL.eqs, kP, nP, rP, h39, vi2, cl2, h2, e5, nI_1, ↓reduceIte, Nat.reduceEqDiff, and_false, false_and, true_and, and_true, forall_eq, forall_eq', exists_eq_left, exists_eq_left', Option.some.injEq, eq_self_iff_true, not_true, not_false_iff, false_implies, true_implies, forall_const, reduceCtorEq, ne_eq]
      exact ⟨fun z => absurd z (nI_ge (by omega) (by omega)), fun _ => nx⟩
  have := pw d 0 (by omega)
  exact ⟨d + 1, this⟩
