def mpS (f : Nat → Bool) (v : Nat → Int32) (i : Nat) (z : Int32 × Int32) : Int32 × Int32 := if f i = true then (z.1 + v i, 1) else z
def mp (f : Nat → Bool) (v : Nat → Int32) (n : Nat) : Int32 × Int32 := fo (mpS f v) n (0, 0)
theorem mp_t {f : Nat → Bool} {v : Nat → Int32} {n : Nat} (h : f n = true) : mp f v (n + 1) = ((mp f v n).1 + v n, 1) := by
  show mpS f v n _ = _; unfold mpS; rw [if_pos h]; rfl
theorem mp_f {f : Nat → Bool} {v : Nat → Int32} {n : Nat} (h : f n = false) : mp f v (n + 1) = mp f v n := by
  show mpS f v n _ = _; unfold mpS; rw [if_neg (by rw [h]; decide)]; rfl
theorem mp_b {f : Nat → Bool} {v : Nat → Int32} : ∀ {n : Nat}, n ≤ 16 → (∀ i, i < n → f i = true → rg (v i) (-198) 198 = true) → (-198 * n ≤ (mp f v n).1.toInt ∧ (mp f v n).1.toInt ≤ 198 * n) ∧ ((mp f v n).2 = 0 ∨ (mp f v n).2 = 1)
  | 0, _, _ => by refine ⟨?_, Or.inl rfl⟩; show -198 * ((0 : Nat) : Int) ≤ (0 : Int32).toInt ∧ (0 : Int32).toInt ≤ 198 * ((0 : Nat) : Int); decide
  | n + 1, hn, h => by
    obtain ⟨h1, h2⟩ := mp_b (f := f) (v := v) (n := n) (by omega) (fun i hi => h i (by omega))
    cases e : f n with
    | true =>
      have h3 := rg_t.mp (h n (by omega) e)
      rw [mp_t e]
      refine ⟨?_, Or.inr rfl⟩
      show _ ≤ ((mp f v n).1 + v n).toInt ∧ ((mp f v n).1 + v n).toInt ≤ _
      rw [t_add (by omega)]
      omega
    | false =>
      rw [mp_f e]
      exact ⟨by omega, h2⟩
def hit (L : Nat → Int32) (x1 x2 : Int32) (j i : Nat) : Bool := decide (L (6 * i) = 0) && (decide (L (6 * i + 1) = nI j) && (decide (L (6 * i + 2) = x1) && decide (L (6 * i + 3) = x2)))
theorem hit_t {L : Nat → Int32} {x1 x2 : Int32} {j i : Nat} (h1 : L (6 * i) = 0) (h2 : L (6 * i + 1) = nI j) (h3 : L (6 * i + 2) = x1) (h4 : L (6 * i + 3) = x2) : hit L x1 x2 j i = true := by simp [hit, h1, h2, h3, h4]
theorem hit_f {L : Nat → Int32} {x1 x2 : Int32} {j i : Nat} (h : ¬ L (6 * i) = 0 ∨ ¬ L (6 * i + 1) = nI j ∨ ¬ L (6 * i + 2) = x1 ∨ ¬ L (6 * i + 3) = x2) : hit L x1 x2 j i = false := by
  rcases h with h | h | h | h <;> simp [hit, h]
theorem c_paddedBy {Q : Int32 → hp → Prop} {S : hp} {j l : Nat} {x1 x2 : Int32} (vS : SL S 16) (hl : hI S 16 9 = nI l) (h16 : l ≤ 16) (h : Q (if (mp (hit (hI S 21) x1 x2 j) (fun i => hI S 21 (6 * i + 5)) l).2 = 0 then -1000000 else (mp (hit (hI S 21) x1 x2 j) (fun i => hI S 21 (6 * i + 5)) l).1) S) : wp_X2_paddedBy Q S 16 (nI j) x1 x2 := by
  have key : ∀ t i, i + t = l → wl_X2_paddedBy_9 Q (t + 1) S 16 (nI j) x1 x2 (mp (hit (hI S 21) x1 x2 j) (fun i => hI S 21 (6 * i + 5)) i).1 (mp (hit (hI S 21) x1 x2 j) (fun i => hI S 21 (6 * i + 5)) i).2 (nI i) := by
    intro t
    induction t with
    | zero =>
      intro i hi
      have : i = l := by omega
      subst this
      unfold wl_X2_paddedBy_9 wB_X2_paddedBy_9
      simp only [vS.eqs, hl, ↓reduceIte, Nat.reduceEqDiff, and_false, false_and, true_and, and_true, forall_eq, forall_eq', exists_eq_left, exists_eq_left', Option.some.injEq, eq_self_iff_true, not_true, not_false_iff, false_implies, true_implies, forall_const, reduceCtorEq, ne_eq]
      refine ⟨fun _ => ⟨fun q => ?_, fun q => ?_⟩, fun q => absurd (nI_le (Nat.le_refl _) (by omega)) q⟩
      · rw [if_pos q] at h; exact h
      · rw [if_neg q] at h; exact h
    | succ t ih =>
      intro i hi
      have nx := ih (i + 1) (by omega)
      have p3 : ∀ Q, wp_X8_part Q S 16 (nI i) (3 : Int32) ↔ Q (hI S 21 (6 * i + 3)) S := fun Q => e_part (c := 3) vS (by omega) (by omega)
      have p5 : ∀ Q, wp_X8_part Q S 16 (nI i) (5 : Int32) ↔ Q (hI S 21 (6 * i + 5)) S := fun Q => e_part (c := 5) vS (by omega) (by omega)
      unfold wl_X2_paddedBy_9 wB_X2_paddedBy_9 wB_X2_paddedBy_64
      simp only [vS.eqs, hl, e_isTellingBy vS (show i < 16 by omega), e_isTellingOf vS (show i < 16 by omega), p3, p5, bI0, nI_1, ↓reduceIte, Nat.reduceEqDiff, and_false, false_and, true_and, and_true, forall_eq, forall_eq', exists_eq_left, exists_eq_left', Option.some.injEq, eq_self_iff_true, not_true, not_false_iff, false_implies, true_implies, forall_const, reduceCtorEq, ne_eq]
      refine ⟨fun z => absurd z (nI_ge (by omega) (by omega)), fun _ => ⟨fun z => ?_, fun z => ⟨fun z2 => ?_, fun z2 => ⟨fun z3 => ?_, fun z3 => ?_⟩⟩⟩⟩
      · rw [mp_f] at nx
        · exact nx
        · rw [Bool.and_eq_false_iff] at z
          rcases z with z | z
          · exact hit_f (Or.inl (by simpa using z))
          · exact hit_f (Or.inr (Or.inl (by simpa using z)))
      · rw [mp_f] at nx
        · exact nx
        · rw [Bool.and_eq_false_iff] at z2
          rcases z2 with z | z
          · exact hit_f (Or.inl (by simpa using z))
          · exact hit_f (Or.inr (Or.inr (Or.inl (by simpa using z))))
      · rw [mp_f (hit_f (Or.inr (Or.inr (Or.inr z3))))] at nx
        exact nx
      · have y : decide (hI S 21 (6 * i) = 0) = true ∧ decide (hI S 21 (6 * i + 1) = nI j) = true := by simpa using z
        have y2 : decide (hI S 21 (6 * i) = 0) = true ∧ decide (hI S 21 (6 * i + 2) = x1) = true := by simpa using z2
        rw [mp_t (hit_t (by simpa using y.1) (by simpa using y.2) (by simpa using y2.2) z3)] at nx
        exact nx
  exact ⟨l + 1, key l 0 (by omega)⟩
/-- the mouth that padded most, and how much -/
def moS (P : Nat → Int32 × Int32) (j : Nat) (z : Int32 × Int32) : Int32 × Int32 := if (P j).2 = 0 then z else if z.1 = -1000000 then (nI j, (P j).1) else if ab (P j).1 ≤ ab z.2 then z else (nI j, (P j).1)
def mo (P : Nat → Int32 × Int32) (n : Nat) : Int32 × Int32 := fo (moS P) n (-1000000, -1000000)
theorem nI_none {j : Nat} (h : j < 2147483648) : nI j ≠ -1000000 := fun q => by
  have q2 := congrArg Int32.toInt q
  rw [nI_toInt h] at q2
  have : (-1000000 : Int32).toInt = -1000000 := rfl
  omega
theorem mo_b {P : Nat → Int32 × Int32} : ∀ {n : Nat}, n ≤ 100 → (∀ j, j < n → -3168 ≤ (P j).1.toInt ∧ (P j).1.toInt ≤ 3168) → ((mo P n).1 = -1000000 ∧ (mo P n).2 = -1000000) ∨ ((mo P n).1 ≠ -1000000 ∧ -3168 ≤ (mo P n).2.toInt ∧ (mo P n).2.toInt ≤ 3168)
  | 0, _, _ => Or.inl ⟨rfl, rfl⟩
  | n + 1, hn, h => by
    have ih := mo_b (P := P) (n := n) (by omega) (fun j hj => h j (by omega))
    have e : mo P (n + 1) = moS P n (mo P n) := rfl
    have hx := h n (by omega)
    rw [e]
    unfold moS
    by_cases c1 : (P n).2 = 0
    · rw [if_pos c1]; exact ih
    · rw [if_neg c1]
      by_cases c2 : (mo P n).1 = -1000000
      · rw [if_pos c2]; exact Or.inr ⟨nI_none (by omega), hx⟩
      · rw [if_neg c2]
        by_cases c3 : ab (P n).1 ≤ ab (mo P n).2
        · rw [if_pos c3]; exact ih
        · rw [if_neg c3]; exact Or.inr ⟨nI_none (by omega), hx⟩
theorem ab_sq {x y : Int32} (hx : -3168 ≤ x.toInt ∧ x.toInt ≤ 3168) (hy : -3168 ≤ y.toInt ∧ y.toInt ≤ 3168) : (x * x ≤ y * y) = (ab x ≤ ab y) := by
  have sq : ∀ z : Int32, -3168 ≤ z.toInt ∧ z.toInt ≤ 3168 → (z * z).toInt = z.toInt * z.toInt ∧ (ab z).toInt = z.toInt.natAbs ∧ 0 ≤ z.toInt * z.toInt := fun z hz => by
    have b1 : z.toInt * z.toInt = ((z.toInt.natAbs * z.toInt.natAbs : Nat) : Int) := by rw [← Int.natAbs_mul_self]
    have b2 : z.toInt.natAbs ≤ 3168 := by omega
    have b3 : z.toInt.natAbs * z.toInt.natAbs ≤ 10036224 := Nat.mul_le_mul b2 b2
    refine ⟨?_, ?_, ?_⟩
    · refine t_mul ?_
      rw [b1]
      generalize z.toInt.natAbs * z.toInt.natAbs = N at b3
      omega
    rotate_left
    · rw [b1]; exact Int.natCast_nonneg _
    have c9 : (0 : Int32).toInt = 0 := rfl
    unfold ab
    by_cases q : 0 ≤ z
    · rw [if_pos q]; rw [t_le, c9] at q; omega
    · rw [if_neg q]; rw [t_le, c9] at q; rw [t_sub (by rw [c9]; omega), c9]; omega
  obtain ⟨x1, x2, x3⟩ := sq x hx
  obtain ⟨y1, y2, y3⟩ := sq y hy
  rw [t_le, t_le, x1, y1, x2, y2]
  have b1 : x.toInt * x.toInt = ((x.toInt.natAbs * x.toInt.natAbs : Nat) : Int) := by rw [← Int.natAbs_mul_self]
  have b2 : y.toInt * y.toInt = ((y.toInt.natAbs * y.toInt.natAbs : Nat) : Int) := by rw [← Int.natAbs_mul_self]
  rw [b1, b2]
  apply propext
  constructor
  · intro q
    have q' := Int.ofNat_le.mp q
    exact Int.ofNat_le.mpr (Nat.mul_self_le_mul_self_iff.mp q')
  · intro q
    have q' := Int.ofNat_le.mp q
    exact Int.ofNat_le.mpr (Nat.mul_self_le_mul_self_iff.mpr q')
theorem c_mostPadding {Q : Int32 → hp → Prop} {S : hp} {m l b0 : Nat} {x1 x2 w : Int32} (vS : SL S 16) (hm : hI S 16 8 = nI m) (hm5 : m ≤ 5) (hl : hI S 16 9 = nI l) (h16 : l ≤ 16) {P : Nat → Int32 × Int32} (hP : ∀ j, P j = mp (hit (hI S 21) x1 x2 j) (fun i => hI S 21 (6 * i + 5)) l) (hb : ∀ j, j < m → -3168 ≤ (P j).1.toInt ∧ (P j).1.toInt ≤ 3168) (h : Q (if w = 0 then (mo P m).1 else (mo P m).2) S) : wp_X2_mostPadding Q S b0 16 x1 x2 w := by
  have key : ∀ t j, j + t = m → wl_X2_mostPadding_11 Q (t + 1) S 16 x1 x2 w (mo P j).1 (mo P j).2 (nI j) := by
    intro t
    induction t with
    | zero =>
      intro j hj
      have : j = m := by omega
      subst this
      unfold wl_X2_mostPadding_11 wB_X2_mostPadding_11
      simp only [vS.eqs, hm, ↓reduceIte, Nat.reduceEqDiff, and_false, false_and, true_and, and_true, forall_eq, forall_eq', exists_eq_left, exists_eq_left', Option.some.injEq, eq_self_iff_true, not_true, not_false_iff, false_implies, true_implies, forall_const, reduceCtorEq, ne_eq]
      refine ⟨fun _ => ⟨fun q => ?_, fun q => ?_⟩, fun q => absurd (nI_le (Nat.le_refl _) (by omega)) q⟩
      · rw [if_neg q] at h; exact h
      · rw [if_pos q] at h; exact h
    | succ t ih =>
      intro j hj
      have nx := ih (j + 1) (by omega)
      have e : mo P (j + 1) = moS P j (mo P j) := rfl
      rw [e] at nx
      unfold wl_X2_mostPadding_11 wB_X2_mostPadding_11
      simp only [vS.eqs, hm, ↓reduceIte, Nat.reduceEqDiff, and_false, false_and, true_and, and_true, forall_eq, forall_eq', exists_eq_left, exists_eq_left', Option.some.injEq, eq_self_iff_true, not_true, not_false_iff, false_implies, true_implies, forall_const, reduceCtorEq, ne_eq]
      refine ⟨fun z => absurd z (nI_ge (by omega) (by omega)), fun _ => c_paddedBy vS hl h16 ?_⟩
      rw [← hP]
      unfold wB_X2_mostPadding_57 wB_X2_mostPadding_65
      simp only [nI_1, ↓reduceIte, Nat.reduceEqDiff, and_false, false_and, true_and, and_true, forall_eq, forall_eq', exists_eq_left, exists_eq_left', Option.some.injEq, eq_self_iff_true, not_true, not_false_iff, false_implies, true_implies, forall_const, reduceCtorEq, ne_eq]
      have hx := hb j (by omega)
      have hn : ¬ (P j).1 = -1000000 := fun q => by
        rw [q] at hx
        have : (-1000000 : Int32).toInt = -1000000 := rfl
        omega
      unfold moS at nx
      by_cases c1 : (P j).2 = 0
      · rw [if_pos c1] at nx
        rw [if_pos c1]
        exact ⟨fun _ => nx, fun q => absurd rfl q⟩
      · rw [if_neg c1] at nx
        rw [if_neg c1]
        refine ⟨fun q => absurd q hn, fun _ => ⟨fun c2 => ?_, fun c2 => ?_⟩⟩
        · rw [if_pos c2] at nx; exact nx
        · rw [if_neg c2] at nx
          refine ⟨fun c3 => ?_, fun c3 => ?_⟩
          · rw [if_pos (show ab (P j).1 ≤ ab (mo P j).2 from c3)] at nx; exact nx
          · rw [if_neg (show ¬ ab (P j).1 ≤ ab (mo P j).2 from c3)] at nx; exact nx
  exact ⟨m + 1, key m 0 (by omega)⟩
theorem c_mostM {Q : Int32 → hp → Prop} {S : hp} {m l : Nat} {x1 x2 w : Int32} (hL : Lay S) (hm : hI S 39 3 = nI m) (hm5 : m ≤ 5) (hl : hI S 39 4 = nI l) (h16 : l ≤ 16) {P : Nat → Int32 × Int32} (hP : ∀ j, P j = mp (hit (fun k => hI S 39 (51 + k)) x1 x2 j) (fun i => hI S 39 (51 + (6 * i + 5))) l) (hv : ∀ i, i < l → hI S 39 (51 + 6 * i) = 0 → rg (hI S 39 (51 + 6 * i + 5)) (-198) 198 = true) (h : Q (if w = 0 then (mo P m).1 else (mo P m).2) S) : ∃ n, wl_X12_most_43 Q n S 35 x1 x2 w (-1000000) 0 0 := by
  have hb' : ∀ j i, i ≤ l → (-198 * i ≤ (mp (hit (fun k => hI S 39 (51 + k)) x1 x2 j) (fun i => hI S 39 (51 + (6 * i + 5))) i).1.toInt ∧ (mp (hit (fun k => hI S 39 (51 + k)) x1 x2 j) (fun i => hI S 39 (51 + (6 * i + 5))) i).1.toInt ≤ 198 * i) ∧ ((mp (hit (fun k => hI S 39 (51 + k)) x1 x2 j) (fun i => hI S 39 (51 + (6 * i + 5))) i).2 = 0 ∨ (mp (hit (fun k => hI S 39 (51 + k)) x1 x2 j) (fun i => hI S 39 (51 + (6 * i + 5))) i).2 = 1) := fun j i hi => mp_b (by omega) (fun k hk q => by
    have := hv k (by omega) (by simp [hit] at q; exact q.1)
    rw [show 51 + 6 * k + 5 = 51 + (6 * k + 5) by omega] at this
    exact this)
  have hb : ∀ j, -3168 ≤ (P j).1.toInt ∧ (P j).1.toInt ≤ 3168 := fun j => by
    have := (hb' j l (Nat.le_refl _)).1
    rw [hP]; omega
  have key : ∀ t j, j + t = m → wl_X12_most_43 Q (t + 1) S 35 x1 x2 w (mo P j).1 (if (mo P j).1 = -1000000 then 0 else (mo P j).2) (nI j) := by
    intro t
    induction t with
    | zero =>
      intro j hj
      have : j = m := by omega
      subst this
      unfold wl_X12_most_43 wB_X12_most_43 wB_X12_most_219
      simp only [hL.eqs, vi3, cl3, hm, ↓reduceIte, Nat.reduceEqDiff, and_false, false_and, true_and, and_true, forall_eq, forall_eq', exists_eq_left, exists_eq_left', Option.some.injEq, eq_self_iff_true, not_true, not_false_iff, false_implies, true_implies, forall_const, reduceCtorEq, ne_eq]
      refine ⟨fun _ => ⟨fun q => ?_, fun q => ⟨fun q2 => ?_, fun q2 => ?_⟩⟩, fun q => absurd (nI_le (Nat.le_refl _) (by omega)) q⟩
      · rcases mo_b (P := P) (n := j) (by omega) (fun j _ => hb j) with ⟨y1, y2⟩ | ⟨y1, -⟩
        · rw [y1, y2, ite_self] at h; rw [y1]; exact h
        · exact absurd q y1
      · rw [if_neg q2] at h; rw [if_neg q]; exact h
      · rw [if_pos q2] at h; exact h
    | succ t ih =>
      intro j hj
      have nx := ih (j + 1) (by omega)
      have e : mo P (j + 1) = moS P j (mo P j) := rfl
      rw [e] at nx
      obtain ⟨p, hp⟩ : ∃ p, p = mp (hit (fun k => hI S 39 (51 + k)) x1 x2 j) (fun i => hI S 39 (51 + (6 * i + 5))) := ⟨_, rfl⟩
      have inner : ∀ s i, i + s = l → wl_X12_most_63 (wl_X12_most_43 Q (t + 1)) Q (s + 1) S 35 x1 x2 w (mo P j).1 (if (mo P j).1 = -1000000 then 0 else (mo P j).2) (nI j) (p i).1 (p i).2 (nI i) := by
        intro s
        induction s with
        | zero =>
          intro i hi
          have : i = l := by omega
          subst this
          have hpj : P j = p i := by rw [hP, hp]
          unfold wl_X12_most_63 wB_X12_most_63 wB_X12_most_194 wB_X12_most_202
          simp only [hL.eqs, vi4, cl4, hl, nI_1, ↓reduceIte, Nat.reduceEqDiff, and_false, false_and, true_and, and_true, forall_eq, forall_eq', exists_eq_left, exists_eq_left', Option.some.injEq, eq_self_iff_true, not_true, not_false_iff, false_implies, true_implies, forall_const, reduceCtorEq, ne_eq]
          refine ⟨fun _ => ?_, fun q => absurd (nI_le (Nat.le_refl _) (by omega)) q⟩
          rw [← hpj]
          unfold moS at nx
          refine ⟨fun c1 => ?_, fun c1 => ⟨fun c2 => ?_, fun c2 => ?_⟩⟩
          · rw [if_pos c1] at nx; exact nx
          · rw [if_neg c1, if_pos c2, if_neg (show ¬ (nI j, (P j).1).1 = -1000000 from nI_none (by omega))] at nx; exact nx
          · rw [if_neg c1, if_neg c2] at nx
            rcases mo_b (P := P) (n := j) (by omega) (fun j _ => hb j) with ⟨y1, y2⟩ | ⟨y1, y2⟩
            · exact absurd y1 c2
            · rw [if_neg c2, ab_sq (hb j) y2]
              refine ⟨fun c3 => ?_, fun c3 => ?_⟩
              · rw [if_pos c3, if_neg c2] at nx; exact nx
              · rw [if_neg c3, if_neg (show ¬ (nI j, (P j).1).1 = -1000000 from nI_none (by omega))] at nx; exact nx
        | succ s ihs =>
          intro i hi
          have ni := ihs (i + 1) (by omega)
          have hflag := (hb' j i (by omega)).2
          rw [← hp] at hflag
          have lof : ∀ (c : Nat), c < 6 → ∀ Q, wp_X12_lineOf Q S 35 (nI i) (nI c) ↔ Q (hI S 39 (51 + (6 * i + c))) S := fun c hc Q => by
            rw [e_lineOfM hL (show i < 16 by omega) hc, Nat.add_assoc]
          have l0 : ∀ Q, wp_X12_lineOf Q S 35 (nI i) (0 : Int32) ↔ Q (hI S 39 (51 + (6 * i))) S := fun Q => lof 0 (by omega) Q
          have l1 : ∀ Q, wp_X12_lineOf Q S 35 (nI i) (1 : Int32) ↔ Q (hI S 39 (51 + (6 * i + 1))) S := fun Q => lof 1 (by omega) Q
          have l2 : ∀ Q, wp_X12_lineOf Q S 35 (nI i) (2 : Int32) ↔ Q (hI S 39 (51 + (6 * i + 2))) S := fun Q => lof 2 (by omega) Q
          have l3 : ∀ Q, wp_X12_lineOf Q S 35 (nI i) (3 : Int32) ↔ Q (hI S 39 (51 + (6 * i + 3))) S := fun Q => lof 3 (by omega) Q
          have l5 : ∀ Q, wp_X12_lineOf Q S 35 (nI i) (5 : Int32) ↔ Q (hI S 39 (51 + (6 * i + 5))) S := fun Q => lof 5 (by omega) Q
          unfold wl_X12_most_63 wB_X12_most_63 wB_X12_most_122 wB_X12_most_123 wB_X12_most_135 wB_X12_most_140 wB_X12_most_160
          simp only [hL.eqs, vi4, cl4, hl, nI_1, l0, l1, l2, l3, l5, i1_ne0, Int32.add_zero, ↓reduceIte, Nat.reduceEqDiff, and_false, false_and, true_and, and_true, forall_eq, forall_eq', exists_eq_left, exists_eq_left', Option.some.injEq, eq_self_iff_true, not_true, not_false_iff, false_implies, true_implies, forall_const, reduceCtorEq, ne_eq]
          refine ⟨fun z => absurd z (nI_ge (by omega) (by omega)), fun _ => ?_⟩
          have NO : hit (fun k => hI S 39 (51 + k)) x1 x2 j i = false → (¬ (p i).2 = 0 → wl_X12_most_63 (wl_X12_most_43 Q (t + 1)) Q (s + 1) S 35 x1 x2 w (mo P j).1 (if (mo P j).1 = -1000000 then 0 else (mo P j).2) (nI j) (p i).1 1 (nI (i + 1))) ∧ ((p i).2 = 0 → wl_X12_most_63 (wl_X12_most_43 Q (t + 1)) Q (s + 1) S 35 x1 x2 w (mo P j).1 (if (mo P j).1 = -1000000 then 0 else (mo P j).2) (nI j) (p i).1 0 (nI (i + 1))) := fun q => by
            rw [hp, mp_f q, ← hp] at ni
            refine ⟨fun z => ?_, fun z => ?_⟩
            · rcases hflag with y | y
              · exact absurd y z
              · rw [y] at ni; exact ni
            · rw [z] at ni; exact ni
          refine ⟨fun z => NO (hit_f (Or.inl z)), fun z => ⟨fun z1 => NO (hit_f (Or.inr (Or.inl z1))), fun z1 => ⟨fun z2 => NO (hit_f (Or.inr (Or.inr (Or.inl z2)))), fun z2 => ⟨fun z3 => NO (hit_f (Or.inr (Or.inr (Or.inr z3)))), fun z3 => ?_⟩⟩⟩⟩
          rw [hp, mp_t (hit_t z z1 z2 z3), ← hp] at ni
          exact ⟨fun _ => ni, fun _ => ni⟩
      unfold wl_X12_most_43 wB_X12_most_43
      simp only [hL.eqs, vi3, cl3, hm, ↓reduceIte, Nat.reduceEqDiff, and_false, false_and, true_and, and_true, forall_eq, forall_eq', exists_eq_left, exists_eq_left', Option.some.injEq, eq_self_iff_true, not_true, not_false_iff, false_implies, true_implies, forall_const, reduceCtorEq, ne_eq]
      refine ⟨fun z => absurd z (nI_ge (by omega) (by omega)), fun _ => ⟨l + 1, ?_⟩⟩
      have := inner l 0 (by omega)
      rw [hp] at this
      exact this
  have := key m 0 (by omega)
  rw [show (mo P 0).1 = -1000000 from rfl, if_pos rfl] at this
  exact ⟨m + 1, this⟩
theorem p_most : st_most Rel := by
  intro S h x1 x2 x3
  obtain ⟨d, m, l, ⟨hd, hm, hl⟩, v2, v3, v4, v5, v6, v7, v8, vS⟩ := h.view
  refine ⟨h.1.eqs.1, ?_⟩
  obtain ⟨Q, hQ⟩ : ∃ Q : Int32 → hp → Prop, Q = fun (r : Int32) (S1 : hp) => hK S1 35 = 11 ∧ wp_X12_most (fun r2 S2 => r = r2 ∧ Rel S2) S1 35 x1 x2 x3 := ⟨_, rfl⟩
  rw [← hQ]
  have x39 : hI (setI S 35 0 0) 39 = hI S 39 := hI_setI_ne (by decide)
  have t2 : 0 ≤ (hI (setI S 35 0 0) 39 2).toInt := by rw [x39, v2.1]; exact tn0 (by omega)
  unfold wp_X11_most
  simp only [h.1.eqs, e_hasPlace h.1.eqs.2.2.2.2.2.2.2.2.2.2.2.2.2.2.2.2.1, v2, e_isFOS, bI0, ↓reduceIte, Nat.reduceEqDiff, and_false, false_and, true_and, and_true, forall_eq, forall_eq', exists_eq_left, exists_eq_left', Option.some.injEq, eq_self_iff_true, not_true, not_false_iff, false_implies, true_implies, forall_const, reduceCtorEq, ne_eq]
  have BAD : (rc x1 (nI d) && rg x2 0 2) = false ∨ rg x3 0 1 = false → Q (-1000001) S := by
    intro q
    simp only [hQ, wp_X12_most, h.1.eqs, e_in, e_isDummyM (lay0 h.1) t2, e_isPlaceM, l64_0, l64_1, l64_2, l64_5, l64_6, l64_7, l64_m1, l64_99, l64_m99, l64_255, l64_999, l64_m999, l64_297, l64_200, l64_m200, l64_97, l64_122, l64_48, l64_57, Int32.toInt_toInt64, hI_setI, v2, bI0, hK_putA, hN_putA, hR_putA, hC_putA, hK_setI, hN_setI, hR_setI, hC_setI, hI_setI, hK_setR, hN_setR, hI_setR, hC_setR, hR_setR, hK_cpyI, hN_cpyI, hR_cpyI, hC_cpyI, hI_cpyI, ↓reduceIte, Nat.reduceEqDiff, and_false, false_and, true_and, and_true, forall_eq, forall_eq', exists_eq_left, exists_eq_left', Option.some.injEq, eq_self_iff_true, not_true, not_false_iff, false_implies, true_implies, forall_const, reduceCtorEq, ne_eq]
    refine ⟨fun _ => h.thr 0, fun q1 => ⟨fun _ => h.thr 0, fun q2 => ⟨fun q3 => ?_, fun _ => h.thr 0⟩⟩⟩
    rcases q with q | q
    · rw [Bool.and_eq_false_iff] at q
      rcases q with q | q
      · exact absurd q q1
      · exact absurd q q2
    · exact absurd q q3
  refine ⟨fun q => BAD (Or.inl q), fun q => ⟨fun q2 => ?_, fun q2 => BAD (Or.inr q2)⟩⟩
  have hb3 : rg x3 0 1 = true := by simpa using q2
  have hbb : rc x1 (nI d) = true ∧ rg x2 0 2 = true := by simpa using q
  have hP : ∀ j, mp (hit (hI S 21) x1 x2 j) (fun i => hI S 21 (6 * i + 5)) l = mp (hit (fun k => hI S 39 (51 + k)) x1 x2 j) (fun i => hI S 39 (51 + (6 * i + 5))) l := fun j => by
    unfold mp
    refine fo_congr (fun i hi z => ?_)
    unfold mpS hit
    rw [v6 (6 * i) (by omega), v6 (6 * i + 1) (by omega), v6 (6 * i + 2) (by omega), v6 (6 * i + 3) (by omega)]
    simp only [v6 (6 * i + 5) (show 6 * i + 5 < 6 * l by omega)]
  have hv : ∀ i, i < l → hI S 39 (51 + 6 * i) = 0 → rg (hI S 39 (51 + 6 * i + 5)) (-198) 198 = true := fun i hi q => by
    rcases v8 i hi with ⟨-, mm, dd, pp, -, -, -, -, -, -, -, y⟩ | y | ⟨y, -⟩
    · rw [show 51 + 6 * i + 5 = 56 + 6 * i by omega]; exact y
    · rw [q] at y; exact absurd y (by decide)
    · rw [q] at y; exact absurd y (by decide)
  refine c_mostPadding vS v2.2.2.2.2.2.2.1 hm v2.2.2.2.2.2.2.2 hl (P := fun j => mp (hit (hI S 21) x1 x2 j) (fun i => hI S 21 (6 * i + 5)) l) (fun _ => rfl) (fun j hj => ?_) ?_
  · show -3168 ≤ (mp (hit (hI S 21) x1 x2 j) (fun i => hI S 21 (6 * i + 5)) l).1.toInt ∧ (mp (hit (hI S 21) x1 x2 j) (fun i => hI S 21 (6 * i + 5)) l).1.toInt ≤ 3168
    rw [hP]
    have := (mp_b (f := hit (fun k => hI S 39 (51 + k)) x1 x2 j) (v := fun i => hI S 39 (51 + (6 * i + 5))) (n := l) hl (fun i hi q => by
      have := hv i hi (by simp [hit] at q; exact q.1)
      rw [show 51 + 6 * i + 5 = 51 + (6 * i + 5) by omega] at this
      exact this)).1
    omega
  · simp only [hQ, wp_X12_most, h.1.eqs, e_in, e_isDummyM (lay0 h.1) t2, e_isPlaceM, l64_0, l64_1, l64_2, l64_5, l64_6, l64_7, l64_m1, l64_99, l64_m99, l64_255, l64_999, l64_m999, l64_297, l64_200, l64_m200, l64_97, l64_122, l64_48, l64_57, Int32.toInt_toInt64, hI_setI, v2, hb3, hbb, bI0, Bool.true_eq_false, hK_putA, hN_putA, hR_putA, hC_putA, hK_setI, hN_setI, hR_setI, hC_setI, hI_setI, hK_setR, hN_setR, hI_setR, hC_setR, hR_setR, hK_cpyI, hN_cpyI, hR_cpyI, hC_cpyI, hI_cpyI, ↓reduceIte, Nat.reduceEqDiff, and_false, false_and, true_and, and_true, forall_eq, forall_eq', exists_eq_left, exists_eq_left', Option.some.injEq, eq_self_iff_true, not_true, not_false_iff, false_implies, true_implies, forall_const, reduceCtorEq, ne_eq]
    refine c_mostM (lay0 h.1) (m := m) (l := l) (by rw [x39]; exact v2.2.1) hm (by rw [x39]; exact v2.2.2.1) hl (fun j => ?_) (by rw [x39]; exact hv) ⟨rfl, h.thr 0⟩
    rw [x39]; exact hP j
