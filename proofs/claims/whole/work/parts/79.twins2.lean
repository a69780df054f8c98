def rbF (p b : Nat) : Nat → Nat → Option Nat
  | 0, _ => none
  | t + 1, i => if i = p ∨ i = b then rbF p b t (i + 1) else some i
def rb (d p b : Nat) : Option Nat := rbF p b (d - 1) 1
theorem c_restBut {Q : Int32 → hp → Prop} {S : hp} {d p b : Nat} (vS : SL S 16) (hd : hI S 16 7 = nI d) (hd4 : d ≤ 4) (hp : p < 10) (hb : b < 10) (h : Q (enO (rb d p b)) S) : wp_X2_restBut Q S 16 (nI p) (nI b) := by
  have key : ∀ t i, (i + t = d ∨ (d ≤ i ∧ t = 0)) → i < 10 → Q (enO (rbF p b t i)) S → wl_X2_restBut_2 Q (t + 1) S 16 (nI p) (nI b) (nI i) := by
    intro t
    induction t with
    | zero =>
      intro i hi hi2 hq
      unfold wl_X2_restBut_2 wB_X2_restBut_2
      simp only [vS.eqs, hd, ↓reduceIte, Nat.reduceEqDiff, and_false, false_and, true_and, and_true, forall_eq, forall_eq', exists_eq_left, exists_eq_left', Option.some.injEq, eq_self_iff_true, not_true, not_false_iff, false_implies, true_implies, forall_const, reduceCtorEq, ne_eq]
      exact ⟨fun _ => hq, fun q => absurd (nI_le (by omega) (by omega)) q⟩
    | succ t ih =>
      intro i hi hi2 hq
      unfold rbF at hq
      unfold wl_X2_restBut_2 wB_X2_restBut_2 wB_X2_restBut_22
      have q1 : (nI i = nI p) = (i = p) := propext (nI_eq (by omega) (by omega))
      have q2 : (nI i = nI b) = (i = b) := propext (nI_eq (by omega) (by omega))
      simp only [vS.eqs, hd, nI_1, q1, q2, ↓reduceIte, Nat.reduceEqDiff, and_false, false_and, true_and, and_true, forall_eq, forall_eq', exists_eq_left, exists_eq_left', Option.some.injEq, eq_self_iff_true, not_true, not_false_iff, false_implies, true_implies, forall_const, reduceCtorEq, ne_eq]
      refine ⟨fun z => absurd z (nI_ge (by omega) (by omega)), fun _ => ⟨fun z => ?_, fun z => ⟨fun z2 => ?_, fun z2 => ?_⟩⟩⟩
      · rw [if_pos (Or.inl z)] at hq; exact ih (i + 1) (by omega) (by omega) hq
      · rw [if_pos (Or.inr z2)] at hq; exact ih (i + 1) (by omega) (by omega) hq
      · rw [if_neg (fun y => y.elim z z2)] at hq; exact hq
  exact ⟨_, key (d - 1) 1 (by omega) (by omega) h⟩
def uo (d : Nat) (U : Nat → Nat → Int32) : Option Nat → Option Nat → Int32
  | some i, some j => if i < d ∧ j < d then U i j else 0
  | _, _ => 0
theorem rcO {d : Nat} {o : Option Nat} (hd : d ≤ 4) (ho : ∀ i, o = some i → i < 10) : (rc (enO o) (nI d) = false) = (∀ i, o = some i → ¬ i < d) := by
  cases o with
  | none =>
    apply propext
    refine ⟨(fun _ i q => nomatch q), fun _ => ?_⟩
    rw [rc_f]; exact Or.inl (by decide)
  | some i =>
    have := ho i rfl
    apply propext
    show rc (nI i) (nI d) = false ↔ _
    rw [rc_f, nI_toInt (by omega), nI_toInt (by omega)]
    refine ⟨fun q j e => by cases e; omega, fun q => by have := q i rfl; omega⟩
theorem c_unlike {Q : Int32 → hp → Prop} {S : hp} {d : Nat} {o1 o2 : Option Nat} (vS : SL S 16) (hd : hI S 16 7 = nI d) (hd4 : d ≤ 4) (h1 : ∀ i, o1 = some i → i < 10) (h2 : ∀ i, o2 = some i → i < 10) (h : Q (uo d (unl (hI S 17)) o1 o2) S) : wp_X2_unlike Q S 16 (enO o1) (enO o2) := by
  unfold wp_X2_unlike
  simp only [vS.eqs, e_hasDummy vS.eqs.1, hd, bI0, rcO hd4 h1, rcO hd4 h2, ↓reduceIte, Nat.reduceEqDiff, and_false, false_and, true_and, and_true, forall_eq, forall_eq', exists_eq_left, exists_eq_left', Option.some.injEq, eq_self_iff_true, not_true, not_false_iff, false_implies, true_implies, forall_const, reduceCtorEq, ne_eq]
  refine ⟨fun q => ?_, fun q => ⟨fun q2 => ?_, fun q2 => ?_⟩⟩
  · have : uo d (unl (hI S 17)) o1 o2 = 0 := by
      cases o1 with
      | none => cases o2 <;> rfl
      | some i => cases o2 with
        | none => rfl
        | some j => show (if i < d ∧ j < d then _ else 0) = (0 : Int32); rw [if_neg (fun y => q i rfl y.1)]
    rw [this] at h; exact h
  · cases o1 with
    | none => exact absurd (fun i e => nomatch e) q
    | some i =>
      cases o2 with
      | none => exact absurd (fun i e => nomatch e) q2
      | some j =>
        have hi : i < d := by
          rcases Nat.lt_or_ge i d with y | y
          · exact y
          · exact absurd (fun k e => by cases e; omega) q
        have hj : j < d := by
          rcases Nat.lt_or_ge j d with y | y
          · exact y
          · exact absurd (fun k e => by cases e; omega) q2
        change Q (if i < d ∧ j < d then unl (hI S 17) i j else 0) S at h
        rw [if_pos ⟨hi, hj⟩] at h
        have key : ∀ t p, p + t = 3 → wl_X2_unlike_23 Q (t + 1) S 16 (nI i) (nI j) (sm (fun p => ab (hI S 17 (3 * i + p) - hI S 17 (3 * j + p))) p) (nI p) := by
          intro t
          induction t with
          | zero =>
            intro p hp
            have : p = 3 := by omega
            subst this
            exact ⟨fun _ => h, fun q => absurd (nI_le (a := 3) (b := 3) (by omega) (by omega)) q⟩
          | succ t ih =>
            intro p hp
            have nx := ih (p + 1) (by omega)
            unfold wl_X2_unlike_23 wB_X2_unlike_23
            simp only [vS.eqs, e_at, show vp_in (nI (3 * i + p)) 12 from vp_in_nI (by omega) (by omega), show vp_in (nI (3 * j + p)) 12 from vp_in_nI (by omega) (by omega), nI_clamp (show 3 * i + p < 2 ^ 31 by omega), nI_clamp (show 3 * j + p < 2 ^ 31 by omega), nI_1, ↓reduceIte, Nat.reduceEqDiff, and_false, false_and, true_and, and_true, forall_eq, forall_eq', exists_eq_left, exists_eq_left', Option.some.injEq, eq_self_iff_true, not_true, not_false_iff, false_implies, true_implies, forall_const, reduceCtorEq, ne_eq]
            exact ⟨fun z => absurd z (nI_ge (a := p) (b := 3) (by omega) (by omega)), fun _ => nx⟩
        exact ⟨4, key 3 0 (by omega)⟩
  · have : uo d (unl (hI S 17)) o1 o2 = 0 := by
      cases o1 with
      | none => cases o2 <;> rfl
      | some i => cases o2 with
        | none => rfl
        | some j => show (if i < d ∧ j < d then _ else 0) = (0 : Int32); rw [if_neg (fun y => q2 j rfl y.2)]
    rw [this] at h; exact h
theorem rbF_lt {p b : Nat} : ∀ {t i j : Nat}, rbF p b t i = some j → j < i + t
  | 0, i, j, h => by simp [rbF] at h
  | t + 1, i, j, h => by
    unfold rbF at h
    by_cases c : i = p ∨ i = b
    · rw [if_pos c] at h; have := rbF_lt h; omega
    · rw [if_neg c] at h; cases h; omega
theorem rb_lt {d p b j : Nat} (hd : d ≤ 4) (h : rb d p b = some j) : j < 10 := by have := rbF_lt h; omega
def oth (d p : Nat) : Option Nat → Option Nat
  | none => none
  | some o => rb d p o
def uC (d : Nat) (U : Nat → Nat → Int32) (p : Nat) : Int32 := uo d U (some 0) (some p) + uo d U (rb d p 0) (oth d p (rb d p 0))
theorem c_unlikePairs {Q : Int32 → hp → Prop} {S : hp} {d p b0 : Nat} (vS : SL S 16) (hd : hI S 16 7 = nI d) (hd4 : d ≤ 4) (hp : p < 10) (h : Q (uC d (unl (hI S 17)) p) S) : wp_X2_unlikePairs Q S b0 16 (nI p) := by
  unfold wp_X2_unlikePairs
  refine c_restBut (b := 0) vS hd hd4 hp (by omega) ?_
  have hlt := fun j => rb_lt (d := d) (p := p) (b := 0) (j := j) hd4
  unfold uC at h
  have fin : ∀ o2, o2 = oth d p (rb d p 0) → (∀ i, o2 = some i → i < 10) → wB_X2_unlikePairs_24 Q S 16 (nI p) (enO (rb d p 0)) (enO o2) := fun o2 e ho => by
    unfold wB_X2_unlikePairs_24
    refine c_unlike (o1 := some 0) (o2 := some p) vS hd hd4 (fun i q => by cases q; omega) (fun i q => by cases q; omega) (c_unlike vS hd hd4 hlt ho ?_)
    rw [e]; exact h
  rw [enO_none (fun b q => by have := hlt b q; omega)]
  cases ho : rb d p 0 with
  | none =>
    refine ⟨fun q => absurd rfl q, fun _ => ?_⟩
    have := fin none (by rw [ho]; rfl) (fun i q => nomatch q)
    rw [ho] at this
    exact this
  | some o =>
    refine ⟨fun _ => c_restBut vS hd hd4 hp (hlt o ho) ?_, fun q => nomatch q⟩
    have := fin (rb d p o) (by rw [ho]; rfl) (fun i q => rb_lt hd4 q)
    rw [ho] at this
    exact this
theorem ab_rg {x y : Int32} (hx : bd x) (hy : bd y) : 0 ≤ (ab (x - y)).toInt ∧ (ab (x - y)).toInt ≤ 1998 := by
  unfold bd at hx hy
  have e : (x - y).toInt = x.toInt - y.toInt := t_sub (by omega)
  have c9 : (0 : Int32).toInt = 0 := rfl
  unfold ab
  by_cases q : 0 ≤ x - y
  · rw [if_pos q]; rw [t_le, c9] at q; omega
  · rw [if_neg q]; rw [t_le, c9] at q; rw [t_sub (by rw [c9]; omega), c9]; omega
theorem unl_rg {A : Nat → Int32} (hA : ∀ k, k < 12 → bd (A k)) {i j : Nat} (hi : i < 4) (hj : j < 4) : 0 ≤ (unl A i j).toInt ∧ (unl A i j).toInt ≤ 5994 := by
  have a0 := ab_rg (hA (3 * i + 0) (by omega)) (hA (3 * j + 0) (by omega))
  have a1 := ab_rg (hA (3 * i + 1) (by omega)) (hA (3 * j + 1) (by omega))
  have a2 := ab_rg (hA (3 * i + 2) (by omega)) (hA (3 * j + 2) (by omega))
  have e : unl A i j = 0 + ab (A (3 * i + 0) - A (3 * j + 0)) + ab (A (3 * i + 1) - A (3 * j + 1)) + ab (A (3 * i + 2) - A (3 * j + 2)) := rfl
  rw [e, Int32.zero_add]
  have s1 := t_add (a := ab (A (3 * i + 0) - A (3 * j + 0))) (b := ab (A (3 * i + 1) - A (3 * j + 1))) (by omega)
  rw [t_add (by rw [s1]; omega), s1]
  omega
theorem vs_ok {d : Nat} {p : Nat → Nat} {i : Nat} (h : (vs d p (i + 1)).2 = true) (h4 : ¬ p i = 4) : p i < d := by
  have e1 : (vs d p (i + 1)).2 = ((vs d p i).2 && (decide (p i = 4) || (decide (p i < d) && (!decide (p i = i) && decide (p (p i) = i))))) := rfl
  rw [e1, decide_eq_false h4] at h
  simp at h
  exact h.2.1
theorem cs_rg {d : Nat} {p : Nat → Nat} {A : Nat → Int32} (hd : d ≤ 4) (hA : ∀ k, k < 12 → bd (A k)) : ∀ n, n ≤ d → 0 ≤ (cs d p (unl A) n).toInt ∧ (cs d p (unl A) n).toInt ≤ 5994 * n
  | 0, _ => by show 0 ≤ (0 : Int32).toInt ∧ (0 : Int32).toInt ≤ _; decide
  | n + 1, hn => by
    have ih := cs_rg (p := p) hd hA n (by omega)
    have e : cs d p (unl A) (n + 1) = cs d p (unl A) n + (if (vs d p (n + 1)).2 = true ∧ ¬ p n = 4 ∧ n < p n then unl A n (p n) else 0) := rfl
    rw [e]
    by_cases c : (vs d p (n + 1)).2 = true ∧ ¬ p n = 4 ∧ n < p n
    · have hp := vs_ok c.1 c.2.1
      have b := unl_rg hA (i := n) (j := p n) (by omega) (by omega)
      rw [if_pos c, t_add (by omega)]; omega
    · rw [if_neg c, Int32.add_zero]; omega
theorem ne_none {x : Int32} (h : 0 ≤ x.toInt) : x ≠ -1000000 := fun q => by
  rw [q] at h
  have : (-1000000 : Int32).toInt = -1000000 := rfl
  omega
theorem ro_3 {v : Nat → Bool} {k : Nat → Int32} {a b c n : Nat} (h1 : a < b) (h2 : b < c) (h3 : c < n) (hv : ∀ x, x < n → (v x = true ↔ (x = a ∨ x = b ∨ x = c))) : ro v k n = some (if k (if k a ≤ k b then a else b) ≤ k c then (if k a ≤ k b then a else b) else c) := by
  have f : ∀ x, x < n → ¬ (x = a ∨ x = b ∨ x = c) → v x = false := fun x hx q => by
    cases e : v x with
    | false => rfl
    | true => exact absurd ((hv x hx).mp e) q
  have s0 : ro v k a = none := by
    have := ro_skip (v := v) (k := k) (a := 0) a (fun x _ q => f x (by omega) (by omega))
    rw [Nat.zero_add] at this
    rw [this]; rfl
  have s1 : ro v k (a + 1) = some a := by
    show rS v k a (ro v k a) = _
    unfold rS; rw [if_pos ((hv a (by omega)).mpr (Or.inl rfl)), s0]
  have s2 : ro v k b = some a := by
    have := ro_skip (v := v) (k := k) (a := a + 1) (b - (a + 1)) (fun x q1 q => f x (by omega) (by omega))
    rw [show a + 1 + (b - (a + 1)) = b by omega] at this
    rw [this, s1]
  have s3 : ro v k (b + 1) = some (if k a ≤ k b then a else b) := by
    show rS v k b (ro v k b) = _
    unfold rS; rw [if_pos ((hv b (by omega)).mpr (Or.inr (Or.inl rfl))), s2]
    by_cases q : k a ≤ k b
    · simp only [if_pos q]
    · simp only [if_neg q]
  have s4 : ro v k c = some (if k a ≤ k b then a else b) := by
    have := ro_skip (v := v) (k := k) (a := b + 1) (c - (b + 1)) (fun x q1 q => f x (by omega) (by omega))
    rw [show b + 1 + (c - (b + 1)) = c by omega] at this
    rw [this, s3]
  have s5 : ro v k (c + 1) = some (if k (if k a ≤ k b then a else b) ≤ k c then (if k a ≤ k b then a else b) else c) := by
    show rS v k c (ro v k c) = _
    unfold rS; rw [if_pos ((hv c (by omega)).mpr (Or.inr (Or.inr rfl))), s4]
    by_cases q : k (if k a ≤ k b then a else b) ≤ k c
    · simp only [if_pos q]
    · simp only [if_neg q]
  have := ro_skip (v := v) (k := k) (a := c + 1) (n - (c + 1)) (fun x q1 q => f x (by omega) (by omega))
  rw [show c + 1 + (n - (c + 1)) = n by omega] at this
  rw [this, s5]
theorem ro_1 {v : Nat → Bool} {k : Nat → Int32} {a n : Nat} (h1 : a < n) (hv : ∀ x, x < n → (v x = true ↔ x = a)) : ro v k n = some a := by
  have f : ∀ x, x < n → ¬ x = a → v x = false := fun x hx q => by
    cases e : v x with
    | false => rfl
    | true => exact absurd ((hv x hx).mp e) q
  have s0 : ro v k a = none := by
    have := ro_skip (v := v) (k := k) (a := 0) a (fun x _ q => f x (by omega) (by omega))
    rw [Nat.zero_add] at this
    rw [this]; rfl
  have s1 : ro v k (a + 1) = some a := by
    show rS v k a (ro v k a) = _
    unfold rS; rw [if_pos ((hv a (by omega)).mpr rfl), s0]
  have := ro_skip (v := v) (k := k) (a := a + 1) (n - (a + 1)) (fun x q1 q => f x (by omega) (by omega))
  rw [show a + 1 + (n - (a + 1)) = n by omega] at this
  rw [this, s1]
theorem v0 : ∀ x, x < 1 → (vld 0 x = true ↔ x = 0) := by decide +kernel
theorem v1 : ∀ x, x < 5 → (vld 1 x = true ↔ x = 4) := by decide +kernel
theorem vv2 : ∀ x, x < 25 → (vld 2 x = true ↔ x = 5) := by decide +kernel
theorem vv3 : ∀ x, x < 125 → (vld 3 x = true ↔ (x = 29 ∨ x = 70 ∨ x = 111)) := by decide +kernel
theorem vv4 : ∀ x, x < 625 → (vld 4 x = true ↔ (x = 142 ∨ x = 326 ∨ x = 430)) := by decide +kernel
def codeT (d p : Nat) : Nat := if d = 0 then 0 else if d = 1 then 4 else if d = 2 then 5 else if d = 3 then (if p = 1 then 29 else if p = 2 then 70 else 111) else (if p = 1 then 142 else if p = 2 then 326 else 430)
theorem cs_eq (U : Nat → Nat → Int32) : cs 0 (dg 0 0) U 0 = uC 0 U 1 ∧ cs 1 (dg 1 4) U 1 = uC 1 U 1 ∧ cs 2 (dg 2 5) U 2 = uC 2 U 1 ∧ cs 3 (dg 3 29) U 3 = uC 3 U 1 ∧ cs 3 (dg 3 70) U 3 = uC 3 U 2 ∧ cs 3 (dg 3 111) U 3 = uC 3 U 3 ∧ cs 4 (dg 4 142) U 4 = uC 4 U 1 ∧ cs 4 (dg 4 326) U 4 = uC 4 U 2 ∧ cs 4 (dg 4 430) U 4 = uC 4 U 3 := by
  refine ⟨?_, ?_, ?_, ?_, ?_, ?_, ?_, ?_, ?_⟩ <;> simp [cs, csS, fo, vs, vS, dg, uC, uo, rb, rbF, oth]
