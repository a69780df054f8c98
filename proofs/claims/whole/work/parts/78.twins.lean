/-- the two rows of the twins, over a heap -/
def tw (S : hp) (g h : Nat → Int32) : hp := putA (putA S 47 g) 48 h
theorem hI_tw (S : hp) (g h : Nat → Int32) (b : Nat) : hI (tw S g h) b = if b = 48 then h else if b = 47 then g else hI S b := rfl
theorem tw_self (S : hp) : tw S (hI S 47) (hI S 48) = S := by
  unfold tw
  rw [putA_self]
  exact putA_self S 48
theorem tw_48 (S : hp) (g h : Nat → Int32) (k : Nat) (v : Int32) : setI (tw S g h) 48 k v = tw S g (fun i => if i = k then v else h i) := setI_putA _ _ _ _ _
theorem tw_47 (S : hp) (g h : Nat → Int32) (k : Nat) (v : Int32) : setI (tw S g h) 47 k v = tw S (fun i => if i = k then v else g i) h := by
  unfold tw
  rw [← setI_putA S 47 k g v]
  generalize putA S 47 g = X
  unfold setI putA
  simp only [Prod.mk.injEq, true_and, and_true]
  funext b j
  by_cases c : b = 48
  · simp [c]
  · simp [c]
def dg (d c i : Nat) : Nat := c / 5 ^ (d - 1 - i) % 5
def vS (d : Nat) (p : Nat → Nat) (i : Nat) (z : Nat × Bool) : Nat × Bool := (if p i = 4 then z.1 + 1 else z.1, z.2 && (decide (p i = 4) || (decide (p i < d) && (!decide (p i = i) && decide (p (p i) = i)))))
def vs (d : Nat) (p : Nat → Nat) (n : Nat) : Nat × Bool := fo (vS d p) n (0, true)
def csS (d : Nat) (p : Nat → Nat) (U : Nat → Nat → Int32) (i : Nat) (z : Int32) : Int32 := z + (if (vs d p (i + 1)).2 = true ∧ ¬ p i = 4 ∧ i < p i then U i (p i) else 0)
def cs (d : Nat) (p : Nat → Nat) (U : Nat → Nat → Int32) (n : Nat) : Int32 := fo (csS d p U) n 0
def vld (d c : Nat) : Bool := (vs d (dg d c) d).2 && decide ((vs d (dg d c) d).1 = d % 2)
def rS (v : Nat → Bool) (k : Nat → Int32) (c : Nat) (acc : Option Nat) : Option Nat := if v c = true then (match acc with
  | none => some c
  | some b => if k b ≤ k c then some b else some c) else acc
def ro (v : Nat → Bool) (k : Nat → Int32) (n : Nat) : Option Nat := fo (rS v k) n none
theorem ro_skip {v : Nat → Bool} {k : Nat → Int32} {a : Nat} : ∀ n, (∀ c, a ≤ c → c < a + n → v c = false) → ro v k (a + n) = ro v k a
  | 0, _ => rfl
  | n + 1, h => by
    show rS v k (a + n) (ro v k (a + n)) = ro v k a
    rw [ro_skip n (fun c h1 h2 => h c h1 (by omega))]
    unfold rS
    rw [if_neg (by rw [h (a + n) (by omega) (by omega)]; decide)]
/-- how unlike two dummies are -/
def unl (A : Nat → Int32) (i j : Nat) : Int32 := sm (fun p => ab (A (3 * i + p) - A (3 * j + p))) 3
theorem c_unlikeM {Q : Int32 → hp → Prop} {S : hp} {i j : Nat} (hL : Lay S) (hi : i < 4) (hj : j < 4) (h : Q (unl (fun k => hI S 39 (5 + k)) i j) S) : wp_X12_unlike Q S 35 (nI i) (nI j) := by
  have key : ∀ t p, p + t = 3 → wl_X12_unlike_5 Q (t + 1) S 35 (nI i) (nI j) (sm (fun p => ab (hI S 39 (5 + (3 * i + p)) - hI S 39 (5 + (3 * j + p)))) p) (nI p) := by
    intro t
    induction t with
    | zero =>
      intro p hp
      have : p = 3 := by omega
      subst this
      exact ⟨fun _ => h, fun q => absurd (nI_le (a := 3) (b := 3) (by omega) (by omega)) q⟩
    | succ t ih =>
      intro p hp
      have nx := ih (p + 1) (by omega)
      have a1 : (5 : Int32) + (3 : Int32) * nI i + nI p = nI (5 + (3 * i + p)) := (i3 5 3 i p).trans (by rw [Nat.add_assoc])
      have a2 : (5 : Int32) + (3 : Int32) * nI j + nI p = nI (5 + (3 * j + p)) := (i3 5 3 j p).trans (by rw [Nat.add_assoc])
      have e : sm (fun p => ab (hI S 39 (5 + (3 * i + p)) - hI S 39 (5 + (3 * j + p)))) (p + 1) = sm (fun p => ab (hI S 39 (5 + (3 * i + p)) - hI S 39 (5 + (3 * j + p)))) p + ab (hI S 39 (5 + (3 * i + p)) - hI S 39 (5 + (3 * j + p))) := rfl
      rw [e] at nx
      unfold wl_X12_unlike_5 wB_X12_unlike_5 wB_X12_unlike_54
      simp only [hL.eqs, a1, a2, show vp_in (nI (5 + (3 * i + p))) 147 from vp_in_nI (by omega) (by omega), show vp_in (nI (5 + (3 * j + p))) 147 from vp_in_nI (by omega) (by omega), nI_clamp (show 5 + (3 * i + p) < 2 ^ 31 by omega), nI_clamp (show 5 + (3 * j + p) < 2 ^ 31 by omega), nI_1, ↓reduceIte, Nat.reduceEqDiff, and_false, false_and, true_and, and_true, forall_eq, forall_eq', exists_eq_left, exists_eq_left', Option.some.injEq, eq_self_iff_true, not_true, not_false_iff, false_implies, true_implies, forall_const, reduceCtorEq, ne_eq]
      unfold ab at nx
      refine ⟨fun z => absurd z (nI_ge (a := p) (b := 3) (by omega) (by omega)), fun _ => ⟨fun z => ?_, fun z => ?_⟩⟩
      · rw [if_pos z] at nx; exact nx
      · rw [if_neg z, Int32.zero_sub] at nx; exact nx
  exact ⟨4, key 3 0 (by omega)⟩
theorem nI_dv5 : ∀ c, c < 625 → nI c / (5 : Int32) = nI (c / 5) ∧ nI c - nI (c / 5) * (5 : Int32) = nI (c % 5) := by decide +kernel
/-- the digits of a code are laid -/
theorem c_digits {bk : hp → Nat → Int32 → Int32 → Int32 → Int32 → Prop} {Q : Int32 → hp → Prop} {S : hp} {d c : Nat} {l2 l3 : Int32} (hL : Lay S) (hd : d ≤ 4) (hc : c < 5 ^ d) (hh : Nat → Int32) (H : ∀ g, (∀ i, i < d → g i = nI (dg d c i)) → ∃ n, wl_X12_layTwins_87 bk Q n (tw S g hh) 35 (nI d) l2 l3 (nI c) 0 0 1 0) : ∀ k g, k ≤ d → (∀ i, k ≤ i → i < d → g i = nI (dg d c i)) → wl_X12_layTwins_47 bk Q (k + 1) (tw S g hh) 35 (nI d) l2 l3 (nI c) (nI (c / 5 ^ (d - k))) (nI k - 1) := by
  have h625 : 5 ^ d ≤ 625 := Nat.pow_le_pow_right (n := 5) (by omega) hd
  intro k
  induction k with
  | zero =>
    intro g hk hg
    unfold wl_X12_layTwins_47 wB_X12_layTwins_47
    exact ⟨fun _ => H g (fun i hi => hg i (by omega) hi), fun q => absurd (by decide) q⟩
  | succ k ih =>
    intro g hk hg
    have hq : c / 5 ^ (d - (k + 1)) < 625 := Nat.lt_of_le_of_lt (Nat.div_le_self _ _) (by omega)
    obtain ⟨d1, d2⟩ := nI_dv5 _ hq
    have e1 : nI (k + 1) - 1 = nI k := nI_sub1 (a := k + 1) (by omega)
    have e2 : nI k + (-1) = nI k - 1 := (Int32.sub_eq_add_neg ..).symm
    have e3 : c / 5 ^ (d - (k + 1)) / 5 = c / 5 ^ (d - k) := by
      rw [Nat.div_div_eq_div_mul, ← Nat.pow_succ]; congr 2; omega
    have e4 : c / 5 ^ (d - (k + 1)) % 5 = dg d c k := by unfold dg; congr 3; omega
    rw [e3, e4] at d2
    rw [e3] at d1
    unfold wl_X12_layTwins_47 wB_X12_layTwins_47
    rw [e1]
    simp only [hL.eqs, d1, d2, e2, show hK (tw S g hh) = hK S from rfl, show hN (tw S g hh) = hN S from rfl, show hR (tw S g hh) = hR S from rfl, show vp_in (nI k) 4 from vp_in_nI (by omega) (by omega), nI_clamp (show k < 2 ^ 31 by omega), tw_47, ↓reduceIte, Nat.reduceEqDiff, and_false, false_and, true_and, and_true, forall_eq, forall_eq', exists_eq_left, exists_eq_left', Option.some.injEq, eq_self_iff_true, not_true, not_false_iff, false_implies, true_implies, forall_const, reduceCtorEq, ne_eq]
    refine ⟨fun z => ?_, fun _ => ih _ (by omega) (fun i h1 h2 => ?_)⟩
    · rw [t_lt, nI_toInt (by omega)] at z
      have : (0 : Int32).toInt = 0 := rfl
      omega
    · by_cases c5 : i = k
      · rw [if_pos c5, c5]
      · rw [if_neg c5]; exact hg i (by omega) h2
theorem ro_v {v : Nat → Bool} {k : Nat → Int32} : ∀ {n b : Nat}, ro v k n = some b → b < n ∧ v b = true
  | 0, b, h => by simp [ro, fo] at h
  | n + 1, b, h => by
    have ih := fun b => ro_v (v := v) (k := k) (n := n) (b := b)
    change rS v k n (ro v k n) = some b at h
    unfold rS at h
    by_cases c : v n = true
    · rw [if_pos c] at h
      cases e : ro v k n with
      | none => rw [e] at h; cases h; exact ⟨by omega, c⟩
      | some y =>
        rw [e] at h
        have := ih y e
        by_cases c2 : k y ≤ k n
        · simp only [if_pos c2] at h; cases h; exact ⟨by omega, this.2⟩
        · simp only [if_neg c2] at h; cases h; exact ⟨by omega, c⟩
    · rw [if_neg c] at h; have := ih b h; exact ⟨by omega, this.2⟩
def enK (k : Nat → Int32) : Option Nat → Int32
  | none => -1000000
  | some b => k b
theorem d2m : ∀ d, d < 5 → nI d - nI d / (2 : Int32) * (2 : Int32) = nI (d % 2) := by decide +kernel
theorem c_copyT {bk : hp → Nat → Int32 → Int32 → Int32 → Int32 → Prop} {Q : Int32 → hp → Prop} {S : hp} {d c : Nat} {l2 l3 : Int32} {g : Nat → Int32} (hL : Lay S) (hd : d ≤ 4) (hg : ∀ i, i < d → g i = nI (dg d c i)) (H : ∀ h, (∀ i, i < d → h i = nI (dg d c i)) → bk (tw S g h) 35 (nI d) l2 l3 (nI (c + 1))) : ∀ t i h, i + t = d → (∀ j, j < i → h j = nI (dg d c j)) → wl_X12_layTwins_264 bk Q (t + 1) (tw S g h) 35 (nI d) l2 l3 (nI c) (nI i) := by
  intro t
  induction t with
  | zero =>
    intro i h hi hh
    have : i = d := by omega
    subst this
    unfold wl_X12_layTwins_264 wB_X12_layTwins_264 wB_X12_layTwins_290
    simp only [nI_1, ↓reduceIte, Nat.reduceEqDiff, and_false, false_and, true_and, and_true, forall_eq, forall_eq', exists_eq_left, exists_eq_left', Option.some.injEq, eq_self_iff_true, not_true, not_false_iff, false_implies, true_implies, forall_const, reduceCtorEq, ne_eq]
    exact ⟨fun _ => H h hh, fun q => absurd (nI_le (Nat.le_refl _) (by omega)) q⟩
  | succ t ih =>
    intro i h hi hh
    unfold wl_X12_layTwins_264 wB_X12_layTwins_264
    simp only [hL.eqs, hI_tw, show hK (tw S g h) = hK S from rfl, show hN (tw S g h) = hN S from rfl, show hR (tw S g h) = hR S from rfl, show vp_in (nI i) 4 from vp_in_nI (by omega) (by omega), nI_clamp (show i < 2 ^ 31 by omega), tw_48, nI_1, ↓reduceIte, Nat.reduceEqDiff, and_false, false_and, true_and, and_true, forall_eq, forall_eq', exists_eq_left, exists_eq_left', Option.some.injEq, eq_self_iff_true, not_true, not_false_iff, false_implies, true_implies, forall_const, reduceCtorEq, ne_eq]
    refine ⟨fun z => absurd z (nI_ge (by omega) (by omega)), fun _ => ih (i + 1) _ (by omega) (fun j hj => ?_)⟩
    by_cases c5 : j = i
    · rw [if_pos c5, c5]; exact hg i (by omega)
    · rw [if_neg c5]; exact hh j (by omega)
theorem dg_lt (d c i : Nat) : dg d c i < 5 := Nat.mod_lt _ (by omega)
theorem vs_le (d : Nat) (p : Nat → Nat) : ∀ n, (vs d p n).1 ≤ n
  | 0 => Nat.le_refl _
  | n + 1 => by
    have := vs_le d p n
    show (if p n = 4 then (vs d p n).1 + 1 else (vs d p n).1) ≤ n + 1
    by_cases c : p n = 4
    · rw [if_pos c]; omega
    · rw [if_neg c]; omega
theorem c_scan {bk : hp → Nat → Int32 → Int32 → Int32 → Int32 → Prop} {Q : Int32 → hp → Prop} {S : hp} {d c : Nat} {l2 l3 : Int32} {g hh : Nat → Int32} (hL : Lay S) (hd : d ≤ 4) (hg : ∀ i, i < d → g i = nI (dg d c i)) {U : Nat → Nat → Int32} (hU : U = unl (fun k => hI S 39 (5 + k))) (H0 : vld d c = false → bk (tw S g hh) 35 (nI d) l2 l3 (nI (c + 1))) (H1 : vld d c = true → ¬ l3 = -1000000 → l3 ≤ cs d (dg d c) U d → bk (tw S g hh) 35 (nI d) l2 l3 (nI (c + 1))) (H2 : vld d c = true → (l3 = -1000000 ∨ ¬ l3 ≤ cs d (dg d c) U d) → ∀ h, (∀ i, i < d → h i = nI (dg d c i)) → bk (tw S g h) 35 (nI d) l2 (cs d (dg d c) U d) (nI (c + 1))) : ∃ n, wl_X12_layTwins_87 bk Q n (tw S g hh) 35 (nI d) l2 l3 (nI c) 0 0 1 0 := by
  have hLt : Lay (tw S g hh) := hL
  have kT : hK (tw S g hh) = hK S := rfl
  have nT : hN (tw S g hh) = hN S := rfl
  have rT : hR (tw S g hh) = hR S := rfl
  obtain ⟨p, hp⟩ : ∃ p, p = dg d c := ⟨_, rfl⟩
  rw [← hp] at H1 H2 hg
  have p4 : ∀ i, p i < 5 := fun i => by rw [hp]; exact dg_lt d c i
  have hv : vld d c = ((vs d p d).2 && decide ((vs d p d).1 = d % 2)) := by rw [hp]; rfl
  have key : ∀ t i, i + t = d → wl_X12_layTwins_87 bk Q (t + 1) (tw S g hh) 35 (nI d) l2 l3 (nI c) (cs d p U i) (nI (vs d p i).1) (bI (vs d p i).2) (nI i) := by
    intro t
    induction t with
    | zero =>
      intro i hi
      have : i = d := by omega
      subst this
      have hle := vs_le i p i
      unfold wl_X12_layTwins_87 wB_X12_layTwins_87 wB_X12_layTwins_258
      simp only [bI0, d2m i (by omega), ↓reduceIte, Nat.reduceEqDiff, and_false, false_and, true_and, and_true, forall_eq, forall_eq', exists_eq_left, exists_eq_left', Option.some.injEq, eq_self_iff_true, not_true, not_false_iff, false_implies, true_implies, forall_const, reduceCtorEq, ne_eq]
      refine ⟨fun _ => ⟨fun z => ?_, fun z => ⟨fun z2 => ?_, fun z2 => ?_⟩⟩, fun q => absurd (nI_le (Nat.le_refl _) (by omega)) q⟩
      · unfold wB_X12_layTwins_290
        simp only [nI_1, ↓reduceIte, Nat.reduceEqDiff, and_false, false_and, true_and, and_true, forall_eq, forall_eq', exists_eq_left, exists_eq_left', Option.some.injEq, eq_self_iff_true, not_true, not_false_iff, false_implies, true_implies, forall_const, reduceCtorEq, ne_eq]
        exact H0 (by rw [hv, z]; rfl)
      · unfold wB_X12_layTwins_290
        simp only [nI_1, ↓reduceIte, Nat.reduceEqDiff, and_false, false_and, true_and, and_true, forall_eq, forall_eq', exists_eq_left, exists_eq_left', Option.some.injEq, eq_self_iff_true, not_true, not_false_iff, false_implies, true_implies, forall_const, reduceCtorEq, ne_eq]
        exact H0 (by rw [hv, decide_eq_false (fun y => z2 (by rw [y])), Bool.and_false])
      · have z3 : (vs i p i).1 = i % 2 := (nI_eq (by omega) (by omega)).mp z2
        have hvt : vld i c = true := by rw [hv, decide_eq_true z3, Bool.and_true]; simpa using z
        refine ⟨fun y => ⟨i + 1, c_copyT hL hd (by rw [← hp]; exact hg) (by rw [← hp]; exact H2 hvt (Or.inl y)) i 0 hh (by omega) (fun j hj => by omega)⟩, fun y => ⟨fun y2 => ?_, fun y2 => ⟨i + 1, c_copyT hL hd (by rw [← hp]; exact hg) (by rw [← hp]; exact H2 hvt (Or.inr y2)) i 0 hh (by omega) (fun j hj => by omega)⟩⟩⟩
        unfold wB_X12_layTwins_290
        simp only [nI_1, ↓reduceIte, Nat.reduceEqDiff, and_false, false_and, true_and, and_true, forall_eq, forall_eq', exists_eq_left, exists_eq_left', Option.some.injEq, eq_self_iff_true, not_true, not_false_iff, false_implies, true_implies, forall_const, reduceCtorEq, ne_eq]
        exact H1 hvt y y2
    | succ t ih =>
      intro i hi
      have nx := ih (i + 1) (by omega)
      have gi := hg i (by omega)
      have pi := p4 i
      have e1 : (vs d p (i + 1)) = (if p i = 4 then (vs d p i).1 + 1 else (vs d p i).1, (vs d p i).2 && (decide (p i = 4) || (decide (p i < d) && (!decide (p i = i) && decide (p (p i) = i))))) := rfl
      have e2 : cs d p U (i + 1) = cs d p U i + (if (vs d p (i + 1)).2 = true ∧ ¬ p i = 4 ∧ i < p i then U i (p i) else 0) := rfl
      have q4 : (nI (p i) = (4 : Int32)) = (p i = 4) := propext ⟨fun q => (nI_eq (a := p i) (b := 4) (by omega) (by omega)).mp q, fun q => by rw [q]; rfl⟩
      unfold wl_X12_layTwins_87 wB_X12_layTwins_87
      simp only [hL.eqs, kT, nT, rT, hI_tw, gi, show vp_in (nI i) 4 from vp_in_nI (by omega) (by omega), nI_clamp (show i < 2 ^ 31 by omega), q4, ↓reduceIte, Nat.reduceEqDiff, and_false, false_and, true_and, and_true, forall_eq, forall_eq', exists_eq_left, exists_eq_left', Option.some.injEq, eq_self_iff_true, not_true, not_false_iff, false_implies, true_implies, forall_const, reduceCtorEq, ne_eq]
      refine ⟨fun z => absurd z (nI_ge (by omega) (by omega)), fun _ => ⟨fun z => ?_, fun z => ?_⟩⟩
      · -- a partner
        unfold wB_X12_layTwins_109
        refine ⟨fun _ => ?_, fun q => absurd rfl q⟩
        rw [e2, e1] at nx
        simp only [if_neg z, decide_eq_false z, Bool.false_or] at nx
        have NO : ((vs d p i).2 && (decide (p i < d) && (!decide (p i = i) && decide (p (p i) = i)))) = false → wB_X12_layTwins_180 bk (wl_X12_layTwins_87 bk Q (t + 1)) Q (tw S g hh) 35 (nI d) l2 l3 (nI c) (cs d p U i) (nI (vs d p i).1 + 0) (nI i) 0 := fun y => by
          rw [y, if_neg (fun z => Bool.noConfusion z.1)] at nx
          unfold wB_X12_layTwins_180 wB_X12_layTwins_181 wB_X12_layTwins_223 wB_X12_layTwins_224
          simp only [nI_1, Int32.add_zero, ↓reduceIte, Nat.reduceEqDiff, and_false, false_and, true_and, and_true, forall_eq, forall_eq', exists_eq_left, exists_eq_left', Option.some.injEq, eq_self_iff_true, not_true, not_false_iff, false_implies, true_implies, forall_const, reduceCtorEq, ne_eq]
          rw [Int32.add_zero] at nx
          exact nx
        unfold wB_X12_layTwins_123
        simp only [hL.eqs, kT, nT, rT, hI_tw, gi, show vp_in (nI i) 4 from vp_in_nI (by omega) (by omega), nI_clamp (show i < 2 ^ 31 by omega), bI0, ↓reduceIte, Nat.reduceEqDiff, and_false, false_and, true_and, and_true, forall_eq, forall_eq', exists_eq_left, exists_eq_left', Option.some.injEq, eq_self_iff_true, not_true, not_false_iff, false_implies, true_implies, forall_const, reduceCtorEq, ne_eq]
        refine ⟨fun y => NO (by rw [y]; rfl), fun y => ⟨fun y2 => NO ?_, fun y2 => ?_⟩⟩
        · have : ¬ p i < d := fun q => absurd y2 (nI_ge q (by omega))
          rw [decide_eq_false this]; simp
        · have hlt : p i < d := by
            rcases Nat.lt_or_ge (p i) d with q | q
            · exact q
            · exact absurd (nI_le q (by omega)) y2
          have gp := hg (p i) hlt
          have pp := p4 (p i)
          simp only [show vp_in (nI (p i)) 4 from vp_in_nI (by omega) (by omega), nI_clamp (show p i < 2 ^ 31 by omega), gp, ↓reduceIte, Nat.reduceEqDiff, and_false, false_and, true_and, and_true, forall_eq, forall_eq', exists_eq_left, exists_eq_left', Option.some.injEq, eq_self_iff_true, not_true, not_false_iff, false_implies, true_implies, forall_const, reduceCtorEq, ne_eq]
          refine ⟨fun y3 => NO ?_, fun y3 => ⟨fun y4 => NO ?_, fun y4 => ?_⟩⟩
          · rw [decide_eq_true ((nI_eq (by omega) (by omega)).mp y3)]; simp
          · rw [decide_eq_false (show ¬ p (p i) = i from fun q => y4 (by rw [q]))]; simp
          · have h4 : p (p i) = i := (nI_eq (by omega) (by omega)).mp y4
            have h3 : ¬ p i = i := fun q => y3 (by rw [q])
            rw [Bool.not_eq_false] at y
            rw [y, decide_eq_true hlt, decide_eq_false h3, decide_eq_true h4] at nx
            unfold wB_X12_layTwins_176 wB_X12_layTwins_181
            simp only [hL.eqs, kT, nT, rT, hI_tw, gi, show vp_in (nI i) 4 from vp_in_nI (by omega) (by omega), nI_clamp (show i < 2 ^ 31 by omega), i1_ne0, Int32.add_zero, ↓reduceIte, Nat.reduceEqDiff, and_false, false_and, true_and, and_true, forall_eq, forall_eq', exists_eq_left, exists_eq_left', Option.some.injEq, eq_self_iff_true, not_true, not_false_iff, false_implies, true_implies, forall_const, reduceCtorEq, ne_eq]
            refine ⟨fun y5 => ?_, fun y5 => c_unlikeM hLt (by omega) (by omega) ?_⟩
            · have : ¬ i < p i := fun q => absurd y5 (nI_ge q (by omega))
              rw [if_neg (fun q => this q.2.2), Int32.add_zero] at nx
              unfold wB_X12_layTwins_223 wB_X12_layTwins_224
              simp only [nI_1, Int32.add_zero, ↓reduceIte, Nat.reduceEqDiff, and_false, false_and, true_and, and_true, forall_eq, forall_eq', exists_eq_left, exists_eq_left', Option.some.injEq, eq_self_iff_true, not_true, not_false_iff, false_implies, true_implies, forall_const, reduceCtorEq, ne_eq]
              exact nx
            · have : i < p i := by
                rcases Nat.lt_or_ge i (p i) with q | q
                · exact q
                · exact absurd (nI_le q (by omega)) y5
              rw [if_pos ⟨rfl, z, this⟩, hU] at nx
              unfold wB_X12_layTwins_224
              simp only [nI_1, hI_tw, ↓reduceIte, Nat.reduceEqDiff, and_false, false_and, true_and, and_true, forall_eq, forall_eq', exists_eq_left, exists_eq_left', Option.some.injEq, eq_self_iff_true, not_true, not_false_iff, false_implies, true_implies, forall_const, reduceCtorEq, ne_eq]
              rw [hU]
              exact nx
      · -- alone
        rw [e2, e1] at nx
        simp only [if_pos z, decide_eq_true z, Bool.true_or, Bool.and_true] at nx
        rw [if_neg (fun y => y.2.1 z), Int32.add_zero, ← nI_1] at nx
        unfold wB_X12_layTwins_109 wB_X12_layTwins_123 wB_X12_layTwins_180 wB_X12_layTwins_176 wB_X12_layTwins_181 wB_X12_layTwins_223 wB_X12_layTwins_224
        simp only [i1_ne0, bI0, nI_1, Int32.add_zero, ↓reduceIte, Nat.reduceEqDiff, and_false, false_and, true_and, and_true, forall_eq, forall_eq', exists_eq_left, exists_eq_left', Option.some.injEq, eq_self_iff_true, not_true, not_false_iff, false_implies, true_implies, forall_const, reduceCtorEq, ne_eq]
        rw [nI_1] at nx
        refine ⟨fun y => ?_, fun y => ?_⟩
        · rw [y] at nx; exact nx
        · rw [Bool.not_eq_false] at y; rw [y] at nx; exact nx
  exact ⟨d + 1, key d 0 (by omega)⟩
theorem c_layTwins {Q : Int32 → hp → Prop} {S : hp} {d b : Nat} (hL : Lay S) (hd : d ≤ 4) (h2 : hI S 39 2 = nI d) {k : Nat → Int32} (hk : ∀ c, k c = cs d (dg d c) (unl (fun k => hI S 39 (5 + k))) d) (hn : ∀ c, c < 5 ^ d → vld d c = true → k c ≠ -1000000) (hb : ro (vld d) k (5 ^ d) = some b) (H : ∀ g h, (∀ i, i < d → h i = nI (dg d b i)) → Q (k b) (tw S g h)) : wp_X12_layTwins Q S 35 := by
  have h625 : 5 ^ d ≤ 625 := Nat.pow_le_pow_right (n := 5) (by omega) hd
  have main : ∀ t c, c + t = 5 ^ d → ∀ g h, (∀ b, ro (vld d) k c = some b → ∀ i, i < d → h i = nI (dg d b i)) → wl_X12_layTwins_32 Q (t + 1) (tw S g h) 35 (nI d) (nI (5 ^ d)) (enK k (ro (vld d) k c)) (nI c) := by
    intro t
    induction t with
    | zero =>
      intro c hc g h hh
      have : c = 5 ^ d := by omega
      subst this
      unfold wl_X12_layTwins_32 wB_X12_layTwins_32
      refine ⟨fun _ => ?_, fun q => absurd (nI_le (Nat.le_refl _) (by omega)) q⟩
      rw [hb]
      exact H g h (hh b hb)
    | succ t ih =>
      intro c hc g h hh
      have nx := ih (c + 1) (by omega)
      have e : ro (vld d) k (c + 1) = rS (vld d) k c (ro (vld d) k c) := rfl
      unfold wl_X12_layTwins_32 wB_X12_layTwins_32
      refine ⟨fun z => absurd z (nI_ge (by omega) (by omega)), fun _ => ?_⟩
      simp only [↓reduceIte, Nat.reduceEqDiff, and_false, false_and, true_and, and_true, forall_eq, forall_eq', exists_eq_left, exists_eq_left', Option.some.injEq, eq_self_iff_true, not_true, not_false_iff, false_implies, true_implies, forall_const, reduceCtorEq, ne_eq]
      have dd := c_digits (bk := wl_X12_layTwins_32 Q (t + 1)) (Q := Q) (l2 := nI (5 ^ d)) (l3 := enK k (ro (vld d) k c)) hL hd (show c < 5 ^ d by omega) h (fun g hg => ?_) d g (Nat.le_refl _) (fun i h1 h2 => by omega)
      · rw [Nat.sub_self, Nat.pow_zero, Nat.div_one] at dd
        exact ⟨_, dd⟩
      · refine c_scan hL hd hg rfl (fun hv => ?_) (fun hv y y2 => ?_) (fun hv y h' hh' => ?_)
        · have e' : ro (vld d) k (c + 1) = ro (vld d) k c := by rw [e]; unfold rS; rw [if_neg (by rw [hv]; decide)]
          have := nx g h (by rw [e']; exact hh)
          rw [e'] at this
          exact this
        · have e' : ro (vld d) k (c + 1) = ro (vld d) k c := by
            rw [e]; unfold rS; rw [if_pos hv]
            cases ho : ro (vld d) k c with
            | none => rw [ho] at y; exact absurd rfl y
            | some b0 =>
              rw [ho] at y2
              rw [← hk] at y2
              simp only [if_pos (show k b0 ≤ k c from y2)]
          have := nx g h (by rw [e']; exact hh)
          rw [e'] at this
          exact this
        · have e' : ro (vld d) k (c + 1) = some c := by
            rw [e]; unfold rS; rw [if_pos hv]
            cases ho : ro (vld d) k c with
            | none => rfl
            | some b0 =>
              rw [ho] at y
              rw [← hk] at y
              rcases y with y | y
              · exact absurd y (hn b0 (by have := (ro_v ho).1; omega) (ro_v ho).2)
              · simp only [if_neg (show ¬ k b0 ≤ k c from y)]
          have := nx g h' (by rw [e']; intro b0 q; cases q; exact hh')
          rw [e'] at this
          rw [← hk]
          exact this
  have pw : ∀ t i, i + t = d → wl_X12_layTwins_11 Q (t + 1) S 35 (nI d) (nI (5 ^ i)) (nI i) := by
    intro t
    induction t with
    | zero =>
      intro i hi
      have : i = d := by omega
      subst this
      unfold wl_X12_layTwins_11 wB_X12_layTwins_11
      refine ⟨fun _ => ⟨5 ^ i + 1, ?_⟩, fun q => absurd (nI_le (Nat.le_refl _) (by omega)) q⟩
      · have := main (5 ^ i) 0 (by omega) (hI S 47) (hI S 48) (fun b q => by simp [ro, fo] at q)
        rw [tw_self] at this
        exact this
    | succ t ih =>
      intro i hi
      have nx := ih (i + 1) (by omega)
      have e5 : nI (5 ^ i) * (5 : Int32) = nI (5 ^ (i + 1)) := by rw [Nat.pow_succ]; exact nI_mul _ 5
      unfold wl_X12_layTwins_11 wB_X12_layTwins_11
      simp only [e5, nI_1, ↓reduceIte, Nat.reduceEqDiff, and_false, false_and, true_and, and_true, forall_eq, forall_eq', exists_eq_left, exists_eq_left', Option.some.injEq, eq_self_iff_true, not_true, not_false_iff, false_implies, true_implies, forall_const, reduceCtorEq, ne_eq]
      exact ⟨fun z => absurd z (nI_ge (by omega) (by omega)), fun _ => nx⟩
  unfold wp_X12_layTwins
  simp only [hL.eqs, vi2, cl2, h2, ↓reduceIte, Nat.reduceEqDiff, and_false, false_and, true_and, and_true, forall_eq, forall_eq', exists_eq_left, exists_eq_left', Option.some.injEq, eq_self_iff_true, not_true, not_false_iff, false_implies, true_implies, forall_const, reduceCtorEq, ne_eq]
  exact ⟨d + 1, pw d 0 (by omega)⟩
