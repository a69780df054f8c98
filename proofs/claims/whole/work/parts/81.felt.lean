/-! how few bolts: sets of dummies are numbers below sixteen -/
def hb (D i : Nat) : Bool := decide (D / 2 ^ i % 2 = 1)
def mn (D s : Nat) : Nat := D - (D &&& s)
def sb (s D : Nat) : Bool := decide (s - (s &&& D) = 0)
theorem hb_mn : ∀ D, D < 16 → ∀ s, s < 16 → ∀ i, i < 4 → hb (mn D s) i = (hb D i && !hb s i) := by decide +kernel
theorem sb_hb : ∀ D, D < 16 → ∀ s, s < 16 → sb s D = true → ∀ i, i < 4 → hb s i = true → hb D i = true := by decide +kernel
theorem mn_lt : ∀ D, D < 16 → ∀ s, s < 16 → 0 < s → sb s D = true → mn D s < D := by decide +kernel
/-- the strips of a set -/
def ns (W : Nat → Nat) (p : Nat → Bool) : Nat := (if p 0 = true then W 0 else 0) + (if p 1 = true then W 1 else 0) + (if p 2 = true then W 2 else 0) + (if p 3 = true then W 3 else 0)
theorem ns_congr {W : Nat → Nat} {p q : Nat → Bool} (h : ∀ i, i < 4 → p i = q i) : ns W p = ns W q := by
  unfold ns; rw [h 0 (by omega), h 1 (by omega), h 2 (by omega), h 3 (by omega)]
theorem ns_mono {W : Nat → Nat} {p q : Nat → Bool} (h : ∀ i, i < 4 → p i = true → q i = true ∨ W i = 0) : ns W p ≤ ns W q := by
  have m : ∀ i, i < 4 → (if p i = true then W i else 0) ≤ (if q i = true then W i else 0) := fun i hi => by
    by_cases c : p i = true
    · rw [if_pos c]
      rcases h i hi c with z | z
      · rw [if_pos z]; exact Nat.le_refl _
      · rw [z]; exact Nat.zero_le _
    · rw [if_neg c]; exact Nat.zero_le _
  have := m 0 (by omega)
  have := m 1 (by omega)
  have := m 2 (by omega)
  have := m 3 (by omega)
  unfold ns
  omega
def anyS (p : Nat → Bool) : Nat → Bool
  | 0 => false
  | n + 1 => anyS p n || p n
theorem anyS_t {p : Nat → Bool} : ∀ {n : Nat}, anyS p n = true ↔ ∃ k, k < n ∧ p k = true
  | 0 => ⟨fun h => Bool.noConfusion h, fun ⟨k, h, _⟩ => by omega⟩
  | n + 1 => by
    show (anyS p n || p n) = true ↔ _
    rw [Bool.or_eq_true, anyS_t (n := n)]
    constructor
    · rintro (⟨k, h1, h2⟩ | h)
      · exact ⟨k, by omega, h2⟩
      · exact ⟨n, by omega, h⟩
    · rintro ⟨k, h1, h2⟩
      by_cases c : k = n
      · subst c; exact Or.inr h2
      · exact Or.inl ⟨k, by omega, h2⟩
/-- D is cut from k bolts of b -/
def cov (W : Nat → Nat) (b : Nat) : Nat → Nat → Bool
  | 0, D => decide (ns W (hb D) = 0)
  | k + 1, D => cov W b k D || anyS (fun s => decide (0 < s) && (sb s D && (decide (ns W (hb s) ≤ b) && cov W b k (mn D s)))) (D + 1)
theorem cov_s {W : Nat → Nat} {b k D : Nat} (hD : D < 16) : cov W b (k + 1) D = true ↔ (cov W b k D = true ∨ ∃ s, s < D + 1 ∧ 0 < s ∧ sb s D = true ∧ ns W (hb s) ≤ b ∧ cov W b k (mn D s) = true) := by
  show (cov W b k D || anyS _ (D + 1)) = true ↔ _
  rw [Bool.or_eq_true, anyS_t]
  simp only [Bool.and_eq_true, decide_eq_true_eq]
/-- an assignment of the set D to k bolts -/
def asg (W : Nat → Nat) (b k D : Nat) (f : Nat → Nat) : Prop := (∀ i, i < 4 → hb D i = true → W i = 0 ∨ f i < k) ∧ ∀ j, j < k → ns W (fun i => hb D i && decide (f i = j)) ≤ b
theorem ns_zero {W : Nat → Nat} {p : Nat → Bool} (h : ns W p = 0) : ∀ i, i < 4 → p i = true → W i = 0 := by
  unfold ns at h
  intro i hi c
  have : i = 0 ∨ i = 1 ∨ i = 2 ∨ i = 3 := by omega
  rcases this with e | e | e | e <;> subst e <;> rw [if_pos c] at h <;> omega
theorem cov_asg {W : Nat → Nat} {b : Nat} : ∀ k D, D < 16 → cov W b k D = true → ∃ f, asg W b k D f
  | 0, D, hD, h => by
    have h' : ns W (hb D) = 0 := by simpa [cov] using h
    exact ⟨fun _ => 0, fun i hi c => Or.inl (ns_zero h' i hi c), fun j hj => by omega⟩
  | k + 1, D, hD, h => by
    rcases (cov_s hD).mp h with h1 | ⟨s, s1, s2, s3, s4, s5⟩
    · obtain ⟨f, f1, f2⟩ := cov_asg k D hD h1
      refine ⟨fun i => if f i < k then f i else k + 1, fun i hi c => ?_, fun j hj => ?_⟩
      · rcases f1 i hi c with z | z
        · exact Or.inl z
        · refine Or.inr ?_; show (if f i < k then f i else k + 1) < k + 1; rw [if_pos z]; omega
      · by_cases q : j < k
        · refine Nat.le_trans (ns_mono (fun i hi c => Or.inl ?_)) (f2 j q)
          simp only [Bool.and_eq_true, decide_eq_true_eq] at c ⊢
          refine ⟨c.1, ?_⟩
          by_cases z : f i < k
          · rw [if_pos z] at c; exact c.2
          · rw [if_neg z] at c; omega
        · have e : ns W (fun i => hb D i && decide ((if f i < k then f i else k + 1) = j)) = ns W (fun _ => false) := ns_congr (fun i hi => by
            have : ¬ (if f i < k then f i else k + 1) = j := by
              by_cases z : f i < k
              · rw [if_pos z]; omega
              · rw [if_neg z]; omega
            rw [decide_eq_false this, Bool.and_false])
          rw [e]; exact Nat.zero_le _
    · have hm := mn_lt D hD s (by omega) s2 s3
      obtain ⟨f, f1, f2⟩ := cov_asg k (mn D s) (by omega) s5
      refine ⟨fun i => if hb s i = true then k else (if f i < k then f i else k + 1), fun i hi c => ?_, fun j hj => ?_⟩
      · by_cases q : hb s i = true
        · refine Or.inr ?_; simp only [if_pos q]; omega
        · rcases f1 i hi (by rw [hb_mn D hD s (by omega) i hi, c]; simpa using q) with z | z
          · exact Or.inl z
          · refine Or.inr ?_; simp only [if_neg q, if_pos z]; omega
      · by_cases q : j = k
        · refine Nat.le_trans (ns_mono (fun i hi c => Or.inl ?_)) s4
          simp only [Bool.and_eq_true, decide_eq_true_eq] at c
          by_cases z : hb s i = true
          · exact z
          · rw [if_neg z] at c
            by_cases z2 : f i < k
            · rw [if_pos z2] at c; omega
            · rw [if_neg z2] at c; omega
        · refine Nat.le_trans (ns_mono (fun i hi c => Or.inl ?_)) (f2 j (by omega))
          simp only [Bool.and_eq_true, decide_eq_true_eq] at c ⊢
          by_cases z : hb s i = true
          · rw [if_pos z] at c; omega
          · rw [if_neg z] at c
            refine ⟨by rw [hb_mn D hD s (by omega) i hi, c.1]; simpa using z, ?_⟩
            by_cases z2 : f i < k
            · rw [if_pos z2] at c; exact c.2
            · rw [if_neg z2] at c; omega
/-- the set of what f gives to k -/
def s4 (a b c d : Bool) : Nat := (if a = true then 1 else 0) + (if b = true then 2 else 0) + (if c = true then 4 else 0) + (if d = true then 8 else 0)
def setOf (p : Nat → Bool) : Nat := s4 (p 0) (p 1) (p 2) (p 3)
theorem setOf_b5 : ∀ a b c d : Bool, s4 a b c d < 16 ∧ hb (s4 a b c d) 0 = a ∧ hb (s4 a b c d) 1 = b ∧ hb (s4 a b c d) 2 = c ∧ hb (s4 a b c d) 3 = d := by
  intro a b c d
  cases a <;> cases b <;> cases c <;> cases d <;> decide +kernel
theorem sub16 : ∀ D, D < 16 → ∀ s, s < 16 → ((!hb s 0 || hb D 0) && ((!hb s 1 || hb D 1) && ((!hb s 2 || hb D 2) && (!hb s 3 || hb D 3)))) = true → (sb s D && decide (s < D + 1)) = true := by decide +kernel
theorem setOf_b (p : Nat → Bool) {D : Nat} (hD : D < 16) : setOf p < 16 ∧ (∀ i, i < 4 → hb (setOf p) i = p i) ∧ ((∀ i, i < 4 → p i = true → hb D i = true) → sb (setOf p) D = true ∧ setOf p < D + 1) := by
  obtain ⟨h1, h2, h3, h4, h5⟩ := setOf_b5 (p 0) (p 1) (p 2) (p 3)
  refine ⟨h1, fun i hi => ?_, fun h => ?_⟩
  rotate_left
  · have q := sub16 D hD (setOf p) h1 (by
      have e0 : hb (setOf p) 0 = p 0 := h2
      have e1 : hb (setOf p) 1 = p 1 := h3
      have e2 : hb (setOf p) 2 = p 2 := h4
      have e3 : hb (setOf p) 3 = p 3 := h5
      rw [e0, e1, e2, e3]
      have k : ∀ i, i < 4 → (!p i || hb D i) = true := fun i hi => by
        cases e : p i with
        | false => rfl
        | true => rw [h i hi e]; rfl
      rw [k 0 (by omega), k 1 (by omega), k 2 (by omega), k 3 (by omega)]; rfl)
    rw [Bool.and_eq_true, decide_eq_true_eq] at q
    exact q
  have : i = 0 ∨ i = 1 ∨ i = 2 ∨ i = 3 := by omega
  rcases this with e | e | e | e <;> subst e
  · exact h2
  · exact h3
  · exact h4
  · exact h5
theorem asg_cov {W : Nat → Nat} {b : Nat} : ∀ k D f, D < 16 → asg W b k D f → cov W b k D = true
  | 0, D, f, hD, h => by
    have : ns W (hb D) = ns W (fun _ => false) := by
      have a1 : ns W (hb D) ≤ ns W (fun _ => false) := ns_mono (fun i hi c => Or.inr ((h.1 i hi c).elim id (fun z => by omega)))
      have a2 : ns W (fun _ => false) = 0 := rfl
      omega
    show decide (ns W (hb D) = 0) = true
    rw [this]; rfl
  | k + 1, D, f, hD, h => by
    rw [cov_s hD]
    obtain ⟨b1, b2, b3⟩ := setOf_b (fun i => hb D i && decide (f i = k)) hD
    obtain ⟨b4, b5⟩ := b3 (fun i hi c => by simp only [Bool.and_eq_true] at c; exact c.1)
    by_cases q : setOf (fun i => hb D i && decide (f i = k)) = 0
    · refine Or.inl (asg_cov k D f hD ⟨fun i hi c => ?_, fun j hj => h.2 j (by omega)⟩)
      rcases h.1 i hi c with z | z
      · exact Or.inl z
      · refine Or.inr ?_
        have e := b2 i hi
        rw [q] at e
        have hz : hb 0 i = false := by
          have : ∀ i, i < 4 → hb 0 i = false := by decide
          exact this i hi
        rw [hz] at e
        have : ¬ f i = k := fun y => by simp [c, y] at e
        omega
    · refine Or.inr ⟨_, b5, by omega, b4, ?_, asg_cov k _ f (by have := mn_lt D hD _ b1 (by omega) b4; omega) ⟨fun i hi c => ?_, fun j hj => ?_⟩⟩
      · rw [ns_congr (fun i hi => b2 i hi)]; exact h.2 k (by omega)
      · rw [hb_mn D hD _ b1 i hi, b2 i hi] at c
        simp only [Bool.and_eq_true, Bool.not_eq_true'] at c
        rcases h.1 i hi c.1 with z | z
        · exact Or.inl z
        · refine Or.inr ?_
          have : ¬ f i = k := fun y => by have := c.2; simp [c.1, y] at this
          omega
      · refine Nat.le_trans (ns_mono (fun i hi c => Or.inl ?_)) (h.2 j (by omega))
        simp only [Bool.and_eq_true, decide_eq_true_eq] at c ⊢
        have c1 := c.1
        rw [hb_mn D hD _ b1 i hi] at c1
        simp only [Bool.and_eq_true] at c1
        exact ⟨c1.1, c.2⟩
