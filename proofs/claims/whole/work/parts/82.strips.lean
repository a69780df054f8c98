def nsu (W : Nat → Nat) (p : Nat → Bool) : Nat → Nat
  | 0 => 0
  | n + 1 => nsu W p n + (if p n = true then W n else 0)
theorem nsu_4 (W : Nat → Nat) (p : Nat → Bool) : nsu W p 4 = ns W p := by
  unfold ns
  show 0 + _ + _ + _ + _ = _
  rw [Nat.zero_add]
theorem nsu_d {W : Nat → Nat} {p : Nat → Bool} {d : Nat} (h : ∀ i, d ≤ i → W i = 0) : ∀ n, nsu W p (d + n) = nsu W p d
  | 0 => rfl
  | n + 1 => by
    show nsu W p (d + n) + (if p (d + n) = true then W (d + n) else 0) = _
    rw [nsu_d h n, h (d + n) (by omega), ite_self, Nat.add_zero]
theorem nsu_le {W : Nat → Nat} {p : Nat → Bool} (h : ∀ i, W i ≤ 999) : ∀ n, nsu W p n ≤ 999 * n
  | 0 => Nat.le_refl _
  | n + 1 => by
    have := nsu_le (p := p) h n
    have := h n
    show nsu W p n + (if p n = true then W n else 0) ≤ _
    by_cases c : p n = true
    · rw [if_pos c]; omega
    · rw [if_neg c]; omega
/-- the strips of the dummies at a place -/
def Wf (A : Nat → Int32) (d pl i : Nat) : Nat := if i < d then (A (3 * i + pl)).toInt.toNat else 0
theorem Wf_le {A : Nat → Int32} {d pl : Nat} (hd : d ≤ 4) (hp : pl < 3) (hA : ∀ k, k < 3 * d → bd (A k)) (i : Nat) : Wf A d pl i ≤ 999 := by
  unfold Wf
  by_cases c : i < d
  · rw [if_pos c]
    have := hA (3 * i + pl) (by omega)
    unfold bd at this
    omega
  · rw [if_neg c]; omega
theorem Wf_v {A : Nat → Int32} {d pl i : Nat} (hd : d ≤ 4) (hp : pl < 3) (hA : ∀ k, k < 3 * d → bd (A k)) (hi : i < d) : (if A (3 * i + pl) < 0 then (0 : Int32) else A (3 * i + pl)) = nI (Wf A d pl i) := by
  unfold Wf
  rw [if_pos hi]
  have := hA (3 * i + pl) (by omega)
  unfold bd at this
  generalize A (3 * i + pl) = x at this
  have c9 : (0 : Int32).toInt = 0 := rfl
  by_cases c : x < 0
  · rw [if_pos c]; rw [t_lt, c9] at c
    rw [show x.toInt.toNat = 0 by omega]; rfl
  · rw [if_neg c]; rw [t_lt, c9] at c
    apply Int32.toInt_inj.mp
    rw [nI_toInt (by omega)]; omega
theorem c_stripsOf {Q : Int32 → hp → Prop} {S : hp} {d pl D : Nat} (vS : SL S 16) (hd : hI S 16 7 = nI d) (hd4 : d ≤ 4) (hp : pl < 3) (hA : ∀ k, k < 3 * d → bd (hI S 17 k)) (hD : D < 16) (h : Q (nI (ns (Wf (hI S 17) d pl) (hb D))) S) : wp_X2_stripsOf Q S 16 (nI pl) (nI D) := by
  have hz : ∀ i, d ≤ i → Wf (hI S 17) d pl i = 0 := fun i hi => by unfold Wf; rw [if_neg (by omega)]
  have e : ns (Wf (hI S 17) d pl) (hb D) = nsu (Wf (hI S 17) d pl) (hb D) d := by
    rw [← nsu_4, ← nsu_d hz (4 - d)]; congr 1; omega
  rw [e] at h
  have key : ∀ t i, i + t = d → wl_X2_stripsOf_5 Q (t + 1) S 16 (nI pl) (nI D) (nI (nsu (Wf (hI S 17) d pl) (hb D) i)) (nI i) := by
    intro t
    induction t with
    | zero =>
      intro i hi
      have : i = d := by omega
      subst this
      unfold wl_X2_stripsOf_5 wB_X2_stripsOf_5
      simp only [vS.eqs, hd, ↓reduceIte, Nat.reduceEqDiff, and_false, false_and, true_and, and_true, forall_eq, forall_eq', exists_eq_left, exists_eq_left', Option.some.injEq, eq_self_iff_true, not_true, not_false_iff, false_implies, true_implies, forall_const, reduceCtorEq, ne_eq]
      exact ⟨fun _ => h, fun q => absurd (nI_le (Nat.le_refl _) (by omega)) q⟩
    | succ t ih =>
      intro i hi
      have nx := ih (i + 1) (by omega)
      have e : nsu (Wf (hI S 17) d pl) (hb D) (i + 1) = nsu (Wf (hI S 17) d pl) (hb D) i + (if hb D i = true then Wf (hI S 17) d pl i else 0) := rfl
      rw [e, ← nI_add] at nx
      have hh : hb D i = true ↔ D / 2 ^ i % 2 = 1 := by unfold hb; rw [decide_eq_true_eq]
      unfold wl_X2_stripsOf_5 wB_X2_stripsOf_5 wB_X2_stripsOf_47 wp_X2_has
      simp only [vS.eqs, hd, e_at, show vp_in (nI (3 * i + pl)) 12 from vp_in_nI (by omega) (by omega), nI_clamp (show 3 * i + pl < 2 ^ 31 by omega), Wf_v hd4 hp hA (show i < d by omega), has5 D (show D < 32 by omega) i (show i < 5 by omega), nI_1, i1_ne0, ↓reduceIte, Nat.reduceEqDiff, and_false, false_and, true_and, and_true, forall_eq, forall_eq', exists_eq_left, exists_eq_left', Option.some.injEq, eq_self_iff_true, not_true, not_false_iff, false_implies, true_implies, forall_const, reduceCtorEq, ne_eq]
      refine ⟨fun z => absurd z (nI_ge (by omega) (by omega)), fun _ => ⟨fun z => ?_, fun z => ?_⟩⟩
      · rw [if_neg (fun y => z (hh.mp y))] at nx; exact nx
      · rw [if_pos (hh.mpr z)] at nx; exact nx
  exact ⟨d + 1, key d 0 (by omega)⟩
/-- the least number of bolts for a set -/
def isL (W : Nat → Nat) (b D : Nat) : Option Nat → Prop
  | none => ∀ k, ¬ cov W b k D = true
  | some k => cov W b k D = true ∧ (∀ j, j < k → ¬ cov W b j D = true) ∧ k ≤ D
theorem cov_up {W : Nat → Nat} {b D : Nat} {j : Nat} : ∀ {k : Nat}, j ≤ k → cov W b j D = true → cov W b k D = true
  | 0, h, q => by have : j = 0 := by omega
                  subst this; exact q
  | k + 1, h, q => by
    by_cases c : j = k + 1
    · subst c; exact q
    · show (cov W b k D || _) = true
      rw [cov_up (k := k) (by omega) q]; rfl
/-- k bolts will do, with a first bolt below n -/
def Cn (W : Nat → Nat) (b D n k : Nat) : Prop := ns W (hb D) = 0 ∨ ∃ s, s < n ∧ 0 < s ∧ sb s D = true ∧ ns W (hb s) ≤ b ∧ ∃ j, j + 1 ≤ k ∧ cov W b j (mn D s) = true
theorem Cn_cov {W : Nat → Nat} {b D : Nat} (hD : D < 16) : ∀ k, Cn W b D (D + 1) k ↔ cov W b k D = true
  | 0 => by
    show _ ↔ decide (ns W (hb D) = 0) = true
    rw [decide_eq_true_eq]
    refine ⟨fun h => h.elim id (fun ⟨s, _, _, _, _, j, h, _⟩ => by omega), Or.inl⟩
  | k + 1 => by
    rw [cov_s hD, ← Cn_cov hD k]
    constructor
    · rintro (h | ⟨s, s1, s2, s3, s4, j, j1, j2⟩)
      · exact Or.inl (Or.inl h)
      · exact Or.inr ⟨s, s1, s2, s3, s4, cov_up (by omega) j2⟩
    · rintro (h | ⟨s, s1, s2, s3, s4, h⟩)
      · rcases h with h | ⟨s, s1, s2, s3, s4, j, j1, j2⟩
        · exact Or.inl h
        · exact Or.inr ⟨s, s1, s2, s3, s4, j, by omega, j2⟩
      · exact Or.inr ⟨s, s1, s2, s3, s4, k, by omega, h⟩
/-- the least so far -/
def isN (W : Nat → Nat) (b D n : Nat) : Option Nat → Prop
  | none => ∀ k, ¬ Cn W b D n k
  | some k => Cn W b D n k ∧ (∀ j, j < k → ¬ Cn W b D n j) ∧ k ≤ D
theorem isN_L {W : Nat → Nat} {b D : Nat} (hD : D < 16) {o : Option Nat} (h : isN W b D (D + 1) o) : isL W b D o := by
  cases o with
  | none => exact fun k q => h k ((Cn_cov hD k).mpr q)
  | some k => exact ⟨(Cn_cov hD k).mp h.1, fun j hj q => h.2.1 j hj ((Cn_cov hD j).mpr q), h.2.2⟩
theorem isN_0 {W : Nat → Nat} {b D : Nat} : isN W b D 1 (if ns W (hb D) = 0 then some 0 else none) := by
  by_cases c : ns W (hb D) = 0
  · rw [if_pos c]
    exact ⟨Or.inl c, fun j hj => by omega, Nat.zero_le _⟩
  · rw [if_neg c]
    intro k q
    rcases q with q | ⟨s, s1, s2, _⟩
    · exact c q
    · omega
/-- one more set -/
def nxt (o : Option Nat) (p : Option Nat) : Option Nat := match p with
  | none => o
  | some j => match o with
    | none => some (j + 1)
    | some k => if j + 1 < k then some (j + 1) else some k
theorem isN_skip {W : Nat → Nat} {b D n : Nat} {o : Option Nat} (h : isN W b D n o) (hx : ¬ (0 < n ∧ sb n D = true ∧ ns W (hb n) ≤ b ∧ ∃ j, cov W b j (mn D n) = true)) : isN W b D (n + 1) o := by
  have e : ∀ k, Cn W b D (n + 1) k ↔ Cn W b D n k := fun k => by
    constructor
    · rintro (q | ⟨s, s1, s2, s3, s4, j, j1, j2⟩)
      · exact Or.inl q
      · by_cases c : s = n
        · subst c; exact absurd ⟨s2, s3, s4, j, j2⟩ hx
        · exact Or.inr ⟨s, by omega, s2, s3, s4, j, j1, j2⟩
    · rintro (q | ⟨s, s1, s2, s3, s4, j, j1, j2⟩)
      · exact Or.inl q
      · exact Or.inr ⟨s, by omega, s2, s3, s4, j, j1, j2⟩
  cases o with
  | none => exact fun k q => h k ((e k).mp q)
  | some k => exact ⟨(e k).mpr h.1, fun j hj q => h.2.1 j hj ((e j).mp q), h.2.2⟩
theorem isN_add {W : Nat → Nat} {b D n : Nat} (hD : D < 16) (hn : n < 16) {o : Option Nat} (h : isN W b D n o) {m : Nat} (h0 : 0 < n) (h1 : sb n D = true) (h2 : ns W (hb n) ≤ b) (hm : isL W b (mn D n) (some m)) : isN W b D (n + 1) (nxt o (some m)) := by
  have hlt := mn_lt D hD n hn h0 h1
  have hmD : m + 1 ≤ D := by have := hm.2.2; omega
  have up : ∀ k, Cn W b D (n + 1) k ↔ (Cn W b D n k ∨ m + 1 ≤ k) := fun k => by
    constructor
    · rintro (q | ⟨s, s1, s2, s3, s4, j, j1, j2⟩)
      · exact Or.inl (Or.inl q)
      · by_cases c : s = n
        · subst c
          right
          rcases Nat.lt_or_ge j m with z | z
          · exact absurd j2 (hm.2.1 j z)
          · omega
        · exact Or.inl (Or.inr ⟨s, by omega, s2, s3, s4, j, j1, j2⟩)
    · rintro ((q | ⟨s, s1, s2, s3, s4, j, j1, j2⟩) | q)
      · exact Or.inl q
      · exact Or.inr ⟨s, by omega, s2, s3, s4, j, j1, j2⟩
      · exact Or.inr ⟨n, by omega, h0, h1, h2, m, q, hm.1⟩
  cases o with
  | none =>
    refine ⟨(up _).mpr (Or.inr (Nat.le_refl _)), fun j hj q => ?_, hmD⟩
    rcases (up j).mp q with z | z
    · exact h j z
    · omega
  | some k =>
    show isN W b D (n + 1) (if m + 1 < k then some (m + 1) else some k)
    by_cases c : m + 1 < k
    · rw [if_pos c]
      refine ⟨(up _).mpr (Or.inr (Nat.le_refl _)), fun j hj q => ?_, hmD⟩
      rcases (up j).mp q with z | z
      · exact h.2.1 j (by omega) z
      · omega
    · rw [if_neg c]
      refine ⟨(up _).mpr (Or.inl h.1), fun j hj q => ?_, h.2.2⟩
      rcases (up j).mp q with z | z
      · exact h.2.1 j hj z
      · omega
