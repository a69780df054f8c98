theorem hb_all : ∀ d, d < 5 → ∀ i, i < 4 → hb (2 ^ d - 1) i = decide (i < d) := by decide +kernel
theorem encF {k : Nat} (hk : 0 < k) : ∀ (d : Nat) (f : Nat → Nat), (∀ i, i < d → f i < k) → ∃ c, c < k ^ d ∧ ∀ i, i < d → fc k c i = f i
  | 0, f, _ => ⟨0, by show 0 < 1; omega, fun i hi => by omega⟩
  | d + 1, f, h => by
    obtain ⟨c, c1, c2⟩ := encF hk d (fun i => f (i + 1)) (fun i hi => h (i + 1) (by omega))
    have h0 := h 0 (by omega)
    refine ⟨f 0 + k * c, ?_, fun i hi => ?_⟩
    · have : k * (c + 1) ≤ k * k ^ d := Nat.mul_le_mul_left k c1
      rw [Nat.pow_succ, Nat.mul_comm (k ^ d) k]
      rw [Nat.mul_add] at this
      omega
    · cases i with
      | zero =>
        unfold fc
        rw [Nat.pow_zero, Nat.div_one, Nat.add_mul_mod_self_left, Nat.mod_eq_of_lt h0]
      | succ i =>
        have := c2 i (by omega)
        unfold fc at this ⊢
        rw [Nat.pow_succ, Nat.mul_comm (k ^ i) k, ← Nat.div_div_eq_div_mul, Nat.add_mul_div_left _ _ hk, Nat.div_eq_of_lt h0, Nat.zero_add]
        exact this
theorem ld_ns {W : Nat → Nat} {d : Nat} (hd : d ≤ 4) (hz : ∀ i, d ≤ i → W i = 0) (k c j : Nat) : ld W k c d j = ns W (fun i => decide (fc k c i = j)) := by
  unfold ld
  rw [← nsu_4, ← nsu_d hz (4 - d)]; congr 1; omega
theorem cut_cov {W : Nat → Nat} {b k d : Nat} (hk : 0 < k) (hd : d ≤ 4) (hz : ∀ i, d ≤ i → W i = 0) : (∃ c, c < k ^ d ∧ okn W b k c d = true) ↔ cov W b k (2 ^ d - 1) = true := by
  have h16 : 2 ^ d ≤ 16 := Nat.pow_le_pow_right (n := 2) (by omega) hd
  constructor
  · rintro ⟨c, c1, c2⟩
    refine asg_cov k _ (fc k c) (by have := Nat.two_pow_pos d; omega) ⟨fun i hi _ => Or.inr (Nat.mod_lt _ hk), fun j hj => ?_⟩
    have a := okn_ld d c2 j
    rw [ld_ns hd hz] at a
    refine Nat.le_trans (ns_mono (fun i hi q => Or.inl ?_)) a
    simp only [Bool.and_eq_true] at q
    exact q.2
  · intro h
    obtain ⟨f, f1, f2⟩ := cov_asg k _ (by have := Nat.two_pow_pos d; omega) h
    obtain ⟨c, c1, c2⟩ := encF hk d (fun i => if f i < k then f i else 0) (fun i hi => by
      by_cases q : f i < k
      · simp only [if_pos q]; exact q
      · simp only [if_neg q]; exact hk)
    refine ⟨c, c1, ld_okn (fun i hi => ?_) d (Nat.le_refl _)⟩
    rw [ld_ns hd hz]
    refine Nat.le_trans (ns_mono (fun i' hi' q => ?_)) (f2 (fc k c i) (Nat.mod_lt _ hk))
    rw [decide_eq_true_eq] at q
    by_cases cd : i' < d
    · have ha : hb (2 ^ d - 1) i' = true := by rw [hb_all d (by omega) i' hi']; simpa using cd
      rcases f1 i' hi' ha with z | z
      · exact Or.inr z
      · refine Or.inl ?_
        rw [c2 i' cd, if_pos z] at q
        rw [ha, q]; simp
    · exact Or.inr (hz i' (by omega))
theorem Rel.putS {S : hp} (h : Rel S) {a : Nat} (ha : a = 30 ∨ a = 46) (g : Nat → Int32) : Rel (putA S a g) := by
  have hL := h.1
  have hf : Fr (fun b => b = a) S (putA S a g) := Fr.rfl'.putA rfl
  have q : ∀ b, b ≠ a → hI (putA S a g) b = hI S b := fun b hb => hI_putA_ne hb
  refine h.low hf (fun b hb => by omega) (hL.fr hf (fun b _ _ => rfl)) (h.2.1.fr ⟨q 13 (by omega), q 36 (by omega), q 11 (by omega), q 12 (by omega), q 37 (by omega), q 38 (by omega), fun r hr => q (3 + r) (by omega)⟩) (h.2.2.1.fr ⟨by rw [q 14 (by omega)], by rw [q 35 (by omega)], q 15 (by omega), q 42 (by omega)⟩) ⟨by rw [q 35 (by omega), q 0 (by omega)]; exact h.2.2.2.1.1, by rw [q 35 (by omega), q 0 (by omega)]; exact h.2.2.2.1.2⟩ (vec_same (q 39 (by omega))) ⟨q 44 (by omega), q 45 (by omega), rfl⟩ ⟨by rw [q 0 (by omega)], by rw [q 35 (by omega)], by rw [q 0 (by omega)], q 41 (by omega), rfl⟩ (h.2.2.2.2.2.2.2.2.2.fr ⟨by rw [q 31 (by omega)], by rw [q 35 (by omega)], q 32 (by omega), q 49 (by omega)⟩)
theorem c_feltM {Q : Int32 → hp → Prop} {S : hp} {d pl b : Nat} {w : Int32} (hL : Lay S) (h2 : hI S 39 2 = nI d) (hd4 : d ≤ 4) (hp : pl < 3) (hA : ∀ k, k < 3 * d → bd (hI S 39 (5 + k))) (hb1 : 0 < b) (hb200 : b ≤ 200) {W : Nat → Nat} (hW : W = Wf (fun k => hI S 39 (5 + k)) d pl) {o : Option Nat} (ho : isL W b (2 ^ d - 1) o) (H : ∀ g, Q (match o with
  | none => -1000000
  | some k => if w = 0 then nI k else nI k * nI b - nI (ns W (hb (2 ^ d - 1)))) (putA S 46 g)) : ∃ n, wl_X12_felt_53 Q n S 35 (nI pl) (nI b) w 0 0 := by
  have hz : ∀ i, d ≤ i → W i = 0 := fun i hi => by rw [hW]; unfold Wf; rw [if_neg (by omega)]
  have hW9 : ∀ i, W i ≤ 999 := fun i => by rw [hW]; exact Wf_le hd4 hp hA i
  have h16 : 2 ^ d ≤ 16 := Nat.pow_le_pow_right (n := 2) (by omega) hd4
  have h1p := Nat.two_pow_pos d
  have sumE : ns W (hb (2 ^ d - 1)) = nsu W (fun _ => true) d := by
    rw [← nsu_d hz (4 - d), show d + (4 - d) = 4 by omega, nsu_4]
    have l1 : ns W (hb (2 ^ d - 1)) ≤ ns W (fun _ => true) := ns_mono (fun i hi _ => Or.inl rfl)
    have l2 : ns W (fun _ => true) ≤ ns W (hb (2 ^ d - 1)) := ns_mono (fun i hi _ => by
      by_cases c : i < d
      · left; rw [hb_all d (by omega) i hi]; simpa using c
      · exact Or.inr (hz i (by omega)))
    omega
  have hself : ∀ g, g = hI S 46 → putA S 46 g = S := fun g e => by rw [e]; exact putA_self S 46
  have h0 := H (hI S 46)
  rw [putA_self] at h0
  -- over the dummies
  have key : ∀ t i, i + t = d → (∀ i', i' < i → W i' ≤ b) → wl_X12_felt_53 Q (t + 1) S 35 (nI pl) (nI b) w (nI (nsu W (fun _ => true) i)) (nI i) := by
    intro t
    induction t with
    | zero =>
      intro i hi hle
      have : i = d := by omega
      subst this
      have hs := nsu_le (p := fun _ => true) hW9 i
      unfold wl_X12_felt_53 wB_X12_felt_53 wB_X12_felt_120
      simp only [hL.eqs, vi2, cl2, h2, ↓reduceIte, Nat.reduceEqDiff, and_false, false_and, true_and, and_true, forall_eq, forall_eq', exists_eq_left, exists_eq_left', Option.some.injEq, eq_self_iff_true, not_true, not_false_iff, false_implies, true_implies, forall_const, reduceCtorEq, ne_eq]
      refine ⟨fun _ => ?_, fun q => absurd (nI_le (Nat.le_refl _) (by omega)) q⟩
      rw [← sumE] at hs ⊢
      have e0 : (nI (ns W (hb (2 ^ i - 1))) ≤ 0) = (ns W (hb (2 ^ i - 1)) = 0) := by
        rw [t_le, nI_toInt (by omega)]
        have c9 : (0 : Int32).toInt = 0 := rfl
        rw [c9]; apply propext; omega
      rw [e0]
      refine ⟨fun z => ⟨1, ?_⟩, fun z => ?_⟩
      · refine ⟨fun _ => ?_, fun q => absurd (by decide) q⟩
        have : o = some 0 := by
          cases o with
          | none => exact absurd (show cov W b 0 (2 ^ i - 1) = true by show decide (ns W (hb (2 ^ i - 1)) = 0) = true; rw [z]; rfl) (ho 0)
          | some k =>
            cases k with
            | zero => rfl
            | succ k => exact absurd (show cov W b 0 (2 ^ i - 1) = true by show decide (ns W (hb (2 ^ i - 1)) = 0) = true; rw [z]; rfl) (ho.2.1 0 (by omega))
        subst this
        unfold wB_X12_felt_144
        refine ⟨fun y => ?_, fun y => ?_⟩
        · simp only [if_neg y] at h0; exact h0
        · simp only [if_pos y] at h0; exact h0
      · -- there is something to cut
        have full : cov W b i (2 ^ i - 1) = true := by
          refine asg_cov i _ (fun j => j) (by omega) ⟨fun j hj q => ?_, fun j hj => ?_⟩
          · rw [hb_all i (by omega) j hj] at q
            exact Or.inr (by simpa using q)
          · have e : ns W (fun i' => hb (2 ^ i - 1) i' && decide (i' = j)) ≤ W j := by
              unfold ns
              have : j = 0 ∨ j = 1 ∨ j = 2 ∨ j = 3 := by omega
              rcases this with e | e | e | e <;> subst e <;> simp <;> split <;> omega
            exact Nat.le_trans e (hle j hj)
        obtain ⟨k, hk⟩ : ∃ k, o = some k := by
          cases o with
          | none => exact absurd full (ho i)
          | some k => exact ⟨k, rfl⟩
        subst hk
        have hki : k ≤ i := by
          rcases Nat.lt_or_ge i k with y | y
          · exact absurd full (ho.2.1 i y)
          · exact y
        have hk0 : 0 < k := by
          rcases Nat.eq_zero_or_pos k with y | y
          · subst y
            have : decide (ns W (hb (2 ^ i - 1)) = 0) = true := ho.1
            exact absurd (by simpa using this) z
          · exact y
        have loop : ∀ u j g, j + u = k → 0 < j → wl_X12_felt_122 Q (u + 1) (putA S 46 g) 35 (nI pl) (nI b) w (nI (ns W (hb (2 ^ i - 1)))) (nI j) := by
          intro u
          induction u with
          | zero =>
            intro j g hj hj0
            have : j = k := by omega
            subst this
            have hneg : ¬ nI j ≤ 0 := by
              rw [t_le, nI_toInt (by omega)]
              have c9 : (0 : Int32).toInt = 0 := rfl
              rw [c9]; omega
            refine ⟨fun q => absurd q hneg, fun _ => ⟨(hL.1 35 (by decide)).1, c_isCut hL h2 hd4 hp hA hb200 ⟨hj0, by omega⟩ hW (fun _ g' => ?_) (fun q => ?_)⟩⟩
            · refine ⟨fun _ => ?_, fun q => absurd q (by decide)⟩
              have := H g'
              unfold wB_X12_felt_144
              refine ⟨fun y => ?_, fun y => ?_⟩
              · simp only [if_neg y] at this; exact this
              · simp only [if_pos y] at this; exact this
            · obtain ⟨c, c1, c2⟩ := (cut_cov hj0 hd4 hz).mpr ho.1
              rw [q c c1] at c2; cases c2
          | succ u ihu =>
            intro j g hj hj0
            have hneg : ¬ nI j ≤ 0 := by
              rw [t_le, nI_toInt (by omega)]
              have c9 : (0 : Int32).toInt = 0 := rfl
              rw [c9]; omega
            refine ⟨fun q => absurd q hneg, fun _ => ⟨(hL.1 35 (by decide)).1, c_isCut hL h2 hd4 hp hA hb200 ⟨hj0, by omega⟩ hW (fun q g' => ?_) (fun q g' => ?_)⟩⟩
            · exact absurd ((cut_cov hj0 hd4 hz).mp q) (ho.2.1 j (by omega))
            · simp only [nI_1, ↓reduceIte, Nat.reduceEqDiff, and_false, false_and, true_and, and_true, forall_eq, forall_eq', exists_eq_left, exists_eq_left', Option.some.injEq, eq_self_iff_true, not_true, not_false_iff, false_implies, true_implies, forall_const, reduceCtorEq, ne_eq]
              exact ihu (j + 1) g' (by omega) (by omega)
        have := loop (k - 1) 1 (hI S 46) (by omega) (by omega)
        rw [putA_self] at this
        exact ⟨_, this⟩
    | succ t ih =>
      intro i hi hle
      have nx := ih (i + 1) (by omega)
      have wp := Wf_p (A := fun k => hI S 39 (5 + k)) (d := d) (pl := pl) (i := i) hd4 hp hA (by omega)
      have wv := Wf_v (A := fun k => hI S 39 (5 + k)) (d := d) (pl := pl) (i := i) hd4 hp hA (by omega)
      rw [← hW] at wp wv
      have a5 : (5 : Int32) + (3 : Int32) * nI i + nI pl = nI (5 + (3 * i + pl)) := (i3 5 3 i pl).trans (by rw [Nat.add_assoc])
      have e : nsu W (fun _ => true) (i + 1) = nsu W (fun _ => true) i + W i := rfl
      have w9 := hW9 i
      have wb : (hI S 39 (5 + (3 * i + pl)) ≤ nI b) = (W i ≤ b) := by
        have c9 : (0 : Int32).toInt = 0 := rfl
        apply propext
        rw [t_le, nI_toInt (show b < 2147483648 by omega)]
        by_cases c : hI S 39 (5 + (3 * i + pl)) ≤ 0
        · have e1 := wp.1 c
          rw [nI_z (by omega)] at e1
          rw [t_le, c9] at c
          omega
        · have e1 := congrArg Int32.toInt (wp.2 c)
          rw [nI_toInt (by omega)] at e1
          change (W i : Int) = (hI S 39 (5 + (3 * i + pl))).toInt at e1
          omega
      unfold wl_X12_felt_53 wB_X12_felt_53 wB_X12_felt_101
      simp only [hL.eqs, vi2, cl2, h2, a5, show vp_in (nI (5 + (3 * i + pl))) 147 from vp_in_nI (by omega) (by omega), nI_clamp (show 5 + (3 * i + pl) < 2 ^ 31 by omega), wb, nI_1, ↓reduceIte, Nat.reduceEqDiff, and_false, false_and, true_and, and_true, forall_eq, forall_eq', exists_eq_left, exists_eq_left', Option.some.injEq, eq_self_iff_true, not_true, not_false_iff, false_implies, true_implies, forall_const, reduceCtorEq, ne_eq]
      refine ⟨fun z => absurd z (nI_ge (by omega) (by omega)), fun _ => ⟨fun z => ?_, fun z => ?_⟩⟩
      · have n2 := nx (fun i' hi' => by
          by_cases c : i' = i
          · subst c; exact z
          · exact hle i' (by omega))
        rw [e, ← nI_add] at n2
        refine ⟨fun y => ?_, fun y => ?_⟩
        · rw [wp.1 y] at n2; exact n2
        · rw [wp.2 y] at n2; exact n2
      · have : o = none := by
          cases o with
          | none => rfl
          | some k =>
            exfalso
            obtain ⟨f, f1, f2⟩ := cov_asg k _ (by omega) ho.1
            have ha : hb (2 ^ d - 1) i = true := by rw [hb_all d (by omega) i (by omega)]; simpa using (show i < d by omega)
            rcases f1 i (by omega) ha with y | y
            · omega
            · have l := f2 (f i) y
              have : W i ≤ ns W (fun i' => hb (2 ^ d - 1) i' && decide (f i' = f i)) := by
                have m : ns W (fun i' => decide (i' = i)) ≤ ns W (fun i' => hb (2 ^ d - 1) i' && decide (f i' = f i)) := ns_mono (fun i' hi' q => Or.inl (by
                  rw [decide_eq_true_eq] at q; subst q; rw [ha]; simp))
                have e : ns W (fun i' => decide (i' = i)) = W i := by
                  unfold ns
                  have : i = 0 ∨ i = 1 ∨ i = 2 ∨ i = 3 := by omega
                  rcases this with e | e | e | e <;> subst e <;> simp
                omega
              omega
        subst this
        exact h0
  exact ⟨d + 1, key d 0 (by omega) (fun i' hi' => by omega)⟩
