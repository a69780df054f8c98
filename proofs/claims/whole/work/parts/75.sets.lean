theorem c_setsOf {Q : Int32 → hp → Prop} {S : hp} {m l off : Nat} {dd x3 : Int32} (hL : Lay S) (hm : hI S 39 3 = nI m) (hm5 : m ≤ 5) (hl : hI S 39 4 = nI l) (h16 : l ≤ 16) (ho : off + 3 ≤ 320) {F B : Nat → Bool} (hF : ∀ s, s < 32 → F s = fits (fun s pp => ms (fun k => hI S 39 (51 + k)) dd s pp l) (fun pp => hI S 38 (off + pp)) s) (hB : ∀ s, s < 32 → (B s = true ↔ (x3 = -1000000 ∨ ((nI s >>> (x3 &&& 31)) &&& (1 : Int32)) = (1 : Int32)))) (h : Q (ct (fun s => B s && F s) (2 ^ m)) S) : wp_X12_setsOf Q S 35 dd (nI off) x3 := by
  have hp := pow5 hm5
  have e1 : (1 : Int32) <<< (nI m &&& 31) = nI (2 ^ m) := sh1 m (by omega)
  have key : ∀ t s, s + t = 2 ^ m → wl_X12_setsOf_6 Q (t + 1) S 35 dd (nI off) x3 (ct (fun s => B s && F s) s) (nI s) := by
    intro t
    induction t with
    | zero =>
      intro s hs
      have : s = 2 ^ m := by omega
      subst this
      unfold wl_X12_setsOf_6 wB_X12_setsOf_6
      simp only [hL.eqs, vi3, cl3, hm, e1, ↓reduceIte, Nat.reduceEqDiff, and_false, false_and, true_and, and_true, forall_eq, forall_eq', exists_eq_left, exists_eq_left', Option.some.injEq, eq_self_iff_true, not_true, not_false_iff, false_implies, true_implies, forall_const, reduceCtorEq, ne_eq]
      exact ⟨fun _ => h, fun q => absurd (nI_le (Nat.le_refl _) (by omega)) q⟩
    | succ t ih =>
      intro s hs
      have nx := ih (s + 1) (by omega)
      rw [← ct_b] at nx
      have hb := hB s (by omega)
      have go : B s = true → wB_X12_setsOf_37 (wl_X12_setsOf_6 Q (t + 1)) Q S 35 dd (nI off) x3 (nI s) (ct (fun s => B s && F s) s) := fun q => by
        unfold wB_X12_setsOf_37
        refine ⟨(hL.1 35 (by decide)).1, c_isBy hL hl h16 (by omega) ho ?_⟩
        rw [← hF s (by omega), bI0]
        unfold wB_X12_setsOf_52 wB_X12_setsOf_53
        simp only [nI_1, ↓reduceIte, Nat.reduceEqDiff, and_false, false_and, true_and, and_true, forall_eq, forall_eq', exists_eq_left, exists_eq_left', Option.some.injEq, eq_self_iff_true, not_true, not_false_iff, false_implies, true_implies, forall_const, reduceCtorEq, ne_eq]
        rw [q] at nx
        refine ⟨fun z => ?_, fun z => ?_⟩
        · rw [z] at nx; exact nx
        · rw [Bool.not_eq_false] at z; rw [z] at nx; exact nx
      unfold wl_X12_setsOf_6 wB_X12_setsOf_6
      simp only [hL.eqs, vi3, cl3, hm, e1, ↓reduceIte, Nat.reduceEqDiff, and_false, false_and, true_and, and_true, forall_eq, forall_eq', exists_eq_left, exists_eq_left', Option.some.injEq, eq_self_iff_true, not_true, not_false_iff, false_implies, true_implies, forall_const, reduceCtorEq, ne_eq]
      refine ⟨fun z => absurd z (nI_ge (by omega) (by omega)), fun _ => ⟨fun z => go (hb.mpr (Or.inl z)), fun z => ⟨fun z2 => ?_, fun z2 => go (hb.mpr (Or.inr z2))⟩⟩⟩
      have : B s = false := by
        cases e : B s with
        | false => rfl
        | true => exact absurd (hb.mp e) (fun y => y.elim z z2)
      rw [this] at nx
      unfold wB_X12_setsOf_52 wB_X12_setsOf_53
      simp only [nI_1, ↓reduceIte, Nat.reduceEqDiff, and_false, false_and, true_and, and_true, forall_eq, forall_eq', exists_eq_left, exists_eq_left', Option.some.injEq, eq_self_iff_true, not_true, not_false_iff, false_implies, true_implies, forall_const, reduceCtorEq, ne_eq]
      exact nx
  exact ⟨_, key (2 ^ m) 0 (by omega)⟩
/-- the smallest of the sets -/
def lS (P : Nat → Bool) (s : Nat) (acc : Option Nat) : Option Nat := if P s = true then (match acc with
  | none => some s
  | some b => if bc (nI b) ≤ bc (nI s) then some b else some s) else acc
def lfo (P : Nat → Bool) (n : Nat) : Option Nat := fo (lS P) n none
theorem lfo_lt {P : Nat → Bool} : ∀ {n b : Nat}, lfo P n = some b → b < n
  | 0, b, h => by simp [lfo, fo] at h
  | n + 1, b, h => by
    have ih := fun b => lfo_lt (P := P) (n := n) (b := b)
    change lS P n (lfo P n) = some b at h
    unfold lS at h
    by_cases c : P n = true
    · rw [if_pos c] at h
      cases e : lfo P n with
      | none => rw [e] at h; cases h; omega
      | some y =>
        rw [e] at h
        have := ih y e
        by_cases c2 : bc (nI y) ≤ bc (nI n)
        · simp only [if_pos c2] at h; cases h; omega
        · simp only [if_neg c2] at h; cases h; omega
    · rw [if_neg c] at h; have := ih b h; omega
theorem lfo_cut {f g : Nat → Bool} {n : Nat} (h : ∀ k, g k = true ↔ (k < n ∧ f k = true)) : ∀ N, n ≤ N → lfo g N = lfo f n := by
  have h0 : ∀ k, k ≤ n → lfo g k = lfo f k := fun k hk => fo_congr (fun i hi x => by
    unfold lS
    have := h i
    by_cases c : f i = true
    · rw [if_pos c, if_pos (this.mpr ⟨by omega, c⟩)]
    · rw [if_neg c, if_neg (fun z => c (this.mp z).2)])
  intro N
  induction N with
  | zero => intro hN; rw [h0 0 (by omega)]; congr 1; omega
  | succ N ih =>
    intro hN
    by_cases q : n ≤ N
    · show lS g N (lfo g N) = lfo f n
      unfold lS
      rw [ih q, if_neg (fun z => by have := (h N).mp z; omega)]
    · have : n = N + 1 := by omega
      subst this
      exact h0 _ (Nat.le_refl _)
theorem has_mk2 {F : Nat → Bool} {n s : Nat} (hn : n ≤ 32) (hs : s < 32) : ((((nI (mk2 F n)).toUInt32 >>> ((nI s).toUInt32 &&& Int32.toUInt32 31)).toInt32 &&& (1 : Int32)) = (1 : Int32)) ↔ (s < n ∧ F s = true) := by
  rw [has32 (Nat.lt_of_lt_of_le (mk2_lt F n) (Nat.pow_le_pow_right (by omega) hn)) hs]
  exact mk2_bit F n s
theorem c_fewestOf {Q : Int32 → hp → Prop} {S : hp} {n b0 : Nat} {F : Nat → Bool} (hn : n ≤ 32) (h : Q (enO (lfo F n)) S) : wp_X2_fewestOf Q S b0 (nI (mk2 F n)) := by
  obtain ⟨P, hP⟩ : ∃ P : Nat → Bool, P = fun s => decide (s < n) && F s := ⟨_, rfl⟩
  have hPs : ∀ s, P s = true ↔ (s < n ∧ F s = true) := fun s => by rw [hP]; simp
  rw [← lfo_cut hPs 32 hn] at h
  have key : ∀ t s, s + t = 32 → wl_X2_fewestOf_5 Q (t + 1) S (nI (mk2 F n)) (enO (lfo P s)) (nI s) := by
    intro t
    induction t with
    | zero =>
      intro s hs
      have : s = 32 := by omega
      subst this
      exact ⟨fun _ => h, fun q => absurd (nI_le (a := 32) (b := 32) (by omega) (by omega)) q⟩
    | succ t ih =>
      intro s hs
      have nx := ih (s + 1) (by omega)
      have e : lfo P (s + 1) = lS P s (lfo P s) := rfl
      rw [e] at nx
      have hlt := fun b => lfo_lt (P := P) (n := s) (b := b)
      unfold wl_X2_fewestOf_5 wB_X2_fewestOf_5 wB_X2_fewestOf_29 wp_X2_has wp_X2_isFewer wB_X2_isFewer_17
      simp only [has_mk2 hn (show s < 32 by omega), ← hPs, e_bc, nI_1, i1_ne0, enO_none (o := lfo P s) (fun b hb => by have := hlt b hb; omega), ↓reduceIte, Nat.reduceEqDiff, and_false, false_and, true_and, and_true, forall_eq, forall_eq', exists_eq_left, exists_eq_left', Option.some.injEq, eq_self_iff_true, not_true, not_false_iff, false_implies, true_implies, forall_const, reduceCtorEq, ne_eq]
      unfold lS at nx
      refine ⟨fun z => absurd z (nI_ge (a := s) (b := 32) (by omega) (by omega)), fun _ => ⟨fun z => ?_, fun z => ?_⟩⟩
      · rw [if_neg z] at nx; exact nx
      · rw [if_pos z] at nx
        cases ho : lfo P s with
        | none =>
          rw [ho] at nx
          exact ⟨fun _ => nx, fun q => absurd rfl q⟩
        | some b =>
          rw [ho] at nx
          refine ⟨(fun q => nomatch q), fun _ => ⟨fun q => ?_, fun q => ?_⟩⟩
          · simp only [if_pos (show bc (nI b) ≤ bc (nI s) from q)] at nx; exact nx
          · simp only [if_neg (show ¬ bc (nI b) ≤ bc (nI s) from q)] at nx; exact nx
  exact ⟨33, key 32 0 (by omega)⟩
theorem bts32 : ∀ s, s < 32 → bts (nI s) = bc (nI s) := by decide +kernel
theorem c_liarsM {Q : Int32 → hp → Prop} {S : hp} {m l off : Nat} {dd : Int32} (hL : Lay S) (hm : hI S 39 3 = nI m) (hm5 : m ≤ 5) (hl : hI S 39 4 = nI l) (h16 : l ≤ 16) (ho : off + 3 ≤ 320) {F : Nat → Bool} (hF : ∀ s, s < 32 → F s = fits (fun s pp => ms (fun k => hI S 39 (51 + k)) dd s pp l) (fun pp => hI S 38 (off + pp)) s) (h : Q (enO (lfo F (2 ^ m))) S) : ∃ n, wl_X12_liars_81 Q n S 35 dd (nI off) (-1000000) 0 := by
  have hp := pow5 hm5
  have e1 : (1 : Int32) <<< (nI m &&& 31) = nI (2 ^ m) := sh1 m (by omega)
  have key : ∀ t s, s + t = 2 ^ m → wl_X12_liars_81 Q (t + 1) S 35 dd (nI off) (enO (lfo F s)) (nI s) := by
    intro t
    induction t with
    | zero =>
      intro s hs
      have : s = 2 ^ m := by omega
      subst this
      unfold wl_X12_liars_81 wB_X12_liars_81
      simp only [hL.eqs, vi3, cl3, hm, e1, ↓reduceIte, Nat.reduceEqDiff, and_false, false_and, true_and, and_true, forall_eq, forall_eq', exists_eq_left, exists_eq_left', Option.some.injEq, eq_self_iff_true, not_true, not_false_iff, false_implies, true_implies, forall_const, reduceCtorEq, ne_eq]
      exact ⟨fun _ => h, fun q => absurd (nI_le (Nat.le_refl _) (by omega)) q⟩
    | succ t ih =>
      intro s hs
      have nx := ih (s + 1) (by omega)
      have e : lfo F (s + 1) = lS F s (lfo F s) := rfl
      rw [e] at nx
      have hlt := fun b => lfo_lt (P := F) (n := s) (b := b)
      unfold wl_X12_liars_81 wB_X12_liars_81
      simp only [hL.eqs, vi3, cl3, hm, e1, ↓reduceIte, Nat.reduceEqDiff, and_false, false_and, true_and, and_true, forall_eq, forall_eq', exists_eq_left, exists_eq_left', Option.some.injEq, eq_self_iff_true, not_true, not_false_iff, false_implies, true_implies, forall_const, reduceCtorEq, ne_eq]
      refine ⟨fun z => absurd z (nI_ge (by omega) (by omega)), fun _ => c_isBy hL hl h16 (by omega) ho ?_⟩
      rw [← hF s (by omega), bI0]
      unfold wB_X12_liars_131 wB_X12_liars_126 wB_X12_liars_133
      simp only [nI_1, enO_none (o := lfo F s) (fun b hb => by have := hlt b hb; omega), ↓reduceIte, Nat.reduceEqDiff, and_false, false_and, true_and, and_true, forall_eq, forall_eq', exists_eq_left, exists_eq_left', Option.some.injEq, eq_self_iff_true, not_true, not_false_iff, false_implies, true_implies, forall_const, reduceCtorEq, ne_eq]
      unfold lS at nx
      refine ⟨fun z => ?_, fun z => ?_⟩
      · rw [if_neg (by rw [z]; decide)] at nx; exact nx
      · rw [if_pos (by simpa using z)] at nx
        cases ho : lfo F s with
        | none =>
          rw [ho] at nx
          exact ⟨fun _ => nx, fun q => absurd rfl q⟩
        | some b =>
          rw [ho] at nx
          have hb := hlt b ho
          refine ⟨(fun q => nomatch q), fun _ => c_bits (c_bits ?_)⟩
          rw [show enO (some b) = nI b from rfl, bts32 b (by omega), bts32 s (by omega)]
          refine ⟨fun q => ?_, fun q => ?_⟩
          · simp only [if_pos q] at nx; exact nx
          · simp only [if_neg q] at nx; exact nx
  exact ⟨_, key (2 ^ m) 0 (by omega)⟩
theorem c_setsWith {Q : Int32 → hp → Prop} {S : hp} {n j b0 : Nat} {F : Nat → Bool} (hn : n ≤ 32) (hj : j < 5) (h : Q (ct (fun s => decide (s / 2 ^ j % 2 = 1) && F s) n) S) : wp_X2_setsWith Q S b0 (nI (mk2 F n)) (nI j) := by
  obtain ⟨P, hP⟩ : ∃ P : Nat → Bool, P = fun s => decide (s < n) && (decide (s / 2 ^ j % 2 = 1) && F s) := ⟨_, rfl⟩
  have hPs : ∀ s, P s = true ↔ (s < n ∧ (decide (s / 2 ^ j % 2 = 1) && F s) = true) := fun s => by rw [hP]; simp
  have h32 : Q (ct P 32) S := by rw [ct_nct, nct_cut hPs 32 hn, ← ct_nct]; exact h
  have key : ∀ t s, s + t = 32 → wl_X2_setsWith_5 Q (t + 1) S (nI (mk2 F n)) (nI j) (ct P s) (nI s) := by
    intro t
    induction t with
    | zero =>
      intro s hs
      have : s = 32 := by omega
      subst this
      exact ⟨fun _ => h32, fun q => absurd (nI_le (a := 32) (b := 32) (by omega) (by omega)) q⟩
    | succ t ih =>
      intro s hs
      have nx := ih (s + 1) (by omega)
      have hps := hPs s
      unfold wl_X2_setsWith_5 wB_X2_setsWith_5 wB_X2_setsWith_33 wp_X2_has
      simp only [has_mk2 hn (show s < 32 by omega), has5 s (show s < 32 by omega) j hj, nI_1, i1_ne0, ↓reduceIte, Nat.reduceEqDiff, and_false, false_and, true_and, and_true, forall_eq, forall_eq', exists_eq_left, exists_eq_left', Option.some.injEq, eq_self_iff_true, not_true, not_false_iff, false_implies, true_implies, forall_const, reduceCtorEq, ne_eq]
      refine ⟨fun z => absurd z (nI_ge (a := s) (b := 32) (by omega) (by omega)), fun _ => ⟨fun z => ?_, fun z => ⟨fun z2 => ?_, fun z2 => ?_⟩⟩⟩
      · rw [← ct_f (by
          cases e : P s with
          | false => rfl
          | true => exact absurd (by have := hps.mp e; simp at this; exact ⟨this.1, this.2.2⟩) z)] at nx
        exact nx
      · rw [← ct_f (by
          cases e : P s with
          | false => rfl
          | true => exact absurd (by have := hps.mp e; simp at this; exact this.2.1) z2)] at nx
        exact nx
      · rw [← ct_t (hps.mpr ⟨z.1, by simp [z2, z.2]⟩)] at nx
        exact nx
  exact ⟨33, key 32 0 (by omega)⟩
