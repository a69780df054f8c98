/-- all of the first n -/
def al (f : Nat → Bool) : Nat → Bool
  | 0 => true
  | n + 1 => al f n && f n
theorem al_f {f : Nat → Bool} {k : Nat} (h : f k = false) : ∀ {n : Nat}, k < n → al f n = false
  | 0, q => absurd q (by omega)
  | n + 1, q => by
    show (al f n && f n) = false
    by_cases e : k = n
    · subst e; rw [h, Bool.and_false]
    · rw [al_f h (n := n) (by omega), Bool.false_and]
theorem al_s {f : Nat → Bool} {n : Nat} (h : al f n = true) (h2 : f n = true) : al f (n + 1) = true := by
  show (al f n && f n) = true; rw [h, h2]; rfl
theorem al_congr {f g : Nat → Bool} : ∀ {n : Nat}, (∀ k, k < n → f k = g k) → al f n = al g n
  | 0, _ => rfl
  | n + 1, h => by
    show (al f n && f n) = (al g n && g n)
    rw [al_congr (n := n) (fun k hk => h k (by omega)), h n (by omega)]
/-- the dummy that stands at p once a and b are exchanged -/
def exA (a b p : Nat) : Nat := if p = a then b else if p = b then a else p
theorem exA_lt {a b p d : Nat} (ha : a < d) (hb : b < d) (hp : p < d) : exA a b p < d := by
  unfold exA
  by_cases e : p = a
  · rw [if_pos e]; exact hb
  · rw [if_neg e]
    by_cases e2 : p = b
    · rw [if_pos e2]; exact ha
    · rw [if_neg e2]; exact hp
def gvF (A B : Nat → Int32) (a b k : Nat) : Bool := decide (A (3 * exA a b (k / 3) + k % 3) = B k)
theorem gvF_at {A B : Nat → Int32} {a b p q : Nat} (hq : q < 3) : gvF A B a b (3 * p + q) = decide (A (3 * exA a b p + q) = B (3 * p + q)) := by
  unfold gvF
  rw [show (3 * p + q) / 3 = p by omega, show (3 * p + q) % 3 = q by omega]
theorem c_gives {Q : Int32 → hp → Prop} {S : hp} {d r i0 a b : Nat} (hL : Lay S) (vS : SL S 16) (hd : hI S 16 7 = nI d) (hd4 : d ≤ 4) (ha : a < d) (hb : b < d) (hr : r < 8) (hi : i0 + 3 * d ≤ 40) (h : Q (bI (al (gvF (hI S 17) (fun k => hI S (3 + r) (i0 + k)) a b) (3 * d))) S) : wp_X2_gives Q S 16 (nI a) (nI b) 1 (nI r) (nI i0) := by
  obtain ⟨g1, g2, g3⟩ := hL.grid hr
  obtain ⟨F, hF⟩ : ∃ F, F = gvF (hI S 17) (fun k => hI S (3 + r) (i0 + k)) a b := ⟨_, rfl⟩
  rw [← hF] at h
  have key : ∀ t p, p + t = d → al F (3 * p) = true → wl_X2_gives_3 Q (t + 1) S 16 (nI a) (nI b) 1 (nI r) (nI i0) (nI p) := by
    intro t
    induction t with
    | zero =>
      intro p hp hal
      have : p = d := by omega
      subst this
      unfold wl_X2_gives_3 wB_X2_gives_3
      simp only [vS.eqs, hd, ↓reduceIte, Nat.reduceEqDiff, and_false, false_and, true_and, and_true, forall_eq, forall_eq', exists_eq_left, exists_eq_left', Option.some.injEq, eq_self_iff_true, not_true, not_false_iff, false_implies, true_implies, forall_const, reduceCtorEq, ne_eq]
      rw [hal] at h
      exact ⟨fun _ => h, fun q => absurd (nI_le (Nat.le_refl _) (by omega)) q⟩
    | succ t ih =>
      intro p hp hal
      have nx := ih (p + 1) (by omega)
      have inner : ∀ s q, q + s = 3 → al F (3 * p + q) = true → wl_X2_gives_39 (wl_X2_gives_3 Q (t + 1)) Q (s + 1) S 16 (nI a) (nI b) 1 (nI r) (nI i0) (nI p) (nI (exA a b p)) (nI q) := by
        intro s
        induction s with
        | zero =>
          intro q hq hal2
          have : q = 3 := by omega
          subst this
          unfold wl_X2_gives_39 wB_X2_gives_39
          refine ⟨fun _ => ?_, fun q => absurd (nI_le (a := 3) (b := 3) (by omega) (by omega)) q⟩
          simp only [nI_1, ↓reduceIte, Nat.reduceEqDiff, and_false, false_and, true_and, and_true, forall_eq, forall_eq', exists_eq_left, exists_eq_left', Option.some.injEq, eq_self_iff_true, not_true, not_false_iff, false_implies, true_implies, forall_const, reduceCtorEq, ne_eq]
          exact nx hal2
        | succ s ihs =>
          intro q hq hal2
          have nq := ihs (q + 1) (by omega)
          have hx := exA_lt ha hb (show p < d by omega)
          unfold wl_X2_gives_39 wB_X2_gives_39
          refine ⟨fun z => absurd z (nI_ge (a := q) (b := 3) (by omega) (by omega)), fun _ => e_at.mpr ?_⟩
          unfold wp_X6_item
          simp only [hL.eqs, nI_add, show vp_in (nI r) 8 from vp_in_nI hr (by omega), nI_clamp (show r < 2 ^ 31 by omega), g1, g2, g3, show vp_in (nI (i0 + (3 * p + q))) 40 from vp_in_nI (by omega) (by omega), nI_clamp (show i0 + (3 * p + q) < 2 ^ 31 by omega), e_at, vS.eqs, show vp_in (nI (3 * exA a b p + q)) 12 from vp_in_nI (by omega) (by omega), nI_clamp (show 3 * exA a b p + q < 2 ^ 31 by omega), nI_1, ↓reduceIte, Nat.reduceEqDiff, and_false, false_and, true_and, and_true, forall_eq, forall_eq', exists_eq_left, exists_eq_left', Option.some.injEq, eq_self_iff_true, not_true, not_false_iff, false_implies, true_implies, forall_const, reduceCtorEq, ne_eq]
          have eF : F (3 * p + q) = decide (hI S 17 (3 * exA a b p + q) = hI S (3 + r) (i0 + (3 * p + q))) := by rw [hF]; exact gvF_at (by omega)
          refine ⟨fun z => nq (al_s (n := 3 * p + q) hal2 (eF.trans (by simpa using z))), fun z => ?_⟩
          have : al F (3 * d) = false := al_f (k := 3 * p + q) (by rw [eF]; simpa using z) (by omega)
          rw [this] at h
          exact h
      have i0' := inner 3 0 (by omega) hal
      unfold wl_X2_gives_3 wB_X2_gives_3 wB_X2_gives_34
      simp only [vS.eqs, hd, ↓reduceIte, Nat.reduceEqDiff, and_false, false_and, true_and, and_true, forall_eq, forall_eq', exists_eq_left, exists_eq_left', Option.some.injEq, eq_self_iff_true, not_true, not_false_iff, false_implies, true_implies, forall_const, reduceCtorEq, ne_eq]
      refine ⟨fun z => absurd z (nI_ge (by omega) (by omega)), fun _ => ⟨fun z => ⟨fun z2 => ⟨4, ?_⟩, fun z2 => ⟨4, ?_⟩⟩, fun z => ⟨4, ?_⟩⟩⟩
      · rw [show exA a b p = p by unfold exA; rw [if_neg (fun e => z (by rw [e])), if_neg (fun e => z2 (by rw [e]))]] at i0'
        exact i0'
      · have e1 : ¬ p = a := fun e => z (by rw [e])
        have e2 : p = b := (nI_eq (by omega) (by omega)).mp z2
        rw [show exA a b p = a by unfold exA; rw [if_neg e1, if_pos e2]] at i0'
        exact i0'
      · have e2 : p = a := (nI_eq (by omega) (by omega)).mp z
        rw [show exA a b p = b by unfold exA; rw [if_pos e2]] at i0'
        exact i0'
  exact ⟨d + 1, key d 0 (by omega) rfl⟩
def ins (G : Nat → Nat → Bool) (a b : Nat) (z : Int32 × Int32) : Int32 × Int32 := if a < b ∧ G a b = true then (z.1 + 1, if z.2 = -1000000 then (4 : Int32) * nI a + nI b else z.2) else z
def outs (G : Nat → Nat → Bool) (d a : Nat) (z : Int32 × Int32) : Int32 × Int32 := fo (ins G a) d z
def tots (G : Nat → Nat → Bool) (d n : Nat) : Int32 × Int32 := fo (outs G d) n (0, -1000000)
theorem ins_0 (G : Nat → Nat → Bool) (a : Nat) (z : Int32 × Int32) : ∀ n, n ≤ a + 1 → fo (ins G a) n z = z
  | 0, _ => rfl
  | n + 1, h => by
    show ins G a n (fo (ins G a) n z) = z
    rw [ins_0 G a z n (by omega)]
    unfold ins
    rw [if_neg (fun q => by omega)]
theorem ins_t {G : Nat → Nat → Bool} {a b : Nat} {z : Int32 × Int32} (h : a < b) (hg : G a b = true) : fo (ins G a) (b + 1) z = ((fo (ins G a) b z).1 + 1, if (fo (ins G a) b z).2 = -1000000 then (4 : Int32) * nI a + nI b else (fo (ins G a) b z).2) := by
  show ins G a b _ = _
  unfold ins
  rw [if_pos ⟨h, hg⟩]
theorem ins_f {G : Nat → Nat → Bool} {a b : Nat} {z : Int32 × Int32} (hg : G a b = false) : fo (ins G a) (b + 1) z = fo (ins G a) b z := by
  show ins G a b _ = _
  unfold ins
  rw [if_neg (fun q => by rw [hg] at q; cases q.2)]
theorem c_swapsThatGive {Q : Int32 → hp → Prop} {S : hp} {d r i0 b0 : Nat} {w : Int32} {G : Nat → Nat → Bool} (hL : Lay S) (vS : SL S 16) (hd : hI S 16 7 = nI d) (hd4 : d ≤ 4) (hr : r < 8) (hi : i0 + 3 * d ≤ 40) (hG : ∀ a b, G a b = al (gvF (hI S 17) (fun k => hI S (3 + r) (i0 + k)) a b) (3 * d)) (h : Q (if w = 0 then (tots G d d).1 else (tots G d d).2) S) : wp_X2_swapsThatGive Q S b0 16 1 (nI r) (nI i0) w := by
  have key : ∀ t a, a + t = d → wl_X2_swapsThatGive_10 Q (t + 1) S 16 1 (nI r) (nI i0) w (tots G d a).1 (tots G d a).2 (nI a) := by
    intro t
    induction t with
    | zero =>
      intro a hj
      have : a = d := by omega
      subst this
      unfold wl_X2_swapsThatGive_10 wB_X2_swapsThatGive_10
      simp only [vS.eqs, hd, ↓reduceIte, Nat.reduceEqDiff, and_false, false_and, true_and, and_true, forall_eq, forall_eq', exists_eq_left, exists_eq_left', Option.some.injEq, eq_self_iff_true, not_true, not_false_iff, false_implies, true_implies, forall_const, reduceCtorEq, ne_eq]
      refine ⟨fun _ => ⟨fun q => ?_, fun q => ?_⟩, fun q => absurd (nI_le (Nat.le_refl _) (by omega)) q⟩
      · rw [if_neg q] at h; exact h
      · rw [if_pos q] at h; exact h
    | succ t ih =>
      intro a hj
      have nx := ih (a + 1) (by omega)
      have inner : ∀ s b, b + s = d → a < b → wl_X2_swapsThatGive_25 (wl_X2_swapsThatGive_10 Q (t + 1)) Q (s + 1) S 16 1 (nI r) (nI i0) w (fo (ins G a) b (tots G d a)).1 (fo (ins G a) b (tots G d a)).2 (nI a) (nI b) := by
        intro s
        induction s with
        | zero =>
          intro b hb hab
          have : b = d := by omega
          subst this
          unfold wl_X2_swapsThatGive_25 wB_X2_swapsThatGive_25
          simp only [vS.eqs, hd, nI_1, ↓reduceIte, Nat.reduceEqDiff, and_false, false_and, true_and, and_true, forall_eq, forall_eq', exists_eq_left, exists_eq_left', Option.some.injEq, eq_self_iff_true, not_true, not_false_iff, false_implies, true_implies, forall_const, reduceCtorEq, ne_eq]
          exact ⟨fun _ => nx, fun q => absurd (nI_le (Nat.le_refl _) (by omega)) q⟩
        | succ s ihs =>
          intro b hb hab
          have nb := ihs (b + 1) (by omega) (by omega)
          unfold wl_X2_swapsThatGive_25 wB_X2_swapsThatGive_25 wB_X2_swapsThatGive_71 wB_X2_swapsThatGive_73
          simp only [vS.eqs, hd, nI_1, ↓reduceIte, Nat.reduceEqDiff, and_false, false_and, true_and, and_true, forall_eq, forall_eq', exists_eq_left, exists_eq_left', Option.some.injEq, eq_self_iff_true, not_true, not_false_iff, false_implies, true_implies, forall_const, reduceCtorEq, ne_eq]
          refine ⟨fun z => absurd z (nI_ge (by omega) (by omega)), fun _ => c_gives hL vS hd hd4 (by omega) (by omega) hr hi ?_⟩
          rw [← hG, bI0]
          refine ⟨fun z => ?_, fun z => ?_⟩
          · rw [ins_f z] at nb; exact nb
          · rw [ins_t hab (by simpa using z)] at nb
            refine ⟨fun z2 => ?_, fun z2 => ?_⟩
            · rw [if_neg z2] at nb; exact nb
            · rw [if_pos z2] at nb; exact nb
      have i1 := inner (d - (a + 1)) (a + 1) (by omega) (by omega)
      rw [ins_0 G a _ (a + 1) (Nat.le_refl _)] at i1
      unfold wl_X2_swapsThatGive_10 wB_X2_swapsThatGive_10
      simp only [vS.eqs, hd, nI_1, ↓reduceIte, Nat.reduceEqDiff, and_false, false_and, true_and, and_true, forall_eq, forall_eq', exists_eq_left, exists_eq_left', Option.some.injEq, eq_self_iff_true, not_true, not_false_iff, false_implies, true_implies, forall_const, reduceCtorEq, ne_eq]
      exact ⟨fun z => absurd z (nI_ge (by omega) (by omega)), fun _ => ⟨_, i1⟩⟩
  exact ⟨d + 1, key d 0 (by omega)⟩
theorem nI_div3 : ∀ k, k < 12 → nI k / (3 : Int32) = nI (k / 3) ∧ nI k - nI (k / 3) * (3 : Int32) = nI (k % 3) := by decide
theorem c_swapsM {Q : Int32 → hp → Prop} {S : hp} {d r i0 : Nat} {w : Int32} {G : Nat → Nat → Bool} (hL : Lay S) (hd : hI S 39 2 = nI d) (hd4 : d ≤ 4) (hr : r < 8) (hi : i0 + 3 * d ≤ 40) (hG : ∀ a b, a < d → b < d → G a b = al (gvF (fun k => hI S 39 (5 + k)) (fun k => hI S 38 (40 * r + i0 + k)) a b) (3 * d)) (h : Q (if w = 0 then (tots G d d).1 else (tots G d d).2) S) : ∃ n, wl_X12_swaps_69 Q n S 35 (nI r) (nI i0) w 0 (-1000000) 0 := by
  have e3 : (3 : Int32) * nI d = nI (3 * d) := by rw [← nI_mul]; rfl
  have key : ∀ t a, a + t = d → wl_X12_swaps_69 Q (t + 1) S 35 (nI r) (nI i0) w (tots G d a).1 (tots G d a).2 (nI a) := by
    intro t
    induction t with
    | zero =>
      intro a hj
      have : a = d := by omega
      subst this
      unfold wl_X12_swaps_69 wB_X12_swaps_69
      simp only [hL.eqs, vi2, cl2, hd, ↓reduceIte, Nat.reduceEqDiff, and_false, false_and, true_and, and_true, forall_eq, forall_eq', exists_eq_left, exists_eq_left', Option.some.injEq, eq_self_iff_true, not_true, not_false_iff, false_implies, true_implies, forall_const, reduceCtorEq, ne_eq]
      refine ⟨fun _ => ⟨fun q => ?_, fun q => ?_⟩, fun q => absurd (nI_le (Nat.le_refl _) (by omega)) q⟩
      · rw [if_neg q] at h; exact h
      · rw [if_pos q] at h; exact h
    | succ t ih =>
      intro a hj
      have nx := ih (a + 1) (by omega)
      have inner : ∀ s b, b + s = d → a < b → wl_X12_swaps_86 (wl_X12_swaps_69 Q (t + 1)) Q (s + 1) S 35 (nI r) (nI i0) w (fo (ins G a) b (tots G d a)).1 (fo (ins G a) b (tots G d a)).2 (nI a) (nI b) := by
        intro s
        induction s with
        | zero =>
          intro b hb hab
          have : b = d := by omega
          subst this
          unfold wl_X12_swaps_86 wB_X12_swaps_86
          simp only [hL.eqs, vi2, cl2, hd, nI_1, ↓reduceIte, Nat.reduceEqDiff, and_false, false_and, true_and, and_true, forall_eq, forall_eq', exists_eq_left, exists_eq_left', Option.some.injEq, eq_self_iff_true, not_true, not_false_iff, false_implies, true_implies, forall_const, reduceCtorEq, ne_eq]
          exact ⟨fun _ => nx, fun q => absurd (nI_le (Nat.le_refl _) (by omega)) q⟩
        | succ s ihs =>
          intro b hb hab
          have nb := ihs (b + 1) (by omega) (by omega)
          obtain ⟨F, hF⟩ : ∃ F, F = gvF (fun k => hI S 39 (5 + k)) (fun k => hI S 38 (40 * r + i0 + k)) a b := ⟨_, rfl⟩
          have hGF : G a b = al F (3 * d) := by rw [hF]; exact hG a b (by omega) (by omega)
          have deep : ∀ u k, k + u = 3 * d → wl_X12_swaps_103 (wl_X12_swaps_69 Q (t + 1)) (wl_X12_swaps_86 (wl_X12_swaps_69 Q (t + 1)) Q (s + 1)) Q (u + 1) S 35 (nI r) (nI i0) w (fo (ins G a) b (tots G d a)).1 (fo (ins G a) b (tots G d a)).2 (nI a) (nI b) (bI (al F k)) (nI k) := by
            intro u
            induction u with
            | zero =>
              intro k hk
              have : k = 3 * d := by omega
              subst this
              unfold wl_X12_swaps_103 wB_X12_swaps_103 wB_X12_swaps_228 wB_X12_swaps_230 wB_X12_swaps_244
              simp only [hL.eqs, vi2, cl2, hd, e3, nI_1, bI0, ← hGF, Int32.add_zero, ↓reduceIte, Nat.reduceEqDiff, and_false, false_and, true_and, and_true, forall_eq, forall_eq', exists_eq_left, exists_eq_left', Option.some.injEq, eq_self_iff_true, not_true, not_false_iff, false_implies, true_implies, forall_const, reduceCtorEq, ne_eq]
              refine ⟨fun _ => ?_, fun q => absurd (nI_le (Nat.le_refl _) (by omega)) q⟩
              refine ⟨fun z => ⟨fun _ => ?_, fun z2 => absurd z z2⟩, fun z => ⟨fun z2 => ⟨fun z3 => absurd z3 z, fun _ => ?_⟩, fun z2 => ⟨fun z3 => absurd z3 z, fun _ => ?_⟩⟩⟩
              · rw [ins_f z] at nb; exact nb
              · rw [ins_t hab (by simpa using z), if_neg z2] at nb; exact nb
              · rw [ins_t hab (by simpa using z), if_pos z2] at nb; exact nb
            | succ u ihu =>
              intro k hk
              have nk := ihu (k + 1) (by omega)
              obtain ⟨d1, d2⟩ := nI_div3 k (by omega)
              have h3 : k / 3 < d := by omega
              have hx := exA_lt (show a < d by omega) (show b < d by omega) h3
              have fin : wB_X12_swaps_160 (wl_X12_swaps_69 Q (t + 1)) (wl_X12_swaps_86 (wl_X12_swaps_69 Q (t + 1)) Q (s + 1)) (wl_X12_swaps_103 (wl_X12_swaps_69 Q (t + 1)) (wl_X12_swaps_86 (wl_X12_swaps_69 Q (t + 1)) Q (s + 1)) Q (u + 1)) Q S 35 (nI r) (nI i0) w (fo (ins G a) b (tots G d a)).1 (fo (ins G a) b (tots G d a)).2 (nI a) (nI b) (bI (al F k)) (nI k) (nI (3 * exA a b (k / 3) + k % 3)) := by
                unfold wB_X12_swaps_160 wB_X12_swaps_197 wB_X12_swaps_198
                have a5 : (5 : Int32) + nI (3 * exA a b (k / 3) + k % 3) = nI (5 + (3 * exA a b (k / 3) + k % 3)) := nI_add 5 _
                have a6 : (40 : Int32) * nI r + nI i0 + nI k = nI (40 * r + i0 + k) := by rw [← nI_add, ← nI_add, ← nI_mul]; rfl
                simp only [hL.eqs, a5, a6, bI0, nI_1, show vp_in (nI (5 + (3 * exA a b (k / 3) + k % 3))) 147 from vp_in_nI (by omega) (by omega), nI_clamp (show 5 + (3 * exA a b (k / 3) + k % 3) < 2 ^ 31 by omega), show vp_in (nI (40 * r + i0 + k)) 320 from vp_in_nI (by omega) (by omega), nI_clamp (show 40 * r + i0 + k < 2 ^ 31 by omega), ↓reduceIte, Nat.reduceEqDiff, and_false, false_and, true_and, and_true, forall_eq, forall_eq', exists_eq_left, exists_eq_left', Option.some.injEq, eq_self_iff_true, not_true, not_false_iff, false_implies, true_implies, forall_const, reduceCtorEq, ne_eq]
                have eF : F k = decide (hI S 39 (5 + (3 * exA a b (k / 3) + k % 3)) = hI S 38 (40 * r + i0 + k)) := by rw [hF]; rfl
                refine ⟨fun z => ?_, fun z => ⟨fun z2 => ?_, fun z2 => ?_⟩⟩
                · rw [show al F (k + 1) = false by show (al F k && F k) = false; rw [z]; rfl] at nk; exact nk
                · rw [al_f (f := F) (k := k) (n := k + 1) (by rw [eF]; simpa using z2) (by omega)] at nk; exact nk
                · rw [al_s (f := F) (n := k) (by simpa using z) (by rw [eF]; simpa using z2)] at nk; exact nk
              have m3 : ∀ x, (3 : Int32) * nI x + nI (k % 3) = nI (3 * x + k % 3) := fun x => by rw [← nI_add, ← nI_mul]; rfl
              unfold wl_X12_swaps_103 wB_X12_swaps_103
              simp only [hL.eqs, vi2, cl2, hd, e3, d1, d2, m3, ↓reduceIte, Nat.reduceEqDiff, and_false, false_and, true_and, and_true, forall_eq, forall_eq', exists_eq_left, exists_eq_left', Option.some.injEq, eq_self_iff_true, not_true, not_false_iff, false_implies, true_implies, forall_const, reduceCtorEq, ne_eq]
              refine ⟨fun z => absurd z (nI_ge (by omega) (by omega)), fun _ => ⟨fun z => ⟨fun z2 => ?_, fun z2 => ?_⟩, fun z => ?_⟩⟩
              · rw [show exA a b (k / 3) = k / 3 by unfold exA; rw [if_neg (fun e => z (by rw [e])), if_neg (fun e => z2 (by rw [e]))], show 3 * (k / 3) + k % 3 = k by omega] at fin
                exact fin
              · have e1 : ¬ k / 3 = a := fun e => z (by rw [e])
                have e2 : k / 3 = b := (nI_eq (by omega) (by omega)).mp z2
                rw [show exA a b (k / 3) = a by unfold exA; rw [if_neg e1, if_pos e2]] at fin
                exact fin
              · have e2 : k / 3 = a := (nI_eq (by omega) (by omega)).mp z
                rw [show exA a b (k / 3) = b by unfold exA; rw [if_pos e2]] at fin
                exact fin
          unfold wl_X12_swaps_86 wB_X12_swaps_86
          simp only [hL.eqs, vi2, cl2, hd, ↓reduceIte, Nat.reduceEqDiff, and_false, false_and, true_and, and_true, forall_eq, forall_eq', exists_eq_left, exists_eq_left', Option.some.injEq, eq_self_iff_true, not_true, not_false_iff, false_implies, true_implies, forall_const, reduceCtorEq, ne_eq]
          exact ⟨fun z => absurd z (nI_ge (by omega) (by omega)), fun _ => ⟨_, deep (3 * d) 0 (by omega)⟩⟩
      have i1 := inner (d - (a + 1)) (a + 1) (by omega) (by omega)
      rw [ins_0 G a _ (a + 1) (Nat.le_refl _)] at i1
      unfold wl_X12_swaps_69 wB_X12_swaps_69
      simp only [hL.eqs, vi2, cl2, hd, nI_1, ↓reduceIte, Nat.reduceEqDiff, and_false, false_and, true_and, and_true, forall_eq, forall_eq', exists_eq_left, exists_eq_left', Option.some.injEq, eq_self_iff_true, not_true, not_false_iff, false_implies, true_implies, forall_const, reduceCtorEq, ne_eq]
      exact ⟨fun z => absurd z (nI_ge (by omega) (by omega)), fun _ => ⟨_, i1⟩⟩
  exact ⟨d + 1, key d 0 (by omega)⟩
theorem Rel.both' {S : hp} (h : Rel S) (v : Int32) : Rel (setI (setI (setI S 0 11 v) 35 0 0) 35 1 v) :=
  h.flds (by repeat' (first | with_reducible apply Fr.setI | with_reducible apply Fr.putA | with_reducible apply Fr.setR | with_reducible apply Fr.cpyI | with_reducible apply Fr.newC | with_reducible exact Fr.rfl' | (simp; done) | (simp; omega))) rfl (by simp [hI_setI]) (by simp [hI_setI]; exact h.2.2.2.1.2) (by simp [hI_setI]) (by simp [hI_setI]) (by simp [hI_setI]) (by simp [hI_setI]) (by simp [hI_setI])
theorem p_swaps : st_swaps Rel := by
  intro S h x1 x2 x3
  obtain ⟨d, m, l, ⟨hd, hm, hl⟩, v2, v3, v4, v5, v6, v7, v8, vS⟩ := h.view
  have e3 : (3 : Int32) * nI d = nI (3 * d) := by rw [← nI_mul]; rfl
  refine ⟨h.1.eqs.1, ?_⟩
  obtain ⟨Q, hQ⟩ : ∃ Q : Int32 → hp → Prop, Q = fun (r : Int32) (S1 : hp) => hK S1 35 = 11 ∧ wp_X12_swaps (fun r2 S2 => r = r2 ∧ Rel S2) S1 35 x1 x2 x3 := ⟨_, rfl⟩
  rw [← hQ]
  unfold wp_X11_swaps wp_X11_answered wp_X11_found
  simp only [h.1.eqs, v2, e_isRow, e_isFOS, bI0, e3, ↓reduceIte, Nat.reduceEqDiff, and_false, false_and, true_and, and_true, forall_eq, forall_eq', exists_eq_left, exists_eq_left', Option.some.injEq, eq_self_iff_true, not_true, not_false_iff, false_implies, true_implies, forall_const, reduceCtorEq, ne_eq]
  rcases v3 with ⟨s0, -⟩ | ⟨s1, -⟩
  · simp only [s0, ↓reduceIte, Nat.reduceEqDiff, and_false, false_and, true_and, and_true, forall_eq, forall_eq', exists_eq_left, exists_eq_left', Option.some.injEq, eq_self_iff_true, not_true, not_false_iff, false_implies, true_implies, forall_const, reduceCtorEq, ne_eq]
    simp only [hQ, wp_X12_swaps, h.1.eqs, e_isThereM (lay0 h.1), bI0, hI_setI, s0, show ((0 : Int32) = 1) = False from eq_false (by decide), decide_false, hK_putA, hN_putA, hR_putA, hC_putA, hK_setI, hN_setI, hR_setI, hC_setI, hI_setI, hK_setR, hN_setR, hI_setR, hC_setR, hR_setR, hK_cpyI, hN_cpyI, hR_cpyI, hC_cpyI, hI_cpyI, ↓reduceIte, Nat.reduceEqDiff, and_false, false_and, true_and, and_true, forall_eq, forall_eq', exists_eq_left, exists_eq_left', Option.some.injEq, eq_self_iff_true, not_true, not_false_iff, false_implies, true_implies, forall_const, reduceCtorEq, ne_eq]
    exact h.thr 0
  · simp only [s1, i1_ne0, ↓reduceIte, Nat.reduceEqDiff, and_false, false_and, true_and, and_true, forall_eq, forall_eq', exists_eq_left, exists_eq_left', Option.some.injEq, eq_self_iff_true, not_true, not_false_iff, false_implies, true_implies, forall_const, reduceCtorEq, ne_eq]
    cases hb : rg x1 0 7 with
    | false =>
      simp only [↓reduceIte, Nat.reduceEqDiff, and_false, false_and, true_and, and_true, forall_eq, forall_eq', exists_eq_left, exists_eq_left', Option.some.injEq, eq_self_iff_true, not_true, not_false_iff, false_implies, true_implies, forall_const, reduceCtorEq, ne_eq]
      simp [hQ, wp_X12_swaps, h.1.eqs, e_isThereM (lay0 h.1), e_isRowM, bI0, hI_setI, s1, hb, hK_putA, hN_putA, hR_putA, hC_putA, hK_setI, hN_setI, hR_setI, hC_setI, hI_setI, hK_setR, hN_setR, hI_setR, hC_setR, hR_setR, hK_cpyI, hN_cpyI, hR_cpyI, hC_cpyI, hI_cpyI]
      exact h.thr 0
    | true =>
      cases hb2 : rg x3 0 1 with
      | false =>
        simp only [Bool.true_eq_false, ↓reduceIte, Nat.reduceEqDiff, and_false, false_and, true_and, and_true, forall_eq, forall_eq', exists_eq_left, exists_eq_left', Option.some.injEq, eq_self_iff_true, not_true, not_false_iff, false_implies, true_implies, forall_const, reduceCtorEq, ne_eq]
        simp [hQ, wp_X12_swaps, h.1.eqs, e_isThereM (lay0 h.1), e_isRowM, e_in, l64_0, l64_1, l64_2, l64_5, l64_6, l64_7, l64_m1, l64_99, l64_m99, l64_255, l64_999, l64_m999, l64_297, l64_200, l64_m200, l64_97, l64_122, l64_48, l64_57, Int32.toInt_toInt64, bI0, hI_setI, s1, hb, hb2, hK_putA, hN_putA, hR_putA, hC_putA, hK_setI, hN_setI, hR_setI, hC_setI, hI_setI, hK_setR, hN_setR, hI_setR, hC_setR, hR_setR, hK_cpyI, hN_cpyI, hR_cpyI, hC_cpyI, hI_cpyI]
        exact h.thr 0
      | true =>
        obtain ⟨r, hr, hr2, rfl⟩ := rg_nat hb
        have hr8 : r < 8 := by omega
        have hv : vp_in (nI r) 8 := vp_in_nI hr8 (by omega)
        have hcl : (nI r).toNatClampNeg = r := nI_clamp (by omega)
        obtain ⟨hA, hB, hC0, hD⟩ := h.2.1 r hr8
        have hz := rg_t.mp hC0
        have t3 : (nI (3 * d)).toInt = 3 * d := nI_toInt (by omega)
        simp only [Bool.true_eq_false, e_findingAt h.1 hr8 (by rw [hB]; exact hC0), h.1.eqs, v2, hK_putA, hN_putA, hR_putA, hC_putA, hK_setI, hN_setI, hR_setI, hC_setI, hI_setI, hK_setR, hN_setR, hI_setR, hC_setR, hR_setR, hK_cpyI, hN_cpyI, hR_cpyI, hC_cpyI, hI_cpyI, ↓reduceIte, Nat.reduceEqDiff, and_false, false_and, true_and, and_true, forall_eq, forall_eq', exists_eq_left, exists_eq_left', Option.some.injEq, eq_self_iff_true, not_true, not_false_iff, false_implies, true_implies, forall_const, reduceCtorEq, ne_eq]
        rcases hA with ⟨h1, h2⟩ | ⟨h1, h2, h3⟩
        · simp only [h1, fnd, decide_true, i1_ne0, ↓reduceIte, Nat.reduceEqDiff, and_false, false_and, true_and, and_true, forall_eq, forall_eq', exists_eq_left, exists_eq_left', Option.some.injEq, eq_self_iff_true, not_true, not_false_iff, false_implies, true_implies, forall_const, reduceCtorEq, ne_eq]
          simp only [hQ, wp_X12_swaps, wp_X12_noRow, wp_X12_finding, h.1.eqs, e_isThereM (S := setI (setI S 0 11 1) 35 0 0) h.1, e_isRowM, e_in, l64_0, l64_1, l64_2, l64_5, l64_6, l64_7, l64_m1, l64_99, l64_m99, l64_255, l64_999, l64_m999, l64_297, l64_200, l64_m200, l64_97, l64_122, l64_48, l64_57, Int32.toInt_toInt64, hb, hb2, bI0, vi2, cl2, s1, hv, hcl, h2, m1_neg, hI_setI, v2, e3, Bool.true_eq_false, decide_true, show (0 ≤ (-1000010 : Int32) - 1) = False from eq_false (by decide), hK_putA, hN_putA, hR_putA, hC_putA, hK_setI, hN_setI, hR_setI, hC_setI, hI_setI, hK_setR, hN_setR, hI_setR, hC_setR, hR_setR, hK_cpyI, hN_cpyI, hR_cpyI, hC_cpyI, hI_cpyI, ↓reduceIte, Nat.reduceEqDiff, and_false, false_and, true_and, and_true, forall_eq, forall_eq', exists_eq_left, exists_eq_left', Option.some.injEq, eq_self_iff_true, not_true, not_false_iff, false_implies, true_implies, forall_const, reduceCtorEq, ne_eq]
          exact h.both' 1
        · have h5 : (0 ≤ hI S 11 r) = True := by rw [t_le]; have := rg_t.mp h3; exact eq_true (show 0 ≤ (hI S 11 r).toInt by omega)
          cases hh : hold x2 (nI (3 * d)) (hI S 12 r) with
          | false =>
            rw [hB] at hh
            have nh : ¬ (0 ≤ x2.toInt ∧ 0 ≤ (nI (3 * d)).toInt ∧ x2.toInt + (nI (3 * d)).toInt ≤ (hI S 37 r).toInt) := fun q2 => by rw [hold_t.mpr q2] at hh; cases hh
            simp only [h1, fnd, i1_ne0, decide_false, Bool.false_eq_true, show ((2 : Int32) = 0) = False by decide, ↓reduceIte, Nat.reduceEqDiff, and_false, false_and, true_and, and_true, forall_eq, forall_eq', exists_eq_left, exists_eq_left', Option.some.injEq, eq_self_iff_true, not_true, not_false_iff, false_implies, true_implies, forall_const, reduceCtorEq, ne_eq]
            simp only [hQ, wp_X12_swaps, wp_X12_noRow, wB_X12_noRow_35, wp_X12_finding, h.1.eqs, e_isThereM (S := setI (setI S 0 11 2) 35 0 0) h.1, e_isRowM, e_in, l64_0, l64_1, l64_2, l64_5, l64_6, l64_7, l64_m1, l64_99, l64_m99, l64_255, l64_999, l64_m999, l64_297, l64_200, l64_m200, l64_97, l64_122, l64_48, l64_57, Int32.toInt_toInt64, hb, hb2, bI0, vi2, cl2, s1, hv, hcl, h2, h5, lg_lt, l_add, hI_setI, v2, e3, Bool.true_eq_false, decide_true, show (0 ≤ (-1000010 : Int32) - 2) = False from eq_false (by decide), show (0 ≤ (0 : Int32)) = True from eq_true (by decide), t_lt, c0, hK_putA, hN_putA, hR_putA, hC_putA, hK_setI, hN_setI, hR_setI, hC_setI, hI_setI, hK_setR, hN_setR, hI_setR, hC_setR, hR_setR, hK_cpyI, hN_cpyI, hR_cpyI, hC_cpyI, hI_cpyI, ↓reduceIte, Nat.reduceEqDiff, and_false, false_and, true_and, and_true, forall_eq, forall_eq', exists_eq_left, exists_eq_left', Option.some.injEq, eq_self_iff_true, not_true, not_false_iff, false_implies, true_implies, forall_const, reduceCtorEq, ne_eq]
            refine ⟨fun _ => h.both' 2, fun w1 => ⟨fun w2 => absurd ?_ nh, fun _ => h.both' 2⟩⟩
            omega
          | true =>
            rw [hB] at hh
            have ht := hold_t.mp hh
            obtain ⟨i, hi1, hi2, rfl⟩ := rg_nat (x := x2) (hi := 40) (rg_t.mpr (by omega))
            have ti := nI_toInt (n := i) (by omega)
            have hi : i + 3 * d ≤ 40 := by omega
            simp only [h1, fnd, i1_ne0, decide_false, Bool.false_eq_true, ↓reduceIte, Nat.reduceEqDiff, and_false, false_and, true_and, and_true, forall_eq, forall_eq', exists_eq_left, exists_eq_left', Option.some.injEq, eq_self_iff_true, not_true, not_false_iff, false_implies, true_implies, forall_const, reduceCtorEq, ne_eq]
            refine c_swapsThatGive h.1 vS v2.2.2.2.2.2.1 hd hr8 hi (G := fun a b => al (gvF (hI S 17) (fun k => hI S (3 + r) (i + k)) a b) (3 * d)) (fun _ _ => rfl) ?_
            simp only [hQ, h.1.eqs, hK_putA, hN_putA, hR_putA, hC_putA, hK_setI, hN_setI, hR_setI, hC_setI, hI_setI, hK_setR, hN_setR, hI_setR, hC_setR, hR_setR, hK_cpyI, hN_cpyI, hR_cpyI, hC_cpyI, hI_cpyI, ↓reduceIte, Nat.reduceEqDiff, and_false, false_and, true_and, and_true, forall_eq, forall_eq', exists_eq_left, exists_eq_left', Option.some.injEq, eq_self_iff_true, not_true, not_false_iff, false_implies, true_implies, forall_const, reduceCtorEq, ne_eq]
            simp only [wp_X12_swaps, wp_X12_noRow, h.1.eqs, e_isThereM (S := setI (setI S 0 11 0) 35 0 0) h.1, e_isRowM, e_in, l64_0, l64_1, l64_2, l64_5, l64_6, l64_7, l64_m1, l64_99, l64_m99, l64_255, l64_999, l64_m999, l64_297, l64_200, l64_m200, l64_97, l64_122, l64_48, l64_57, Int32.toInt_toInt64, hb, hb2, bI0, vi2, cl2, s1, hv, hcl, h2, h5, lg_lt, l_add, hI_setI, v2, e3, Bool.true_eq_false, decide_true, show (0 ≤ (0 : Int32)) = True from eq_true (by decide), t_lt, c0, show ¬ (nI i).toInt < 0 by omega, show (nI i).toInt + (nI (3 * d)).toInt ≤ (hI S 37 r).toInt by omega, hK_putA, hN_putA, hR_putA, hC_putA, hK_setI, hN_setI, hR_setI, hC_setI, hI_setI, hK_setR, hN_setR, hI_setR, hC_setR, hR_setR, hK_cpyI, hN_cpyI, hR_cpyI, hC_cpyI, hI_cpyI, ↓reduceIte, Nat.reduceEqDiff, and_false, false_and, true_and, and_true, forall_eq, forall_eq', exists_eq_left, exists_eq_left', Option.some.injEq, eq_self_iff_true, not_true, not_false_iff, false_implies, true_implies, forall_const, reduceCtorEq, ne_eq]
            have F : Rel (setI (setI (setI S 0 11 0) 35 0 0) 35 1 0) := h.flds (by repeat' (first | with_reducible apply Fr.setI | with_reducible apply Fr.putA | with_reducible apply Fr.setR | with_reducible apply Fr.cpyI | with_reducible apply Fr.newC | with_reducible exact Fr.rfl' | (simp; done) | (simp; omega))) rfl (by simp [hI_setI]) (by simp [hI_setI]; exact h.2.2.2.1.2) (by simp [hI_setI]) (by simp [hI_setI]) (by simp [hI_setI]) (by simp [hI_setI]) (by simp [hI_setI])
            have x39 : hI (setI (setI (setI S 0 11 0) 35 0 0) 35 1 0) 39 = hI S 39 := by rw [hI_setI_ne (by decide), hI_setI_ne (by decide), hI_setI_ne (by decide)]
            have x38 : hI (setI (setI (setI S 0 11 0) 35 0 0) 35 1 0) 38 = hI S 38 := by rw [hI_setI_ne (by decide), hI_setI_ne (by decide), hI_setI_ne (by decide)]
            refine c_swapsM F.1 (by rw [x39]; exact v2.1) hd hr8 hi (fun a b ha hb => ?_) ⟨rfl, F⟩
            rw [x39, x38]
            refine al_congr (fun k hk => ?_)
            have hx := exA_lt ha hb (show k / 3 < d by omega)
            unfold gvF
            refine decide_eq_decide.mpr ?_
            show hI S 17 _ = hI S (3 + r) (i + k) ↔ hI S 39 _ = hI S 38 _
            rw [(v4 _ (by omega)).1, hD (i + k) (by omega), show 40 * r + (i + k) = 40 * r + i + k by omega]
