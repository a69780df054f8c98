theorem has5 : ∀ s, s < 32 → ∀ p, p < 5 → ((((nI s).toUInt32 >>> ((nI p).toUInt32 &&& Int32.toUInt32 31)).toInt32 &&& (1 : Int32)) = (1 : Int32) ↔ s / 2 ^ p % 2 = 1) := by decide +kernel
theorem c_slipOf {Q : Int32 → hp → Prop} {S : hp} {s pp : Nat} (hL : Lay S) (hs : s < 32) (hp : pp < 3) (h : Q (sm (slp (hI S 29) s pp) 5) S) : wp_X2_slipOf Q S 28 (nI s) (nI pp) := by
  have key : ∀ t j, j + t = 5 → wl_X2_slipOf_5 Q (t + 1) S 28 (nI s) (nI pp) (sm (slp (hI S 29) s pp) j) (nI j) := by
    intro t
    induction t with
    | zero =>
      intro j hj
      have : j = 5 := by omega
      subst this
      exact ⟨fun _ => h, fun q => absurd (nI_le (a := 5) (b := 5) (by omega) (by omega)) q⟩
    | succ t ih =>
      intro j hj
      have nx := ih (j + 1) (by omega)
      have e : sm (slp (hI S 29) s pp) (j + 1) = sm (slp (hI S 29) s pp) j + (if s / 2 ^ j % 2 = 1 then hI S 29 (3 * j + pp) else 0) := rfl
      rw [e] at nx
      unfold wl_X2_slipOf_5 wB_X2_slipOf_5 wB_X2_slipOf_36 wp_X2_has
      simp only [has5 s hs j (by omega), hL.eqs, e_at, show vp_in (nI (3 * j + pp)) 15 from vp_in_nI (by omega) (by omega), nI_clamp (show 3 * j + pp < 2 ^ 31 by omega), nI_1, i1_ne0, ↓reduceIte, Nat.reduceEqDiff, and_false, false_and, true_and, and_true, forall_eq, forall_eq', exists_eq_left, exists_eq_left', Option.some.injEq, eq_self_iff_true, not_true, not_false_iff, false_implies, true_implies, forall_const, reduceCtorEq, ne_eq]
      refine ⟨fun z => absurd z (nI_ge (a := j) (b := 5) (by omega) (by omega)), fun _ => ⟨fun z => ?_, fun z => ?_⟩⟩
      · rw [if_neg z] at nx; exact nx
      · rw [if_pos z] at nx; exact nx
  exact ⟨6, key 5 0 (by omega)⟩
def fit (w R : Nat → Int32) (pp : Nat) : Bool := decide (w pp = R pp)
def fits (W : Nat → Nat → Int32) (R : Nat → Int32) (s : Nat) : Bool := al (fit (W s) R) 3
theorem pow5 {m : Nat} (h : m ≤ 5) : 2 ^ m ≤ 32 := Nat.pow_le_pow_right (by omega) h
theorem c_fitting {Q : Int32 → hp → Prop} {S : hp} {m r i0 : Nat} (hL : Lay S) (vS : SL S 16) (hm : hI S 16 8 = nI m) (hm5 : m ≤ 5) (hr : r < 8) (hi : i0 + 3 ≤ 40) {F : Nat → Bool} (hF : ∀ s, s < 32 → F s = fits (fun s pp => sm (slp (hI S 29) s pp) 5) (fun pp => hI S (3 + r) (i0 + pp)) s) (h : Q (nI (mk2 F (2 ^ m))) S) : ∃ n, wl_X2_fittingSets_12 Q n S 28 16 1 (nI r) (nI i0) 0 0 := by
  obtain ⟨g1, g2, g3⟩ := hL.grid hr
  have hp := pow5 hm5
  have e1 : (1 : Int32) <<< (nI m &&& 31) = nI (2 ^ m) := sh1 m (by omega)
  have key : ∀ t s, s + t = 2 ^ m → wl_X2_fittingSets_12 Q (t + 1) S 28 16 1 (nI r) (nI i0) (nI (mk2 F s)) (nI s) := by
    intro t
    induction t with
    | zero =>
      intro s hs
      have : s = 2 ^ m := by omega
      subst this
      unfold wl_X2_fittingSets_12 wB_X2_fittingSets_12
      simp only [vS.eqs, hm, e1, ↓reduceIte, Nat.reduceEqDiff, and_false, false_and, true_and, and_true, forall_eq, forall_eq', exists_eq_left, exists_eq_left', Option.some.injEq, eq_self_iff_true, not_true, not_false_iff, false_implies, true_implies, forall_const, reduceCtorEq, ne_eq]
      exact ⟨fun _ => h, fun q => absurd (nI_le (Nat.le_refl _) (by omega)) q⟩
    | succ t ih =>
      intro s hs
      have nx := ih (s + 1) (by omega)
      obtain ⟨f, hf⟩ : ∃ f, f = fit (fun pp => sm (slp (hI S 29) s pp) 5) (fun pp => hI S (3 + r) (i0 + pp)) := ⟨_, rfl⟩
      have hFs : F s = al f 3 := by rw [hF s (by omega), hf]; rfl
      have inner : ∀ u pp, pp + u = 3 → wl_X2_fittingSets_29 (wl_X2_fittingSets_12 Q (t + 1)) Q (u + 1) S 28 16 1 (nI r) (nI i0) (nI (mk2 F s)) (nI s) (bI (al f pp)) (nI pp) := by
        intro u
        induction u with
        | zero =>
          intro pp hpp
          have : pp = 3 := by omega
          subst this
          unfold wl_X2_fittingSets_29 wB_X2_fittingSets_29 wB_X2_fittingSets_90
          simp only [bI0, nI_1, ← hFs, ↓reduceIte, Nat.reduceEqDiff, and_false, false_and, true_and, and_true, forall_eq, forall_eq', exists_eq_left, exists_eq_left', Option.some.injEq, eq_self_iff_true, not_true, not_false_iff, false_implies, true_implies, forall_const, reduceCtorEq, ne_eq]
          refine ⟨fun _ => ⟨fun z => ?_, fun z => ?_⟩, fun q => absurd (nI_le (a := 3) (b := 3) (by omega) (by omega)) q⟩
          · have : mk2 F (s + 1) = mk2 F s := by show mk2 F s + (if F s = true then 2 ^ s else 0) = _; rw [z]; rfl
            rw [this] at nx
            rw [show nI (mk2 F s) ||| 0 = nI (mk2 F s) from (nI_or _ 0).trans (by rw [Nat.or_zero])]
            exact nx
          · rw [mk2_or (by omega) (by simpa using z)]
            exact nx
        | succ u ihu =>
          intro pp hpp
          have np := ihu (pp + 1) (by omega)
          have ea : al f (pp + 1) = (al f pp && f pp) := rfl
          have ef : f pp = decide (sm (slp (hI S 29) s pp) 5 = hI S (3 + r) (i0 + pp)) := by rw [hf]; rfl
          rw [ea] at np
          unfold wl_X2_fittingSets_29 wB_X2_fittingSets_29 wB_X2_fittingSets_66 wB_X2_fittingSets_67
          simp only [bI0, nI_1, hL.eqs, ↓reduceIte, Nat.reduceEqDiff, and_false, false_and, true_and, and_true, forall_eq, forall_eq', exists_eq_left, exists_eq_left', Option.some.injEq, eq_self_iff_true, not_true, not_false_iff, false_implies, true_implies, forall_const, reduceCtorEq, ne_eq]
          refine ⟨fun z => absurd z (nI_ge (a := pp) (b := 3) (by omega) (by omega)), fun _ => ⟨fun z => ?_, fun z => c_slipOf hL (by omega) (by omega) ?_⟩⟩
          · rw [z] at np; exact np
          · rw [Bool.not_eq_false] at z
            rw [z, Bool.true_and, ef] at np
            unfold wp_X6_item
            simp only [hL.eqs, nI_add, show vp_in (nI r) 8 from vp_in_nI hr (by omega), nI_clamp (show r < 2 ^ 31 by omega), g1, g2, g3, show vp_in (nI (i0 + pp)) 40 from vp_in_nI (by omega) (by omega), nI_clamp (show i0 + pp < 2 ^ 31 by omega), ↓reduceIte, Nat.reduceEqDiff, and_false, false_and, true_and, and_true, forall_eq, forall_eq', exists_eq_left, exists_eq_left', Option.some.injEq, eq_self_iff_true, not_true, not_false_iff, false_implies, true_implies, forall_const, reduceCtorEq, ne_eq]
            refine ⟨fun y => ?_, fun y => ?_⟩
            · rw [decide_eq_false y] at np; exact np
            · rw [decide_eq_true y] at np; exact np
      unfold wl_X2_fittingSets_12 wB_X2_fittingSets_12
      simp only [vS.eqs, hm, e1, ↓reduceIte, Nat.reduceEqDiff, and_false, false_and, true_and, and_true, forall_eq, forall_eq', exists_eq_left, exists_eq_left', Option.some.injEq, eq_self_iff_true, not_true, not_false_iff, false_implies, true_implies, forall_const, reduceCtorEq, ne_eq]
      exact ⟨fun z => absurd z (nI_ge (by omega) (by omega)), fun _ => ⟨4, inner 3 0 (by omega)⟩⟩
  exact ⟨_, key (2 ^ m) 0 (by omega)⟩
theorem c_isBy {Q : Int32 → hp → Prop} {S : hp} {l s off : Nat} {dd : Int32} (hL : Lay S) (hl : hI S 39 4 = nI l) (h16 : l ≤ 16) (hs : s < 32) (ho : off + 3 ≤ 320) (h : Q (bI (fits (fun s pp => ms (fun k => hI S 39 (51 + k)) dd s pp l) (fun pp => hI S 38 (off + pp)) s)) S) : wp_X12_isBy Q S 35 dd (nI off) (nI s) := by
  obtain ⟨f, hf⟩ : ∃ f, f = fit (fun pp => ms (fun k => hI S 39 (51 + k)) dd s pp l) (fun pp => hI S 38 (off + pp)) := ⟨_, rfl⟩
  have hFs : fits (fun s pp => ms (fun k => hI S 39 (51 + k)) dd s pp l) (fun pp => hI S 38 (off + pp)) s = al f 3 := by rw [hf]; rfl
  rw [hFs] at h
  have key : ∀ t pp, pp + t = 3 → wl_X12_isBy_6 Q (t + 1) S 35 dd (nI off) (nI s) (bI (al f pp)) (nI pp) := by
    intro t
    induction t with
    | zero =>
      intro pp hpp
      have : pp = 3 := by omega
      subst this
      refine ⟨fun _ => ⟨?_, h⟩, fun q => absurd (nI_le (a := 3) (b := 3) (by omega) (by omega)) q⟩
      cases al f 3 <;> simp [isZ, bI]
    | succ t ih =>
      intro pp hpp
      have nx := ih (pp + 1) (by omega)
      have ea : al f (pp + 1) = (al f pp && f pp) := rfl
      have ef : f pp = decide (ms (fun k => hI S 39 (51 + k)) dd s pp l = hI S 38 (off + pp)) := by rw [hf]; rfl
      rw [ea] at nx
      have inner : ∀ u i, i + u = l → wl_X12_isBy_18 (wl_X12_isBy_6 Q (t + 1)) Q (u + 1) S 35 dd (nI off) (nI s) (bI (al f pp)) (nI pp) (ms (fun k => hI S 39 (51 + k)) dd s pp i) (nI i) := by
        intro u
        induction u with
        | zero =>
          intro i hi
          have : i = l := by omega
          subst this
          unfold wl_X12_isBy_18 wB_X12_isBy_18 wB_X12_isBy_142 wB_X12_isBy_143
          simp only [hL.eqs, vi4, cl4, hl, bI0, nI_1, nI_add, show vp_in (nI (off + pp)) 320 from vp_in_nI (by omega) (by omega), nI_clamp (show off + pp < 2 ^ 31 by omega), ↓reduceIte, Nat.reduceEqDiff, and_false, false_and, true_and, and_true, forall_eq, forall_eq', exists_eq_left, exists_eq_left', Option.some.injEq, eq_self_iff_true, not_true, not_false_iff, false_implies, true_implies, forall_const, reduceCtorEq, ne_eq]
          refine ⟨fun _ => ⟨fun z => ?_, fun z => ⟨fun y => ?_, fun y => ?_⟩⟩, fun q => absurd (nI_le (Nat.le_refl _) (by omega)) q⟩
          · rw [z] at nx; exact nx
          · rw [ef, decide_eq_false y, Bool.and_false] at nx; exact nx
          · rw [Bool.not_eq_false] at z
            rw [ef, decide_eq_true y, z] at nx; exact nx
        | succ u ihu =>
          intro i hi
          have ni := ihu (i + 1) (by omega)
          have e2 : ms (fun k => hI S 39 (51 + k)) dd s pp (i + 1) = msS (fun k => hI S 39 (51 + k)) dd s pp i (ms (fun k => hI S 39 (51 + k)) dd s pp i) := rfl
          rw [e2] at ni
          unfold msS at ni
          have lof : ∀ (c : Nat), c < 6 → ∀ Q, wp_X12_lineOf Q S 35 (nI i) (nI c) ↔ Q (hI S 39 (51 + (6 * i + c))) S := fun c hc Q => by
            rw [e_lineOfM hL (show i < 16 by omega) hc, Nat.add_assoc]
          have l0 : ∀ Q, wp_X12_lineOf Q S 35 (nI i) (0 : Int32) ↔ Q (hI S 39 (51 + (6 * i))) S := fun Q => lof 0 (by omega) Q
          have l1 : ∀ Q, wp_X12_lineOf Q S 35 (nI i) (1 : Int32) ↔ Q (hI S 39 (51 + (6 * i + 1))) S := fun Q => lof 1 (by omega) Q
          have l2 : ∀ Q, wp_X12_lineOf Q S 35 (nI i) (2 : Int32) ↔ Q (hI S 39 (51 + (6 * i + 2))) S := fun Q => lof 2 (by omega) Q
          have l3 : ∀ Q, wp_X12_lineOf Q S 35 (nI i) (3 : Int32) ↔ Q (hI S 39 (51 + (6 * i + 3))) S := fun Q => lof 3 (by omega) Q
          have l4 : ∀ Q, wp_X12_lineOf Q S 35 (nI i) (4 : Int32) ↔ Q (hI S 39 (51 + (6 * i + 4))) S := fun Q => lof 4 (by omega) Q
          have l5 : ∀ Q, wp_X12_lineOf Q S 35 (nI i) (5 : Int32) ↔ Q (hI S 39 (51 + (6 * i + 5))) S := fun Q => lof 5 (by omega) Q
          unfold wl_X12_isBy_18 wB_X12_isBy_18 wB_X12_isBy_81 wB_X12_isBy_82 wB_X12_isBy_110
          simp only [hL.eqs, vi4, cl4, hl, nI_1, l0, l1, l2, l3, l4, l5, i1_ne0, ↓reduceIte, Nat.reduceEqDiff, and_false, false_and, true_and, and_true, forall_eq, forall_eq', exists_eq_left, exists_eq_left', Option.some.injEq, eq_self_iff_true, not_true, not_false_iff, false_implies, true_implies, forall_const, reduceCtorEq, ne_eq]
          refine ⟨fun z => absurd z (nI_ge (by omega) (by omega)), fun _ => ⟨fun z => ?_, fun z => ⟨fun z1 => ?_, fun z1 => ⟨fun z2 => ?_, fun z2 => ⟨fun z3 => ?_, fun z3 => ?_⟩⟩⟩⟩⟩
          · rw [if_neg (fun y => z y.1)] at ni; exact ni
          · rw [if_neg (fun y => z1 y.2.1)] at ni; exact ni
          · rw [if_neg (fun y => z2 y.2.2.1)] at ni; exact ni
          · rw [if_neg (fun y => z3 y.2.2.2)] at ni; exact ni
          · rw [if_pos ⟨z, z1, z2, z3⟩] at ni; exact ni
      unfold wl_X12_isBy_6 wB_X12_isBy_6
      exact ⟨fun z => absurd z (nI_ge (a := pp) (b := 3) (by omega) (by omega)), fun _ => ⟨l + 1, inner l 0 (by omega)⟩⟩
  exact ⟨4, key 3 0 (by omega)⟩
