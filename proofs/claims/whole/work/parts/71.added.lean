/-- the ones of a word, as the library counts them -/
def bc (x0 : Int32) : Int32 :=
  let v1 := (x0 - (((x0).toUInt32 >>> (((1 : Int32)).toUInt32 &&& Int32.toUInt32 31)).toInt32 &&& (1431655765 : Int32)))
  let v2 := ((v1 &&& (858993459 : Int32)) + (((v1).toUInt32 >>> (((2 : Int32)).toUInt32 &&& Int32.toUInt32 31)).toInt32 &&& (858993459 : Int32)))
  let v3 := ((v2 + ((v2).toUInt32 >>> (((4 : Int32)).toUInt32 &&& Int32.toUInt32 31)).toInt32) &&& (252645135 : Int32))
  let v4 := (v3 + ((v3).toUInt32 >>> (((8 : Int32)).toUInt32 &&& Int32.toUInt32 31)).toInt32)
  let v5 := (v4 + ((v4).toUInt32 >>> (((16 : Int32)).toUInt32 &&& Int32.toUInt32 31)).toInt32)
  v5 &&& (63 : Int32)
theorem e_bc {Q : Int32 → hp → Prop} {S : hp} {x : Int32} : wp_J6_bitCount_0f7a4 Q S x ↔ Q (bc x) S := by
  unfold wp_J6_bitCount_0f7a4
  simp only [forall_eq]
  rfl
def btS (x : Int32) (k : Nat) (z : Int32) : Int32 := z + ((x >>> (nI k &&& 31)) &&& (1 : Int32))
def bts (x : Int32) : Int32 := fo (btS x) 12 0
theorem c_bits {Q : Int32 → hp → Prop} {S : hp} {x : Int32} (h : Q (bts x) S) : wp_X12_bits Q S x := by
  have key : ∀ t j, j + t = 12 → wl_X12_bits_4 Q (t + 1) S x (fo (btS x) j 0) (nI j) := by
    intro t
    induction t with
    | zero =>
      intro j hj
      have : j = 12 := by omega
      subst this
      exact ⟨fun _ => h, fun q => absurd (nI_le (a := 12) (b := 12) (by omega) (by omega)) q⟩
    | succ t ih =>
      intro j hj
      have nx := ih (j + 1) (by omega)
      unfold wl_X12_bits_4 wB_X12_bits_4
      simp only [nI_1, ↓reduceIte, Nat.reduceEqDiff, and_false, false_and, true_and, and_true, forall_eq, forall_eq', exists_eq_left, exists_eq_left', Option.some.injEq, eq_self_iff_true, not_true, not_false_iff, false_implies, true_implies, forall_const, reduceCtorEq, ne_eq]
      exact ⟨fun z => absurd z (nI_ge (a := j) (b := 12) (by omega) (by omega)), fun _ => nx⟩
  exact ⟨13, key 12 0 (by omega)⟩
/-- how many of the three places a set of them has -/
def pc3 (s : Nat) : Nat := s % 2 + s / 2 % 2 + s / 4 % 2
theorem bc8 : ∀ s, s < 8 → bc (nI s) = nI (pc3 s) := by decide
theorem bts8 : ∀ s, s < 8 → bts (nI s) = nI (pc3 s) := by decide
theorem pc3_lt (s : Nat) : pc3 s ≤ 3 := by unfold pc3; omega
theorem has8 : ∀ s, s < 8 → ∀ p, p < 3 → ((((nI s).toUInt32 >>> ((nI p).toUInt32 &&& Int32.toUInt32 31)).toInt32 &&& (1 : Int32)) = (1 : Int32) ↔ s / 2 ^ p % 2 = 1) := by decide
theorem hasM8 : ∀ s, s < 8 → ∀ p, p < 3 → (((nI s >>> (nI p &&& 31)) &&& (1 : Int32)) = (1 : Int32) ↔ s / 2 ^ p % 2 = 1) := by decide
def suS (A : Nat → Int32) (dd s p : Nat) (z : Int32) : Int32 := z + (if s / 2 ^ p % 2 = 1 then 0 else A (3 * dd + p))
def su (A : Nat → Int32) (dd s n : Nat) : Int32 := fo (suS A dd s) n 0
theorem c_sumWithout {Q : Int32 → hp → Prop} {S : hp} {dd s : Nat} (vS : SL S 16) (hd : dd < 4) (hs : s < 8) (h : Q (su (hI S 17) dd s 3) S) : wp_X2_sumWithout Q S 16 (nI dd) (nI s) := by
  have key : ∀ t p, p + t = 3 → wl_X2_sumWithout_5 Q (t + 1) S 16 (nI dd) (nI s) (su (hI S 17) dd s p) (nI p) := by
    intro t
    induction t with
    | zero =>
      intro j hj
      have : j = 3 := by omega
      subst this
      exact ⟨fun _ => h, fun q => absurd (nI_le (a := 3) (b := 3) (by omega) (by omega)) q⟩
    | succ t ih =>
      intro p hp
      have nx := ih (p + 1) (by omega)
      have e : su (hI S 17) dd s (p + 1) = su (hI S 17) dd s p + (if s / 2 ^ p % 2 = 1 then 0 else hI S 17 (3 * dd + p)) := rfl
      rw [e] at nx
      unfold wl_X2_sumWithout_5 wB_X2_sumWithout_5 wB_X2_sumWithout_36 wp_X2_has
      simp only [has8 s hs p (by omega), vS.eqs, e_at, show vp_in (nI (3 * dd + p)) 12 from vp_in_nI (by omega) (by omega), nI_clamp (show 3 * dd + p < 2 ^ 31 by omega), nI_1, i1_ne0, ↓reduceIte, Nat.reduceEqDiff, and_false, false_and, true_and, and_true, forall_eq, forall_eq', exists_eq_left, exists_eq_left', Option.some.injEq, eq_self_iff_true, not_true, not_false_iff, false_implies, true_implies, forall_const, reduceCtorEq, ne_eq]
      refine ⟨fun z => absurd z (nI_ge (a := p) (b := 3) (by omega) (by omega)), fun _ => ⟨fun z => ?_, fun z => ?_⟩⟩
      · rw [if_neg z] at nx; exact nx
      · rw [if_pos z] at nx; exact nx
  exact ⟨4, key 3 0 (by omega)⟩
/-- the fewest places to repair -/
def auS (ok : Nat → Bool) (s : Nat) (acc : Option Nat) : Option Nat := if ok s = true then (match acc with
  | none => some s
  | some b => if pc3 b ≤ pc3 s then some b else some s) else acc
def au (ok : Nat → Bool) (n : Nat) : Option Nat := fo (auS ok) n none
theorem au_lt {ok : Nat → Bool} : ∀ {n b : Nat}, au ok n = some b → b < n
  | 0, b, h => by simp [au, fo] at h
  | n + 1, b, h => by
    have ih := fun b => au_lt (ok := ok) (n := n) (b := b)
    change auS ok n (au ok n) = some b at h
    unfold auS at h
    by_cases c : ok n = true
    · rw [if_pos c] at h
      cases e : au ok n with
      | none => rw [e] at h; cases h; omega
      | some y =>
        rw [e] at h
        have := ih y e
        by_cases c2 : pc3 y ≤ pc3 n
        · simp only [if_pos c2] at h; cases h; omega
        · simp only [if_neg c2] at h; cases h; omega
    · rw [if_neg c] at h; have := ih b h; omega
def enO : Option Nat → Int32
  | none => -1000000
  | some s => nI s
theorem enO_none {o : Option Nat} (h : ∀ b, o = some b → b < 100) : (enO o = -1000000) = (o = none) := by
  cases o with
  | none => exact propext ⟨fun _ => rfl, fun _ => rfl⟩
  | some b => exact propext ⟨fun q => absurd q (nI_none (by have := h b rfl; omega)), fun q => nomatch q⟩
def okA (A : Nat → Int32) (dd : Nat) (x : Int32) (s : Nat) : Bool := decide (0 ≤ (x - su A dd s 3).toInt) && decide ((x - su A dd s 3).toInt ≤ 99 * pc3 s)
theorem t99 {n : Nat} (h : n ≤ 100) : ((99 : Int32) * nI n).toInt = 99 * n := by
  have e : (99 : Int32) * nI n = nI (99 * n) := nI_mul 99 n
  rw [e, nI_toInt (by omega)]; omega
theorem c_fewest {Q : Int32 → hp → Prop} {S : hp} {dd b0 : Nat} {x : Int32} (vS : SL S 16) (hd : dd < 4) (h : Q (enO (au (okA (hI S 17) dd x) 8)) S) : wp_X2_fewestRepairs Q S b0 16 (nI dd) x := by
  obtain ⟨ok, hok⟩ : ∃ ok, ok = okA (hI S 17) dd x := ⟨_, rfl⟩
  rw [← hok] at h
  have key : ∀ t s, s + t = 8 → wl_X2_fewestRepairs_7 Q (t + 1) S 16 (nI dd) x (enO (au ok s)) (nI s) := by
    intro t
    induction t with
    | zero =>
      intro j hj
      have : j = 8 := by omega
      subst this
      exact ⟨fun _ => h, fun q => absurd (nI_le (a := 8) (b := 8) (by omega) (by omega)) q⟩
    | succ t ih =>
      intro s hs
      have nx := ih (s + 1) (by omega)
      have e : au ok (s + 1) = auS ok s (au ok s) := rfl
      rw [e] at nx
      have eok : ok s = (decide (0 ≤ (x - su (hI S 17) dd s 3).toInt) && decide ((x - su (hI S 17) dd s 3).toInt ≤ 99 * pc3 s)) := by rw [hok]; rfl
      have hlt := fun b => au_lt (ok := ok) (n := s) (b := b)
      unfold wl_X2_fewestRepairs_7 wB_X2_fewestRepairs_7
      refine ⟨fun z => absurd z (nI_ge (a := s) (b := 8) (by omega) (by omega)), fun _ => c_sumWithout vS hd (by omega) ?_⟩
      unfold wB_X2_fewestRepairs_47 wB_X2_fewestRepairs_48 wB_X2_fewestRepairs_69 wp_X2_isFewer wB_X2_isFewer_17
      simp only [e_bc, bc8 s (show s < 8 by omega), nI_1, i1_ne0, t_lt, c0, t99 (show pc3 s ≤ 100 from Nat.le_trans (pc3_lt s) (by omega)), enO_none (o := au ok s) (fun b hb => by have := hlt b hb; omega), ↓reduceIte, Nat.reduceEqDiff, and_false, false_and, true_and, and_true, forall_eq, forall_eq', exists_eq_left, exists_eq_left', Option.some.injEq, eq_self_iff_true, not_true, not_false_iff, false_implies, true_implies, forall_const, reduceCtorEq, ne_eq]
      unfold auS at nx
      refine ⟨fun z => ?_, fun z => ⟨fun z2 => ?_, fun z2 => ?_⟩⟩
      · rw [if_neg (by rw [eok, Bool.and_eq_true, decide_eq_true_eq, decide_eq_true_eq]; omega)] at nx; exact nx
      · rw [if_neg (by rw [eok, Bool.and_eq_true, decide_eq_true_eq, decide_eq_true_eq]; omega)] at nx; exact nx
      · rw [if_pos (by rw [eok, Bool.and_eq_true, decide_eq_true_eq, decide_eq_true_eq]; omega)] at nx
        cases ho : au ok s with
        | none =>
          rw [ho] at nx
          exact ⟨fun _ => nx, fun q => absurd rfl q⟩
        | some b =>
          rw [ho] at nx
          have hb := hlt b ho
          refine ⟨(fun q => nomatch q), fun _ => ?_⟩
          rw [show enO (some b) = nI b from rfl, bc8 b (by omega)]
          have p1 := pc3_lt b
          have p2 := pc3_lt s
          refine ⟨fun q => ?_, fun q => ?_⟩
          · rw [t_le, nI_toInt (by omega), nI_toInt (by omega)] at q
            simp only [if_pos (show pc3 b ≤ pc3 s by omega)] at nx
            exact nx
          · rw [t_le, nI_toInt (by omega), nI_toInt (by omega)] at q
            simp only [if_neg (show ¬ pc3 b ≤ pc3 s by omega)] at nx
            exact nx
  exact ⟨9, key 8 0 (by omega)⟩
theorem sub_add_ {a b c : Int32} : a - (b + c) = a - b - c := by
  rw [Int32.sub_eq_add_neg, Int32.neg_add, Int32.sub_eq_add_neg (a := a - b), Int32.sub_eq_add_neg (a := a), Int32.add_assoc, Int32.sub_eq_add_neg (a := -b)]
theorem c_addedM {Q : Int32 → hp → Prop} {S : hp} {dd : Nat} {x w : Int32} (hL : Lay S) (hd : dd < 4) (h : Q (match au (okA (fun k => hI S 39 (5 + k)) dd x) 8 with
  | none => -1000000
  | some b => if w = 1 then nI b else nI (pc3 b)) S) : ∃ n, wl_X12_addedUp_45 Q n S 35 (nI dd) x w (-1000000) 0 := by
  obtain ⟨ok, hok⟩ : ∃ ok, ok = okA (fun k => hI S 39 (5 + k)) dd x := ⟨_, rfl⟩
  rw [← hok] at h
  have key : ∀ t s, s + t = 8 → wl_X12_addedUp_45 Q (t + 1) S 35 (nI dd) x w (enO (au ok s)) (nI s) := by
    intro t
    induction t with
    | zero =>
      intro j hj
      have : j = 8 := by omega
      subst this
      have hlt := fun b => au_lt (ok := ok) (n := 8) (b := b)
      unfold wl_X12_addedUp_45 wB_X12_addedUp_45 wB_X12_addedUp_169
      simp only [enO_none (o := au ok 8) (fun b hb => by have := hlt b hb; omega), ↓reduceIte, Nat.reduceEqDiff, and_false, false_and, true_and, and_true, forall_eq, forall_eq', exists_eq_left, exists_eq_left', Option.some.injEq, eq_self_iff_true, not_true, not_false_iff, false_implies, true_implies, forall_const, reduceCtorEq, ne_eq]
      refine ⟨fun _ => ⟨fun q => ?_, fun q => ?_⟩, fun q => absurd (nI_le (a := 8) (b := 8) (by omega) (by omega)) q⟩
      · rw [q] at h ⊢; exact h
      · cases ho : au ok 8 with
        | none => exact absurd ho q
        | some b =>
          rw [ho] at h
          have hb := hlt b ho
          refine ⟨fun q2 => c_bits ?_, fun q2 => ?_⟩
          · simp only [if_neg q2] at h
            rw [show enO (some b) = nI b from rfl, bts8 b hb]
            exact h
          · simp only [if_pos q2] at h; exact h
    | succ t ih =>
      intro s hs
      have nx := ih (s + 1) (by omega)
      have e : au ok (s + 1) = auS ok s (au ok s) := rfl
      rw [e] at nx
      have eok : ok s = (decide (0 ≤ (x - su (fun k => hI S 39 (5 + k)) dd s 3).toInt) && decide ((x - su (fun k => hI S 39 (5 + k)) dd s 3).toInt ≤ 99 * pc3 s)) := by rw [hok]; rfl
      have hlt := fun b => au_lt (ok := ok) (n := s) (b := b)
      have inner : ∀ u p, p + u = 3 → wl_X12_addedUp_58 (wl_X12_addedUp_45 Q (t + 1)) Q (u + 1) S 35 (nI dd) x w (enO (au ok s)) (nI s) (x - su (fun k => hI S 39 (5 + k)) dd s p) (nI p) := by
        intro u
        induction u with
        | zero =>
          intro p hp
          have : p = 3 := by omega
          subst this
          unfold wl_X12_addedUp_58 wB_X12_addedUp_58
          refine ⟨fun _ => c_bits ?_, fun q => absurd (nI_le (a := 3) (b := 3) (by omega) (by omega)) q⟩
          rw [bts8 s (by omega)]
          unfold wB_X12_addedUp_147 wB_X12_addedUp_142 wB_X12_addedUp_149
          simp only [e_in, l64_0, l64_1, l64_2, l64_5, l64_6, l64_7, l64_m1, l64_99, l64_m99, l64_255, l64_999, l64_m999, l64_297, l64_200, l64_m200, l64_97, l64_122, l64_48, l64_57, Int32.toInt_toInt64, t99 (show pc3 s ≤ 100 from Nat.le_trans (pc3_lt s) (by omega)), bI0, nI_1, enO_none (o := au ok s) (fun b hb => by have := hlt b hb; omega), ↓reduceIte, Nat.reduceEqDiff, and_false, false_and, true_and, and_true, forall_eq, forall_eq', exists_eq_left, exists_eq_left', Option.some.injEq, eq_self_iff_true, not_true, not_false_iff, false_implies, true_implies, forall_const, reduceCtorEq, ne_eq]
          unfold auS at nx
          refine ⟨fun z => ?_, fun z => ?_⟩
          · rw [rg_f] at z
            rw [if_neg (by rw [eok, Bool.and_eq_true, decide_eq_true_eq, decide_eq_true_eq]; omega)] at nx; exact nx
          · have z' := rg_t.mp (Bool.not_eq_false _ ▸ z)
            rw [if_pos (by rw [eok, Bool.and_eq_true, decide_eq_true_eq, decide_eq_true_eq]; omega)] at nx
            cases ho : au ok s with
            | none =>
              rw [ho] at nx
              exact ⟨fun _ => nx, fun q => absurd rfl q⟩
            | some b =>
              rw [ho] at nx
              have hb := hlt b ho
              refine ⟨(fun q => nomatch q), fun _ => c_bits (c_bits ?_)⟩
              rw [show enO (some b) = nI b from rfl, bts8 b (by omega), bts8 s (by omega)]
              have p1 := pc3_lt b
              have p2 := pc3_lt s
              refine ⟨fun q => ?_, fun q => ?_⟩
              · rw [t_le, nI_toInt (by omega), nI_toInt (by omega)] at q
                simp only [if_pos (show pc3 b ≤ pc3 s by omega)] at nx
                exact nx
              · rw [t_le, nI_toInt (by omega), nI_toInt (by omega)] at q
                simp only [if_neg (show ¬ pc3 b ≤ pc3 s by omega)] at nx
                exact nx
        | succ u ihu =>
          intro p hp
          have np := ihu (p + 1) (by omega)
          have e : su (fun k => hI S 39 (5 + k)) dd s (p + 1) = su (fun k => hI S 39 (5 + k)) dd s p + (if s / 2 ^ p % 2 = 1 then 0 else hI S 39 (5 + (3 * dd + p))) := rfl
          rw [e, sub_add_] at np
          have a5 : (5 : Int32) + (3 : Int32) * nI dd + nI p = nI (5 + (3 * dd + p)) := (i3 5 3 dd p).trans (by rw [Nat.add_assoc])
          unfold wl_X12_addedUp_58 wB_X12_addedUp_58 wB_X12_addedUp_94
          simp only [hasM8 s (show s < 8 by omega) p (show p < 3 by omega), hL.eqs, a5, show vp_in (nI (5 + (3 * dd + p))) 147 from vp_in_nI (by omega) (by omega), nI_clamp (show 5 + (3 * dd + p) < 2 ^ 31 by omega), nI_1, ↓reduceIte, Nat.reduceEqDiff, and_false, false_and, true_and, and_true, forall_eq, forall_eq', exists_eq_left, exists_eq_left', Option.some.injEq, eq_self_iff_true, not_true, not_false_iff, false_implies, true_implies, forall_const, reduceCtorEq, ne_eq]
          refine ⟨fun z => absurd z (nI_ge (a := p) (b := 3) (by omega) (by omega)), fun _ => ⟨fun z => ?_, fun z => ?_⟩⟩
          · rw [if_neg z] at np; exact np
          · rw [if_pos z] at np; exact np
      unfold wl_X12_addedUp_45 wB_X12_addedUp_45
      refine ⟨fun z => absurd z (nI_ge (a := s) (b := 8) (by omega) (by omega)), fun _ => ⟨4, ?_⟩⟩
      have := inner 3 0 (by omega)
      rw [show su (fun k => hI S 39 (5 + k)) dd s 0 = 0 from rfl, Int32.sub_zero] at this
      exact this
  exact ⟨9, key 8 0 (by omega)⟩
theorem p_addedUp : st_addedUp Rel := by
  intro S h x1 x2 x3
  obtain ⟨d, m, l, ⟨hd, hm, hl⟩, v2, v3, v4, v5, v6, v7, v8, vS⟩ := h.view
  refine ⟨h.1.eqs.1, ?_⟩
  obtain ⟨Q, hQ⟩ : ∃ Q : Int32 → hp → Prop, Q = fun (r : Int32) (S1 : hp) => hK S1 35 = 11 ∧ wp_X12_addedUp (fun r2 S2 => r = r2 ∧ Rel S2) S1 35 x1 x2 x3 := ⟨_, rfl⟩
  rw [← hQ]
  have x39 : hI (setI S 35 0 0) 39 = hI S 39 := hI_setI_ne (by decide)
  have t2 : 0 ≤ (hI (setI S 35 0 0) 39 2).toInt := by rw [x39, v2.1]; exact tn0 (by omega)
  have BAD : rc x1 (nI d) = false ∨ rg x2 0 297 = false ∨ rg x3 0 1 = false → Q (-1000001) S := by
    intro q
    simp only [hQ, wp_X12_addedUp, h.1.eqs, e_in, e_isDummyM (lay0 h.1) t2, l64_0, l64_1, l64_2, l64_5, l64_6, l64_7, l64_m1, l64_99, l64_m99, l64_255, l64_999, l64_m999, l64_297, l64_200, l64_m200, l64_97, l64_122, l64_48, l64_57, Int32.toInt_toInt64, hI_setI, v2, bI0, hK_putA, hN_putA, hR_putA, hC_putA, hK_setI, hN_setI, hR_setI, hC_setI, hI_setI, hK_setR, hN_setR, hI_setR, hC_setR, hR_setR, hK_cpyI, hN_cpyI, hR_cpyI, hC_cpyI, hI_cpyI, ↓reduceIte, Nat.reduceEqDiff, and_false, false_and, true_and, and_true, forall_eq, forall_eq', exists_eq_left, exists_eq_left', Option.some.injEq, eq_self_iff_true, not_true, not_false_iff, false_implies, true_implies, forall_const, reduceCtorEq, ne_eq]
    refine ⟨fun _ => h.thr 0, fun q1 => ⟨fun _ => h.thr 0, fun q2 => ⟨fun q3 => ?_, fun _ => h.thr 0⟩⟩⟩
    rcases q with q | q | q
    · exact absurd q q1
    · exact absurd q q2
    · exact absurd q q3
  unfold wp_X11_addedUp
  simp only [h.1.eqs, e_hasDummy vS.eqs.1, v2, e_isFOS, bI0, t_lt, c0, show (297 : Int32).toInt = 297 from rfl, ↓reduceIte, Nat.reduceEqDiff, and_false, false_and, true_and, and_true, forall_eq, forall_eq', exists_eq_left, exists_eq_left', Option.some.injEq, eq_self_iff_true, not_true, not_false_iff, false_implies, true_implies, forall_const, reduceCtorEq, ne_eq]
  refine ⟨fun q => BAD (Or.inl q), fun q1 => ⟨fun q => BAD (Or.inr (Or.inl (rg_f.mpr (by omega)))), fun q2 => ⟨fun q => BAD (Or.inr (Or.inl (rg_f.mpr (by omega)))), fun q3 => ⟨fun q4 => ?_, fun q => BAD (Or.inr (Or.inr q))⟩⟩⟩⟩
  have hb1 : rc x1 (nI d) = true := by simpa using q1
  have hb2 : rg x2 0 297 = true := rg_t.mpr (by omega)
  have hb3 : rg x3 0 1 = true := by simpa using q4
  obtain ⟨dd, hdd, rfl⟩ := rc_nat (by omega) hb1
  have eok : au (okA (hI S 17) dd x2) 8 = au (okA (fun k => hI S 39 (5 + k)) dd x2) 8 := by
    have es : ∀ s, su (hI S 17) dd s 3 = su (fun k => hI S 39 (5 + k)) dd s 3 := fun s => by
      unfold su
      refine fo_congr (fun p hp z => ?_)
      unfold suS
      rw [(v4 (3 * dd + p) (by omega)).1]
    have : okA (hI S 17) dd x2 = okA (fun k => hI S 39 (5 + k)) dd x2 := by
      funext s; unfold okA; rw [es]
    rw [this]
  have W : ∀ v, v = (match au (okA (fun k => hI S 39 (5 + k)) dd x2) 8 with
      | none => -1000000
      | some b => if x3 = 1 then nI b else nI (pc3 b)) → Q v S := by
    intro v hv
    simp only [hQ, wp_X12_addedUp, h.1.eqs, e_in, e_isDummyM (lay0 h.1) t2, l64_0, l64_1, l64_2, l64_5, l64_6, l64_7, l64_m1, l64_99, l64_m99, l64_255, l64_999, l64_m999, l64_297, l64_200, l64_m200, l64_97, l64_122, l64_48, l64_57, Int32.toInt_toInt64, hI_setI, v2, hb1, hb2, hb3, bI0, Bool.true_eq_false, hK_putA, hN_putA, hR_putA, hC_putA, hK_setI, hN_setI, hR_setI, hC_setI, hI_setI, hK_setR, hN_setR, hI_setR, hC_setR, hR_setR, hK_cpyI, hN_cpyI, hR_cpyI, hC_cpyI, hI_cpyI, ↓reduceIte, Nat.reduceEqDiff, and_false, false_and, true_and, and_true, forall_eq, forall_eq', exists_eq_left, exists_eq_left', Option.some.injEq, eq_self_iff_true, not_true, not_false_iff, false_implies, true_implies, forall_const, reduceCtorEq, ne_eq]
    refine c_addedM (lay0 h.1) (by omega) ⟨?_, h.thr 0⟩
    rw [x39]; exact hv
  refine c_fewest vS (by omega) ?_
  have hlt := fun b => au_lt (ok := okA (fun k => hI S 39 (5 + k)) dd x2) (n := 8) (b := b)
  rw [eok]
  unfold wB_X11_addedUp_59
  simp only [e_bc, enO_none (o := au (okA (fun k => hI S 39 (5 + k)) dd x2) 8) (fun b hb => by have := hlt b hb; omega), ↓reduceIte, Nat.reduceEqDiff, and_false, false_and, true_and, and_true, forall_eq, forall_eq', exists_eq_left, exists_eq_left', Option.some.injEq, eq_self_iff_true, not_true, not_false_iff, false_implies, true_implies, forall_const, reduceCtorEq, ne_eq]
  cases ho : au (okA (fun k => hI S 39 (5 + k)) dd x2) 8 with
  | none =>
    rw [ho] at W
    exact ⟨fun _ => W _ rfl, fun q => absurd rfl q⟩
  | some b =>
    rw [ho] at W
    refine ⟨(fun q => nomatch q), fun _ => ⟨fun q => W _ ?_, fun q => W _ ?_⟩⟩
    · simp only [if_neg q]
      exact bc8 b (hlt b ho)
    · simp only [if_pos q]; rfl
