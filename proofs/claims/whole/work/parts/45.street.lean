theorem cl0 : (0 : Int32).toNatClampNeg = 0 := rfl
theorem cl1 : (1 : Int32).toNatClampNeg = 1 := rfl
theorem cl2 : (2 : Int32).toNatClampNeg = 2 := rfl
theorem cl3 : (3 : Int32).toNatClampNeg = 3 := rfl
theorem cl4 : (4 : Int32).toNatClampNeg = 4 := rfl
theorem vi0 : vp_in (0 : Int32) 147 := vp_in_nI (n := 0) (by decide) (by decide)
theorem vi1 : vp_in (1 : Int32) 147 := vp_in_nI (n := 1) (by decide) (by decide)
theorem vi2 : vp_in (2 : Int32) 147 := vp_in_nI (n := 2) (by decide) (by decide)
theorem vi3 : vp_in (3 : Int32) 147 := vp_in_nI (n := 3) (by decide) (by decide)
theorem vi4 : vp_in (4 : Int32) 147 := vp_in_nI (n := 4) (by decide) (by decide)
/-- x counts one of c -/
def rc (x c : Int32) : Bool := decide (0 ≤ x.toInt) && decide (x.toInt < c.toInt)
theorem rc_t {x c : Int32} : rc x c = true ↔ 0 ≤ x.toInt ∧ x.toInt < c.toInt := by simp [rc]
theorem rc_f {x c : Int32} : rc x c = false ↔ x.toInt < 0 ∨ c.toInt ≤ x.toInt := by rw [← Bool.not_eq_true, rc_t]; omega
theorem rc_nat {x : Int32} {n : Nat} (hn : n < 2147483648) (h : rc x (nI n) = true) : ∃ r : Nat, r < n ∧ x = nI r := by
  obtain ⟨h1, h2⟩ := rc_t.mp h
  obtain ⟨j, hj, e⟩ := nI_of (x := x) (by rw [t_lt]; show ¬ x.toInt < 0; omega)
  refine ⟨j, ?_, e⟩
  rw [e, nI_toInt hj, nI_toInt hn] at h2
  omega
theorem rg_rc {x c : Int32} (h : 0 ≤ c.toInt) : rg x 0 (c - 1).toInt = rc x c := by
  have h2 := t_rng c
  have e : (c - 1).toInt = c.toInt - 1 := t_sub (b := 1) (by show _ ≤ _ - 1 ∧ _ - 1 < _; omega)
  rw [e]
  cases hh : rc x c with
  | true => rw [rg_t]; have := rc_t.mp hh; omega
  | false => rw [rg_f]; have := rc_f.mp hh; omega
theorem e_hasDummy {Q : Int32 → hp → Prop} {S : hp} {a : Nat} (hk : hK S a = 7) {x : Int32} : wp_X8_hasDummy Q S a x ↔ Q (bI (rc x (hI S a 7))) S := by
  unfold wp_X8_hasDummy
  simp only [t_lt, t_le, c0, hk, ↓reduceIte, Nat.reduceEqDiff, and_false, false_and, true_and, and_true, forall_eq, forall_eq', exists_eq_left, exists_eq_left', Option.some.injEq, eq_self_iff_true, not_true, not_false_iff, false_implies, true_implies, forall_const, reduceCtorEq, ne_eq]
  cases hh : rc x (hI S a 7) with
  | true => have := rc_t.mp hh; simp only [show ¬ x.toInt < 0 by omega, show ¬ (hI S a 7).toInt ≤ x.toInt by omega, bI_t, ↓reduceIte, Nat.reduceEqDiff, and_false, false_and, true_and, and_true, forall_eq, forall_eq', exists_eq_left, exists_eq_left', Option.some.injEq, eq_self_iff_true, not_true, not_false_iff, false_implies, true_implies, forall_const, reduceCtorEq, ne_eq]
  | false =>
    have := rc_f.mp hh
    by_cases h1 : x.toInt < 0
    · simp only [h1, bI_f, ↓reduceIte, Nat.reduceEqDiff, and_false, false_and, true_and, and_true, forall_eq, forall_eq', exists_eq_left, exists_eq_left', Option.some.injEq, eq_self_iff_true, not_true, not_false_iff, false_implies, true_implies, forall_const, reduceCtorEq, ne_eq]
    · simp only [h1, show (hI S a 7).toInt ≤ x.toInt by omega, bI_f, ↓reduceIte, Nat.reduceEqDiff, and_false, false_and, true_and, and_true, forall_eq, forall_eq', exists_eq_left, exists_eq_left', Option.some.injEq, eq_self_iff_true, not_true, not_false_iff, false_implies, true_implies, forall_const, reduceCtorEq, ne_eq]
theorem e_hasPlace {Q : Int32 → hp → Prop} {S : hp} {a : Nat} (hk : hK S a = 7) {x y : Int32} : wp_X8_hasPlace Q S a x y ↔ Q (bI (rc x (hI S a 7) && rg y 0 2)) S := by
  unfold wp_X8_hasPlace
  simp only [e_hasDummy hk, bI0, hk, ↓reduceIte, Nat.reduceEqDiff, and_false, false_and, true_and, and_true, forall_eq, forall_eq', exists_eq_left, exists_eq_left', Option.some.injEq, eq_self_iff_true, not_true, not_false_iff, false_implies, true_implies, forall_const, reduceCtorEq, ne_eq]
  cases rc x (hI S a 7) with
  | false => simp [bI_f]
  | true =>
    simp only [t_lt, t_le, c0, show (3 : Int32).toInt = 3 from rfl, Bool.true_and, ↓reduceIte, Nat.reduceEqDiff, and_false, false_and, true_and, and_true, forall_eq, forall_eq', exists_eq_left, exists_eq_left', Option.some.injEq, eq_self_iff_true, not_true, not_false_iff, false_implies, true_implies, forall_const, reduceCtorEq, ne_eq]
    cases hh : rg y 0 2 with
    | true => have := rg_t.mp hh; simp only [show ¬ y.toInt < 0 by omega, show ¬ 3 ≤ y.toInt by omega, bI_t, ↓reduceIte, Nat.reduceEqDiff, and_false, false_and, true_and, and_true, forall_eq, forall_eq', exists_eq_left, exists_eq_left', Option.some.injEq, eq_self_iff_true, not_true, not_false_iff, false_implies, true_implies, forall_const, reduceCtorEq, ne_eq]
    | false =>
      have := rg_f.mp hh
      by_cases h1 : y.toInt < 0
      · simp only [h1, bI_f, ↓reduceIte, Nat.reduceEqDiff, and_false, false_and, true_and, and_true, forall_eq, forall_eq', exists_eq_left, exists_eq_left', Option.some.injEq, eq_self_iff_true, not_true, not_false_iff, false_implies, true_implies, forall_const, reduceCtorEq, ne_eq]
      · simp only [h1, show 3 ≤ y.toInt by omega, bI_f, ↓reduceIte, Nat.reduceEqDiff, and_false, false_and, true_and, and_true, forall_eq, forall_eq', exists_eq_left, exists_eq_left', Option.some.injEq, eq_self_iff_true, not_true, not_false_iff, false_implies, true_implies, forall_const, reduceCtorEq, ne_eq]
theorem e_mouthAt {Q : Option Nat → hp → Prop} {S : hp} {a m : Nat} (hS : SL S a) (hm : hI S a 8 = nI m) (h5 : m ≤ 5) {x : Int32} : wp_X8_mouthAt Q S a x ↔ Q (if rc x (nI m) then hR S (a + 4) x.toNatClampNeg else none) S := by
  unfold wp_X8_mouthAt wB_X8_mouthAt_21
  simp only [t_lt, t_le, c0, hS.eqs, hm, ↓reduceIte, Nat.reduceEqDiff, and_false, false_and, true_and, and_true, forall_eq, forall_eq', exists_eq_left, exists_eq_left', Option.some.injEq, eq_self_iff_true, not_true, not_false_iff, false_implies, true_implies, forall_const, reduceCtorEq, ne_eq]
  cases hh : rc x (nI m) with
  | true =>
    obtain ⟨j, hj, rfl⟩ := rc_nat (by omega) hh
    have := rc_t.mp hh
    simp only [show ¬ (nI j).toInt < 0 by omega, show ¬ (nI m).toInt ≤ (nI j).toInt by omega, show vp_in (nI j) 5 from vp_in_nI (by omega) (by omega), ↓reduceIte, Nat.reduceEqDiff, and_false, false_and, true_and, and_true, forall_eq, forall_eq', exists_eq_left, exists_eq_left', Option.some.injEq, eq_self_iff_true, not_true, not_false_iff, false_implies, true_implies, forall_const, reduceCtorEq, ne_eq]
    cases hR S (a + 4) (nI j).toNatClampNeg <;> simp
  | false =>
    have := rc_f.mp hh
    by_cases h1 : x.toInt < 0
    · simp [h1]
    · simp [h1, show (nI m).toInt ≤ x.toInt by omega]
theorem e_isFOS {Q : Int32 → hp → Prop} {S : hp} {x : Int32} : wp_X11_isFirstOrSecond Q S x ↔ Q (bI (rg x 0 1)) S := by
  unfold wp_X11_isFirstOrSecond wB_X11_isFirstOrSecond_9
  simp only [t_eq, c0, show (1 : Int32).toInt = 1 from rfl]
  cases h : rg x 0 1 with
  | true =>
    have := rg_t.mp h
    by_cases h1 : x.toInt = 0
    · simp [h1, bI]
    · simp [show x.toInt = 1 by omega, bI]
  | false => have := rg_f.mp h; simp [show ¬ x.toInt = 0 by omega, show ¬ x.toInt = 1 by omega, bI]
theorem e_isTold {Q : Int32 → hp → Prop} {S : hp} {x : Int32} : wp_X11_isTold Q S x ↔ Q (bI (rg x (-99) 99)) S := by
  unfold wp_X11_isTold
  simp only [t_lt, show (-99 : Int32).toInt = -99 from rfl, show (99 : Int32).toInt = 99 from rfl]
  cases h : rg x (-99) 99 with
  | true => have := rg_t.mp h; simp only [show ¬ x.toInt < -99 by omega, show ¬ 99 < x.toInt by omega, bI_t, ↓reduceIte, Nat.reduceEqDiff, and_false, false_and, true_and, and_true, forall_eq, forall_eq', exists_eq_left, exists_eq_left', Option.some.injEq, eq_self_iff_true, not_true, not_false_iff, false_implies, true_implies, forall_const, reduceCtorEq, ne_eq]
  | false =>
    have := rg_f.mp h
    by_cases h1 : x.toInt < -99
    · simp only [h1, bI_f, ↓reduceIte, Nat.reduceEqDiff, and_false, false_and, true_and, and_true, forall_eq, forall_eq', exists_eq_left, exists_eq_left', Option.some.injEq, eq_self_iff_true, not_true, not_false_iff, false_implies, true_implies, forall_const, reduceCtorEq, ne_eq]
    · simp only [h1, show 99 < x.toInt by omega, bI_f, ↓reduceIte, Nat.reduceEqDiff, and_false, false_and, true_and, and_true, forall_eq, forall_eq', exists_eq_left, exists_eq_left', Option.some.injEq, eq_self_iff_true, not_true, not_false_iff, false_implies, true_implies, forall_const, reduceCtorEq, ne_eq]
theorem e_isImage {Q : Int32 → hp → Prop} {S : hp} {x : Int32} : wp_X11_isImage Q S x ↔ Q (bI (rg x 0 1)) S := by
  unfold wp_X11_isImage
  simp only [t_lt, t_le, c0, show (2 : Int32).toInt = 2 from rfl]
  cases h : rg x 0 1 with
  | true => have := rg_t.mp h; simp only [show ¬ x.toInt < 0 by omega, show ¬ 2 ≤ x.toInt by omega, bI_t, ↓reduceIte, Nat.reduceEqDiff, and_false, false_and, true_and, and_true, forall_eq, forall_eq', exists_eq_left, exists_eq_left', Option.some.injEq, eq_self_iff_true, not_true, not_false_iff, false_implies, true_implies, forall_const, reduceCtorEq, ne_eq]
  | false =>
    have := rg_f.mp h
    by_cases h1 : x.toInt < 0
    · simp only [h1, bI_f, ↓reduceIte, Nat.reduceEqDiff, and_false, false_and, true_and, and_true, forall_eq, forall_eq', exists_eq_left, exists_eq_left', Option.some.injEq, eq_self_iff_true, not_true, not_false_iff, false_implies, true_implies, forall_const, reduceCtorEq, ne_eq]
    · simp only [h1, show 2 ≤ x.toInt by omega, bI_f, ↓reduceIte, Nat.reduceEqDiff, and_false, false_and, true_and, and_true, forall_eq, forall_eq', exists_eq_left, exists_eq_left', Option.some.injEq, eq_self_iff_true, not_true, not_false_iff, false_implies, true_implies, forall_const, reduceCtorEq, ne_eq]
theorem e_isThereM {Q : Int32 → hp → Prop} {S : hp} (hL : Lay S) : wp_X12_isThere Q S 35 ↔ Q (bI (decide (hI S 39 0 = 1))) S := by
  unfold wp_X12_isThere
  simp only [hL.eqs, vi0, cl0, ↓reduceIte, Nat.reduceEqDiff, and_false, false_and, true_and, and_true, forall_eq, forall_eq', exists_eq_left, exists_eq_left', Option.some.injEq, eq_self_iff_true, not_true, not_false_iff, false_implies, true_implies, forall_const, reduceCtorEq, ne_eq]
  by_cases h : hI S 39 0 = 1 <;> simp [h, bI]
theorem e_isDummyM {Q : Int32 → hp → Prop} {S : hp} (hL : Lay S) (h : 0 ≤ (hI S 39 2).toInt) {x : Int32} : wp_X12_isDummy Q S 35 x ↔ Q (bI (rc x (hI S 39 2))) S := by
  unfold wp_X12_isDummy
  simp only [hL.eqs, vi2, cl2, e_in, bIz, l64_0, l64_1, l64_2, l64_5, l64_6, l64_7, l64_m1, l64_99, l64_m99, l64_255, l64_999, l64_m999, l64_297, l64_200, l64_m200, l64_97, l64_122, l64_48, l64_57, Int32.toInt_toInt64, rg_rc h, ↓reduceIte, Nat.reduceEqDiff, and_false, false_and, true_and, and_true, forall_eq, forall_eq', exists_eq_left, exists_eq_left', Option.some.injEq, eq_self_iff_true, not_true, not_false_iff, false_implies, true_implies, forall_const, reduceCtorEq, ne_eq]
theorem e_isMouthM {Q : Int32 → hp → Prop} {S : hp} (hL : Lay S) (h : 0 ≤ (hI S 39 3).toInt) {x : Int32} : wp_X12_isMouth Q S 35 x ↔ Q (bI (rc x (hI S 39 3))) S := by
  unfold wp_X12_isMouth
  simp only [hL.eqs, vi3, cl3, e_in, bIz, l64_0, l64_1, l64_2, l64_5, l64_6, l64_7, l64_m1, l64_99, l64_m99, l64_255, l64_999, l64_m999, l64_297, l64_200, l64_m200, l64_97, l64_122, l64_48, l64_57, Int32.toInt_toInt64, rg_rc h, ↓reduceIte, Nat.reduceEqDiff, and_false, false_and, true_and, and_true, forall_eq, forall_eq', exists_eq_left, exists_eq_left', Option.some.injEq, eq_self_iff_true, not_true, not_false_iff, false_implies, true_implies, forall_const, reduceCtorEq, ne_eq]
theorem i2 (c a j : Nat) : nI c + (nI a * nI j) = nI (c + a * j) := by rw [nI_mul, nI_add]
theorem i3 (c a j k : Nat) : nI c + (nI a * nI j) + nI k = nI (c + a * j + k) := by rw [nI_mul, nI_add, nI_add]
theorem e_kindOfM {Q : Int32 → hp → Prop} {S : hp} (hL : Lay S) {j : Nat} (hj : j < 5) : wp_X12_kindOf Q S 35 (nI j) ↔ Q (hI S 39 (41 + 2 * j)) S := by
  unfold wp_X12_kindOf
  have e : (41 : Int32) + (2 : Int32) * nI j = nI (41 + 2 * j) := i2 41 2 j
  simp only [hL.eqs, e, show vp_in (nI (41 + 2 * j)) 147 from vp_in_nI (by omega) (by omega), nI_clamp (show 41 + 2 * j < 2 ^ 31 by omega), ↓reduceIte, Nat.reduceEqDiff, and_false, false_and, true_and, and_true, forall_eq, forall_eq', exists_eq_left, exists_eq_left', Option.some.injEq, eq_self_iff_true, not_true, not_false_iff, false_implies, true_implies, forall_const, reduceCtorEq, ne_eq]
theorem e_bribeOfM {Q : Int32 → hp → Prop} {S : hp} (hL : Lay S) {j : Nat} (hj : j < 5) : wp_X12_bribeOf Q S 35 (nI j) ↔ Q (hI S 39 (42 + 2 * j)) S := by
  unfold wp_X12_bribeOf
  have e : (41 : Int32) + (2 : Int32) * nI j + (1 : Int32) = nI (42 + 2 * j) := (i3 41 2 j 1).trans (by congr 1; omega)
  simp only [hL.eqs, e, show vp_in (nI (42 + 2 * j)) 147 from vp_in_nI (by omega) (by omega), nI_clamp (show 42 + 2 * j < 2 ^ 31 by omega), ↓reduceIte, Nat.reduceEqDiff, and_false, false_and, true_and, and_true, forall_eq, forall_eq', exists_eq_left, exists_eq_left', Option.some.injEq, eq_self_iff_true, not_true, not_false_iff, false_implies, true_implies, forall_const, reduceCtorEq, ne_eq]
theorem e_lineOfM {Q : Int32 → hp → Prop} {S : hp} (hL : Lay S) {i c : Nat} (hi : i < 16) (hc : c < 6) : wp_X12_lineOf Q S 35 (nI i) (nI c) ↔ Q (hI S 39 (51 + 6 * i + c)) S := by
  unfold wp_X12_lineOf
  have e : (51 : Int32) + (6 : Int32) * nI i + nI c = nI (51 + 6 * i + c) := i3 51 6 i c
  simp only [hL.eqs, e, show vp_in (nI (51 + 6 * i + c)) 147 from vp_in_nI (by omega) (by omega), nI_clamp (show 51 + 6 * i + c < 2 ^ 31 by omega), ↓reduceIte, Nat.reduceEqDiff, and_false, false_and, true_and, and_true, forall_eq, forall_eq', exists_eq_left, exists_eq_left', Option.some.injEq, eq_self_iff_true, not_true, not_false_iff, false_implies, true_implies, forall_const, reduceCtorEq, ne_eq]
theorem e_part {Q : Int32 → hp → Prop} {S : hp} {a : Nat} (hS : SL S a) {i c : Nat} (hi : i < 16) (hc : c < 6) : wp_X8_part Q S a (nI i) (nI c) ↔ Q (hI S (a + 5) (6 * i + c)) S := by
  unfold wp_X8_part
  have e : (6 : Int32) * nI i + nI c = nI (6 * i + c) := by rw [← nI_add, ← nI_mul]; rfl
  simp only [hS.eqs, e, show vp_in (nI (6 * i + c)) 96 from vp_in_nI (by omega) (by omega), nI_clamp (show 6 * i + c < 2 ^ 31 by omega), ↓reduceIte, Nat.reduceEqDiff, and_false, false_and, true_and, and_true, forall_eq, forall_eq', exists_eq_left, exists_eq_left', Option.some.injEq, eq_self_iff_true, not_true, not_false_iff, false_implies, true_implies, forall_const, reduceCtorEq, ne_eq]
theorem e_pinchOfM {Q : Int32 → hp → Prop} {S : hp} (hL : Lay S) {d p : Nat} (hd : d < 4) (hp : p < 3) : wp_X12_pinchOf Q S 35 (nI d) (nI p) ↔ Q (hI S 39 (29 + 3 * d + p) - hI S 39 (5 + 3 * d + p)) S := by
  unfold wp_X12_pinchOf
  have e : (29 : Int32) + (3 : Int32) * nI d + nI p = nI (29 + 3 * d + p) := i3 29 3 d p
  have e2 : (5 : Int32) + (3 : Int32) * nI d + nI p = nI (5 + 3 * d + p) := i3 5 3 d p
  simp only [hL.eqs, e, e2, show vp_in (nI (29 + 3 * d + p)) 147 from vp_in_nI (by omega) (by omega), show vp_in (nI (5 + 3 * d + p)) 147 from vp_in_nI (by omega) (by omega), nI_clamp (show 29 + 3 * d + p < 2 ^ 31 by omega), nI_clamp (show 5 + 3 * d + p < 2 ^ 31 by omega), ↓reduceIte, Nat.reduceEqDiff, and_false, false_and, true_and, and_true, forall_eq, forall_eq', exists_eq_left, exists_eq_left', Option.some.injEq, eq_self_iff_true, not_true, not_false_iff, false_implies, true_implies, forall_const, reduceCtorEq, ne_eq]
theorem e_pinch {Q : Int32 → hp → Prop} {S : hp} {a : Nat} (hS : SL S a) {k : Nat} (hk : k < 12) : wp_X8_pinch Q S a (nI k) ↔ Q (hI S (a + 3) k - hI S (a + 1) k) S := by
  unfold wp_X8_pinch
  simp only [hS.eqs, show vp_in (nI k) 12 from vp_in_nI (by omega) (by omega), nI_clamp (show k < 2 ^ 31 by omega), ↓reduceIte, Nat.reduceEqDiff, and_false, false_and, true_and, and_true, forall_eq, forall_eq', exists_eq_left, exists_eq_left', Option.some.injEq, eq_self_iff_true, not_true, not_false_iff, false_implies, true_implies, forall_const, reduceCtorEq, ne_eq]
theorem e_at {Q : Int32 → hp → Prop} {S : hp} {d p : Nat} : wp_X8_at Q S (nI d) (nI p) ↔ Q (nI (3 * d + p)) S := by
  unfold wp_X8_at
  have e : (3 : Int32) * nI d + nI p = nI (3 * d + p) := by rw [← nI_add, ← nI_mul]; rfl
  rw [e]
/-- what a mouth of a kind pads -/
def pad (k : Nat) (t : Int32) : Int32 := match k with
  | 2 => if t ≤ 0 then t else 2 * t
  | 3 => -t
  | 4 => t / 2
  | 5 => -(t / 2)
  | _ => t
theorem five {k : Nat} (h : 1 ≤ k) (h2 : k ≤ 5) : k = 1 ∨ k = 2 ∨ k = 3 ∨ k = 4 ∨ k = 5 := by omega
theorem e_padding {Q : Int32 → hp → Prop} {S : hp} {r k : Nat} {t : Int32} (hk : hK S r = mkd k) (h : 1 ≤ k) (h2 : k ≤ 5) : wd_Mouth_padding Q S r t ↔ Q (pad k t) S := by
  unfold wd_Mouth_padding wp_X1_padding wp_X3_padding wp_X5_padding wp_X7_padding wp_X10_padding
  rcases five h h2 with rfl | rfl | rfl | rfl | rfl
  · simp [hk, mkd, pad]
  · simp only [hk, mkd, pad]
    by_cases ht : t ≤ 0 <;> simp [ht]
  · simp [hk, mkd, pad]
  · simp [hk, mkd, pad]
  · simp [hk, mkd, pad]
theorem nk {k c : Nat} (h : k ≤ 5) (hc : c ≤ 5) : (nI k = nI c) = (k = c) := propext (nI_eq (by omega) (by omega))
theorem e_padsOfM {Q : Int32 → hp → Prop} {S : hp} (hL : Lay S) {j k : Nat} {t : Int32} (hj : j < 5) (hk : hI S 39 (41 + 2 * j) = nI k) (h : 1 ≤ k) (h2 : k ≤ 5) : wp_X12_padsOf Q S 35 (nI j) t ↔ Q (pad k t) S := by
  unfold wp_X12_padsOf
  simp only [hL.eqs, e_kindOfM hL hj, hk, ↓reduceIte, Nat.reduceEqDiff, and_false, false_and, true_and, and_true, forall_eq, forall_eq', exists_eq_left, exists_eq_left', Option.some.injEq, eq_self_iff_true, not_true, not_false_iff, false_implies, true_implies, forall_const, reduceCtorEq, ne_eq]
  rcases five h h2 with rfl | rfl | rfl | rfl | rfl
  · simp [pad, show (nI 1 = 2) = False by decide, show (nI 1 = 3) = False by decide, show (nI 1 = 4) = False by decide, show (nI 1 = 5) = False by decide]
  · simp only [pad, show (nI 2 = 2) = True by decide, show (nI 2 = 3) = False by decide, show (nI 2 = 4) = False by decide, show (nI 2 = 5) = False by decide]
    by_cases ht : t ≤ 0 <;> simp [ht]
  · simp [pad, show (nI 3 = 2) = False by decide, show (nI 3 = 3) = True by decide, show (nI 3 = 4) = False by decide, show (nI 3 = 5) = False by decide]
  · simp [pad, show (nI 4 = 2) = False by decide, show (nI 4 = 3) = False by decide, show (nI 4 = 4) = True by decide, show (nI 4 = 5) = False by decide]
  · simp [pad, show (nI 5 = 2) = False by decide, show (nI 5 = 3) = False by decide, show (nI 5 = 4) = False by decide, show (nI 5 = 5) = True by decide]
