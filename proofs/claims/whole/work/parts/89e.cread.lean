/-! street: what the class reads -/
theorem fltC_putA (S : hp) (g : Nat → Int32) (x : Int32) : fltC (putA S 14 g) x = putA S 14 (fun i => if i = 3 then g 4 else if i = 2 then x else g i) := by
  unfold fltC; rw [setI_putA, setI_putA, hI_putA_s]
theorem Lay.of4 {S S1 : hp} (h : Lay S) (hc : hC S1 = hC S) (hk : hK S1 = hK S) (hn : hN S1 = hN S) (hr : hR S1 = hR S) : Lay S1 := by
  unfold Lay; rw [hc, hk, hn, hr]; exact h
theorem SL.of4 {S S1 : hp} {a : Nat} (h : SL S a) (hc : hC S1 = hC S) (hk : hK S1 = hK S) (hn : hN S1 = hN S) (hr : hR S1 = hR S) : SL S1 a := by
  unfold SL; rw [hc, hk, hn, hr]; exact h
theorem c_in {Q : Int32 → hp → Prop} {K : hp → Prop} {S : hp} {n p : Nat} {lo hi x : Int32} {T : Nat → Int32} (hL : Lay S) (hn : n ≤ 140) (h1 : hI S 14 1 = nI n) (h4 : hI S 14 4 = nI p) (hp : p ≤ n) (hT : hI S 15 = T) (HE : ∀ e g, pIn (pNum T n) (pByte T n) p lo hi x = .error e → g 1 = nI n → g 2 = e.1 → g 3 = nI e.2 → Q 0 (putA S 14 g)) (HO : ∀ v q g, pIn (pNum T n) (pByte T n) p lo hi x = .ok (v, q) → g 1 = nI n → g 4 = nI q → g 5 = v → K (putA S 14 g)) : wp_X9_readNumber (fun r5 S3 => ((r5 = 0 → Q 0 S3) ∧ (¬ r5 = 0 → hK S3 14 = 8 ∧ wp_X9_readByte (fun r9 S7 => ((¬ r9 = 0 → K S7) ∧ (r9 = 0 → Q 0 S7))) S3 14 x))) S 14 lo hi := by
  have l := figs_le T n p
  refine c_readNumber hL hn h1 h4 hp hT ?_ ?_ ?_
  · intro a b
    refine ⟨fun q => absurd q (by decide), fun _ => ⟨(hL.1 14 (by decide)).1, ?_⟩⟩
    have eN : pNum T n p lo hi = .ok (fval T p (figs T n p), p + figs T n p) := by unfold pNum; rw [if_pos a, if_pos b]
    generalize hv : fval T p (figs T n p) = v at eN ⊢
    generalize hq : p + figs T n p = q at eN ⊢
    rw [setI_asA S 14 5, setI_putA]
    generalize hg0 : (fun i => if i = 4 then nI q else if i = 5 then v else hI S 14 i) = g0
    have y1 : g0 1 = nI n := by rw [← hg0]; simpa using h1
    have y4 : g0 4 = nI q := by rw [← hg0]; simp
    have y5 : g0 5 = v := by rw [← hg0]; simp
    refine (e_readByte (S := putA S 14 g0) (n := n) (p := q) hL hn (by rw [hI_putA_s]; exact y1) (by rw [hI_putA_s]; exact y4) (by omega)).mpr ?_
    rw [hI_putA_ne (show 15 ≠ 14 by decide), hT, setI_putA, fltC_putA]
    by_cases c : q < n ∧ T q = x
    · rw [if_pos c]
      refine ⟨fun _ => HO v (q + 1) _ ?_ ?_ ?_ ?_, fun z => absurd z (by decide)⟩
      · simp [pIn, eN, pByte, c]
      · simpa using y1
      · simp
      · simpa using y5
    · rw [if_neg c]
      refine ⟨fun z => absurd rfl z, fun _ => HE (1, q) _ ?_ ?_ ?_ ?_⟩
      · simp [pIn, eN, pByte, c]
      · simpa using y1
      · simp
      · simpa using y4
  · intro a b v
    refine ⟨fun _ => ?_, fun q => absurd rfl q⟩
    rw [setI_asA, fltC_putA]
    refine HE (2, p) _ ?_ ?_ ?_ ?_
    · simp [pIn, pNum, a, b]
    · simpa using h1
    · simp
    · simpa using h4
  · intro a v
    refine ⟨fun _ => ?_, fun q => absurd rfl q⟩
    rw [setI_asA, fltC_putA]
    refine HE (1, p) _ ?_ ?_ ?_ ?_
    · have : ¬ (figs T n p = 1 ∨ figs T n p = 2) := by omega
      simp [pIn, pNum, this]
    · simpa using h1
    · simp
    · simpa using h4
theorem c_readLaw {Q : Int32 → hp → Prop} {S : hp} {n : Nat} {T : Nat → Int32} (hL : Lay S) (hn : n ≤ 140) (h1 : hI S 14 1 = nI n) (h4 : hI S 14 4 = nI 0) (hT : hI S 15 = T) (HE : ∀ e g, pLaw (pNum T n) (pByte T n) = .error e → g 1 = nI n → g 2 = e.1 → g 3 = nI e.2 → Q 0 (putA S 14 g)) (HO : ∀ v q g, pLaw (pNum T n) (pByte T n) = .ok (v, q) → g 1 = nI n → g 4 = nI q → Q 1 (setI (putA S 14 g) 22 6 v)) : wp_X9_readLaw Q S 14 22 := by
  unfold wp_X9_readLaw
  refine ⟨(hL.1 14 (by decide)).1, (e_readByte hL hn h1 h4 (Nat.zero_le _)).mpr ?_⟩
  rw [hT]
  by_cases c : 0 < n ∧ T 0 = 119
  · rw [if_pos c]
    have eB : pByte T n 0 119 = .ok 1 := by unfold pByte; rw [if_pos c]
    refine ⟨fun z => absurd z (by decide), fun _ => ⟨(hL.1 14 (by decide)).1, ?_⟩⟩
    rw [setI_asA]
    refine c_in (n := n) (p := 1) (T := T) hL hn (by rw [hI_putA_s]; simpa using h1) (by rw [hI_putA_s]; simp) (by omega) (by rw [hI_putA_ne (by decide)]; exact hT) ?_ ?_
    · intro e g h a b d
      rw [putA_putA]
      exact HE e g (by simp [pLaw, eB, h]) a b d
    · intro v q g h a b d
      rw [putA_putA]
      refine ⟨(hL.1 14 (by decide)).1, (hL.1 22 (by decide)).1, ?_⟩
      intro S15 e
      rw [e, hI_putA_s, d]
      exact HO v q g (by simp [pLaw, eB, h]) a b
  · rw [if_neg c]
    refine ⟨fun _ => ?_, fun z => absurd rfl z⟩
    rw [← putA_self S 14, fltC_putA]
    refine HE (1, 0) _ ?_ ?_ ?_ ?_
    · simp [pLaw, pByte, c]
    · simpa using h1
    · simp
    · simpa using h4
/-- some inches of the dummy d are made -/
def Cd (S S1 : hp) (d j : Nat) (w : Nat → Int32) : Prop := (hC S1 = hC S ∧ hK S1 = hK S ∧ hN S1 = hN S ∧ hR S1 = hR S) ∧ (∀ b, b ≠ 14 → b ≠ 23 → b ≠ 24 → b ≠ 25 → hI S1 b = hI S b) ∧ ∀ c, 23 ≤ c → c ≤ 25 → (∀ i, i < 3 * d → hI S1 c i = hI S c i) ∧ ∀ i, i < j → hI S1 c (3 * d + i) = w i
theorem Cd.p14 {S S1 : hp} {d j : Nat} {w g : Nat → Int32} (h : Cd S S1 d j w) : Cd S (putA S1 14 g) d j w :=
  ⟨h.1, fun b h1 h2 h3 h4 => by rw [hI_putA_ne h1]; exact h.2.1 b h1 h2 h3 h4, fun c h1 h2 => by rw [hI_putA_ne (by omega)]; exact h.2.2 c h1 h2⟩
theorem Cd.make {S S1 : hp} {d j : Nat} {w : Nat → Int32} {v : Int32} (h : Cd S S1 d j w) : Cd S (setI (setI (setI S1 23 (3 * d + j) v) 24 (3 * d + j) v) 25 (3 * d + j) v) d (j + 1) (fun i => if i = j then v else w i) := by
  refine ⟨h.1, fun b h1 h2 h3 h4 => by rw [hI_setI_ne h4, hI_setI_ne h3, hI_setI_ne h2]; exact h.2.1 b h1 h2 h3 h4, fun c h1 h2 => ?_⟩
  have e : ∀ i, hI (setI (setI (setI S1 23 (3 * d + j) v) 24 (3 * d + j) v) 25 (3 * d + j) v) c i = if i = 3 * d + j then v else hI S1 c i := by
    intro i
    rcases (show c = 23 ∨ c = 24 ∨ c = 25 by omega) with rfl | rfl | rfl
    · rw [hI_setI_ne (by decide), hI_setI_ne (by decide), hI_setI]; simp
    · rw [hI_setI_ne (by decide), hI_setI, hI_setI_ne (by decide)]; simp
    · rw [hI_setI, hI_setI_ne (by decide), hI_setI_ne (by decide)]; simp
  obtain ⟨g1, g2⟩ := h.2.2 c h1 h2
  refine ⟨fun i hi => by rw [e, if_neg (by omega)]; exact g1 i hi, fun i hi => ?_⟩
  rw [e]
  by_cases q : i = j
  · rw [if_pos (by omega)]; simp [q]
  · rw [if_neg (by omega)]; simp only [q, ↓reduceIte]; exact g2 i (by omega)
theorem Cd.congr {S S1 : hp} {d j : Nat} {w w2 : Nat → Int32} (h : Cd S S1 d j w) (hw : ∀ i, i < j → w i = w2 i) : Cd S S1 d j w2 :=
  ⟨h.1, h.2.1, fun c h1 h2 => ⟨(h.2.2 c h1 h2).1, fun i hi => by rw [← hw i hi]; exact (h.2.2 c h1 h2).2 i hi⟩⟩
theorem c_inch {bk : hp → Nat → Nat → Int32 → Int32 → Prop} {Q : Int32 → hp → Prop} {S S1 : hp} {n p d j : Nat} {x : Int32} {T w : Nat → Int32} (hL : Lay S) (hn : n ≤ 140) (hC1 : Cd S S1 d j w) (h1 : hI S1 14 1 = nI n) (h4 : hI S1 14 4 = nI p) (hp : p ≤ n) (hT : hI S 15 = T) (hd : d < 4) (hj : j < 3) (HE : ∀ e S2, pIn (pNum T n) (pByte T n) p 0 99 x = .error e → Cd S S2 d j w → hI S2 14 1 = nI n → hI S2 14 2 = e.1 → hI S2 14 3 = nI e.2 → Q 0 S2) (HO : ∀ v q S2, pIn (pNum T n) (pByte T n) p 0 99 x = .ok (v, q) → Cd S S2 d (j + 1) (fun i => if i = j then v else w i) → hI S2 14 1 = nI n → hI S2 14 4 = nI q → bk S2 14 22 (nI d) (nI (j + 1))) : wB_X9_readInches_19 bk Q S1 14 22 (nI d) (nI j) x := by
  have hL1 : Lay S1 := hL.of4 hC1.1.1 hC1.1.2.1 hC1.1.2.2.1 hC1.1.2.2.2
  unfold wB_X9_readInches_19
  refine ⟨(hL1.1 14 (by decide)).1, ?_⟩
  refine c_in (n := n) (p := p) (T := T) hL1 hn h1 h4 hp (by rw [hC1.2.1 15 (by decide) (by decide) (by decide) (by decide)]; exact hT) ?_ ?_
  · intro e g h a b c
    exact HE e _ h hC1.p14 (by rw [hI_putA_s]; exact a) (by rw [hI_putA_s]; exact b) (by rw [hI_putA_s]; exact c)
  · intro v q g h a b c
    rw [e_at, show hI (putA S1 14 g) 14 5 = v by rw [hI_putA_s]; exact c]
    unfold wp_X8_make
    simp only [hL1.eqs, hK_putA, hN_putA, hR_putA, hC_putA, hK_setI, hN_setI, hR_setI, hC_setI, hI_setI, hK_setR, hN_setR, hI_setR, hC_setR, hR_setR, hK_cpyI, hN_cpyI, hR_cpyI, hC_cpyI, hI_cpyI, c, nI_1, show vp_in (nI (3 * d + j)) 12 from vp_in_nI (by omega) (by omega), nI_clamp (show 3 * d + j < 2 ^ 31 by omega), ↓reduceIte, Nat.reduceEqDiff, and_false, false_and, true_and, and_true, forall_eq, forall_eq', exists_eq_left, exists_eq_left', Option.some.injEq, eq_self_iff_true, not_true, not_false_iff, false_implies, true_implies, forall_const, reduceCtorEq, ne_eq]
    refine HO v q _ h hC1.p14.make ?_ ?_
    · rw [hI_setI_ne (by decide), hI_setI_ne (by decide), hI_setI_ne (by decide), hI_putA_s]; exact a
    · rw [hI_setI_ne (by decide), hI_setI_ne (by decide), hI_setI_ne (by decide), hI_putA_s]; exact b
theorem c_readInches {Q : Int32 → hp → Prop} {S : hp} {n p d : Nat} {T : Nat → Int32} (hL : Lay S) (hn : n ≤ 140) (h1 : hI S 14 1 = nI n) (h4 : hI S 14 4 = nI p) (hp : p ≤ n) (hT : hI S 15 = T) (hd : d < 4) (HE : ∀ e S2 j w, pThree (pNum T n) (pByte T n) p = .error e → Cd S S2 d j w → hI S2 14 1 = nI n → hI S2 14 2 = e.1 → hI S2 14 3 = nI e.2 → Q 0 S2) (HO : ∀ w q S2, pThree (pNum T n) (pByte T n) p = .ok (w, q) → Cd S S2 d 3 w → hI S2 14 1 = nI n → hI S2 14 4 = nI q → Q 1 S2) : wp_X9_readInches Q S 14 22 (nI d) := by
  unfold wp_X9_readInches
  refine ⟨4, ?_⟩
  have c0 : Cd S S d 0 (fun _ => 0) := ⟨⟨rfl, rfl, rfl, rfl⟩, fun _ _ _ _ _ => rfl, fun _ _ _ => ⟨fun _ _ => rfl, fun i hi => absurd hi (Nat.not_lt_zero _)⟩⟩
  show wB_X9_readInches_2 (wl_X9_readInches_2 Q 3) Q S 14 22 (nI d) (nI 0)
  unfold wB_X9_readInches_2
  refine ⟨fun q => absurd q (by decide), fun _ => ⟨fun _ => ?_, fun q => absurd q (by decide)⟩⟩
  refine c_inch (j := 0) hL hn c0 h1 h4 hp hT hd (by decide) (fun e S2 h a b c d2 => HE e S2 0 _ (by simp [pThree, h]) a b c d2) ?_
  intro v0 q0 S2 e0 c1 h1 h4
  show wB_X9_readInches_2 (wl_X9_readInches_2 Q 2) Q S2 14 22 (nI d) (nI 1)
  unfold wB_X9_readInches_2
  refine ⟨fun q => absurd q (by decide), fun _ => ⟨fun _ => ?_, fun q => absurd q (by decide)⟩⟩
  refine c_inch (j := 1) hL hn c1 h1 h4 (pIn_v e0).2 hT hd (by decide) (fun e S2 h a b c d2 => HE e S2 1 _ (by simp [pThree, e0, h]) a b c d2) ?_
  intro v1 q1 S3 e1 c2 h1 h4
  show wB_X9_readInches_2 (wl_X9_readInches_2 Q 1) Q S3 14 22 (nI d) (nI 2)
  unfold wB_X9_readInches_2
  refine ⟨fun q => absurd q (by decide), fun _ => ⟨fun q => absurd (by decide) q, fun _ => ?_⟩⟩
  refine c_inch (j := 2) hL hn c2 h1 h4 (pIn_v e1).2 hT hd (by decide) (fun e S2 h a b c d2 => HE e S2 2 _ (by simp [pThree, e0, e1, h]) a b c d2) ?_
  intro v2 q2 S4 e2 c3 h1 h4
  show wB_X9_readInches_2 (wl_X9_readInches_2 Q 0) Q S4 14 22 (nI d) (nI 3)
  unfold wB_X9_readInches_2
  refine ⟨fun _ => ?_, fun q => absurd (by decide) q⟩
  refine HO (v3 v0 v1 v2) q2 S4 (by simp [pThree, e0, e1, e2]) (c3.congr (fun i hi => ?_)) h1 h4
  rcases (show i = 0 ∨ i = 1 ∨ i = 2 by omega) with rfl | rfl | rfl <;> rfl
