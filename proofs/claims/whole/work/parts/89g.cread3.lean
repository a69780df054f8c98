/-- a kind as a number; none: -1000000 -/
def kbI (k : Nat) : Int32 := if k = 0 then -1000000 else nI k
theorem e_kindOf {Q : Int32 → hp → Prop} {S : hp} {x : Int32} : wp_X9_kindOf Q S x ↔ Q (kbI (kb x)) S := by
  unfold wp_X9_kindOf kb
  by_cases h1 : x = 118
  · subst h1; simp [kbI]; rfl
  by_cases h2 : x = 107
  · subst h2; simp [kbI]; rfl
  by_cases h3 : x = 114
  · subst h3; simp [kbI]; rfl
  by_cases h4 : x = 103
  · subst h4; simp [kbI]; rfl
  by_cases h5 : x = 115
  · subst h5; simp [kbI]; rfl
  simp [h1, h2, h3, h4, h5, kbI]
theorem e_kindBy {Q : Int32 → hp → Prop} {S : hp} {x : Int32} : wp_X12_kindBy Q S x ↔ Q (kbI (kb x)) S := by
  unfold wp_X12_kindBy kb
  by_cases h1 : x = 118
  · subst h1; simp [kbI]; rfl
  by_cases h2 : x = 107
  · subst h2; simp [kbI]; rfl
  by_cases h3 : x = 114
  · subst h3; simp [kbI]; rfl
  by_cases h4 : x = 103
  · subst h4; simp [kbI]; rfl
  by_cases h5 : x = 115
  · subst h5; simp [kbI]; rfl
  simp [h1, h2, h3, h4, h5, kbI]
def newMo (S : hp) (k : Nat) (a b : Int32) : hp := setI (setI (newC S (mkd k) 0) (hC S) 0 a) (hC S) 1 b
theorem e_newMouth {Q : Nat → hp → Prop} {S : hp} {k : Nat} {a b : Int32} (h : 1 ≤ k) (h2 : k ≤ 5) : wp_X8_newMouth Q S (nI k) a b ↔ Q (hC S) (newMo S k a b) := by
  have m9 : isM 9 := by unfold isM; omega
  have m1 : isM 1 := by unfold isM; omega
  have m4 : isM 4 := by unfold isM; omega
  have m3 : isM 3 := by unfold isM; omega
  have m6 : isM 6 := by unfold isM; omega
  unfold wp_X8_newMouth wp_X1_init wp_X5_init wp_X3_init wp_X7_init wp_X10_init wp_X4_init newMo
  rcases five h h2 with rfl | rfl | rfl | rfl | rfl <;> simp only [nl01, hK_newC, mkd, m9, m1, m4, m3, m6, wp_X10_init, wp_X3_init, wp_X4_init, ↓reduceIte, Nat.reduceEqDiff, and_false, false_and, true_and, and_true, forall_eq, forall_eq', exists_eq_left, exists_eq_left', Option.some.injEq, eq_self_iff_true, not_true, not_false_iff, false_implies, true_implies, forall_const, reduceCtorEq, ne_eq]
def addMo (S : hp) (m k : Nat) (v : Int32) : hp := setI (setR (newMo S k (nI m) v) 26 m (some (hC S))) 22 8 (nI (m + 1))
theorem c_addMouth {Q : hp → Prop} {S : hp} {m k : Nat} {v : Int32} (hL : Lay S) (hm : hI S 22 8 = nI m) (hm5 : m < 5) (h : 1 ≤ k) (h2 : k ≤ 5) (H : Q (addMo S m k v)) : wp_X8_addMouth Q S 22 (nI k) v := by
  have c := hL.2.2
  unfold wp_X8_addMouth
  rw [hm]
  refine ⟨(hL.1 22 (by decide)).1, 26, hL.2.1 (22, 3, 26) (by decide), (e_newMouth h h2).mpr ?_⟩
  have k26 : hK (newMo S k (nI m) v) 26 = 14 := by
    show hK (newC S (mkd k) 0) 26 = 14
    rw [hK_newC, if_neg (by omega)]; exact (hL.1 26 (by decide)).1
  have n26 : hN (newMo S k (nI m) v) 26 = 5 := by
    show hN (newC S (mkd k) 0) 26 = 5
    rw [hN_newC, if_neg (by omega)]; exact (hL.1 26 (by decide)).2
  have kC : hK (newMo S k (nI m) v) (hC S) = mkd k := by
    show hK (newC S (mkd k) 0) (hC S) = _
    rw [hK_newC, if_pos rfl]
  have k22 : hK (newMo S k (nI m) v) 22 = 7 := by
    show hK (newC S (mkd k) 0) 22 = 7
    rw [hK_newC, if_neg (by omega)]; exact (hL.1 22 (by decide)).1
  have i22 : hI (newMo S k (nI m) v) 22 8 = nI m := by
    unfold newMo
    rw [hI_setI_ne (by omega), hI_setI_ne (by omega), hI_newC, if_neg (by omega)]; exact hm
  refine ⟨k26, by rw [n26]; exact vp_in_nI (by omega) (by omega), by rw [kC]; exact mkd_isM k, ?_⟩
  intro S8 e8
  rw [nI_clamp (show m < 2 ^ 31 by omega)] at e8
  refine ⟨by rw [e8]; exact k22, ?_⟩
  intro S13 e13
  rw [e13, e8, hI_setR, i22, nI_1]
  exact H
theorem addMo_fr (S : hp) (m k : Nat) (v : Int32) : Fr (fun b => b = 22 ∨ b = 26) S (addMo S m k v) := by
  refine ⟨?_, fun b hb => ?_, fun b hb hp => ⟨?_, ?_⟩⟩
  · show hC S ≤ hC S + 1; omega
  · show hK (newC S (mkd k) 0) b = _ ∧ hN (newC S (mkd k) 0) b = _
    rw [hK_newC, hN_newC, if_neg (by omega), if_neg (by omega)]; exact ⟨rfl, rfl⟩
  · unfold addMo newMo
    rw [hI_setI_ne (by omega), hI_setR, hI_setI_ne (by omega), hI_setI_ne (by omega)]
    funext j; rw [hI_newC, if_neg (by omega)]
  · unfold addMo newMo
    rw [hR_setI, hR_setR_ne (by omega), hR_setI, hR_setI]
    funext j; rw [hR_newC, if_neg (by omega)]
theorem addMo_r22 {S : hp} (hL : Lay S) (m k : Nat) (v : Int32) : hR (addMo S m k v) 22 = hR S 22 := by
  have c := hL.2.2
  unfold addMo newMo
  rw [hR_setI, hR_setR_ne (by omega), hR_setI, hR_setI]
  funext j; rw [hR_newC, if_neg (by omega)]
theorem addMo_r26 {S : hp} (hL : Lay S) (m k : Nat) (v : Int32) (j : Nat) : hR (addMo S m k v) 26 j = if j = m then some (hC S) else hR S 26 j := by
  have c := hL.2.2
  unfold addMo newMo
  rw [hR_setI, hR_setR, hR_setI, hR_setI, hR_newC, if_neg (show ¬ 26 = hC S by omega)]
  by_cases q : j = m <;> simp [q]
theorem addMo_i22 {S : hp} (hL : Lay S) (m k : Nat) (v : Int32) (j : Nat) : hI (addMo S m k v) 22 j = if j = 8 then nI (m + 1) else hI S 22 j := by
  have c := hL.2.2
  unfold addMo newMo
  rw [hI_setI, hI_setR, hI_setI_ne (by omega), hI_setI_ne (by omega), hI_newC, if_neg (show ¬ 22 = hC S by omega)]
  by_cases q : j = 8 <;> simp [q]
theorem addMo_new {S : hp} (hL : Lay S) (m k : Nat) (v : Int32) : hC (addMo S m k v) = hC S + 1 ∧ hK (addMo S m k v) (hC S) = mkd k ∧ hI (addMo S m k v) (hC S) 0 = nI m ∧ hI (addMo S m k v) (hC S) 1 = v := by
  have c := hL.2.2
  refine ⟨rfl, ?_, ?_, ?_⟩
  · show hK (newC S (mkd k) 0) (hC S) = _
    rw [hK_newC, if_pos rfl]
  · unfold addMo newMo
    rw [hI_setI_ne (by omega), hI_setR, hI_setI, if_neg (by omega), hI_setI, if_pos ⟨rfl, rfl⟩]
  · unfold addMo newMo
    rw [hI_setI_ne (by omega), hI_setR, hI_setI, if_pos ⟨rfl, rfl⟩]
theorem addMo_sl {S : hp} {m k : Nat} {v : Int32} (hL : Lay S) (hS : SL S 22) : SL (addMo S m k v) 22 := by
  have F := addMo_fr S m k v
  have c := hL.2.2
  have kk' : ∀ b, b < 50 → hK (addMo S m k v) b = hK S b ∧ hN (addMo S m k v) b = hN S b := fun b hb => F.2.1 b (by omega)
  obtain ⟨a1, a2, a3, a4⟩ := hS
  obtain ⟨n1, n2, -, -⟩ := addMo_new hL m k v
  refine ⟨⟨by rw [n1]; omega, ?_, ?_, ?_, ?_, ?_, ?_⟩, ⟨?_, ?_, ?_, ?_, ?_⟩, by rw [addMo_r22 hL]; exact a3, fun j r hj hr => ?_⟩
  · rw [(kk' 22 (by decide)).1]; exact a1.2.1
  · rw [(kk' 23 (by decide)).1]; exact a1.2.2.1
  · rw [(kk' 24 (by decide)).1]; exact a1.2.2.2.1
  · rw [(kk' 25 (by decide)).1]; exact a1.2.2.2.2.1
  · rw [(kk' 26 (by decide)).1]; exact a1.2.2.2.2.2.1
  · rw [(kk' 27 (by decide)).1]; exact a1.2.2.2.2.2.2
  · rw [(kk' 23 (by decide)).2]; exact a2.1
  · rw [(kk' 24 (by decide)).2]; exact a2.2.1
  · rw [(kk' 25 (by decide)).2]; exact a2.2.2.1
  · rw [(kk' 26 (by decide)).2]; exact a2.2.2.2.1
  · rw [(kk' 27 (by decide)).2]; exact a2.2.2.2.2
  · rw [addMo_r26 hL] at hr
    by_cases q : j = m
    · rw [if_pos q] at hr
      cases hr
      rw [n1, n2]; exact ⟨Nat.lt_succ_self _, mkd_isM k⟩
    · rw [if_neg q] at hr
      obtain ⟨g1, g2⟩ := a4 j r hj hr
      rw [n1, (F.2.1 r g1).1]; exact ⟨by omega, g2⟩
theorem RSt.mou {S : hp} {f : Nat → Int32} {m k : Nat} {v : Int32} (hL : Lay S) (h : RSt S 22 f) (h0 : f 0 = 1) (hl : nl f = 0) (hm : m < 5) (hmm : nm f = m) (hk1 : 1 ≤ k) (hk : k ≤ 5) (hv : rg v 0 99 = true) : RSt (addMo S m k v) 22 (addM f m k v) := by
  have F := addMo_fr S m k v
  have c := hL.2.2
  obtain ⟨hS, hW, ⟨f5, f6, f7, f8, f9⟩, hA, hM, hG⟩ := h
  obtain ⟨e1, e2, e3, e4⟩ := addM_n (f := f) (v := v) hm hk
  obtain ⟨n1, n2, n3, n4⟩ := addMo_new hL m k v
  refine ⟨addMo_sl hL hS, WF_addM hW h0 hl hm hmm hk1 hk hv, ⟨?_, ?_, ?_, ?_, ?_⟩, fun q hq => ?_, fun j hj => ?_, fun q hq => ?_⟩
  · rw [addMo_i22 hL, if_neg (by decide), addM_lo (by decide) (by decide)]; exact f5
  · rw [addMo_i22 hL, if_neg (by decide), addM_lo (by decide) (by decide)]; exact f6
  · rw [addMo_i22 hL, if_neg (by decide), addM_lo (by decide) (by decide)]; exact f7
  · rw [addMo_i22 hL, if_pos rfl]; rfl
  · rw [addMo_i22 hL, if_neg (by decide), addM_lo (by decide) (by decide)]; exact f9
  · rw [e1] at hq
    have w := hW.1.2
    rw [addM_lo (by omega) (by omega), addM_lo (by omega) (by omega), addM_lo (by omega) (by omega), (F.2.2 (22 + 1) (by omega) (by decide)).1, (F.2.2 (22 + 2) (by omega) (by decide)).1, (F.2.2 (22 + 3) (by omega) (by decide)).1]
    exact hA q hq
  · rw [e2] at hj
    rw [addMo_r26 hL, e4, addM_42]
    by_cases q : j = m
    · subst q
      rw [if_pos rfl, if_pos rfl, if_pos rfl]
      exact ⟨hC S, rfl, by rw [n1]; omega, n2, n3, n4⟩
    · rw [if_neg q, if_neg q, if_neg q]
      obtain ⟨r, h1, h2, h3, h4, h5⟩ := hM j (by omega)
      have r50 := hL.mou (r := r) (by rw [h3]; exact mkd_isM _)
      have ro := (F.2.2 r h2 (by omega)).1
      exact ⟨r, h1, by rw [n1]; omega, by rw [(F.2.1 r h2).1]; exact h3, by rw [ro]; exact h4, by rw [ro]; exact h5⟩
  · rw [e3, hl] at hq; exact absurd hq (Nat.not_lt_zero _)
