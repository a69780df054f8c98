/-- the class has kept its street, as an act -/
def KA (S : hp) (n l : Nat) (S1 : hp) : Prop := ∃ a, 50 ≤ a ∧ (SL S a ∨ hC S ≤ a) ∧ (hR S 34 ((l + 1) % 24) = some a ∨ (hR S 34 ((l + 1) % 24) = none ∧ a = hC S)) ∧ Fr (fun b => (a ≤ b ∧ b ≤ a + 5) ∨ (b = 0 ∨ b = 34)) S S1 ∧ RSt S1 a (vec S 39 0) ∧ (∀ j, hR S1 34 j = if j = (l + 1) % 24 then some a else hR S 34 j) ∧ (∀ j, hI S1 0 j = if j = 8 then nI (if n = 24 then 24 else n + 1) else if j = 9 then nI ((l + 1) % 24) else hI S 0 j) ∧ ∀ b, isO b → hR S1 b = hR S b
theorem c_keepAct {Q : hp → Prop} {S : hp} {n l : Nat} (h : Rel S) (hn : n ≤ 24) (hl : l < 24) (h8 : hI S 0 8 = nI n) (h9 : hI S 0 9 = nI l) (hQ : ∀ S1, KA S n l S1 → Q S1) : wp_X11_keepAct Q S 0 := by
  obtain ⟨hL, g1, g2, g3, g4, g5, g6, g7, g8, g9⟩ := h
  have em : nI l + (1 : Int32) - (nI l + (1 : Int32)) / 24 * 24 = nI ((l + 1) % 24) := by
    rw [nI_1]; exact pk_rem (a := l + 1) (d := 24) (by omega) (by omega) (by omega)
  generalize hp : (l + 1) % 24 = p at em
  have hp24 : p < 24 := by rw [← hp]; exact Nat.mod_lt _ (by omega)
  have hv : vp_in (nI p) 24 := vp_in_nI hp24 (by omega)
  have hc : (nI p).toNatClampNeg = p := nI_clamp (by omega)
  unfold wp_X11_keepAct
  simp only [hL.eqs, h9, em, hI_setI, hv, hc, hK_putA, hN_putA, hR_putA, hC_putA, hK_setI, hN_setI, hR_setI, hC_setI, hI_setI, hK_setR, hN_setR, hI_setR, hC_setR, hR_setR, hK_cpyI, hN_cpyI, hR_cpyI, hC_cpyI, hI_cpyI, ↓reduceIte, Nat.reduceEqDiff, and_false, false_and, true_and, and_true, forall_eq, forall_eq', exists_eq_left, exists_eq_left', Option.some.injEq, eq_self_iff_true, not_true, not_false_iff, false_implies, true_implies, forall_const, reduceCtorEq, ne_eq]
  have ho : ∀ a, hR S 34 p = some a → SL S a ∧ 50 ≤ a := fun a ha => by
    obtain ⟨n', l', c1, c2, c3, c4, c5, c6, c7⟩ := g7
    exact ⟨(c6 p a hp24 ha).2, (c6 p a hp24 ha).1⟩
  have r16 : RSt (setI S 0 9 (nI p)) 16 (vec S 39 0) := g4.fr (P := fun b => b = 0) (Fr.rfl'.setI rfl) (Off.low16 hL (fun b hb => by omega))
  have W : ∀ o, hR S 34 p = o → ∀ a S', (o = some a ∨ (o = none ∧ a = hC S)) → 50 ≤ a → (∀ P, (∀ b, a ≤ b ∧ b ≤ a + 5 → P b) → Fr P (setI S 0 9 (nI p)) S') → (∀ b, isO b → hR S' b = hR S b) → RSt S' a (vec S 39 0) → hK S' 34 = 15 ∧ vp_in (nI p) (hN S' 34) ∧ hK S' a = 7 ∧ hK S' 0 = 10 ∧ Q (setI (setR S' 34 p (some a)) 0 8 (if (24 : Int32) < hI S' 0 8 + 1 then 24 else hI S' 0 8 + 1)) := by
    intro o ho2 a S' ha a50 hF hO hR1
    have F := hF _ (fun b hb => hb)
    have low : ∀ b, b < 50 → hI S' b = hI (setI S 0 9 (nI p)) b ∧ hR S' b = hR S b := fun b hb => F.2.2 b (Nat.lt_of_lt_of_le hb hL.2.2) (by omega)
    have hL' : Lay S' := Lay.fr2 (S := setI S 0 9 (nI p)) hL F hO
    refine ⟨(hL'.1 34 (by decide)).1, by rw [(hL'.1 34 (by decide)).2]; exact hv, hR1.1.eqs.1, hL'.eqs.1, hQ _ ?_⟩
    have e8 : hI S' 0 8 = nI n := by rw [(low 0 (by decide)).1, hI_setI, if_neg (by omega)]; exact h8
    have ev : (if (24 : Int32) < hI S' 0 8 + 1 then 24 else hI S' 0 8 + 1) = nI (if n = 24 then 24 else n + 1) := by
      rw [e8, nI_1]
      by_cases q : n = 24
      · subst q; decide
      · rw [if_neg q]
        exact if_neg (nI_nlt (a := 24) (b := n + 1) (by omega) (by omega))
    rw [ev]
    refine ⟨a, a50, ha.elim (fun q => Or.inl (ho a (ho2.trans q)).1) (fun q => Or.inr (by omega)), ?_, ?_, ?_, fun j => ?_, fun j => ?_, fun b hb => ?_⟩
    · rw [hp]; exact ha.elim (fun q => Or.inl (ho2.trans q)) (fun q => Or.inr ⟨ho2.trans q.1, q.2⟩)
    · have F0 : Fr (fun b => (a ≤ b ∧ b ≤ a + 5) ∨ (b = 0 ∨ b = 34)) S (setI S 0 9 (nI p)) := Fr.rfl'.setI (Or.inr (Or.inl rfl))
      have F1 := F0.tr (F.mono (P2 := fun b => (a ≤ b ∧ b ≤ a + 5) ∨ (b = 0 ∨ b = 34)) (fun b hb => Or.inl hb))
      exact ((F1.mono (fun b hb => hb.elim id id)).setR (Or.inr (Or.inr rfl))).setI (Or.inr (Or.inl rfl))
    · exact hR1.fr (P := fun b => b = 34 ∨ b = 0) ((Fr.rfl'.setR (Or.inl rfl)).setI (Or.inr rfl)) (Off.low hL' a50 (fun b hb => by omega))
    · show hR (setR S' 34 p (some a)) 34 j = _
      rw [hR_setR, (low 34 (by decide)).2, hp]; simp
    · rw [hI_setI]
      show (if 0 = 0 ∧ j = 8 then _ else hI S' 0 j) = _
      rw [(low 0 (by decide)).1, hI_setI, hp]; simp
    · show hR (setR S' 34 p (some a)) b = _
      rw [hR_setR_ne (by unfold isO at hb; omega)]
      exact hO b hb
  refine ⟨fun q => c_copyOver (S := setI S 0 9 (nI p)) hL r16 (fun a ha => nomatch ha) (fun a S' z1 z2 z3 z4 z5 => ?_), fun r q => c_copyOver (S := setI S 0 9 (nI p)) hL r16 (fun a ha => ho a (q.trans ha)) (fun a S' z1 z2 z3 z4 z5 => ?_)⟩
  · exact W none q a S' z1 z2 z3 z4 z5
  · exact W (some r) q a S' z1 z2 z3 z4 z5
/-- the rows of kept streets, with one more -/
def wasN (n : Nat) (g f : Nat → Int32) : Nat → Int32 := if n = 24 then cp (shd g 3381) f (147 * 23) 0 147 else cp g f (147 * n) 0 147
theorem m_keep {Q : hp → Prop} {S : hp} {n : Nat} (hL : Lay S) (hn : n ≤ 24) (h8 : hI S 35 8 = nI n) (hQ : ∀ S1, (hC S1 = hC S ∧ hK S1 = hK S ∧ hN S1 = hN S ∧ hR S1 = hR S) → (∀ b, b ≠ 41 → b ≠ 35 → hI S1 b = hI S b) → hI S1 41 = wasN n (hI S 41) (hI S 39) → (∀ j, hI S1 35 j = if j = 8 then nI (if n = 24 then 24 else n + 1) else hI S 35 j) → Q S1) : wp_X12_keep Q S 35 := by
  unfold wp_X12_keep wB_X12_keep_50
  refine ⟨(hL.1 35 (by decide)).1, fun q => ?_, fun q => ?_⟩
  · have hn' : n ≠ 24 := fun e => by subst e; exact q h8
    refine c_keepM0 hL (by omega) h8 (hQ _ ⟨rfl, rfl, rfl, rfl⟩ (fun b h1 h2 => ?_) ?_ (fun j => ?_))
    · rw [hI_setI_ne h2, hI_putA_ne h1]
    · rw [hI_setI_ne (by decide), hI_putA_s]; unfold wasN; rw [if_neg hn']
    · rw [hI_setI, hI_putA_ne (by decide), if_neg hn']; simp
  · have hn' : n = 24 := by
      rw [h8] at q
      exact (nI_eq (a := n) (b := 24) (by omega) (by omega)).mp q
    subst hn'
    refine c_keepM1 hL h8 ?_
    unfold wB_X12_keep_50
    refine c_keepM0 (S := setI (putA S 41 (shd (hI S 41) 3381)) 35 8 (nI 23)) hL (kk0 := 23) (by omega) (by simp [hI_setI]) (hQ _ ⟨rfl, rfl, rfl, rfl⟩ (fun b h1 h2 => ?_) ?_ (fun j => ?_))
    · rw [hI_setI_ne h2, hI_putA_ne h1, hI_setI_ne h2, hI_putA_ne h1]
    · rw [hI_setI_ne (by decide), hI_putA_s, hI_setI_ne (by decide), hI_setI_ne (by decide), hI_putA_s, hI_putA_ne (by decide)]; unfold wasN; rw [if_pos rfl]
    · rw [hI_setI, hI_putA_ne (by decide), hI_setI, hI_putA_ne (by decide)]
      by_cases e : j = 8 <;> simp [e]
theorem Rel.act {S S1 S3 : hp} {n l : Nat} (h : Rel S) (hn : n ≤ 24) (hl : l < 24) (h8 : hI S 0 8 = nI n) (h9 : hI S 0 9 = nI l) (hK1 : KA S n l S1) (F3 : Fr (fun b => (16 ≤ b ∧ b ≤ 21) ∨ b = 35 ∨ b = 39 ∨ b = 41) S1 S3) (r3 : ∀ b, b = 33 ∨ b = 34 ∨ isO b → hR S3 b = hR S1 b) (w41 : hI S3 41 = wasN n (hI S 41) (hI S 39)) (w8 : hI S3 35 8 = nI (if n = 24 then 24 else n + 1)) (f1 : hI S3 35 1 = hI S 35 1) (f2 : hI S3 35 17 = hI S 35 17) (f3 : hI S3 35 10 = hI S 35 10) (f4 : hI S3 35 25 = hI S 35 25) (a1 : RSt S3 16 (vec S3 39 0)) : Rel S3 := by
  have hh := h
  obtain ⟨hL, g1, g2, g3, g4, g5, g6, g7, g8, g9⟩ := hh
  obtain ⟨a, a50, sa, ha, F, hR1, k34, k0, kO⟩ := hK1
  have FA : Fr (fun b => (a ≤ b ∧ b ≤ a + 5) ∨ ((b = 0 ∨ b = 34) ∨ ((16 ≤ b ∧ b ≤ 21) ∨ b = 35 ∨ b = 39 ∨ b = 41))) S S3 := (F.tr F3).mono (fun b hb => hb.elim (fun x => x.elim Or.inl (fun y => Or.inr (Or.inl y))) (fun x => Or.inr (Or.inr x)))
  have hL1 : Lay S1 := hL.fr2 F kO
  have low : ∀ b, b < 50 → b ≠ 0 → b ≠ 34 → hI S1 b = hI S b ∧ hR S1 b = hR S b := fun b hb q1 q2 => F.2.2 b (Nat.lt_of_lt_of_le hb hL.2.2) (by omega)
  have low3 : ∀ b, b < 50 → ¬ ((16 ≤ b ∧ b ≤ 21) ∨ b = 35 ∨ b = 39 ∨ b = 41) → hI S3 b = hI S1 b := fun b hb q => (F3.2.2 b (Nat.lt_of_lt_of_le hb hL1.2.2) q).1
  have k3 : ∀ j, hI S3 0 j = hI S1 0 j := fun j => congrFun (low3 0 (by decide) (by omega)) j
  have oth : ∀ x, SL S x → (hR S 34 ((l + 1) % 24) = some x → False) → x ≠ a := fun x hx q e => by
    subst e
    rcases ha with ha | ⟨_, ha⟩
    · exact q ha
    · have := hx.1.1; omega
  have hp24 : (l + 1) % 24 < 24 := Nat.mod_lt _ (by omega)
  have oI : ∀ k x, k < 2 → hR S 33 k = some x → 50 ≤ x ∧ SL S x ∧ x ≠ a := fun k x hk hx => by
    rcases g6.at hk with ⟨_, y2⟩ | ⟨_, x', y2, y3, y4⟩
    · rw [y2] at hx; cases hx
    · rw [y2] at hx; cases hx
      exact ⟨y3, y4.1, oth _ y4.1 (fun q => g8.2.1 _ k _ hp24 hk q y2)⟩
  have oA : ∀ p x, p < 24 → p ≠ (l + 1) % 24 → hR S 34 p = some x → 50 ≤ x ∧ SL S x ∧ x ≠ a := fun p x hp hne hx => by
    obtain ⟨n', l', c1, c2, c3, c4, c5, c6, c7⟩ := g7
    obtain ⟨z1, z2⟩ := c6 p x hp hx
    exact ⟨z1, z2, oth x z2 (fun q => hne (g8.1 p _ x hp hp24 hx q))⟩
  have T33 : hR S3 33 = hR S 33 := (r3 33 (Or.inl rfl)).trans (low 33 (by decide) (by decide) (by decide)).2
  have T34 : ∀ j, hR S3 34 j = if j = (l + 1) % 24 then some a else hR S 34 j := fun j => by rw [r3 34 (Or.inr (Or.inl rfl))]; exact k34 j
  refine h.asm FA (fun b hb hp => by omega) (fun b hb => (r3 b (Or.inr (Or.inr hb))).trans (kO b hb)) f1 f2 f3 f4 (by rw [k3, k0]; simp) (by rw [k3, k0]; simp) a1 ?_ ?_ ?_ ?_
  · exact g5.fr FA (fun b hb hp => (offA hL g5 (by omega) sa (R := fun b => (b = 0 ∨ b = 34) ∨ ((16 ≤ b ∧ b ≤ 21) ∨ b = 35 ∨ b = 39 ∨ b = 41)) (fun b hb => by omega) b hb hp).1)
  · refine g6.fr FA ⟨?_, ?_, T33⟩ (fun k x hk hx => ?_)
    · rw [low3 44 (by decide) (by omega), (low 44 (by decide) (by decide) (by decide)).1]
    · rw [low3 45 (by decide) (by omega), (low 45 (by decide) (by decide) (by decide)).1]
    · obtain ⟨z1, z2, z3⟩ := oI k x hk hx
      exact offA hL z2 z3 sa (fun b hb => by omega)
  · obtain ⟨n', l', c1, c2, c3, c4, c5, c6, c7⟩ := g7
    have en : n' = n := (nI_eq (by omega) (by omega)).mp (c3.symm.trans h8)
    have el : l' = l := (nI_eq (by omega) (by omega)).mp (c5.symm.trans h9)
    subst en; subst el
    have slA : SL S3 a := hR1.1.fr F3 (fun b _ hb => by omega)
    refine ⟨if n' = 24 then 24 else n' + 1, (l' + 1) % 24, by split <;> omega, hp24, by rw [k3, k0]; simp, w8, by rw [k3, k0]; simp, fun p x hp hx => ?_, fun j hj => ?_⟩
    · rw [T34] at hx
      by_cases e : p = (l' + 1) % 24
      · rw [if_pos e] at hx; cases hx; exact ⟨a50, slA⟩
      · rw [if_neg e] at hx
        obtain ⟨z1, z2, z3⟩ := oA p x hp e hx
        exact ⟨z1, z2.fr FA (fun b hb hpp => (offA hL z2 z3 sa (R := fun b => (b = 0 ∨ b = 34) ∨ ((16 ≤ b ∧ b ≤ 21) ∨ b = 35 ∨ b = 39 ∨ b = 41)) (fun b hb => by omega) b hb hpp).1)⟩
    · by_cases e : j = 0
      · subst e
        refine ⟨a, by rw [T34, if_pos (by omega)], ?_⟩
        have ev : vec S3 41 (147 * ((if n' = 24 then 24 else n' + 1) - 1 - 0)) = vec S 39 0 := vec_eq (fun i hi => by
          rw [w41]
          unfold wasN
          by_cases e24 : n' = 24
          · rw [if_pos e24, if_pos e24]; exact cp_in hi
          · rw [if_neg e24, if_neg e24, show n' + 1 - 1 - 0 = n' by omega]; exact cp_in hi)
        rw [ev]
        exact hR1.fr F3 (Off.low hL1 a50 (fun b hb => by omega))
      · have hj1 : j - 1 < n' := by split at hj <;> omega
        have hj24 : j < 24 := by split at hj <;> omega
        obtain ⟨x, y1, y2⟩ := c7 (j - 1) hj1
        have ei : ((l' + 1) % 24 + 24 - j) % 24 = (l' + 24 - (j - 1)) % 24 := by omega
        have ene : (l' + 24 - (j - 1)) % 24 ≠ (l' + 1) % 24 := by omega
        obtain ⟨z1, z2, z3⟩ := oA _ x (Nat.mod_lt _ (by omega)) ene y1
        refine ⟨x, by rw [T34, ei, if_neg ene]; exact y1, ?_⟩
        have ev : vec S3 41 (147 * ((if n' = 24 then 24 else n' + 1) - 1 - j)) = vec S 41 (147 * (n' - 1 - (j - 1))) := vec_eq (fun i hi => by
          rw [w41]
          unfold wasN
          by_cases e24 : n' = 24
          · rw [if_pos e24, if_pos e24, cp_out (by omega)]
            unfold shd
            rw [if_pos (by omega)]
            congr 1
            omega
          · rw [if_neg e24, if_neg e24, cp_out (by omega)]
            congr 1
            omega)
        rw [ev]
        exact y2.fr FA (offA hL z2 z3 sa (fun b hb => by omega))
  · refine ⟨fun p q x hp hq hx hy => ?_, fun p k x hp hk hx => ?_, fun x => by rw [T33]; exact g8.2.2 x⟩
    · rw [T34] at hx hy
      by_cases e : p = (l + 1) % 24
      · rw [if_pos e] at hx; cases hx
        by_cases e2 : q = (l + 1) % 24
        · omega
        · rw [if_neg e2] at hy
          exact absurd rfl (oA q _ hq e2 hy).2.2
      · rw [if_neg e] at hx
        by_cases e2 : q = (l + 1) % 24
        · rw [if_pos e2] at hy; cases hy
          exact absurd rfl (oA p _ hp e hx).2.2
        · rw [if_neg e2] at hy
          exact g8.1 p q x hp hq hx hy
    · rw [T33]
      rw [T34] at hx
      by_cases e : p = (l + 1) % 24
      · rw [if_pos e] at hx; cases hx
        exact fun q => absurd rfl (oI k _ hk q).2.2
      · rw [if_neg e] at hx
        exact g8.2.1 p k x hp hk hx
