theorem Cf.ob {n : Nat} {S0 S : hp} (hL : Lay S0) (h : Cf n S0 S) : ∀ b, isO b → hR S b = hR S0 b := fun b hb => by
  by_cases e : b = 14
  · rw [e]; exact h.2.1.1
  by_cases e2 : b = 22
  · rw [e2]; exact h.2.1.2
  unfold isO at hb
  exact (h.1.2.2 b (by have := hL.2.2; omega) (by omega)).2
theorem Rf.fr {S0 S : hp} (h : Rf S0 S) : Fr (fun b => b = 35 ∨ b = 40) S0 S := by
  obtain ⟨⟨c, k, n, r⟩, o, -⟩ := h
  exact ⟨by rw [c]; exact Nat.le_refl _, fun b _ => by rw [k, n]; exact ⟨rfl, rfl⟩, fun b _ hb => ⟨o b (by omega) (by omega), by rw [r]⟩⟩
theorem WF.cg {f g : Nat → Int32} (h : WF f) (hl : nl f = 0) (e : ∀ i, i < 147 → g i = f i) : WF g ∧ nd g = nd f ∧ nm g = nm f ∧ nl g = nl f ∧ ∀ j, j < nm f → kd g j = kd f j := by
  obtain ⟨a1, a2, a3, a4, a5, a6, a7⟩ := h
  have e1 : nd g = nd f := by unfold nd; rw [e 2 (by decide)]
  have e2 : nm g = nm f := by unfold nm; rw [e 3 (by decide)]
  have e3 : nl g = nl f := by unfold nl; rw [e 4 (by decide)]
  have e4 : ∀ j, j < nm f → kd g j = kd f j := fun j hj => by unfold kd; rw [e (41 + 2 * j) (by have := a2.2; omega)]
  refine ⟨⟨?_, ?_, ?_, ?_, fun j hj => ?_, fun k hk => ?_, fun i hi => ?_⟩, e1, e2, e3, e4⟩
  · rw [e 2 (by decide), e1]; exact a1
  · rw [e 3 (by decide), e2]; exact a2
  · rw [e 4 (by decide), e3]; exact a3
  · rw [e 0 (by decide), e 1 (by decide), e1, e2, e3]; exact a4
  · rw [e2] at hj
    rw [e4 j hj, e (41 + 2 * j) (by have := a2.2; omega), e (42 + 2 * j) (by have := a2.2; omega)]; exact a5 j hj
  · rw [e (5 + k) (by omega), e (17 + k) (by omega), e (29 + k) (by omega)]; exact a6 k hk
  · rw [e3, hl] at hi; exact absurd hi (Nat.not_lt_zero _)
theorem RSt.cg {S : hp} {a : Nat} {f g : Nat → Int32} (h : RSt S a f) (hl : nl f = 0) (e : ∀ i, i < 147 → g i = f i) : RSt S a g := by
  obtain ⟨hS, hW, ⟨f5, f6, f7, f8, f9⟩, hA, hM, hG⟩ := h
  obtain ⟨w, e1, e2, e3, e4⟩ := hW.cg hl e
  have d4 := hW.1.2
  have m5 := hW.2.1.2
  refine ⟨hS, w, ⟨?_, ?_, ?_, ?_, ?_⟩, fun k hk => ?_, fun j hj => ?_, fun k hk => ?_⟩
  · rw [e 0 (by decide)]; exact f5
  · rw [e 1 (by decide)]; exact f6
  · rw [e 2 (by decide)]; exact f7
  · rw [e 3 (by decide)]; exact f8
  · rw [e 4 (by decide)]; exact f9
  · rw [e1] at hk
    rw [e (5 + k) (by omega), e (17 + k) (by omega), e (29 + k) (by omega)]; exact hA k hk
  · rw [e2] at hj
    rw [e4 j hj, e (42 + 2 * j) (by omega)]; exact hM j hj
  · rw [e3, hl] at hk; exact absurd hk (Nat.not_lt_zero _)
theorem Rel.asm2 {P : Nat → Prop} {S S' : hp} (h : Rel S) (hf : Fr P S S') (hP : ∀ b, P b → b = 0 ∨ b = 14 ∨ (16 ≤ b ∧ b ≤ 27) ∨ b = 35 ∨ b = 39 ∨ b = 40) (hr : ∀ b, isO b → hR S' b = hR S b) (f1 : hI S' 35 1 = hI S 35 1) (f2 : hI S' 35 17 = hI S' 0 10) (f3 : hI S' 35 10 = 0) (f4 : hI S' 35 25 = hI S 35 25) (f5 : hI S' 14 1 = 0) (f6 : hI S' 0 11 = hI S 0 11) (a1 : RSt S' 16 (vec S' 39 0)) (a2 : SL S' 22) (a4 : RActs S') : Rel S' := by
  obtain ⟨hL, h1, h2, h3, -, -, h6, -, h8, h9⟩ := h
  have q : ∀ b, b < 50 → ¬ (b = 0 ∨ b = 14 ∨ (16 ≤ b ∧ b ≤ 27) ∨ b = 35 ∨ b = 39 ∨ b = 40) → hI S' b = hI S b ∧ hR S' b = hR S b := fun b hb h0 => hf.2.2 b (Nat.lt_of_lt_of_le hb hL.2.2) (fun p => h0 (hP b p))
  have n33 := (q 33 (by decide) (by decide)).2
  have n34 := (q 34 (by decide) (by decide)).2
  refine ⟨hL.fr2 hf hr, h1.fr ⟨(q 13 (by decide) (by decide)).1, (q 36 (by decide) (by decide)).1, (q 11 (by decide) (by decide)).1, (q 12 (by decide) (by decide)).1, (q 37 (by decide) (by decide)).1, (q 38 (by decide) (by decide)).1, fun r hr => (q (3 + r) (by omega) (by omega)).1⟩, ⟨0, by omega, f5, f3, fun k hk => absurd hk (Nat.not_lt_zero _)⟩, ⟨by rw [f1, f6]; exact h3.1, f2⟩, a1, a2, ?_, a4, h8.fr ⟨n33, n34⟩, h9.fr ⟨by rw [(q 31 (by decide) (by decide)).1], f4, (q 32 (by decide) (by decide)).1, (q 49 (by decide) (by decide)).1⟩⟩
  exact h6.fr hf ⟨(q 44 (by decide) (by decide)).1, (q 45 (by decide) (by decide)).1, n33⟩ (fun k a hk ha => Off.low hL (h6.a50 hk ha) (fun b hb => by have := hP b hb; omega))
theorem p_street : st_street Rel := by
  intro S h
  have hh := h
  obtain ⟨hL, h1, ⟨n, hn, t1, t2, t3⟩, h3, h4, h5, h6, h7, h8, h9⟩ := hh
  refine ⟨h.1.eqs.1, ?_⟩
  obtain ⟨Q, hQ⟩ : ∃ Q : Int32 → hp → Prop, Q = fun (r : Int32) (S1 : hp) => hK S1 35 = 11 ∧ wp_X12_street (fun r2 S2 => r = r2 ∧ Rel S2) S1 35  := ⟨_, rfl⟩
  rw [← hQ]
  have hcg : ∀ k, k < n → hI S 15 k = hI S 42 k := fun k hk => (t3 k hk).1
  have eP : pAll (pNum (hI S 15) n) (pByte (hI S 15) n) (pK (hI S 15) n) = pAll (pNum (hI S 42) n) (pByte (hI S 42) n) (pK (hI S 42) n) := by
    rw [pNum_congr hcg, pByte_congr hcg, pK_congr hcg]
  have c50 := hL.2.2
  unfold wp_X11_street
  refine ⟨(hL.1 0 (by decide)).1, 14, hL.2.1 (0, 1, 14) (by decide), 22, hL.2.1 (0, 3, 22) (by decide), (hL.1 14 (by decide)).1, ?_⟩
  refine c_into (T := hI S 15) hL h5 hn t1 rfl (fun e S2 hE cf a b => ?_) (fun f S2 hO cf rst nl0 f01 => ?_)
  · rw [eP] at hE
    have hL2 := cf.lay hL
    have o2 := cf.ob hL
    refine ⟨(hL2.1 0 (by decide)).1, 14, hL2.2.1 (0, 1, 14) (by decide), (hL2.1 14 (by decide)).1, ?_⟩
    intro S10 e10
    refine ⟨fun z => absurd rfl z, fun _ => ?_⟩
    intro S24 e24
    have q2 : hI S10 14 2 = e.1 := by rw [e10, hI_setI, if_neg (by decide)]; exact a
    rw [q2] at e24
    have q3 : hI S24 14 3 = nI e.2 := by rw [e24, hI_setI_ne (by decide), e10, hI_setI, if_neg (by decide)]; exact b
    rw [q3, hQ]
    have hL24 : Lay S24 := by rw [e24, e10]; exact hL2
    have F24 : Fr (fun b => b = 0 ∨ b = 14 ∨ (22 ≤ b ∧ b ≤ 27)) S S24 := by
      rw [e24, e10]
      exact ((cf.1.mono (fun b hb => by omega)).setI (by omega)).setI (by omega)
    have k42 : hI S24 42 = hI S 42 := (F24.2.2 42 (by omega) (by omega)).1
    have k35 : hI S24 35 = hI S 35 := (F24.2.2 35 (by omega) (by omega)).1
    have k0 : ∀ i, i ≠ 10 → hI S24 0 i = hI S 0 i := fun i hi => by
      rw [e24, hI_setI, if_neg (by omega), e10, hI_setI_ne (by decide), (cf.1.2.2 0 (by omega) (by omega)).1]
    refine ⟨(hL24.1 35 (by decide)).1, m_street (T := hI S 42) hL24 hn k42 (by rw [k35]; exact t2) (fun e2 S1 hE2 hf => ?_) (fun f S1 g hO hf hg => ?_)⟩
    · rw [hE] at hE2
      cases hE2
      refine ⟨rfl, ?_⟩
      generalize hS' : setI (setI S1 35 10 0) 35 17 e.1 = S'
      have F1 : Fr (fun b => b = 35 ∨ b = 40) (setI S24 35 0 0) S' := by rw [← hS']; exact (hf.fr.setI (Or.inl rfl)).setI (Or.inl rfl)
      have F2 : Fr (fun b => b = 35 ∨ b = 40) S24 S' := ((Fr.rfl'.setI (Or.inl rfl)).tr' F1)
      have F : Fr (fun b => (b = 0 ∨ b = 14 ∨ (22 ≤ b ∧ b ≤ 27)) ∨ (b = 35 ∨ b = 40)) S S' := F24.tr F2
      have r35 : ∀ i, i ≠ 0 → i ≠ 10 → i ≠ 17 → (i < 11 ∨ 16 < i) → hI S' 35 i = hI S 35 i := fun i h0 h10 h17 hi => by
        rw [← hS', hI_setI, if_neg (by omega), hI_setI, if_neg (by omega), hf.2.2 i hi, hI_setI, if_neg (by omega), k35]
      have x17 : hI S' 35 17 = e.1 := by rw [← hS', hI_setI, if_pos ⟨rfl, rfl⟩]
      have x10 : hI S' 35 10 = 0 := by rw [← hS', hI_setI, if_neg (by decide), hI_setI, if_pos ⟨rfl, rfl⟩]
      have x0 : hI S' 0 = hI S24 0 := (F2.2.2 0 (by have := hL24.2.2; omega) (by omega)).1
      have x14 : hI S' 14 = hI S24 14 := (F2.2.2 14 (by have := hL24.2.2; omega) (by omega)).1
      have xR : hR S' = hR S2 := by rw [← hS', hR_setI, hR_setI, hf.1.2.2.2, hR_setI, e24, hR_setI, e10, hR_setI]
      have xC : hC S' = hC S2 := by rw [← hS', hC_setI, hC_setI, hf.1.1, hC_setI, e24, hC_setI, e10, hC_setI]
      have xK : hK S' = hK S2 := by rw [← hS', hK_setI, hK_setI, hf.1.2.1, hK_setI, e24, hK_setI, e10, hK_setI]
      have xN : hN S' = hN S2 := by rw [← hS', hN_setI, hN_setI, hf.1.2.2.1, hN_setI, e24, hN_setI, e10, hN_setI]
      have x39 : hI S' 39 = hI S 39 := (F.2.2 39 (by omega) (by omega)).1
      refine h.asm2 F (fun b hb => by omega) (fun b hb => by rw [xR]; exact o2 b hb) (r35 1 (by decide) (by decide) (by decide) (by omega)) ?_ x10 (r35 25 (by decide) (by decide) (by decide) (by omega)) ?_ ?_ ?_ (cf.2.2.1.of4 xC xK xN xR) ?_
      · rw [x17, x0, e24, hI_setI, if_pos ⟨rfl, rfl⟩]
      · rw [x14, e24, hI_setI_ne (by decide), e10, hI_setI, if_pos ⟨rfl, rfl⟩]
      · rw [x0]; exact k0 11 (by decide)
      · rw [vec_same x39]
        exact h4.fr F (Off.low16 hL (fun b hb => by omega))
      · refine h7.fr F ⟨?_, r35 8 (by decide) (by decide) (by decide) (by omega), ?_, (F.2.2 41 (by omega) (by omega)).1, (F.2.2 34 (by omega) (by omega)).2⟩ (fun p a hpp ha => Off.low hL (h7.a50 hpp ha) (fun b hb => by omega))
        · rw [x0]; exact k0 8 (by decide)
        · rw [x0]; exact k0 9 (by decide)
    · rw [hE] at hO; cases hO
  · rw [eP] at hO
    have hL2 := cf.lay hL
    have o2 := cf.ob hL
    refine ⟨(hL2.1 0 (by decide)).1, 14, hL2.2.1 (0, 1, 14) (by decide), (hL2.1 14 (by decide)).1, ?_⟩
    intro S10 e10
    have hL10 : Lay S10 := by rw [e10]; exact hL2
    have F10 : Fr (fun b => b = 14 ∨ (22 ≤ b ∧ b ≤ 27)) S S10 := by rw [e10]; exact cf.1.setI (Or.inl rfl)
    have s16 : SL S10 16 := h4.1.fr F10 (fun b _ hb => by omega)
    have r22 : RSt S10 22 f := by
      rw [e10]
      exact rst.fr (P := fun b => b = 14) (Fr.rfl'.setI rfl) (Off.low16 hL2 (fun b hb => by omega))
    refine ⟨fun _ => ⟨16, hL10.2.1 (0, 2, 16) (by decide), 22, hL10.2.1 (0, 3, 22) (by decide), (hL10.1 16 (by decide)).1, ?_⟩, fun z => absurd z (by decide)⟩
    refine c_become s16 r22.1 (by decide) r22.l9.1 r22.l9.2 (zz0 r22) (fun S17 hB => ?_)
    have o1 : ∀ b, isO b → hR S17 b = hR S b := fun b hs => by
      have e1 : hR S17 b = hR S10 b := by
        have hs' := hs
        unfold isO at hs'
        by_cases e : b = 16
        · rw [e]; exact hB.2.2.1
        · exact (hB.2.1 b (by omega)).2
      rw [e1, e10, hR_setI]; exact o2 b hs
    have hL17 : Lay S17 := hL.fr2 (F10.tr hB.fr) o1
    have r17 : RSt S17 16 f := Bec.rst r22 s16 hB s16.nom
    refine ⟨(hL17.1 0 (by decide)).1, ?_⟩
    intro S20 e20
    have hL20 : Lay S20 := by rw [e20]; exact hL17
    refine ⟨16, hL20.2.1 (0, 2, 16) (by decide), (hL20.1 16 (by decide)).1, ?_⟩
    have q7 : hI S20 16 7 = f 2 := by rw [e20, hI_setI_ne (by decide)]; exact r17.2.2.1.2.2.1
    rw [q7, hQ]
    have F20 : Fr (fun b => b = 0 ∨ b = 14 ∨ (16 ≤ b ∧ b ≤ 27)) S S20 := by
      rw [e20]
      exact ((F10.tr hB.fr).mono (fun b hb => by omega)).setI (by omega)
    have k42 : hI S20 42 = hI S 42 := (F20.2.2 42 (by omega) (by omega)).1
    have k35 : hI S20 35 = hI S 35 := (F20.2.2 35 (by omega) (by omega)).1
    have k39 : hI S20 39 = hI S 39 := (F20.2.2 39 (by omega) (by omega)).1
    have k0 : ∀ i, i ≠ 8 → hI S20 0 i = hI S 0 i := fun i hi => by
      rw [e20, hI_setI, if_neg (by omega), (hB.2.1 0 (by omega)).1, (F10.2.2 0 (by omega) (by omega)).1]
    have k14 : hI S20 14 1 = 0 := by
      rw [e20, hI_setI_ne (by decide), (hB.2.1 14 (by omega)).1, e10, hI_setI, if_pos ⟨rfl, rfl⟩]
    have r20 : RSt S20 16 f := by
      rw [e20]
      exact r17.fr (P := fun b => b = 0) (Fr.rfl'.setI rfl) (Off.low16 hL17 (fun b hb => by omega))
    have s22 : SL S20 22 := by
      have := r22.1.fr hB.fr (fun b _ hb => by omega)
      rw [e20]; exact this
    refine ⟨(hL20.1 35 (by decide)).1, m_street (T := hI S 42) hL20 hn k42 (by rw [k35]; exact t2) (fun e2 S1 hE2 hf => ?_) (fun f2 S1 g hO2 hf hg => ?_)⟩
    · rw [hO] at hE2; cases hE2
    · rw [hO] at hO2
      cases hO2
      refine ⟨rfl, ?_⟩
      generalize hS' : putA (setI (setI (setI S1 35 10 0) 35 17 (hI S1 35 17)) 35 8 0) 39 g = S'
      have F1 : Fr (fun b => b = 35 ∨ b = 39 ∨ b = 40) (setI S20 35 0 0) S' := by
        rw [← hS']
        exact ((((hf.fr.mono (fun b hb => by omega)).setI (by omega)).setI (by omega)).setI (by omega)).putA (by omega)
      have F2 : Fr (fun b => b = 35 ∨ b = 39 ∨ b = 40) S20 S' := ((Fr.rfl'.setI (Or.inl rfl)).tr' F1)
      have F : Fr (fun b => (b = 0 ∨ b = 14 ∨ (16 ≤ b ∧ b ≤ 27)) ∨ (b = 35 ∨ b = 39 ∨ b = 40)) S S' := F20.tr F2
      have r35 : ∀ i, i ≠ 0 → i ≠ 10 → i ≠ 8 → (i < 11 ∨ 16 < i) → hI S' 35 i = hI S 35 i := fun i h0 h10 h8 hi => by
        rw [← hS', hI_putA_ne (by decide), hI_setI, if_neg (by omega)]
        by_cases i17 : i = 17
        · rw [hI_setI, if_pos ⟨rfl, i17⟩, hf.2.2 17 (by omega), hI_setI, if_neg (by decide), k35, i17]
        · rw [hI_setI, if_neg (by omega), hI_setI, if_neg (by omega), hf.2.2 i hi, hI_setI, if_neg (by omega), k35]
      have x10 : hI S' 35 10 = 0 := by rw [← hS', hI_putA_ne (by decide), hI_setI, if_neg (by decide), hI_setI, if_neg (by decide), hI_setI, if_pos ⟨rfl, rfl⟩]
      have x8 : hI S' 35 8 = 0 := by rw [← hS', hI_putA_ne (by decide), hI_setI, if_pos ⟨rfl, rfl⟩]
      have x0 : hI S' 0 = hI S20 0 := (F2.2.2 0 (by have := hL20.2.2; omega) (by omega)).1
      have x14 : hI S' 14 = hI S20 14 := (F2.2.2 14 (by have := hL20.2.2; omega) (by omega)).1
      have xR : hR S' = hR S20 := by rw [← hS', hR_putA, hR_setI, hR_setI, hR_setI, hf.1.2.2.2, hR_setI]
      have x34 : hR S' 34 = hR S 34 := (F.2.2 34 (by omega) (by omega)).2
      have ev : ∀ i, i < 147 → vec S' 39 0 i = f i := fun i hi => by
        rw [vec_lt hi, ← hS', hI_putA_s, Nat.zero_add]; exact hg i hi
      refine h.asm2 F (fun b hb => by omega) (fun b hb => by rw [xR, e20, hR_setI]; exact o1 b hb) (r35 1 (by decide) (by decide) (by decide) (by omega)) ?_ x10 (r35 25 (by decide) (by decide) (by decide) (by omega)) ?_ ?_ ?_ (s22.fr F2 (fun b _ hb => by omega)) ?_
      · rw [r35 17 (by decide) (by decide) (by decide) (by omega), x0, k0 10 (by decide)]; exact h3.2
      · rw [x14]; exact k14
      · rw [x0]; exact k0 11 (by decide)
      · exact (r20.fr F2 (Off.low16 hL20 (fun b hb => by omega))).cg nl0 ev
      · obtain ⟨n', l, c1, c2, c3, c4, c5, c6, c7⟩ := h7
        refine ⟨0, l, by omega, c2, ?_, x8, ?_, fun p a hp ha => ?_, fun j hj => by omega⟩
        · rw [x0, e20, hI_setI, if_pos ⟨rfl, rfl⟩]; rfl
        · rw [x0, k0 9 (by decide)]; exact c5
        · rw [x34] at ha
          obtain ⟨z1, z2⟩ := c6 p a hp ha
          exact ⟨z1, z2.fr F (fun b _ hb => by omega)⟩
