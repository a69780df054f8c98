theorem Cf.addMo {n : Nat} {S0 S : hp} {m k : Nat} {v : Int32} (hL : Lay S0) (h : Cf n S0 S) : Cf n S0 (addMo S m k v) := by
  have hL1 := h.lay hL
  have c := hL1.2.2
  have F := addMo_fr S m k v
  refine ⟨h.1.tr' (F.mono (fun b hb => by omega)), ⟨?_, ?_⟩, addMo_sl hL1 h.2.2.1, ?_⟩
  · rw [(F.2.2 14 (by omega) (by decide)).2]; exact h.2.1.1
  · rw [addMo_r22 hL1]; exact h.2.1.2
  · rw [(F.2.2 14 (by omega) (by decide)).1]; exact h.2.2.2
theorem kbI_ne {k : Nat} (h : 1 ≤ k) (h2 : k ≤ 5) : ¬ kbI k = -1000000 := by
  rcases five h h2 with rfl | rfl | rfl | rfl | rfl <;> decide
theorem c_mou {Q : Int32 → hp → Prop} {S0 : hp} {n : Nat} {T : Nat → Int32} {R : Except PF (Nat → Int32)} (hL : Lay S0) (hn : n ≤ 140) (hT : hI S0 15 = T) (HE : ∀ e S2, R = .error e → Cf n S0 S2 → hI S2 14 2 = e.1 → hI S2 14 3 = nI e.2 → Q 0 S2) (HO : ∀ f S2, R = .ok f → Cf n S0 S2 → RSt S2 22 f → nl f = 0 → f 0 = 1 → Q 1 S2) : ∀ t m p f S, m + t = 5 → p ≤ n → CI n S0 S p f → nm f = m → pM (pNum T n) (pByte T n) (pK T n) t p f = R → wl_X9_readMouths_2 Q (t + 1) S 14 22 (nI m) := by
  intro t
  induction t with
  | zero =>
    intro m p f S hd hp hc hnm hR
    obtain ⟨hf, h4, hr, hl, h0⟩ := hc
    have hL1 := hf.lay hL
    have t15 : hI S 15 = T := (hf.t15 hL).trans hT
    have : m = 5 := by omega
    subst this
    unfold wl_X9_readMouths_2 wB_X9_readMouths_2
    refine ⟨fun q => absurd q (by decide), fun _ => ⟨(hL1.1 14 (by decide)).1, ?_⟩⟩
    rw [hf.2.2.2, h4]
    by_cases c : p < n
    · have eK : pK T n p = some (kb (T p)) := if_pos c
      refine ⟨fun z => absurd z (nI_ge (by omega) (by omega)), fun _ => ⟨15, hL1.2.1 (14, 0, 15) (by decide), (hL1.1 15 (by decide)).1, by rw [(hL1.1 15 (by decide)).2, show nn 15 = 140 from rfl]; exact vp_in_nI (by omega) (by omega), e_kindOf.mpr ?_⟩⟩
      rw [nI_clamp (show p < 2 ^ 31 by omega), t15]
      by_cases k0 : kb (T p) = 0
      · refine ⟨fun z => absurd (by rw [k0]; rfl) z, fun _ => ⟨(hL1.1 14 (by decide)).1, (e_fault hL1).mpr ⟨Or.inl rfl, ?_⟩⟩⟩
        rw [fltC_as]
        refine HE (1, p) _ ?_ (hf.p14 ?_) ?_ ?_
        · rw [← hR]; simp [pM, eK, k0]
        · simpa using hf.2.2.2
        · rw [hI_putA_s]; simp
        · rw [hI_putA_s]; simpa using h4
      · refine ⟨fun _ => ⟨fun z => absurd rfl z, fun _ => ⟨(hL1.1 14 (by decide)).1, (e_fault hL1).mpr ⟨Or.inl rfl, ?_⟩⟩⟩, fun z => absurd z (kbI_ne (by omega) (kb_le _))⟩
        rw [fltC_as]
        refine HE (3, p) _ ?_ (hf.p14 ?_) ?_ ?_
        · rw [← hR]; simp [pM, eK, k0]
        · simpa using hf.2.2.2
        · rw [hI_putA_s]; simp
        · rw [hI_putA_s]; simpa using h4
    · have eK : pK T n p = none := if_neg c
      refine ⟨fun _ => HO f S ?_ hf hr hl h0, fun z => absurd (nI_le (by omega) (by omega)) z⟩
      rw [← hR]; simp [pM, eK]
  | succ t ih =>
    intro m p f S hd hp hc hnm hR
    obtain ⟨hf, h4, hr, hl, h0⟩ := hc
    have hL1 := hf.lay hL
    have t15 : hI S 15 = T := (hf.t15 hL).trans hT
    have q1 : ¬ (5 : Int32) < nI m := by rw [t_lt, nI_toInt (by omega)]; show ¬ (5 : Int) < _; omega
    have q2 : ¬ nI m = (5 : Int32) := fun z => by have := (nI_eq (a := m) (b := 5) (by omega) (by omega)).mp z; omega
    unfold wl_X9_readMouths_2 wB_X9_readMouths_2
    refine ⟨fun q => absurd q q1, fun _ => ⟨(hL1.1 14 (by decide)).1, ?_⟩⟩
    rw [hf.2.2.2, h4]
    by_cases c : p < n
    · have eK : pK T n p = some (kb (T p)) := if_pos c
      refine ⟨fun z => absurd z (nI_ge (by omega) (by omega)), fun _ => ⟨15, hL1.2.1 (14, 0, 15) (by decide), (hL1.1 15 (by decide)).1, by rw [(hL1.1 15 (by decide)).2, show nn 15 = 140 from rfl]; exact vp_in_nI (by omega) (by omega), e_kindOf.mpr ?_⟩⟩
      rw [nI_clamp (show p < 2 ^ 31 by omega), t15]
      by_cases k0 : kb (T p) = 0
      · refine ⟨fun z => absurd (by rw [k0]; rfl) z, fun _ => ⟨(hL1.1 14 (by decide)).1, (e_fault hL1).mpr ⟨Or.inl rfl, ?_⟩⟩⟩
        rw [fltC_as]
        refine HE (1, p) _ ?_ (hf.p14 ?_) ?_ ?_
        · rw [← hR]; simp [pM, eK, k0]
        · simpa using hf.2.2.2
        · rw [hI_putA_s]; simp
        · rw [hI_putA_s]; simpa using h4
      · refine ⟨fun _ => ⟨fun _ => ⟨(hL1.1 14 (by decide)).1, ?_⟩, fun z => absurd z q2⟩, fun z => absurd z (kbI_ne (by omega) (kb_le _))⟩
        intro S8 e8
        rw [h4, nI_1, setI_asA] at e8
        generalize hg : (fun i => if i = 4 then nI (p + 1) else hI S 14 i) = g at e8
        have g1 : g 1 = nI n := by rw [← hg]; simpa using hf.2.2.2
        have g4 : g 4 = nI (p + 1) := by rw [← hg]; simp
        have hf8 : Cf n S0 S8 := by rw [e8]; exact hf.p14 g1
        have hL8 := hf8.lay hL
        have hr8 : RSt S8 22 f := by rw [e8]; exact hr.p14 hL1
        refine c_in (n := n) (p := p + 1) (T := T) hL8 hn hf8.2.2.2 (by rw [e8, hI_putA_s]; exact g4) (by omega) ((hf8.t15 hL).trans hT) ?_ ?_
        · intro e g2 h a b c
          refine HE e _ ?_ (hf8.p14 a) (by rw [hI_putA_s]; exact b) (by rw [hI_putA_s]; exact c)
          rw [← hR]; simp [pM, eK, k0, h]
        · intro v q g2 h a b c
          have hf9 := hf8.p14 a
          have hL9 := hf9.lay hL
          have hr9 : RSt (putA S8 14 g2) 22 f := hr8.p14 hL8
          obtain ⟨w1, w2⟩ := pIn_v h
          refine ⟨(hL9.1 14 (by decide)).1, (hL9.1 22 (by decide)).1, ?_⟩
          rw [hI_putA_s, c, show kbI (kb (T p)) = nI (kb (T p)) from if_neg k0]
          refine c_addMouth hL9 (m := m) ?_ (by omega) (by omega) (kb_le _) ?_
          · rw [hr9.2.2.1.2.2.2.1, hr9.2.1.2.1.1, hnm]
          intro v24 e24
          rw [e24, nI_1]
          refine ih (m + 1) q (addM f m (kb (T p)) v) _ (by omega) w2 ⟨hf9.addMo hL, ?_, hr9.mou hL9 h0 hl (by omega) hnm (by omega) (kb_le _) w1, ?_, ?_⟩ ?_ ?_
          · rw [((addMo_fr _ _ _ _).2.2 14 (by have := hL9.2.2; omega) (by decide)).1, hI_putA_s]; exact b
          · rw [(addM_n (by omega) (kb_le _)).2.2.1]; exact hl
          · rw [addM_lo (by decide) (by decide)]; exact h0
          · exact (addM_n (by omega) (kb_le _)).2.1
          · rw [← hR]; simp [pM, eK, k0, h, show 4 - t = m by omega]
    · have eK : pK T n p = none := if_neg c
      refine ⟨fun _ => HO f S ?_ hf hr hl h0, fun z => absurd (nI_le (by omega) (by omega)) z⟩
      rw [← hR]; simp [pM, eK]
theorem c_into {Q : Int32 → hp → Prop} {S : hp} {n : Nat} {T : Nat → Int32} (hL : Lay S) (hS : SL S 22) (hn : n ≤ 140) (h1 : hI S 14 1 = nI n) (hT : hI S 15 = T) (HE : ∀ e S2, pAll (pNum T n) (pByte T n) (pK T n) = .error e → Cf n S S2 → hI S2 14 2 = e.1 → hI S2 14 3 = nI e.2 → Q 0 S2) (HO : ∀ f S2, pAll (pNum T n) (pByte T n) (pK T n) = .ok f → Cf n S S2 → RSt S2 22 f → nl f = 0 → f 0 = 1 → Q 1 S2) : wp_X9_readInto Q S 14 22 := by
  have f0 : Cf n S S := ⟨Fr.rfl', ⟨rfl, rfl⟩, hS, h1⟩
  unfold wp_X9_readInto
  refine ⟨(hL.1 14 (by decide)).1, ?_⟩
  intro S2 e2
  rw [setI_asA] at e2
  generalize hg : (fun i => if i = 4 then (0 : Int32) else hI S 14 i) = g at e2
  have f2 : Cf n S S2 := by rw [e2]; exact f0.p14 (by rw [← hg]; simpa using h1)
  have g4 : hI S2 14 4 = nI 0 := by rw [e2, hI_putA_s, ← hg]; rfl
  have hL2 := f2.lay hL
  refine ⟨(hL2.1 22 (by decide)).1, ?_⟩
  unfold wp_X8_empty
  refine ⟨(hL2.1 22 (by decide)).1, ?_⟩
  intro S3 e3 S4 e4 S5 e5 S6 e6
  have f6 : Cf n S S6 := by rw [e6, e5, e4, e3]; exact f2.s22.s22.s22.s22
  have hL6 := f6.lay hL
  have i6 : hI S6 22 5 = 1 ∧ hI S6 22 7 = 0 ∧ hI S6 22 8 = 0 ∧ hI S6 22 9 = 0 := by
    rw [e6, e5, e4, e3]; simp [hI_setI]
  have i14 : hI S6 14 = hI S2 14 := by rw [e6, e5, e4, e3, hI_setI_ne (by decide), hI_setI_ne (by decide), hI_setI_ne (by decide), hI_setI_ne (by decide)]
  refine ⟨(hL6.1 14 (by decide)).1, c_readLaw (n := n) (T := T) hL6 hn f6.2.2.2 (by rw [i14]; exact g4) ((f6.t15 hL).trans hT) ?_ ?_⟩
  · intro e g2 h a b c
    refine ⟨fun _ => HE e _ (by simp [pAll, h]) (f6.p14 a) (by rw [hI_putA_s]; exact b) (by rw [hI_putA_s]; exact c), fun z => absurd rfl z⟩
  · intro v q g2 h a b
    have f7 : Cf n S (setI (putA S6 14 g2) 22 6 v) := (f6.p14 a).s22
    have hL7 := f7.lay hL
    have hv : rg v 2 20 = true ∧ q ≤ n := by
      unfold pLaw at h
      cases eB : pByte T n 0 119 with
      | error e => rw [eB] at h; cases h
      | ok p => rw [eB] at h; exact pIn_v h
    obtain ⟨w1, w2, w3, w4⟩ := WF_fL hv.1
    refine ⟨fun z => absurd z (by decide), fun _ => ⟨(hL7.1 14 (by decide)).1, ?_⟩⟩
    unfold wp_X9_readDummies
    refine ⟨5, ?_⟩
    refine c_dum (n := n) (T := T) hL hn hT (R := pD (pNum T n) (pByte T n) 4 q (fL v)) ?_ ?_ 4 0 q (fL v) _ (by omega) hv.2 ⟨f7, ?_, ?_, w4, rfl⟩ w2 w3 rfl
    · intro e S2 hR hf a b
      exact ⟨fun _ => HE e S2 (by simp [pAll, h, hR]) hf a b, fun z => absurd rfl z⟩
    · intro p f S8 hR hp hc hm
      refine ⟨fun z => absurd z (by decide), fun _ => ⟨((hc.1.lay hL).1 14 (by decide)).1, ?_⟩⟩
      unfold wp_X9_readMouths
      refine c_mou (n := n) (T := T) hL hn hT (R := pM (pNum T n) (pByte T n) (pK T n) 5 p f) ?_ ?_ 5 0 p f S8 (by omega) hp hc hm rfl
      · intro e S2 hR2 hf a b
        exact ⟨fun _ => HE e S2 (by simp [pAll, h, hR, hR2]) hf a b, fun z => absurd rfl z⟩
      · intro f2 S2 hR2 hf a b c
        exact ⟨fun z => absurd z (by decide), fun _ => HO f2 S2 (by simp [pAll, h, hR, hR2]) hf a b c⟩
    · rw [hI_setI_ne (by decide), hI_putA_s]; exact b
    · refine ⟨f7.2.2.1, w1, ⟨?_, ?_, ?_, ?_, ?_⟩, fun k hk => ?_, fun j hj => ?_, fun k hk => ?_⟩
      · simp [hI_setI, hI_putA, i6, fL]
      · simp [hI_setI, hI_putA, fL]
      · simp [hI_setI, hI_putA, i6, fL]
      · simp [hI_setI, hI_putA, i6, fL]
      · simp [hI_setI, hI_putA, i6, fL]
      · rw [w2] at hk; omega
      · rw [w3] at hj; omega
      · rw [w4] at hk; omega
