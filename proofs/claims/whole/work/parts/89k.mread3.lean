theorem kb_let {x : Int32} (h : 1 ≤ kb x) : rg x 97 122 = true := by
  unfold kb at h
  by_cases h1 : x = 118
  · subst h1; decide
  rw [if_neg h1] at h
  by_cases h2 : x = 107
  · subst h2; decide
  rw [if_neg h2] at h
  by_cases h3 : x = 114
  · subst h3; decide
  rw [if_neg h3] at h
  by_cases h4 : x = 103
  · subst h4; decide
  rw [if_neg h4] at h
  by_cases h5 : x = 115
  · subst h5; decide
  rw [if_neg h5] at h; omega
theorem e_letter0 {Q : Int32 → hp → Prop} {S : hp} {x : Int32} (hL : Lay S) (h : hI S 35 15 = 0) : wp_X12_isLetter Q S 35 x ↔ (if hI S 35 13 = 2 ∧ hI S 35 14 = x then Q 1 S else Q 0 S) := by
  unfold wp_X12_isLetter
  simp only [hL.eqs, h, ↓reduceIte, Nat.reduceEqDiff, and_false, false_and, true_and, and_true, forall_eq, forall_eq', exists_eq_left, exists_eq_left', Option.some.injEq, eq_self_iff_true, not_true, not_false_iff, false_implies, true_implies, forall_const, reduceCtorEq, ne_eq]
  by_cases c : hI S 35 13 = 2
  · by_cases c2 : hI S 35 14 = x
    · simp [c, c2]
    · simp [c, c2]
  · simp [c]
theorem e_letter1 {Q : Int32 → hp → Prop} {S : hp} {x : Int32} (hL : Lay S) (h : ¬ hI S 35 15 = 0) : wp_X12_isLetter Q S 35 x ↔ Q 0 S := by
  unfold wp_X12_isLetter
  simp only [hL.eqs, h, ↓reduceIte, Nat.reduceEqDiff, and_false, false_and, true_and, and_true, forall_eq, forall_eq', exists_eq_left, exists_eq_left', Option.some.injEq, eq_self_iff_true, not_true, not_false_iff, false_implies, true_implies, forall_const, reduceCtorEq, ne_eq]
/-- a letter is at p, or it is not -/
theorem m_let {Q : Int32 → hp → Prop} {S : hp} {n p : Nat} {T : Nat → Int32} {x : Int32} (hL : Lay S) (ha : At S T n p) (hx : rg x 97 122 = true) (H1 : p < n ∧ T p = x → Q 1 S) (H0 : ¬ (p < n ∧ T p = x) → Q 0 S) : wp_X12_isLetter Q S 35 x := by
  refine (e_letter0 hL ha.1).mpr ?_
  rw [ha.2.2.1, ha.2.2.2.1]
  by_cases c : p < n ∧ T p = x
  · rw [if_pos (by rw [tok_let c.1 (by rw [c.2]; exact hx)]; exact ⟨rfl, c.2⟩)]; exact H1 c
  · rw [if_neg (fun q => by
      obtain ⟨q1, q2⟩ := q
      have := tok_k.2.2.1 q1
      exact c ⟨this.1, this.2.2.symm.trans q2⟩)]
    exact H0 c
theorem m_r83 {bk : hp → Nat → Prop} {Q : Int32 → hp → Prop} {S : hp} {n p : Nat} {T : Nat → Int32} (hL : Lay S) (ha : At S T n p) (HN : ¬ p < n → wB_X12_street_117 Q S 35) (HR : p < n → kb (T p) = 0 → wB_X12_street_117 Q S 35) (HM : p < n → 1 ≤ kb (T p) → wp_X12_readMouth (fun S69 => bk S69 35) S 35) : wB_X12_street_83 bk Q S 35 := by
  unfold wB_X12_street_83
  refine ⟨(hL.1 35 (by decide)).1, fun z => absurd ha.1 z, fun _ => ?_⟩
  rw [ha.2.2.1, ha.2.2.2.1]
  refine ⟨fun z => ?_, fun z => e_kindBy.mpr ?_⟩
  · by_cases c : p < n
    · refine HR c ?_
      by_cases k0 : kb (T p) = 0
      · exact k0
      · exact absurd (by rw [tok_let c (kb_let (by omega))]) z
    · exact HN c
  · obtain ⟨z1, z2, z3⟩ := tok_k.2.2.1 z
    rw [z3]
    by_cases k0 : kb (T p) = 0
    · exact ⟨fun _ => HR z1 k0, fun y => absurd (by rw [k0]; rfl) y⟩
    · exact ⟨fun y => absurd y (kbI_ne (by omega) (kb_le _)), fun _ => ⟨(hL.1 35 (by decide)).1, HM z1 (by omega)⟩⟩
theorem m_b83 {Q : Int32 → hp → Prop} {S : hp} {e : PF} (k : Nat) (hL : Lay S) (hb : Bad S e) (H : wB_X12_street_117 Q S 35) : wl_X12_street_83 Q (k + 1) S 35 := by
  unfold wl_X12_street_83 wB_X12_street_83
  exact ⟨(hL.1 35 (by decide)).1, fun _ => H, fun z => absurd z hb.ne⟩
theorem m_b67 {Q : Int32 → hp → Prop} {S : hp} {e : PF} (k : Nat) (hL : Lay S) (hb : Bad S e) (H : wB_X12_street_117 Q S 35) : wl_X12_street_67 Q (k + 1) S 35 := by
  unfold wl_X12_street_67 wB_X12_street_67
  exact ⟨(hL.1 35 (by decide)).1, (e_letter1 hL hb.ne).mpr ⟨fun _ => ⟨1, m_b83 0 hL hb H⟩, fun z => absurd rfl z⟩⟩
theorem m_mous {Q : Int32 → hp → Prop} {S0 : hp} {n : Nat} {T : Nat → Int32} {R : Except PF (Nat → Int32)} (hL : Lay S0) (hn : n ≤ 140) (hT : hI S0 42 = T) (h10 : hI S0 35 10 = nI n) (HE : ∀ e S1, R = .error e → Rf S0 S1 → Bad S1 e → wB_X12_street_117 Q S1 35) (HR : ∀ p S1, R = .error (1, p) → p < n → Rf S0 S1 → At S1 T n p → wB_X12_street_117 Q S1 35) (HO : ∀ p f S1, R = .ok f → n ≤ p → Rf S0 S1 → At S1 T n p → H40 S1 f → wB_X12_street_117 Q S1 35) : ∀ t m p f S, m + t = 5 → p ≤ n → Rf S0 S → At S T n p → H40 S f → f 3 = nI m → pM (pNum T n) (pByte T n) (pK T n) t p f = R → wl_X12_street_83 Q (t + 2) S 35 := by
  intro t
  induction t with
  | zero =>
    intro m p f S hm hp hf ha h40 h3 hR
    unfold wl_X12_street_83
    refine m_r83 (hf.lay hL) ha (fun c => ?_) (fun c k0 => ?_) (fun c k0 => ?_)
    · exact HO p f S (by rw [← hR]; simp [pM, pK, c]) (by omega) hf ha h40
    · exact HR p S (by rw [← hR]; simp [pM, pK, c, k0]) c hf ha
    · have k1 : ¬ kb (T p) = 0 := by omega
      refine m_mouth (m := m) (f := f) hL hn hT h10 hf ha ⟨c, kb_let k0⟩ k0 h40 h3 (by omega) (fun e S1 h a b => ?_) (fun v q S1 h a b c d => by omega)
      refine m_b83 0 (a.lay hL) b (HE e S1 ?_ a b)
      rcases h with ⟨_, h⟩ | ⟨h, _⟩
      · rw [← hR, h]; simp [pM, pK, c, k1]
      · omega
  | succ t ih =>
    intro m p f S hm hp hf ha h40 h3 hR
    unfold wl_X12_street_83
    refine m_r83 (hf.lay hL) ha (fun c => ?_) (fun c k0 => ?_) (fun c k0 => ?_)
    · exact HO p f S (by rw [← hR]; simp [pM, pK, c]) (by omega) hf ha h40
    · exact HR p S (by rw [← hR]; simp [pM, pK, c, k0]) c hf ha
    · have k1 : ¬ kb (T p) = 0 := by omega
      refine m_mouth (m := m) (f := f) hL hn hT h10 hf ha ⟨c, kb_let k0⟩ k0 h40 h3 (by omega) (fun e S1 h a b => ?_) (fun v q S1 h a b d e => ?_)
      · refine m_b83 (t + 1) (a.lay hL) b (HE e S1 ?_ a b)
        rcases h with ⟨h, _⟩ | ⟨_, h⟩
        · omega
        · rw [← hR]; simp [pM, pK, c, k1, h]
      · refine ih (m + 1) q (addM f m (kb (T p)) v) S1 (by omega) (pIn_v a).2 b e d ?_ ?_
        · unfold addM; rw [if_pos rfl]
        · rw [← hR]; simp [pM, pK, c, k1, a, show 4 - t = m by omega]
theorem m_dums {Q : Int32 → hp → Prop} {S0 : hp} {n : Nat} {T : Nat → Int32} {R : Except PF (Nat × (Nat → Int32))} (hL : Lay S0) (hn : n ≤ 140) (hT : hI S0 42 = T) (h10 : hI S0 35 10 = nI n) (HE : ∀ e S1, R = .error e → Rf S0 S1 → Bad S1 e → wB_X12_street_117 Q S1 35) (HO : ∀ p f S1, R = .ok (p, f) → p ≤ n → Rf S0 S1 → At S1 T n p → H40 S1 f → f 3 = nI 0 → ∃ k, wl_X12_street_83 Q k S1 35) : ∀ t d p f S, d + t = 4 → p ≤ n → Rf S0 S → At S T n p → H40 S f → f 2 = nI d → f 3 = nI 0 → pD (pNum T n) (pByte T n) t p f = R → wl_X12_street_67 Q (t + 2) S 35 := by
  intro t
  induction t with
  | zero =>
    intro d p f S hd hp hf ha h40 h2 h3 hR
    have hL1 := hf.lay hL
    unfold wl_X12_street_67 wB_X12_street_67
    refine ⟨(hL1.1 35 (by decide)).1, m_let hL1 ha (by decide) (fun c => ?_) (fun c => ?_)⟩
    · refine ⟨fun z => absurd z (by decide), fun _ => ⟨(hL1.1 35 (by decide)).1, ?_⟩⟩
      refine m_dummy (d := d) (f := f) hL hn hT h10 hf ha c h40 h2 (by omega) (fun e S1 h a b => ?_) (fun w q S1 h a b c d => by omega)
      refine m_b67 0 (a.lay hL) b (HE e S1 ?_ a b)
      rcases h with ⟨_, h⟩ | ⟨h, _⟩
      · rw [← hR, h]; simp [pD, pByte, c]
      · omega
    · exact ⟨fun _ => HO p f S (by rw [← hR]; simp [pD, pByte, c]) hp hf ha h40 h3, fun z => absurd rfl z⟩
  | succ t ih =>
    intro d p f S hd hp hf ha h40 h2 h3 hR
    have hL1 := hf.lay hL
    unfold wl_X12_street_67 wB_X12_street_67
    refine ⟨(hL1.1 35 (by decide)).1, m_let hL1 ha (by decide) (fun c => ?_) (fun c => ?_)⟩
    · refine ⟨fun z => absurd z (by decide), fun _ => ⟨(hL1.1 35 (by decide)).1, ?_⟩⟩
      refine m_dummy (d := d) (f := f) hL hn hT h10 hf ha c h40 h2 (by omega) (fun e S1 h a b => ?_) (fun w q S1 h a b d1 e => ?_)
      · refine m_b67 (t + 1) (a.lay hL) b (HE e S1 ?_ a b)
        rcases h with ⟨h, _⟩ | ⟨_, h⟩
        · omega
        · rw [← hR]; simp [pD, pByte, c, h]
      · refine ih (d + 1) q (addD f d w) S1 (by omega) (pThree_v a).2 b e d1 ?_ ?_ ?_
        · unfold addD; rw [if_pos rfl]
        · rw [addD_lo (by decide) (by decide)]; exact h3
        · rw [← hR]; simp [pD, pByte, c, a, show 3 - t = d by omega]
    · exact ⟨fun _ => HO p f S (by rw [← hR]; simp [pD, pByte, c]) hp hf ha h40 h3, fun z => absurd rfl z⟩
/-! the reference's end -/
theorem m_f20 {Q : Int32 → hp → Prop} {S : hp} {e : PF} (hL : Lay S) (hb : Bad S e) (H : Q 1 (setI (setI S 35 10 0) 35 17 e.1)) : wB_X12_failed_20 Q S 35 := by
  have k := (hL.1 35 (by decide)).1
  unfold wB_X12_failed_20 wB_X12_failed_44
  refine ⟨k, ?_⟩
  intro S4 e4
  have h15 : hI S4 35 15 = e.1 := by rw [e4, hI_setI, if_neg (by decide)]; exact hb.1
  rw [h15]
  refine ⟨fun z => absurd z hb.2.1, fun _ => ⟨by rw [e4]; exact k, ?_⟩⟩
  intro S8 e8
  have h15' : hI S8 35 15 = e.1 := by rw [e8, hI_setI, if_neg (by decide)]; exact h15
  rw [h15']
  refine ⟨by rw [e8, e4]; exact k, fun z => absurd z hb.2.1, fun _ => ?_⟩
  rw [e8, e4]; exact H
theorem m_117B {Q : Int32 → hp → Prop} {S : hp} {e : PF} (hL : Lay S) (hb : Bad S e) (H : Q (-1000100 - nI e.2) (setI (setI S 35 10 0) 35 17 e.1)) : wB_X12_street_117 Q S 35 := by
  have k := (hL.1 35 (by decide)).1
  unfold wB_X12_street_117 wp_X12_failed
  refine ⟨k, k, fun _ => m_f20 hL hb ?_, fun z => absurd z hb.ne⟩
  refine ⟨fun z => absurd z (by decide), fun _ => ⟨k, ?_⟩⟩
  have e16 : hI (setI (setI S 35 10 0) 35 17 e.1) 35 16 = nI e.2 := by rw [hI_setI, if_neg (by decide), hI_setI, if_neg (by decide)]; exact hb.2.2
  rw [e16]; exact H
theorem m_117R {Q : Int32 → hp → Prop} {S : hp} {T : Nat → Int32} {n p : Nat} (hL : Lay S) (ha : At S T n p) (hp : p < n) (H : Q (-1000100 - nI p) (setI (setI (flt S 1) 35 10 0) 35 17 1)) : wB_X12_street_117 Q S 35 := by
  have k := (hL.1 35 (by decide)).1
  have hb := ha.fl (x := 1) (by decide)
  unfold wB_X12_street_117 wp_X12_failed
  refine ⟨k, k, fun z => absurd ha.1 z, fun _ => ⟨fun z => ?_, fun _ => (e_bad0 hL ha.1).mpr (m_f20 (Lay_flt hL) hb ?_)⟩⟩
  · rw [ha.2.2.1] at z
    have := tok_k.2.2.2 z
    omega
  · refine ⟨fun z => absurd z (by decide), fun _ => ⟨k, ?_⟩⟩
    have e16 : hI (setI (setI (flt S 1) 35 10 0) 35 17 1) 35 16 = nI p := by rw [hI_setI, if_neg (by decide), hI_setI, if_neg (by decide)]; exact hb.2.2
    rw [e16]; exact H
theorem m_c139 {Q : Int32 → hp → Prop} {S : hp} (hL : Lay S) (h : Q (hI S 40 2) (putA S 39 (cp (hI S 39) (hI S 40) 0 0 147))) : ∃ m, wl_X12_street_139 Q m S 35 0 := by
  have key : ∀ k j, j + k = 147 → wl_X12_street_139 Q (k + 1) (putA S 39 (cp (hI S 39) (hI S 40) 0 0 j)) 35 (nI j) := by
    intro k
    induction k with
    | zero =>
      intro j hj
      have : j = 147 := by omega
      subst this
      unfold wl_X12_street_139 wB_X12_street_139
      refine ⟨fun _ => ?_, fun q => absurd (nI_le (a := 147) (b := 147) (by omega) (by omega)) q⟩
      simp only [hK_putA, hN_putA, hR_putA, hL.eqs, hI_putA_s, vi2, cl2, ↓reduceIte, Nat.reduceEqDiff, and_false, false_and, true_and, and_true, forall_eq, forall_eq', exists_eq_left, exists_eq_left', Option.some.injEq, eq_self_iff_true, not_true, not_false_iff, false_implies, true_implies, forall_const, reduceCtorEq, ne_eq]
      have e2 : cp (hI S 39) (hI S 40) 0 0 147 2 = hI S 40 2 := cp_in (o := 0) (p := 0) (i := 2) (by decide)
      rw [e2]; exact h
    | succ k ih =>
      intro j hj
      unfold wl_X12_street_139 wB_X12_street_139
      refine ⟨fun q => absurd q (nI_ge (a := j) (b := 147) (by omega) (by omega)), fun _ => ?_⟩
      have := ih (j + 1) (by omega)
      simp only [hK_putA, hN_putA, hR_putA, hL.eqs, hI_putA_ne (S := S) (a := 39) (b := 40) (by decide), show vp_in (nI j) 147 from vp_in_nI (by omega) (by omega), nI_clamp (show j < 2 ^ 31 by omega), setI_putA, nI_1, ↓reduceIte, Nat.reduceEqDiff, and_false, false_and, true_and, and_true, forall_eq, forall_eq', exists_eq_left, exists_eq_left', Option.some.injEq, eq_self_iff_true, not_true, not_false_iff, false_implies, true_implies, forall_const, reduceCtorEq, ne_eq]
      rw [cp_step, Nat.zero_add] at this
      exact this
  have := key 147 0 (by omega)
  refine ⟨148, ?_⟩
  rw [cp_0, putA_self] at this
  exact this
theorem m_117O {Q : Int32 → hp → Prop} {S : hp} {T f : Nat → Int32} {n p : Nat} (hL : Lay S) (ha : At S T n p) (hp : n ≤ p) (h40 : H40 S f) (H : ∀ h, (∀ i, i < 147 → h i = f i) → Q (f 2) (putA (setI (setI (setI S 35 10 0) 35 17 (hI S 35 17)) 35 8 0) 39 h)) : wB_X12_street_117 Q S 35 := by
  have k := (hL.1 35 (by decide)).1
  unfold wB_X12_street_117 wp_X12_failed wB_X12_failed_20 wB_X12_failed_44
  refine ⟨k, k, fun z => absurd ha.1 z, fun _ => ⟨fun _ => ⟨k, ?_⟩, fun z => absurd (by rw [ha.2.2.1, tok_end hp]) z⟩⟩
  intro S4 e4
  have h15 : hI S4 35 15 = 0 := by rw [e4, hI_setI, if_neg (by decide)]; exact ha.1
  have h17 : hI S4 35 17 = hI S 35 17 := by rw [e4, hI_setI, if_neg (by decide)]
  rw [h15, h17]
  refine ⟨fun _ => ⟨by rw [e4]; exact k, ?_⟩, fun z => absurd (by decide) z⟩
  intro S8 e8
  have h15' : hI S8 35 15 = 0 := by rw [e8, hI_setI, if_neg (by decide)]; exact h15
  rw [h15']
  refine ⟨by rw [e8, e4]; exact k, fun _ => ⟨fun _ => ⟨by rw [e8, e4]; exact k, ?_⟩, fun z => absurd rfl z⟩, fun z => absurd (by decide) z⟩
  intro S9 e9
  have hL9 : Lay S9 := by rw [e9, e8, e4]; exact hL
  have i40 : hI S9 40 = hI S 40 := by rw [e9, e8, e4, hI_setI_ne (by decide), hI_setI_ne (by decide), hI_setI_ne (by decide)]
  refine m_c139 hL9 ?_
  rw [i40, h40 2 (by decide), e9, e8, e4]
  refine H _ (fun i hi => ?_)
  rw [← h40 i hi]
  have := cp_in (g := hI S9 39) (h := hI S 40) (o := 0) (p := 0) (n := 147) (i := i) hi
  rw [Nat.zero_add] at this
  rw [← e4, ← e8, ← e9]
  exact this
