/-- the reference's first steps: the law -/
def ch (K : hp → Prop) : Int32 → hp → Prop := fun r16 S15 => hK S15 35 = 11 ∧ wp_X12_must (fun S17 => hK S17 35 = 11 ∧ ∃ r20 : Nat, hR S17 35 6 = some r20 ∧ wp_X12_number (fun r22 S21 => hK S21 r20 = 12 ∧ vp_in (1 : Int32) (hN S21 r20) ∧ ∀ S25 : hp, S25 = setI S21 r20 ((1 : Int32)).toNatClampNeg r22 → hK S25 35 = 11 ∧ wp_X12_mustSign (fun S28 => K S28) S25 35 (59 : Int32)) S17 35 (2 : Int32) (20 : Int32)) S15 35 r16
theorem Rf.s40 {S0 S : hp} {k : Nat} {v : Int32} (h : Rf S0 S) : Rf S0 (setI S 40 k v) := by rw [setI_asA]; exact h.p40
theorem Bad.s40 {S : hp} {e : PF} {k : Nat} {v : Int32} (h : Bad S e) : Bad (setI S 40 k v) e := by
  unfold Bad; rw [hI_setI_ne (by decide)]; exact h
theorem At.s40 {S : hp} {T : Nat → Int32} {n p k : Nat} {v : Int32} (h : At S T n p) : At (setI S 40 k v) T n p := by
  unfold At; rw [hI_setI_ne (by decide)]; exact h
theorem m_law {K : hp → Prop} {S0 S : hp} {n : Nat} {T : Nat → Int32} (hL : Lay S0) (hn : n ≤ 140) (hT : hI S0 42 = T) (h10 : hI S0 35 10 = nI n) (hf : Rf S0 S) (ha : At S T n 0) (HE : ∀ e S1, pLaw (pNum T n) (pByte T n) = .error e → Rf S0 S1 → Bad S1 e → K S1) (HO : ∀ v q S1, pLaw (pNum T n) (pByte T n) = .ok (v, q) → Rf S0 S1 → (∀ i, hI S1 40 i = if i = 1 then v else hI S 40 i) → At S1 T n q → K S1) : wp_X12_isLetter (ch K) S 35 119 := by
  have hL1 := hf.lay hL
  have kq := (hL1.1 35 (by decide)).1
  have g40 : ∀ S1, Rf S0 S1 → hR S1 35 6 = some 40 ∧ hK S1 40 = 12 ∧ vp_in (1 : Int32) (hN S1 40) := fun S1 h => by
    have l := h.lay hL
    exact ⟨l.2.1 (35, 6, 40) (by decide), (l.1 40 (by decide)).1, by rw [(l.1 40 (by decide)).2]; exact vi1⟩
  refine m_let hL1 ha (by decide) (fun c => ?_) (fun c => ?_)
  · have eB : pByte T n 0 119 = .ok 1 := by unfold pByte; rw [if_pos c]
    have et := tok_let (T := T) c.1 (by rw [c.2]; decide)
    unfold ch
    refine ⟨kq, (e_mustT hL1 ha.1 (by decide)).mpr ?_⟩
    refine m_next hL hn hT h10 hf ha (by rw [et]; show 0 + 1 ≤ n; omega) (fun S1 a b d1 => ?_)
    rw [et] at d1
    refine ⟨((a.lay hL).1 35 (by decide)).1, 40, (g40 S1 a).1, ?_⟩
    refine m_num hL hn hT h10 (show 1 ≤ n by omega) a d1 (fun e S2 h a2 b2 c2 => ?_) (fun v q S2 h a2 b2 c2 => ?_)
    · refine ⟨(g40 S2 a2).2.1, (g40 S2 a2).2.2, ?_⟩
      intro S25 e25
      have a3 : Rf S0 S25 := by rw [e25]; exact a2.s40
      have b3 : Bad S25 e := by rw [e25]; exact c2.s40
      exact ⟨((a3.lay hL).1 35 (by decide)).1, (e_sign1 (a3.lay hL) b3.ne).mpr (HE e S25 (by simp [pLaw, eB, pIn, h]) a3 b3)⟩
    · refine ⟨(g40 S2 a2).2.1, (g40 S2 a2).2.2, ?_⟩
      intro S25 e25
      have a3 : Rf S0 S25 := by rw [e25]; exact a2.s40
      have b3 : At S25 T n q := by rw [e25]; exact c2.s40
      refine ⟨((a3.lay hL).1 35 (by decide)).1, m_sgn hL hn hT h10 (Or.inr rfl) a3 b3 (fun e S3 h3 a4 b4 c4 => ?_) (fun q2 S3 h3 a4 b4 c4 => ?_)⟩
      · exact HE e S3 (by simp [pLaw, eB, pIn, h, h3]) a4 c4
      · refine HO v q2 S3 (by simp [pLaw, eB, pIn, h, h3]) a4 (fun i => ?_) c4
        rw [b4, e25, cl1, hI_setI, b2, b]
        by_cases i1 : i = 1 <;> simp [i1]
  · have hb := ha.fl (x := 1) (by decide)
    have hf1 : Rf S0 (flt S 1) := hf.fl
    have l1 := hf1.lay hL
    unfold ch
    refine ⟨kq, (e_mustF hL1 ha.1).mpr ⟨kq, 40, (g40 _ hf1).1, (e_num1 l1 hb.ne).mpr ⟨(g40 _ hf1).2.1, (g40 _ hf1).2.2, ?_⟩⟩⟩
    intro S25 e25
    have a3 : Rf S0 S25 := by rw [e25]; exact hf1.s40
    have b3 : Bad S25 (1, 0) := by rw [e25]; exact hb.s40
    exact ⟨((a3.lay hL).1 35 (by decide)).1, (e_sign1 (a3.lay hL) b3.ne).mpr (HE (1, 0) S25 (by simp [pLaw, pByte, c]) a3 b3)⟩
def zr (h : Nat → Int32) (j : Nat) : Nat → Int32 := fun i => if i < j then 0 else h i
theorem m_z11 {Q : Int32 → hp → Prop} {S : hp} (hL : Lay S) (H : ∀ h, (∀ i, i < 147 → h i = if i = 0 then 1 else 0) → wp_X12_isLetter (ch (fun S28 => ∃ n : Nat, wl_X12_street_67 Q n S28 35)) (putA S 40 h) 35 119) : ∃ m, wl_X12_street_11 Q m S 35 0 := by
  have key : ∀ k j, j + k = 147 → wl_X12_street_11 Q (k + 1) (putA S 40 (zr (hI S 40) j)) 35 (nI j) := by
    intro k
    induction k with
    | zero =>
      intro j hj
      have : j = 147 := by omega
      subst this
      unfold wl_X12_street_11 wB_X12_street_11
      refine ⟨fun _ => ⟨(hL.1 35 (by decide)).1, 40, hL.2.1 (35, 6, 40) (by decide), (hL.1 40 (by decide)).1, by rw [hN_putA, (hL.1 40 (by decide)).2]; exact vi0, ?_⟩, fun q => absurd (nI_le (a := 147) (b := 147) (by omega) (by omega)) q⟩
      intro S10 e10
      rw [cl0, setI_putA] at e10
      rw [e10]
      refine H _ (fun i hi => ?_)
      unfold zr
      by_cases i0 : i = 0
      · simp [i0]
      · simp [i0, hi]
    | succ k ih =>
      intro j hj
      have nx := ih (j + 1) (by omega)
      unfold wl_X12_street_11 wB_X12_street_11
      refine ⟨fun q => absurd q (nI_ge (a := j) (b := 147) (by omega) (by omega)), fun _ => ⟨(hL.1 35 (by decide)).1, 40, hL.2.1 (35, 6, 40) (by decide), (hL.1 40 (by decide)).1, by rw [hN_putA, (hL.1 40 (by decide)).2, show nn 40 = 147 from rfl]; exact vp_in_nI (by omega) (by omega), ?_⟩⟩
      intro S77 e77 v82 e82
      rw [nI_clamp (show j < 2 ^ 31 by omega), setI_putA] at e77
      have e : (fun i => if i = j then (0 : Int32) else zr (hI S 40) j i) = zr (hI S 40) (j + 1) := by
        funext i
        unfold zr
        by_cases h1 : i = j
        · rw [if_pos h1, if_pos (by omega)]
        · rw [if_neg h1]
          by_cases h2 : i < j
          · rw [if_pos h2, if_pos (by omega)]
          · rw [if_neg h2, if_neg (by omega)]
      rw [e] at e77
      rw [e82, nI_1, e77]
      exact nx
  have := key 147 0 (by omega)
  refine ⟨148, ?_⟩
  have e : zr (hI S 40) 0 = hI S 40 := by funext i; unfold zr; simp
  rw [e, putA_self] at this
  exact this
theorem m_street {Q : Int32 → hp → Prop} {S : hp} {n : Nat} {T : Nat → Int32} (hL : Lay S) (hn : n ≤ 140) (hT : hI S 42 = T) (h10 : hI S 35 10 = nI n) (HE : ∀ e S1, pAll (pNum T n) (pByte T n) (pK T n) = .error e → Rf (setI S 35 0 0) S1 → Q (-1000100 - nI e.2) (setI (setI S1 35 10 0) 35 17 e.1)) (HO : ∀ f S1 h, pAll (pNum T n) (pByte T n) (pK T n) = .ok f → Rf (setI S 35 0 0) S1 → (∀ i, i < 147 → h i = f i) → Q (f 2) (putA (setI (setI (setI S1 35 10 0) 35 17 (hI S1 35 17)) 35 8 0) 39 h)) : wp_X12_street Q S 35 := by
  have kq := (hL.1 35 (by decide)).1
  unfold wp_X12_street
  refine ⟨kq, ?_⟩
  intro S0 e0
  rw [← e0] at HE HO
  have hL0 : Lay S0 := by rw [e0]; exact hL
  have hT0 : hI S0 42 = T := by rw [e0, hI_setI_ne (by decide)]; exact hT
  have t10 : hI S0 35 10 = nI n := by rw [e0, hI_setI, if_neg (by decide)]; exact h10
  unfold wp_X12_begin
  refine ⟨(hL0.1 35 (by decide)).1, ?_⟩
  intro S2 e2 S4 e4
  have hL4 : Lay S4 := by rw [e4, e2]; exact hL0
  refine m_tok (p := 0) (n := n) (T := T) hL4 hn (Nat.zero_le _) ?_ ?_ ?_ (fun g hg => ?_)
  · rw [e4, e2, hI_setI_ne (by decide), hI_setI_ne (by decide)]; exact hT0
  · rw [e4, e2, hI_setI, if_neg (by decide), hI_setI, if_neg (by decide)]; exact t10
  · rw [e4, e2, hI_setI, if_neg (by decide), hI_setI, if_pos ⟨rfl, rfl⟩]; rfl
  obtain ⟨g1, g2, g3, g4, g5⟩ := hg
  have r5 : Rf S0 (putA S4 35 g) := by
    refine ⟨?_, fun b h1 h2 => ?_, fun i hi => ?_⟩
    · rw [e4, e2]; exact ⟨rfl, rfl, rfl, rfl⟩
    · rw [hI_putA_ne h1, e4, e2, hI_setI_ne h1, hI_setI_ne h1]
    · rw [hI_putA_s, g5 i (by omega) (by omega) (by omega) (by omega), e4, e2, hI_setI, if_neg (by omega), hI_setI, if_neg (by omega)]
  have a5 : At (putA S4 35 g) T n 0 := by
    unfold At
    rw [hI_putA_s]
    refine ⟨?_, g1, g2, g3, g4⟩
    rw [g5 15 (by decide) (by decide) (by decide) (by decide), e4, hI_setI, if_pos ⟨rfl, rfl⟩]
  refine m_z11 (r5.lay hL0) (fun h hh => ?_)
  have r6 := r5.p40 (g := h)
  have a6 : At (putA (putA S4 35 g) 40 h) T n 0 := by unfold At; rw [hI_putA_ne (by decide)]; exact a5
  refine m_law hL0 hn hT0 t10 r6 a6 (fun e S1 h a b => ?_) (fun v q S1 hl a b c => ?_)
  · exact ⟨1, m_b67 0 (a.lay hL0) b (m_117B (a.lay hL0) b (HE e S1 (by simp [pAll, h]) a))⟩
  · have hv : q ≤ n := by
      unfold pLaw at hl
      cases eB : pByte T n 0 119 with
      | error e => rw [eB] at hl; cases hl
      | ok p => rw [eB] at hl; exact (pIn_v hl).2
    refine ⟨6, m_dums hL0 hn hT0 t10 (R := pD (pNum T n) (pByte T n) 4 q (fL v)) (fun e S2 hR a b => ?_) (fun p f S2 hR hp a2 b2 c2 d2 => ?_) 4 0 q (fL v) S1 (by omega) hv a c (fun i hi => ?_) rfl rfl rfl⟩
    · exact m_117B (a.lay hL0) b (HE e S2 (by simp [pAll, hl, hR]) a)
    · refine ⟨7, m_mous hL0 hn hT0 t10 (R := pM (pNum T n) (pByte T n) (pK T n) 5 p f) (fun e S3 hR2 a b => ?_) (fun p3 S3 hR2 hp3 a b => ?_) (fun p3 f3 S3 hR2 hp3 a b d => ?_) 5 0 p f S2 (by omega) hp a2 b2 c2 d2 rfl⟩
      · exact m_117B (a.lay hL0) b (HE e S3 (by simp [pAll, hl, hR, hR2]) a)
      · exact m_117R (a.lay hL0) b hp3 (HE (1, p3) (flt S3 1) (by simp [pAll, hl, hR, hR2]) a.fl)
      · exact m_117O (a.lay hL0) b hp3 d (fun h4 hh4 => HO f3 S3 h4 (by simp [pAll, hl, hR, hR2]) a hh4)
    · rw [b i, hI_putA_s, hh i hi]
      unfold fL
      by_cases i0 : i = 0
      · simp [i0]
      · by_cases i1 : i = 1 <;> simp [i0, i1]
