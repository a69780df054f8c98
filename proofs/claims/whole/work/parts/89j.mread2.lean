theorem m_three {K : Int32 → Int32 → Int32 → hp → Prop} {S0 S : hp} {n p : Nat} {T : Nat → Int32} (hL : Lay S0) (hn : n ≤ 140) (hT : hI S0 42 = T) (h10 : hI S0 35 10 = nI n) (hp : p ≤ n) (hf : Rf S0 S) (ha : At S T n p) (HE : ∀ e a b c S1, pThree (pNum T n) (pByte T n) p = .error e → Rf S0 S1 → Bad S1 e → K a b c S1) (HO : ∀ a b c q S1, pThree (pNum T n) (pByte T n) p = .ok (v3 a b c, q) → Rf S0 S1 → hI S1 40 = hI S 40 → At S1 T n q → K a b c S1) : wp_X12_number (fun r10 S8 => hK S8 35 = 11 ∧ wp_X12_mustSign (fun S11 => hK S11 35 = 11 ∧ wp_X12_number (fun r15 S13 => hK S13 35 = 11 ∧ wp_X12_mustSign (fun S16 => hK S16 35 = 11 ∧ wp_X12_number (fun r20 S18 => hK S18 35 = 11 ∧ wp_X12_mustSign (fun S21 => K r10 r15 r20 S21) S18 35 (59 : Int32)) S16 35 (0 : Int32) (99 : Int32)) S13 35 (44 : Int32)) S11 35 (0 : Int32) (99 : Int32)) S8 35 (44 : Int32)) S 35 (0 : Int32) (99 : Int32) := by
  refine m_in (Q := fun r10 S11 => hK S11 35 = 11 ∧ wp_X12_number (fun r15 S13 => hK S13 35 = 11 ∧ wp_X12_mustSign (fun S16 => hK S16 35 = 11 ∧ wp_X12_number (fun r20 S18 => hK S18 35 = 11 ∧ wp_X12_mustSign (fun S21 => K r10 r15 r20 S21) S18 35 (59 : Int32)) S16 35 (0 : Int32) (99 : Int32)) S13 35 (44 : Int32)) S11 35 (0 : Int32) (99 : Int32)) hL hn hT h10 hp (Or.inl rfl) hf ha (fun e r S1 h a b c => ?_) (fun v0 q0 S1 h0 a0 b0 c0 => ?_)
  · have l1 := a.lay hL
    refine ⟨(l1.1 35 (by decide)).1, m_in1 (Q := fun r15 S16 => hK S16 35 = 11 ∧ wp_X12_number (fun r20 S18 => hK S18 35 = 11 ∧ wp_X12_mustSign (fun S21 => K r r15 r20 S21) S18 35 (59 : Int32)) S16 35 (0 : Int32) (99 : Int32)) l1 c.ne ⟨(l1.1 35 (by decide)).1, m_in1 (Q := fun r20 S21 => K r 0 r20 S21) l1 c.ne ?_⟩⟩
    exact HE e _ _ _ S1 (by simp [pThree, h]) a c
  · refine ⟨((a0.lay hL).1 35 (by decide)).1, m_in (Q := fun r15 S16 => hK S16 35 = 11 ∧ wp_X12_number (fun r20 S18 => hK S18 35 = 11 ∧ wp_X12_mustSign (fun S21 => K v0 r15 r20 S21) S18 35 (59 : Int32)) S16 35 (0 : Int32) (99 : Int32)) hL hn hT h10 (pIn_v h0).2 (Or.inl rfl) a0 c0 (fun e r S1 h a b c => ?_) (fun v1 q1 S1 h1 a1 b1 c1 => ?_)⟩
    · have l1 := a.lay hL
      refine ⟨(l1.1 35 (by decide)).1, m_in1 (Q := fun r20 S21 => K v0 r r20 S21) l1 c.ne ?_⟩
      exact HE e _ _ _ S1 (by simp [pThree, h0, h]) a c
    · refine ⟨((a1.lay hL).1 35 (by decide)).1, m_in (Q := fun r20 S21 => K v0 v1 r20 S21) hL hn hT h10 (pIn_v h1).2 (Or.inr rfl) a1 c1 (fun e r S1 h a b c => ?_) (fun v2 q2 S2 h2 a2 b2 c2 => ?_)⟩
      · exact HE e _ _ _ S1 (by simp [pThree, h0, h1, h]) a c
      · exact HO v0 v1 v2 q2 S2 (by simp [pThree, h0, h1, h2]) a2 (b2.trans (b1.trans b0)) c2
/-- one inch of a dummy is written -/
def wr (h : Nat → Int32) (d j : Nat) (v : Int32) : Nat → Int32 := fun i => if i = 29 + 3 * d + j then v else if i = 17 + 3 * d + j then v else if i = 5 + 3 * d + j then v else h i
theorem m_wr1 {bk : hp → Nat → Int32 → Int32 → Int32 → Int32 → Prop} {Q : hp → Prop} {S : hp} {h : Nat → Int32} {d j : Nat} {a b c v : Int32} (hL : Lay S) (h2 : h 2 = nI d) (hd : d < 4) (hj : j < 3) (H : bk (putA S 40 (wr h d j v)) 35 a b c (nI (j + 1))) : wB_X12_readDummy_98 bk Q (putA S 40 h) 35 a b c (nI j) v := by
  unfold wB_X12_readDummy_98
  have e5 : (5 : Int32) + (3 : Int32) * nI d + nI j = nI (5 + 3 * d + j) := i3 5 3 d j
  have e17 : (17 : Int32) + (3 : Int32) * nI d + nI j = nI (17 + 3 * d + j) := i3 17 3 d j
  have e29 : (29 : Int32) + (3 : Int32) * nI d + nI j = nI (29 + 3 * d + j) := i3 29 3 d j
  simp only [hL.eqs, hK_putA, hN_putA, hR_putA, hI_putA_s, setI_putA, cl2, vi2, h2, e5, e17, e29, nI_1, nI_clamp (show 5 + 3 * d + j < 2 ^ 31 by omega), nI_clamp (show 17 + 3 * d + j < 2 ^ 31 by omega), nI_clamp (show 29 + 3 * d + j < 2 ^ 31 by omega), show (2 = 5 + 3 * d + j) = False from eq_false (by omega), show (2 = 17 + 3 * d + j) = False from eq_false (by omega), show vp_in (nI (5 + 3 * d + j)) 147 from vp_in_nI (by omega) (by omega), show vp_in (nI (17 + 3 * d + j)) 147 from vp_in_nI (by omega) (by omega), show vp_in (nI (29 + 3 * d + j)) 147 from vp_in_nI (by omega) (by omega), ↓reduceIte, Nat.reduceEqDiff, and_false, false_and, true_and, and_true, forall_eq, forall_eq', exists_eq_left, exists_eq_left', Option.some.injEq, eq_self_iff_true, not_true, not_false_iff, false_implies, true_implies, forall_const, reduceCtorEq, ne_eq]
  exact H
theorem wr_2 {h : Nat → Int32} {d j : Nat} {v : Int32} : wr h d j v 2 = h 2 := by
  unfold wr; rw [if_neg (by omega), if_neg (by omega), if_neg (by omega)]
theorem wr_3 {h : Nat → Int32} {d : Nat} {a b c : Int32} : (fun i => if i = 2 then nI (d + 1) else wr (wr (wr h d 0 a) d 1 b) d 2 c i) = addD h d (v3 a b c) := by
  funext i
  unfold wr addD v3
  by_cases c0 : i = 2
  · rw [if_pos c0, if_pos c0]
  rw [if_neg c0, if_neg c0]
  by_cases b1 : 5 + 3 * d ≤ i ∧ i < 5 + 3 * d + 3
  · rw [if_pos b1]
    rcases (show i = 5 + 3 * d ∨ i = 5 + 3 * d + 1 ∨ i = 5 + 3 * d + 2 by omega) with e | e | e <;> subst e
    · repeat' first | rw [if_pos (by omega)] | rw [if_neg (by omega)]
    · repeat' first | rw [if_pos (by omega)] | rw [if_neg (by omega)]
    · repeat' first | rw [if_pos (by omega)] | rw [if_neg (by omega)]
  rw [if_neg b1]
  by_cases b2 : 17 + 3 * d ≤ i ∧ i < 17 + 3 * d + 3
  · rw [if_pos b2]
    rcases (show i = 17 + 3 * d ∨ i = 17 + 3 * d + 1 ∨ i = 17 + 3 * d + 2 by omega) with e | e | e <;> subst e
    · repeat' first | rw [if_pos (by omega)] | rw [if_neg (by omega)]
    · repeat' first | rw [if_pos (by omega)] | rw [if_neg (by omega)]
    · repeat' first | rw [if_pos (by omega)] | rw [if_neg (by omega)]
  rw [if_neg b2]
  by_cases b3 : 29 + 3 * d ≤ i ∧ i < 29 + 3 * d + 3
  · rw [if_pos b3]
    rcases (show i = 29 + 3 * d ∨ i = 29 + 3 * d + 1 ∨ i = 29 + 3 * d + 2 by omega) with e | e | e <;> subst e
    · repeat' first | rw [if_pos (by omega)] | rw [if_neg (by omega)]
    · repeat' first | rw [if_pos (by omega)] | rw [if_neg (by omega)]
    · repeat' first | rw [if_pos (by omega)] | rw [if_neg (by omega)]
  rw [if_neg b3]
  repeat' first | rw [if_neg (by omega)]
theorem m_wr {Q : hp → Prop} {S : hp} {d : Nat} {a b c : Int32} (hL : Lay S) (h2 : hI S 40 2 = nI d) (hd : d < 4) (H : Q (putA S 40 (addD (hI S 40) d (v3 a b c)))) : ∃ n, wl_X12_readDummy_72 Q n S 35 a b c 0 := by
  refine ⟨4, ?_⟩
  have key : wl_X12_readDummy_72 Q 4 (putA S 40 (hI S 40)) 35 a b c 0 := by
    show wB_X12_readDummy_72 (wl_X12_readDummy_72 Q 3) Q _ 35 a b c (nI 0)
    unfold wB_X12_readDummy_72
    refine ⟨fun q => absurd q (by decide), fun _ => ⟨fun q => absurd rfl q, fun _ => m_wr1 (j := 0) hL h2 hd (by decide) ?_⟩⟩
    show wB_X12_readDummy_72 (wl_X12_readDummy_72 Q 2) Q _ 35 a b c (nI 1)
    unfold wB_X12_readDummy_72
    refine ⟨fun q => absurd q (by decide), fun _ => ⟨fun _ => ⟨fun q => absurd (by decide) q, fun _ => m_wr1 (j := 1) hL (by rw [wr_2]; exact h2) hd (by decide) ?_⟩, fun q => absurd q (by decide)⟩⟩
    show wB_X12_readDummy_72 (wl_X12_readDummy_72 Q 1) Q _ 35 a b c (nI 2)
    unfold wB_X12_readDummy_72
    refine ⟨fun q => absurd q (by decide), fun _ => ⟨fun _ => ⟨fun _ => m_wr1 (j := 2) hL (by rw [wr_2, wr_2]; exact h2) hd (by decide) ?_, fun q => absurd q (by decide)⟩, fun q => absurd q (by decide)⟩⟩
    show wB_X12_readDummy_72 (wl_X12_readDummy_72 Q 0) Q _ 35 a b c (nI 3)
    unfold wB_X12_readDummy_72
    refine ⟨fun _ => ⟨(hL.1 35 (by decide)).1, 40, hL.2.1 (35, 6, 40) (by decide), (hL.1 40 (by decide)).1, by rw [hN_putA, (hL.1 40 (by decide)).2]; exact vi2, ?_⟩, fun q => absurd (by decide) q⟩
    intro S30 e
    rw [cl2, hI_putA_s, wr_2, wr_2, wr_2, h2, nI_1, setI_putA, wr_3] at e
    rw [e]; exact H
  rw [putA_self] at key
  exact key
/-- the reference's numbers so far -/
def H40 (S : hp) (f : Nat → Int32) : Prop := ∀ i, i < 147 → hI S 40 i = f i
theorem H40.eq {S S1 : hp} {f : Nat → Int32} (h : H40 S f) (e : hI S1 40 = hI S 40) : H40 S1 f := fun i hi => by rw [e]; exact h i hi
theorem m_dummy {Q : hp → Prop} {S0 S : hp} {n p d : Nat} {T f : Nat → Int32} (hL : Lay S0) (hn : n ≤ 140) (hT : hI S0 42 = T) (h10 : hI S0 35 10 = nI n) (hf : Rf S0 S) (ha : At S T n p) (hp : p < n ∧ T p = 100) (h40 : H40 S f) (h2 : f 2 = nI d) (hd : d ≤ 4) (HE : ∀ e S1, (d = 4 ∧ e = (3, p) ∨ d < 4 ∧ pThree (pNum T n) (pByte T n) (p + 1) = .error e) → Rf S0 S1 → Bad S1 e → Q S1) (HO : ∀ w q S1, d < 4 → pThree (pNum T n) (pByte T n) (p + 1) = .ok (w, q) → Rf S0 S1 → H40 S1 (addD f d w) → At S1 T n q → Q S1) : wp_X12_readDummy Q S 35 := by
  have hL1 := hf.lay hL
  unfold wp_X12_readDummy
  have e2 : hI S 40 (2 : Int32).toNatClampNeg = nI d := by rw [cl2, h40 2 (by decide)]; exact h2
  refine ⟨(hL1.1 35 (by decide)).1, 40, hL1.2.1 (35, 6, 40) (by decide), (hL1.1 40 (by decide)).1, by rw [(hL1.1 40 (by decide)).2]; exact vi2, ?_⟩
  rw [e2]
  have et := tok_let (T := T) hp.1 (by rw [hp.2]; decide)
  by_cases c : d = 4
  · subst c
    refine ⟨fun q => absurd rfl q, fun _ => (e_bad0 hL1 ha.1).mpr ?_⟩
    have hb := ha.fl (x := 3) (by decide)
    have hf1 : Rf S0 (flt S 3) := hf.fl
    have l1 := hf1.lay hL
    have k := (l1.1 35 (by decide)).1
    unfold wB_X12_readDummy_15
    refine ⟨k, (e_must1 l1 hb.ne).mpr ⟨k, m_in1 (Q := fun r10 S11 => hK S11 35 = 11 ∧ wp_X12_number (fun r15 S13 => hK S13 35 = 11 ∧ wp_X12_mustSign (fun S16 => hK S16 35 = 11 ∧ wp_X12_number (fun r20 S18 => hK S18 35 = 11 ∧ wp_X12_mustSign (fun S21 => hK S21 35 = 11 ∧ ((¬ (hI S21 35 15) = 0 → Q S21) ∧ ((hI S21 35 15) = 0 → ∃ n : Nat, wl_X12_readDummy_72 Q n S21 35 r10 r15 r20 (0 : Int32)))) S18 35 (59 : Int32)) S16 35 (0 : Int32) (99 : Int32)) S13 35 (44 : Int32)) S11 35 (0 : Int32) (99 : Int32)) l1 hb.ne ⟨k, m_in1 (Q := fun r15 S16 => hK S16 35 = 11 ∧ wp_X12_number (fun r20 S18 => hK S18 35 = 11 ∧ wp_X12_mustSign (fun S21 => hK S21 35 = 11 ∧ ((¬ (hI S21 35 15) = 0 → Q S21) ∧ ((hI S21 35 15) = 0 → ∃ n : Nat, wl_X12_readDummy_72 Q n S21 35 0 r15 r20 (0 : Int32)))) S18 35 (59 : Int32)) S16 35 (0 : Int32) (99 : Int32)) l1 hb.ne ⟨k, m_in1 (Q := fun r20 S21 => hK S21 35 = 11 ∧ ((¬ (hI S21 35 15) = 0 → Q S21) ∧ ((hI S21 35 15) = 0 → ∃ n : Nat, wl_X12_readDummy_72 Q n S21 35 0 0 r20 (0 : Int32)))) l1 hb.ne ⟨k, fun _ => HE (3, p) _ (Or.inl ⟨rfl, rfl⟩) hf1 hb, fun z => absurd z hb.ne⟩⟩⟩⟩⟩
  · unfold wB_X12_readDummy_15
    refine ⟨fun _ => ⟨(hL1.1 35 (by decide)).1, (e_mustT hL1 ha.1 (by decide)).mpr ?_⟩, fun q => absurd ((nI_eq (a := d) (b := 4) (by omega) (by omega)).mp q) c⟩
    refine m_next hL hn hT h10 hf ha (by rw [et]; show p + 1 ≤ n; omega) (fun S1 a b d1 => ?_)
    rw [et] at d1
    refine ⟨((a.lay hL).1 35 (by decide)).1, m_three (K := fun r10 r15 r20 S21 => hK S21 35 = 11 ∧ ((¬ (hI S21 35 15) = 0 → Q S21) ∧ ((hI S21 35 15) = 0 → ∃ n : Nat, wl_X12_readDummy_72 Q n S21 35 r10 r15 r20 (0 : Int32)))) hL hn hT h10 (show p + 1 ≤ n by omega) a d1 (fun e x y z S2 h a2 b2 => ?_) (fun x y z q S2 h a2 b2 c2 => ?_)⟩
    · exact ⟨((a2.lay hL).1 35 (by decide)).1, fun _ => HE e S2 (Or.inr ⟨by omega, h⟩) a2 b2, fun z => absurd z b2.ne⟩
    · have l2 := a2.lay hL
      have e40 : hI S2 40 = hI S 40 := b2.trans b
      refine ⟨(l2.1 35 (by decide)).1, fun z => absurd c2.1 z, fun _ => m_wr (d := d) l2 (by rw [e40, h40 2 (by decide)]; exact h2) (by omega) ?_⟩
      refine HO _ q _ (by omega) h a2.p40 ?_ ?_
      · intro i hi
        rw [hI_putA_s, e40]
        unfold addD
        rw [h40 i hi]
      · unfold At; rw [hI_putA_ne (by decide)]; exact c2
theorem m_mouth {Q : hp → Prop} {S0 S : hp} {n p m : Nat} {T f : Nat → Int32} (hL : Lay S0) (hn : n ≤ 140) (hT : hI S0 42 = T) (h10 : hI S0 35 10 = nI n) (hf : Rf S0 S) (ha : At S T n p) (hp : p < n ∧ rg (T p) 97 122 = true) (hk : 1 ≤ kb (T p)) (h40 : H40 S f) (h3 : f 3 = nI m) (hm : m ≤ 5) (HE : ∀ e S1, (m = 5 ∧ e = (3, p) ∨ m < 5 ∧ pIn (pNum T n) (pByte T n) (p + 1) 0 99 59 = .error e) → Rf S0 S1 → Bad S1 e → Q S1) (HO : ∀ v q S1, m < 5 → pIn (pNum T n) (pByte T n) (p + 1) 0 99 59 = .ok (v, q) → Rf S0 S1 → H40 S1 (addM f m (kb (T p)) v) → At S1 T n q → Q S1) : wp_X12_readMouth Q S 35 := by
  have hL1 := hf.lay hL
  have et := tok_let (T := T) hp.1 hp.2
  have e3 : hI S 40 (3 : Int32).toNatClampNeg = nI m := by rw [cl3, h40 3 (by decide)]; exact h3
  have eI : kbI (kb (T p)) = nI (kb (T p)) := if_neg (by omega)
  have k5 := kb_le (T p)
  unfold wp_X12_readMouth
  refine ⟨(hL1.1 35 (by decide)).1, e_kindBy.mpr ?_⟩
  rw [ha.2.2.2.1, et]
  refine ⟨(hL1.1 35 (by decide)).1, 40, hL1.2.1 (35, 6, 40) (by decide), (hL1.1 40 (by decide)).1, by rw [(hL1.1 40 (by decide)).2]; exact vi3, ?_⟩
  rw [e3]
  show (¬ nI m = 5 → wB_X12_readMouth_23 Q S 35 (kbI (kb (T p)))) ∧ (nI m = 5 → wp_X12_bad (fun S43 => wB_X12_readMouth_23 Q S43 35 (kbI (kb (T p)))) S 35 3)
  rw [eI]
  generalize kb (T p) = k at hk k5 HO
  by_cases c : m = 5
  · subst c
    refine ⟨fun q => absurd rfl q, fun _ => (e_bad0 hL1 ha.1).mpr ?_⟩
    have hb := ha.fl (x := 3) (by decide)
    have hf1 : Rf S0 (flt S 3) := hf.fl
    have l1 := hf1.lay hL
    have kq := (l1.1 35 (by decide)).1
    unfold wB_X12_readMouth_23
    refine ⟨kq, (e_must1 l1 hb.ne).mpr ⟨kq, (e_num1 l1 hb.ne).mpr ⟨kq, (e_sign1 l1 hb.ne).mpr ⟨kq, fun _ => HE (3, p) _ (Or.inl ⟨rfl, rfl⟩) hf1 hb, fun z => absurd z hb.ne⟩⟩⟩⟩
  · unfold wB_X12_readMouth_23
    refine ⟨fun _ => ⟨(hL1.1 35 (by decide)).1, (e_mustT hL1 ha.1 (by decide)).mpr ?_⟩, fun q => absurd ((nI_eq (a := m) (b := 5) (by omega) (by omega)).mp q) c⟩
    refine m_next hL hn hT h10 hf ha (by rw [et]; show p + 1 ≤ n; omega) (fun S1 a b d1 => ?_)
    rw [et] at d1
    refine ⟨((a.lay hL).1 35 (by decide)).1, ?_⟩
    refine m_num hL hn hT h10 (show p + 1 ≤ n by omega) a d1 (fun e S2 h a2 b2 c2 => ?_) (fun v q S2 h a2 b2 c2 => ?_)
    · have l2 := a2.lay hL
      have kq := (l2.1 35 (by decide)).1
      exact ⟨kq, (e_sign1 l2 c2.ne).mpr ⟨kq, fun _ => HE e S2 (Or.inr ⟨by omega, by simp [pIn, h]⟩) a2 c2, fun z => absurd z c2.ne⟩⟩
    · refine ⟨((a2.lay hL).1 35 (by decide)).1, m_sgn hL hn hT h10 (Or.inr rfl) a2 c2 (fun e S3 h3' a3 b3 c3 => ?_) (fun q2 S3 h3' a3 b3 c3 => ?_)⟩
      · exact ⟨((a3.lay hL).1 35 (by decide)).1, fun _ => HE e S3 (Or.inr ⟨by omega, by simp [pIn, h, h3']⟩) a3 c3, fun z => absurd z c3.ne⟩
      · have l3 := a3.lay hL
        have e40 : hI S3 40 = hI S 40 := b3.trans (b2.trans b)
        refine ⟨(l3.1 35 (by decide)).1, fun z => absurd c3.1 z, fun _ => ?_⟩
        have x41 : (41 : Int32) + (2 : Int32) * nI m = nI (41 + 2 * m) := i2 41 2 m
        have x42 : (41 : Int32) + (2 : Int32) * nI m + (1 : Int32) = nI (42 + 2 * m) := (i3 41 2 m 1).trans (by congr 1; omega)
        have g3 : hI S3 40 3 = nI m := by rw [e40, h40 3 (by decide)]; exact h3
        have x42' : nI (41 + 2 * m) + (1 : Int32) = nI (42 + 2 * m) := by rw [← x41]; exact x42
        simp only [l3.eqs, vi3, cl3, g3, x41, x42', setI_asA, hK_putA, hN_putA, hR_putA, hI_putA_s, putA_putA, nI_1, nI_clamp (show 41 + 2 * m < 2 ^ 31 by omega), nI_clamp (show 42 + 2 * m < 2 ^ 31 by omega), show (3 = 41 + 2 * m) = False from eq_false (by omega), show (3 = 42 + 2 * m) = False from eq_false (by omega), show vp_in (nI (41 + 2 * m)) 147 from vp_in_nI (by omega) (by omega), show vp_in (nI (42 + 2 * m)) 147 from vp_in_nI (by omega) (by omega), ↓reduceIte, Nat.reduceEqDiff, and_false, false_and, true_and, and_true, forall_eq, forall_eq', exists_eq_left, exists_eq_left', Option.some.injEq, eq_self_iff_true, not_true, not_false_iff, false_implies, true_implies, forall_const, reduceCtorEq, ne_eq]
        refine HO v q2 _ (by omega) (by simp [pIn, h, h3']) a3.p40 ?_ ?_
        · intro i hi
          rw [hI_putA_s]
          unfold addM
          rw [e40, h40 i hi]
        · unfold At; rw [hI_putA_ne (by decide)]; exact c3
