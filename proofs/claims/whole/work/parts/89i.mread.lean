/-! street: what the reference reads -/
def Rf (S0 S : hp) : Prop := (hC S = hC S0 ∧ hK S = hK S0 ∧ hN S = hN S0 ∧ hR S = hR S0) ∧ (∀ b, b ≠ 35 → b ≠ 40 → hI S b = hI S0 b) ∧ ∀ i, (i < 11 ∨ 16 < i) → hI S 35 i = hI S0 35 i
theorem Rf.lay {S0 S : hp} (hL : Lay S0) (h : Rf S0 S) : Lay S := hL.of4 h.1.1 h.1.2.1 h.1.2.2.1 h.1.2.2.2
theorem Rf.p35 {S0 S : hp} {g : Nat → Int32} (h : Rf S0 S) (hg : ∀ i, (i < 11 ∨ 16 < i) → g i = hI S 35 i) : Rf S0 (putA S 35 g) :=
  ⟨h.1, fun b h1 h2 => by rw [hI_putA_ne h1]; exact h.2.1 b h1 h2, fun i hi => by rw [hI_putA_s, hg i hi]; exact h.2.2 i hi⟩
theorem Rf.p40 {S0 S : hp} {g : Nat → Int32} (h : Rf S0 S) : Rf S0 (putA S 40 g) :=
  ⟨h.1, fun b h1 h2 => by rw [hI_putA_ne h2]; exact h.2.1 b h1 h2, fun i hi => by rw [hI_putA_ne (by decide)]; exact h.2.2 i hi⟩
theorem Rf.fl {S0 S : hp} {x : Int32} (h : Rf S0 S) : Rf S0 (flt S x) := by
  refine ⟨h.1, fun b h1 h2 => ?_, fun i hi => ?_⟩
  · unfold flt; rw [hI_setI_ne h1, hI_setI_ne h1]; exact h.2.1 b h1 h2
  · unfold flt; rw [hI_setI, if_neg (by omega), hI_setI, if_neg (by omega)]; exact h.2.2 i hi
/-- the reference stands before the token at p -/
def At (S : hp) (T : Nat → Int32) (n p : Nat) : Prop := hI S 35 15 = 0 ∧ hI S 35 12 = nI p ∧ hI S 35 13 = (tok T n p).1 ∧ hI S 35 14 = (tok T n p).2.1 ∧ hI S 35 11 = nI (p + (tok T n p).2.2)
/-- the reference has found a fault -/
def Bad (S : hp) (e : PF) : Prop := hI S 35 15 = e.1 ∧ ¬ e.1 ≤ 0 ∧ hI S 35 16 = nI e.2
theorem Bad.ne {S : hp} {e : PF} (h : Bad S e) : ¬ hI S 35 15 = 0 := by
  rw [h.1]; intro z; exact h.2.1 (by rw [z]; decide)
theorem At.fl {S : hp} {T : Nat → Int32} {n p : Nat} {x : Int32} (h : At S T n p) (hx : ¬ x ≤ 0) : Bad (flt S x) (x, p) := by
  refine ⟨flt_15 S x, hx, ?_⟩
  show hI (flt S x) 35 16 = nI p
  rw [← h.2.1]; unfold flt; rw [hI_setI, if_pos ⟨rfl, rfl⟩]
theorem flt_40 (S : hp) (x : Int32) : hI (flt S x) 40 = hI S 40 := by unfold flt; rw [hI_setI_ne (by decide), hI_setI_ne (by decide)]
theorem m_next {Q : hp → Prop} {S0 S : hp} {n p : Nat} {T : Nat → Int32} (hL : Lay S0) (hn : n ≤ 140) (hT : hI S0 42 = T) (h10 : hI S0 35 10 = nI n) (hf : Rf S0 S) (ha : At S T n p) (hq : p + (tok T n p).2.2 ≤ n) (H : ∀ S1, Rf S0 S1 → hI S1 40 = hI S 40 → At S1 T n (p + (tok T n p).2.2) → Q S1) : wp_X12_nextToken Q S 35 := by
  refine m_tok (T := T) (hf.lay hL) hn hq (by rw [hf.2.1 42 (by decide) (by decide)]; exact hT) (by rw [hf.2.2 10 (by omega)]; exact h10) ha.2.2.2.2 (fun g hg => ?_)
  obtain ⟨g1, g2, g3, g4, g5⟩ := hg
  refine H _ (hf.p35 (fun i hi => g5 i (by omega) (by omega) (by omega) (by omega))) (hI_putA_ne (by decide)) ⟨?_, ?_, ?_, ?_, ?_⟩
  · rw [hI_putA_s, g5 15 (by decide) (by decide) (by decide) (by decide)]; exact ha.1
  · rw [hI_putA_s]; exact g1
  · rw [hI_putA_s]; exact g2
  · rw [hI_putA_s]; exact g3
  · rw [hI_putA_s]; exact g4
theorem figs_pos {T : Nat → Int32} {n p : Nat} : (p < n ∧ isF (T p) = true → 1 ≤ figs T n p) ∧ (¬ (p < n ∧ isF (T p) = true) → figs T n p = 0) := by
  unfold figs
  by_cases c : p < n
  · rw [show n - p = (n - p - 1) + 1 by omega]
    unfold nf
    by_cases c2 : isF (T p) = true
    · rw [if_pos c2]; exact ⟨fun _ => by omega, fun q => absurd ⟨c, c2⟩ q⟩
    · rw [if_neg c2]; exact ⟨fun q => absurd q.2 c2, fun _ => rfl⟩
  · rw [show n - p = 0 by omega]; exact ⟨fun q => absurd q.1 c, fun _ => rfl⟩
theorem isF_let {x : Int32} (h : isF x = true) : rg x 97 122 = false := by
  have := rg_t.mp (show rg x 48 57 = true from h)
  exact rg_f.mpr (by omega)
theorem tok_end {T : Nat → Int32} {n p : Nat} (h : n ≤ p) : tok T n p = (1, -1000000, 0) := by unfold tok; rw [if_pos h]
theorem tok_let {T : Nat → Int32} {n p : Nat} (h : p < n) (h2 : rg (T p) 97 122 = true) : tok T n p = (2, T p, 1) := by unfold tok; rw [if_neg (by omega), if_pos h2]
theorem tok_num {T : Nat → Int32} {n p : Nat} (h : figs T n p = 1 ∨ figs T n p = 2) : tok T n p = (3, fval T p (figs T n p), figs T n p) := by
  have c : p < n ∧ isF (T p) = true := by
    by_cases c : p < n ∧ isF (T p) = true
    · exact c
    · have := figs_pos.2 c; omega
  unfold tok
  rw [if_neg (by omega), if_neg (by rw [isF_let c.2]; decide), if_pos c.2, if_pos (by omega)]
theorem tok_sgn {T : Nat → Int32} {n p : Nat} (h : p < n) (h2 : T p = 44 ∨ T p = 59) : tok T n p = (4, T p, 1) := by
  unfold tok
  rcases h2 with h2 | h2
  · rw [if_neg (by omega), h2, if_neg (by decide), if_neg (by decide), if_pos (Or.inl rfl)]
  · rw [if_neg (by omega), h2, if_neg (by decide), if_neg (by decide), if_pos (Or.inr rfl)]
/-- which kind a token is -/
theorem tok_k {T : Nat → Int32} {n p : Nat} : ((tok T n p).1 = 3 → figs T n p = 1 ∨ figs T n p = 2) ∧ ((tok T n p).1 = 4 → p < n ∧ (tok T n p).2.1 = T p) ∧ ((tok T n p).1 = 2 → p < n ∧ rg (T p) 97 122 = true ∧ (tok T n p).2.1 = T p) ∧ ((tok T n p).1 = 1 → n ≤ p) := by
  by_cases c : n ≤ p
  · rw [tok_end c]; dsimp only; exact ⟨fun q => absurd q (by decide), fun q => absurd q (by decide), fun q => absurd q (by decide), fun _ => c⟩
  have c' : p < n := by omega
  by_cases c2 : rg (T p) 97 122 = true
  · rw [tok_let c' c2]; dsimp only; exact ⟨fun q => absurd q (by decide), fun q => absurd q (by decide), fun _ => ⟨c', c2, rfl⟩, fun q => absurd q (by decide)⟩
  by_cases c3 : isF (T p) = true
  · have f1 := (figs_pos (T := T) (n := n) (p := p)).1 ⟨c', c3⟩
    have e : tok T n p = (if figs T n p ≤ 2 then 3 else 0, fval T p (figs T n p), figs T n p) := by unfold tok; rw [if_neg c, if_neg c2, if_pos c3]
    rw [e]
    by_cases c4 : figs T n p ≤ 2
    · rw [if_pos c4]; dsimp only; exact ⟨fun _ => by omega, fun q => absurd q (by decide), fun q => absurd q (by decide), fun q => absurd q (by decide)⟩
    · rw [if_neg c4]; dsimp only; exact ⟨fun q => absurd q (by decide), fun q => absurd q (by decide), fun q => absurd q (by decide), fun q => absurd q (by decide)⟩
  by_cases c4 : T p = 44 ∨ T p = 59
  · rw [tok_sgn c' c4]; dsimp only; exact ⟨fun q => absurd q (by decide), fun _ => ⟨c', rfl⟩, fun q => absurd q (by decide), fun q => absurd q (by decide)⟩
  · have e : tok T n p = (0, T p, 1) := by unfold tok; rw [if_neg c, if_neg c2, if_neg c3, if_neg c4]
    rw [e]; dsimp only; exact ⟨fun q => absurd q (by decide), fun q => absurd q (by decide), fun q => absurd q (by decide), fun q => absurd q (by decide)⟩
theorem m_num {Q : Int32 → hp → Prop} {S0 S : hp} {n p : Nat} {lo hi : Int32} {T : Nat → Int32} (hL : Lay S0) (hn : n ≤ 140) (hT : hI S0 42 = T) (h10 : hI S0 35 10 = nI n) (hp : p ≤ n) (hf : Rf S0 S) (ha : At S T n p) (HE : ∀ e S1, pNum T n p lo hi = .error e → Rf S0 S1 → hI S1 40 = hI S 40 → Bad S1 e → Q lo S1) (HO : ∀ v q S1, pNum T n p lo hi = .ok (v, q) → Rf S0 S1 → hI S1 40 = hI S 40 → At S1 T n q → Q v S1) : wp_X12_number Q S 35 lo hi := by
  refine (e_num0 (hf.lay hL) ha.1).mpr ?_
  rw [ha.2.2.1, ha.2.2.2.1]
  have l := figs_le T n p
  by_cases c : figs T n p = 1 ∨ figs T n p = 2
  · have et := tok_num c
    by_cases c2 : rg (fval T p (figs T n p)) lo.toInt hi.toInt = true
    · rw [if_pos (by rw [et]), if_pos (by rw [et]; exact c2)]
      refine m_next hL hn hT h10 hf ha (by rw [et]; show p + figs T n p ≤ n; omega) (fun S1 a b d => ?_)
      rw [et] at d ⊢
      exact HO _ _ S1 (by unfold pNum; rw [if_pos c, if_pos c2]) a b d
    · rw [if_pos (by rw [et]), if_neg (by rw [et]; exact c2)]
      exact HE (2, p) _ (by unfold pNum; rw [if_pos c, if_neg c2]) hf.fl (flt_40 S 2) (ha.fl (by decide))
  · rw [if_neg (fun q => c (tok_k.1 q))]
    exact HE (1, p) _ (by unfold pNum; rw [if_neg c]) hf.fl (flt_40 S 1) (ha.fl (by decide))
theorem m_sgn {Q : hp → Prop} {S0 S : hp} {n p : Nat} {x : Int32} {T : Nat → Int32} (hL : Lay S0) (hn : n ≤ 140) (hT : hI S0 42 = T) (h10 : hI S0 35 10 = nI n) (hx : x = 44 ∨ x = 59) (hf : Rf S0 S) (ha : At S T n p) (HE : ∀ e S1, pByte T n p x = .error e → Rf S0 S1 → hI S1 40 = hI S 40 → Bad S1 e → Q S1) (HO : ∀ q S1, pByte T n p x = .ok q → Rf S0 S1 → hI S1 40 = hI S 40 → At S1 T n q → Q S1) : wp_X12_mustSign Q S 35 x := by
  refine (e_sign0 (hf.lay hL) ha.1).mpr ?_
  rw [ha.2.2.1, ha.2.2.2.1]
  by_cases c : p < n ∧ T p = x
  · have et := tok_sgn (T := T) c.1 (by rw [c.2]; exact hx)
    rw [if_pos (by rw [et]; exact ⟨rfl, c.2⟩)]
    refine m_next hL hn hT h10 hf ha (by rw [et]; show p + 1 ≤ n; omega) (fun S1 a b d => ?_)
    rw [et] at d
    exact HO _ S1 (by unfold pByte; rw [if_pos c]) a b d
  · rw [if_neg (fun q => by
      obtain ⟨q1, q2⟩ := q
      have := tok_k.2.1 q1
      exact c ⟨this.1, this.2.symm.trans q2⟩)]
    exact HE (1, p) _ (by unfold pByte; rw [if_neg c]) hf.fl (flt_40 S 1) (ha.fl (by decide))
theorem m_in {Q : Int32 → hp → Prop} {S0 S : hp} {n p : Nat} {lo hi x : Int32} {T : Nat → Int32} (hL : Lay S0) (hn : n ≤ 140) (hT : hI S0 42 = T) (h10 : hI S0 35 10 = nI n) (hp : p ≤ n) (hx : x = 44 ∨ x = 59) (hf : Rf S0 S) (ha : At S T n p) (HE : ∀ e r S1, pIn (pNum T n) (pByte T n) p lo hi x = .error e → Rf S0 S1 → hI S1 40 = hI S 40 → Bad S1 e → Q r S1) (HO : ∀ v q S1, pIn (pNum T n) (pByte T n) p lo hi x = .ok (v, q) → Rf S0 S1 → hI S1 40 = hI S 40 → At S1 T n q → Q v S1) : wp_X12_number (fun r S8 => hK S8 35 = 11 ∧ wp_X12_mustSign (fun S11 => Q r S11) S8 35 x) S 35 lo hi := by
  refine m_num hL hn hT h10 hp hf ha (fun e S1 h a b c => ?_) (fun v q S1 h a b c => ?_)
  · refine ⟨((a.lay hL).1 35 (by decide)).1, (e_sign1 (a.lay hL) c.ne).mpr ?_⟩
    exact HE e _ S1 (by simp [pIn, h]) a b c
  · refine ⟨((a.lay hL).1 35 (by decide)).1, ?_⟩
    refine m_sgn hL hn hT h10 hx a c (fun e S2 h2 a2 b2 c2 => ?_) (fun q2 S2 h2 a2 b2 c2 => ?_)
    · exact HE e _ S2 (by simp [pIn, h, h2]) a2 (b2.trans b) c2
    · exact HO v q2 S2 (by simp [pIn, h, h2]) a2 (b2.trans b) c2
theorem m_in1 {Q : Int32 → hp → Prop} {S : hp} {lo hi x : Int32} (hL : Lay S) (h : ¬ hI S 35 15 = 0) (H : Q lo S) : wp_X12_number (fun r S8 => hK S8 35 = 11 ∧ wp_X12_mustSign (fun S11 => Q r S11) S8 35 x) S 35 lo hi :=
  (e_num1 hL h).mpr ⟨(hL.1 35 (by decide)).1, (e_sign1 hL h).mpr H⟩
