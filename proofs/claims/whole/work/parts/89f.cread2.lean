theorem fltC_as (S : hp) (x : Int32) : fltC S x = putA S 14 (fun i => if i = 3 then hI S 14 4 else if i = 2 then x else hI S 14 i) := by
  unfold fltC; rw [setI_asA S 14 2, setI_putA]
theorem Lay.mou {S : hp} {r : Nat} (hL : Lay S) (h : isM (hK S r)) : 50 ≤ r := by
  by_cases c : r < 50
  · rw [(hL.1 r c).1] at h
    have : ∀ b, b < 50 → ¬ isM (kk b) := by unfold isM; decide
    exact absurd h (this r c)
  · omega
/-- what the class's reading leaves as it was -/
def Cf (n : Nat) (S0 S : hp) : Prop := Fr (fun b => b = 14 ∨ (22 ≤ b ∧ b ≤ 27)) S0 S ∧ (hR S 14 = hR S0 14 ∧ hR S 22 = hR S0 22) ∧ SL S 22 ∧ hI S 14 1 = nI n
def CI (n : Nat) (S0 S : hp) (p : Nat) (f : Nat → Int32) : Prop := Cf n S0 S ∧ hI S 14 4 = nI p ∧ RSt S 22 f ∧ nl f = 0 ∧ f 0 = 1
theorem Cf.lay {n : Nat} {S0 S : hp} (hL : Lay S0) (h : Cf n S0 S) : Lay S := by
  refine hL.fr2 h.1 (fun b hb => ?_)
  by_cases e : b = 14
  · rw [e]; exact h.2.1.1
  by_cases e2 : b = 22
  · rw [e2]; exact h.2.1.2
  unfold isO at hb
  exact (h.1.2.2 b (by have := hL.2.2; omega) (by omega)).2
theorem Cf.t15 {n : Nat} {S0 S : hp} (hL : Lay S0) (h : Cf n S0 S) : hI S 15 = hI S0 15 := (h.1.2.2 15 (by have := hL.2.2; omega) (by omega)).1
theorem Fr.tr' {P : Nat → Prop} {S S1 S2 : hp} (h : Fr P S S1) (h2 : Fr P S1 S2) : Fr P S S2 := (h.tr h2).mono (fun _ q => q.elim id id)
theorem Cf.p14 {n : Nat} {S0 S : hp} {g : Nat → Int32} (h : Cf n S0 S) (hg : g 1 = nI n) : Cf n S0 (putA S 14 g) :=
  ⟨h.1.putA (Or.inl rfl), h.2.1, h.2.2.1, by rw [hI_putA_s]; exact hg⟩
theorem Cf.cd {n : Nat} {S0 S S2 : hp} {d j : Nat} {w : Nat → Int32} (h : Cf n S0 S) (hc : Cd S S2 d j w) (h1 : hI S2 14 1 = nI n) : Cf n S0 S2 := by
  obtain ⟨⟨c1, c2, c3, c4⟩, o, -⟩ := hc
  refine ⟨h.1.tr' ⟨by rw [c1]; exact Nat.le_refl _, fun b _ => by rw [c2, c3]; exact ⟨rfl, rfl⟩, fun b _ hb => ⟨o b (by omega) (by omega) (by omega) (by omega), by rw [c4]⟩⟩, by rw [c4]; exact h.2.1, h.2.2.1.of4 c1 c2 c3 c4, h1⟩
theorem Cf.s22 {n k : Nat} {S0 S : hp} {v : Int32} (h : Cf n S0 S) : Cf n S0 (setI S 22 k v) :=
  ⟨h.1.setI (Or.inr (by omega)), h.2.1, h.2.2.1, by rw [hI_setI_ne (by decide)]; exact h.2.2.2⟩
theorem RSt.p14 {S : hp} {f g : Nat → Int32} (hL : Lay S) (h : RSt S 22 f) : RSt (putA S 14 g) 22 f :=
  h.fr (P := fun b => b = 14) (Fr.rfl'.putA rfl) (Off.low16 hL (fun b hb => by omega))
theorem RSt.dum {S S2 : hp} {f w : Nat → Int32} {d : Nat} (hL : Lay S) (h : RSt S 22 f) (h0 : f 0 = 1) (hl : nl f = 0) (hd : d < 4) (hdd : nd f = d) (hc : Cd S S2 d 3 w) (hw : ∀ i, rg (w i) 0 99 = true) : RSt (setI S2 22 7 (nI (d + 1))) 22 (addD f d w) := by
  obtain ⟨hS, hW, ⟨f5, f6, f7, f8, f9⟩, hA, hM, hG⟩ := h
  obtain ⟨⟨c1, c2, c3, c4⟩, o, ar⟩ := hc
  obtain ⟨e1, e2, e3, e4⟩ := addD_n (f := f) (w := w) hd
  have o22 : hI S2 22 = hI S 22 := o 22 (by decide) (by decide) (by decide) (by decide)
  have sl : SL (setI S2 22 7 (nI (d + 1))) 22 := hS.of4 (S1 := setI S2 22 7 (nI (d + 1))) c1 c2 c3 c4
  have wf := WF_addD (w := w) hW h0 hl hd hw
  refine ⟨sl, wf, ⟨?_, ?_, ?_, ?_, ?_⟩, fun k hk => ?_, fun j hj => ?_, fun k hk => ?_⟩
  · rw [hI_setI, if_neg (by decide), o22, addD_lo (by decide) (by decide)]; exact f5
  · rw [hI_setI, if_neg (by decide), o22, addD_lo (by decide) (by decide)]; exact f6
  · rw [hI_setI, if_pos (by decide)]; rfl
  · rw [hI_setI, if_neg (by decide), o22, addD_lo (by decide) (by decide)]; exact f8
  · rw [hI_setI, if_neg (by decide), o22, addD_lo (by decide) (by decide)]; exact f9
  · rw [e1] at hk
    rw [hI_setI_ne (by decide), hI_setI_ne (by decide), hI_setI_ne (by decide), addD_5 (by omega), addD_17 hd (by omega), addD_29 hd (by omega)]
    have a1 := ar 23 (by omega) (by omega)
    have a2 := ar 24 (by omega) (by omega)
    have a3 := ar 25 (by omega) (by omega)
    by_cases c : 3 * d ≤ k ∧ k < 3 * d + 3
    · rw [if_pos c, if_pos c, if_pos c]
      have ek : k = 3 * d + (k - 3 * d) := by omega
      refine ⟨?_, ?_, ?_⟩
      · show hI S2 23 k = _; conv => lhs; rw [ek]
        exact a1.2 _ (by omega)
      · show hI S2 24 k = _; conv => lhs; rw [ek]
        exact a2.2 _ (by omega)
      · show hI S2 25 k = _; conv => lhs; rw [ek]
        exact a3.2 _ (by omega)
    · rw [if_neg c, if_neg c, if_neg c]
      have := hA k (by omega)
      exact ⟨(a1.1 k (by omega)).trans this.1, (a2.1 k (by omega)).trans this.2.1, (a3.1 k (by omega)).trans this.2.2⟩
  · rw [e2] at hj
    obtain ⟨r, h1, h2, h3, h4, h5⟩ := hM j hj
    have r50 := hL.mou (r := r) (by rw [h3]; exact mkd_isM _)
    have ro : hI (setI S2 22 7 (nI (d + 1))) r = hI S r := by rw [hI_setI_ne (by omega)]; exact o r (by omega) (by omega) (by omega) (by omega)
    refine ⟨r, ?_, ?_, ?_, ?_, ?_⟩
    · rw [hR_setI, c4]; exact h1
    · rw [hC_setI, c1]; exact h2
    · rw [hK_setI, c2, e4]; exact h3
    · rw [ro]; exact h4
    · rw [ro, addD_hi hd (by omega)]; exact h5
  · rw [e3, hl] at hk; exact absurd hk (Nat.not_lt_zero _)
theorem c_dum {Q : Int32 → hp → Prop} {S0 : hp} {n : Nat} {T : Nat → Int32} {R : Except PF (Nat × (Nat → Int32))} (hL : Lay S0) (hn : n ≤ 140) (hT : hI S0 15 = T) (HE : ∀ e S2, R = .error e → Cf n S0 S2 → hI S2 14 2 = e.1 → hI S2 14 3 = nI e.2 → Q 0 S2) (HO : ∀ q f S2, R = .ok (q, f) → q ≤ n → CI n S0 S2 q f → nm f = 0 → Q 1 S2) : ∀ t d p f S, d + t = 4 → p ≤ n → CI n S0 S p f → nd f = d → nm f = 0 → pD (pNum T n) (pByte T n) t p f = R → wl_X9_readDummies_2 Q (t + 1) S 14 22 (nI d) := by
  intro t
  induction t with
  | zero =>
    intro d p f S hd hp hc hnd hnm hR
    obtain ⟨hf, h4, hr, hl, h0⟩ := hc
    have hL1 := hf.lay hL
    have t15 : hI S 15 = T := (hf.t15 hL).trans hT
    have : d = 4 := by omega
    subst this
    unfold wl_X9_readDummies_2 wB_X9_readDummies_2
    refine ⟨fun q => absurd q (by decide), fun _ => ⟨(hL1.1 14 (by decide)).1, (e_comes hL1 hn hf.2.2.2 h4 hp).mpr ?_⟩⟩
    rw [t15]
    by_cases c : p < n ∧ T p = 100
    · have cc : (decide (p < n) && decide (T p = 100)) = true := by simp [c]
      rw [cc]
      refine ⟨fun z => absurd z (by decide), fun _ => ⟨fun z => absurd rfl z, fun _ => ⟨(hL1.1 14 (by decide)).1, (e_fault hL1).mpr ⟨Or.inl rfl, ?_⟩⟩⟩⟩
      rw [fltC_as]
      refine HE (3, p) _ ?_ (hf.p14 ?_) ?_ ?_
      · rw [← hR]; simp [pD, pByte, c]
      · simpa using hf.2.2.2
      · rw [hI_putA_s]; simp
      · rw [hI_putA_s]; simpa using h4
    · have cc : (decide (p < n) && decide (T p = 100)) = false := by
        cases e : (decide (p < n) && decide (T p = 100)) with
        | false => rfl
        | true => exact absurd (by simpa using e) c
      rw [cc]
      refine ⟨fun _ => HO p f S ?_ hp ⟨hf, h4, hr, hl, h0⟩ hnm, fun z => absurd rfl z⟩
      rw [← hR]; simp [pD, pByte, c]
  | succ t ih =>
    intro d p f S hd hp hc hnd hnm hR
    obtain ⟨hf, h4, hr, hl, h0⟩ := hc
    have hL1 := hf.lay hL
    have t15 : hI S 15 = T := (hf.t15 hL).trans hT
    have q1 : ¬ (4 : Int32) < nI d := by rw [t_lt, nI_toInt (by omega)]; show ¬ (4 : Int) < _; omega
    have q2 : ¬ nI d = (4 : Int32) := fun z => by have := (nI_eq (a := d) (b := 4) (by omega) (by omega)).mp z; omega
    unfold wl_X9_readDummies_2 wB_X9_readDummies_2
    refine ⟨fun q => absurd q q1, fun _ => ⟨(hL1.1 14 (by decide)).1, (e_comes hL1 hn hf.2.2.2 h4 hp).mpr ?_⟩⟩
    rw [t15]
    by_cases c : p < n ∧ T p = 100
    · have cc : (decide (p < n) && decide (T p = 100)) = true := by simp [c]
      have eB : pByte T n p 100 = .ok (p + 1) := by unfold pByte; rw [if_pos c]
      rw [cc]
      refine ⟨fun z => absurd z (by decide), fun _ => ⟨fun _ => ⟨(hL1.1 14 (by decide)).1, ?_⟩, fun z => absurd z q2⟩⟩
      intro S8 e8
      rw [h4, nI_1, setI_asA] at e8
      generalize hg : (fun i => if i = 4 then nI (p + 1) else hI S 14 i) = g at e8
      have g1 : g 1 = nI n := by rw [← hg]; simpa using hf.2.2.2
      have g4 : g 4 = nI (p + 1) := by rw [← hg]; simp
      have hf8 : Cf n S0 S8 := by rw [e8]; exact hf.p14 g1
      have hL8 := hf8.lay hL
      have hr8 : RSt S8 22 f := by rw [e8]; exact hr.p14 hL1
      refine c_readInches (n := n) (p := p + 1) (T := T) (d := d) hL8 hn hf8.2.2.2 (by rw [e8, hI_putA_s]; exact g4) (by omega) ((hf8.t15 hL).trans hT) (by omega) ?_ ?_
      · intro e S2 j w h a b c d
        refine ⟨fun z => absurd rfl z, fun _ => HE e S2 ?_ (hf8.cd a b) c d⟩
        rw [← hR]; simp [pD, eB, h]
      · intro w q S2 h a b c
        have hf2 := hf8.cd a b
        refine ⟨fun _ => ⟨((hf2.lay hL).1 22 (by decide)).1, ?_⟩, fun z => absurd z (by decide)⟩
        intro S14 e14 v16 e16
        rw [nI_1] at e14 e16
        rw [e16]
        obtain ⟨w1, w2⟩ := pThree_v h
        refine ih (d + 1) q (addD f d w) S14 (by omega) w2 ⟨by rw [e14]; exact hf2.s22, ?_, ?_, ?_, ?_⟩ ?_ ?_ ?_
        · rw [e14, hI_setI_ne (by decide)]; exact c
        · rw [e14]; exact hr8.dum hL8 h0 hl (by omega) hnd a w1
        · rw [(addD_n (by omega)).2.2.1]; exact hl
        · rw [addD_lo (by decide) (by decide)]; exact h0
        · exact (addD_n (by omega)).1
        · rw [(addD_n (by omega)).2.1]; exact hnm
        · rw [← hR]; simp [pD, eB, h, show 3 - t = d by omega]
    · have cc : (decide (p < n) && decide (T p = 100)) = false := by
        cases e : (decide (p < n) && decide (T p = 100)) with
        | false => rfl
        | true => exact absurd (by simpa using e) c
      rw [cc]
      refine ⟨fun _ => HO p f S ?_ hp ⟨hf, h4, hr, hl, h0⟩ hnm, fun z => absurd rfl z⟩
      rw [← hR]; simp [pD, pByte, c]
