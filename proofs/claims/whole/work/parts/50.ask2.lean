def OKc (S : hp) (r n k : Nat) (V B T : Int32) : Prop := Lay S ∧ hI S 31 1 = nI n ∧ hK S r = k ∧ (r ≠ 31 ∧ r ≠ 32) ∧ hI S r 0 = V ∧ hI S r 1 = B ∧ hI S 31 2 = T
theorem OKc.nx {S : hp} {r n k : Nat} {V B T b : Int32} (h : OKc S r n k V B T) : OKc (bg S n b) r (n + 1) k V B T := by
  obtain ⟨h1, h2, h3, h4, h5, h6, h7⟩ := h
  refine ⟨by rw [Lay_bg]; exact h1, by rw [hI_bg, if_pos (by decide)], by rw [hK_bg]; exact h3, h4, ?_, ?_, ?_⟩
  · rw [hI_bg, if_neg (fun q => h4.1 q.1), if_neg (fun q => h4.2 q.1)]; exact h5
  · rw [hI_bg, if_neg (fun q => h4.1 q.1), if_neg (fun q => h4.2 q.1)]; exact h6
  · rw [hI_bg, if_neg (by decide), if_neg (fun q => absurd q.1 (by decide))]; exact h7
theorem OKc.beg {Q : hp → Prop} {S : hp} {r n k : Nat} {V B T b : Int32} (h : OKc S r n k V B T) (hn : n < 16) (hQ : OKc (bg S n b) r (n + 1) k V B T → Q (bg S n b)) : hK S 31 = 0 ∧ wp_X0_begin Q S 31 b := ⟨h.1.eqs.2.2.2.2.2.2.2.2.2.2.2.2.2.2.2.2.2.2.2.2.2.2.2.2.2.2.2.2.2.2.2.1, (e_begin h.1 n h.2.1 hn).mpr (hQ h.nx)⟩
theorem c_X4_mark {Q : Int32 → hp → Prop} {S : hp} {r n k : Nat} {V B T : Int32} (h : OKc S r n k V B T) (hn : n < 16) (hm : isM k) (hQ : OKc (bg S n 20) r (n + 1) k V B T → Q V (bg S n 20)) : wp_X4_mark Q S r 31 :=
  h.beg hn (fun g => ⟨by rw [g.2.2.1]; exact hm, by rw [g.2.2.2.2.1]; exact hQ g⟩)
theorem c_X4_size {Q : Int32 → hp → Prop} {S : hp} {r n k : Nat} {V B T : Int32} (h : OKc S r n k V B T) (hn : n < 16) (hm : isM k) (hQ : OKc (bg S n 10) r (n + 1) k V B T → Q B (bg S n 10)) : wp_X4_size Q S r 31 :=
  h.beg hn (fun g => ⟨by rw [g.2.2.1]; exact hm, by rw [g.2.2.2.2.2.1]; exact hQ g⟩)
theorem c_X10_mark {Q : Int32 → hp → Prop} {S : hp} {r n k : Nat} {V B T : Int32} (h : OKc S r n k V B T) (hn : n < 15) (hm : isM k) (hQ : OKc (bg (bg S n 21) (n + 1) 20) r (n + 2) k V B T → Q (V + T) (bg (bg S n 21) (n + 1) 20)) : wp_X10_mark Q S r 31 :=
  h.beg (by omega) (fun g => ⟨by rw [g.2.2.1]; unfold isM at hm; omega, c_X4_mark g (by omega) hm (fun g2 => ⟨g2.1.eqs.2.2.2.2.2.2.2.2.2.2.2.2.2.2.2.2.2.2.2.2.2.2.2.2.2.2.2.2.2.2.2.1, by rw [g2.2.2.2.2.2.2]; exact hQ g2⟩)⟩)
theorem c_X1_mark {Q : Int32 → hp → Prop} {S : hp} {r n k : Nat} {V B T : Int32} (h : OKc S r n k V B T) (hn : n < 14) (hm : isM k) (hQ : OKc (bg (bg (bg S n 24) (n + 1) 21) (n + 2) 20) r (n + 3) k V B T → Q (2 * (V + T)) (bg (bg (bg S n 24) (n + 1) 21) (n + 2) 20)) : wp_X1_mark Q S r 31 :=
  h.beg (by omega) (fun g => ⟨by rw [g.2.2.1]; unfold isM at hm; omega, c_X10_mark g (by omega) hm hQ⟩)
theorem c_X5_mark {Q : Int32 → hp → Prop} {S : hp} {r n k : Nat} {V B T : Int32} (h : OKc S r n k V B T) (hn : n < 14) (hm : isM k) (hQ : OKc (bg (bg (bg S n 22) (n + 1) 21) (n + 2) 20) r (n + 3) k V B T → Q (V + T - 1000) (bg (bg (bg S n 22) (n + 1) 21) (n + 2) 20)) : wp_X5_mark Q S r 31 :=
  h.beg (by omega) (fun g => ⟨by rw [g.2.2.1]; unfold isM at hm; omega, c_X10_mark g (by omega) hm hQ⟩)
theorem c_X3_size {Q : Int32 → hp → Prop} {S : hp} {r n k : Nat} {V B T : Int32} (h : OKc S r n k V B T) (hn : n < 15) (hm : isM k) (hQ : OKc (bg (bg S n 13) (n + 1) 10) r (n + 2) k V B T → Q (B - 100) (bg (bg S n 13) (n + 1) 10)) : wp_X3_size Q S r 31 :=
  h.beg (by omega) (fun g => ⟨by rw [g.2.2.1]; unfold isM at hm; omega, c_X4_size g (by omega) hm hQ⟩)
theorem c_X7_size {Q : Int32 → hp → Prop} {S : hp} {r n k : Nat} {V B T : Int32} (h : OKc S r n k V B T) (hn : n < 14) (hm : isM k) (hQ : OKc (bg (bg (bg S n 14) (n + 1) 13) (n + 2) 10) r (n + 3) k V B T → Q (2 * (B - 100)) (bg (bg (bg S n 14) (n + 1) 13) (n + 2) 10)) : wp_X7_size Q S r 31 :=
  h.beg (by omega) (fun g => ⟨by rw [g.2.2.1]; unfold isM at hm; omega, c_X3_size g (by omega) hm hQ⟩)
/-- what an ask leaves, and what it answers: by the kind -/
def mtr (k : Nat) : List Int32 := match k with
  | 1 => [21, 20]
  | 2 => [24, 21, 20]
  | 3 => [22, 21, 20]
  | 4 => [23, 20, 13, 10]
  | _ => [23, 20, 14, 13, 10]
def str (k : Nat) : List Int32 := match k with
  | 1 => [11, 10, 21, 20]
  | 2 => [12, 11, 10, 24, 21, 20]
  | 3 => [11, 10, 22, 21, 20]
  | 4 => [13, 10]
  | _ => [14, 13, 10]
def mval (k : Nat) (V B T : Int32) : Int32 := match k with
  | 1 => V + T
  | 2 => 2 * (V + T)
  | 3 => V + T - 1000
  | 4 => V - (B - 100)
  | _ => V - 2 * (B - 100)
def sval (k : Nat) (V B T : Int32) : Int32 := match k with
  | 1 => B + (V + T)
  | 2 => -(B + 2 * (V + T))
  | 3 => B + (V + T - 1000)
  | 4 => B - 100
  | _ => 2 * (B - 100)
def bgs (S : hp) (n : Nat) : List Int32 → hp
  | [] => S
  | b :: bs => bgs (bg S n b) (n + 1) bs
def bms (S : hp) (n : Nat) : List Int32 → hp
  | [] => S
  | b :: bs => bms (bgM S n b) (n + 1) bs
theorem c_mark {Q : Int32 → hp → Prop} {S : hp} {r c : Nat} {V B T : Int32} (h1 : 1 ≤ c) (h5 : c ≤ 5) (h : OKc S r 0 (mkd c) V B T) (hQ : Q (mval c V B T) (bgs S 0 (mtr c))) : wd_Mouth_mark Q S r 31 := by
  have hk := h.2.2.1
  have hm := mkd_isM c
  rcases five h1 h5 with rfl | rfl | rfl | rfl | rfl
  · exact Or.inr (Or.inr (Or.inr (Or.inr ⟨hk, c_X10_mark h (by omega) hm (fun _ => hQ)⟩)))
  · exact Or.inl ⟨hk, c_X1_mark h (by omega) hm (fun _ => hQ)⟩
  · exact Or.inr (Or.inr (Or.inl ⟨hk, c_X5_mark h (by omega) hm (fun _ => hQ)⟩))
  · refine Or.inr (Or.inl ⟨hk, h.beg (by omega) (fun g => ⟨by rw [g.2.2.1]; decide, c_X4_mark g (by omega) hm (fun g2 => Or.inl ⟨g2.2.2.1, c_X3_size g2 (by omega) hm (fun _ => hQ)⟩)⟩)⟩)
  · refine Or.inr (Or.inr (Or.inr (Or.inl ⟨hk, h.beg (by omega) (fun g => ⟨by rw [g.2.2.1]; decide, c_X4_mark g (by omega) hm (fun g2 => Or.inr ⟨g2.2.2.1, c_X7_size g2 (by omega) hm (fun _ => hQ)⟩)⟩)⟩)))
theorem c_size {Q : Int32 → hp → Prop} {S : hp} {r c : Nat} {V B T : Int32} (h1 : 1 ≤ c) (h5 : c ≤ 5) (h : OKc S r 0 (mkd c) V B T) (hQ : Q (sval c V B T) (bgs S 0 (str c))) : wd_Mouth_size Q S r 31 := by
  have hk := h.2.2.1
  have hm := mkd_isM c
  rcases five h1 h5 with rfl | rfl | rfl | rfl | rfl
  · exact Or.inr (Or.inr (Or.inr (Or.inr ⟨hk, h.beg (by omega) (fun g => ⟨by rw [g.2.2.1]; decide, c_X4_size g (by omega) hm (fun g2 => Or.inr (Or.inr ⟨g2.2.2.1, c_X10_mark g2 (by omega) hm (fun _ => hQ)⟩))⟩)⟩)))
  · exact Or.inl ⟨hk, h.beg (by omega) (fun g0 => ⟨by rw [g0.2.2.1]; decide, g0.beg (by omega) (fun g => ⟨by rw [g.2.2.1]; decide, c_X4_size g (by omega) hm (fun g2 => Or.inl ⟨g2.2.2.1, c_X1_mark g2 (by omega) hm (fun _ => hQ)⟩)⟩)⟩)⟩
  · exact Or.inr (Or.inr (Or.inl ⟨hk, h.beg (by omega) (fun g => ⟨by rw [g.2.2.1]; decide, c_X4_size g (by omega) hm (fun g2 => Or.inr (Or.inl ⟨g2.2.2.1, c_X5_mark g2 (by omega) hm (fun _ => hQ)⟩))⟩)⟩))
  · exact Or.inr (Or.inl ⟨hk, c_X3_size h (by omega) hm (fun _ => hQ)⟩)
  · exact Or.inr (Or.inr (Or.inr (Or.inl ⟨hk, c_X7_size h (by omega) hm (fun _ => hQ)⟩)))
def OKm (S : hp) (j n k l : Nat) (B T : Int32) : Prop := Lay S ∧ hI S 35 25 = nI n ∧ j < 5 ∧ hI S 39 4 = nI l ∧ l ≤ 16 ∧ ct (tell_by S j) l = T ∧ hI S 39 (41 + 2 * j) = nI k ∧ hI S 39 (42 + 2 * j) = B
theorem OKm.nx {S : hp} {j n k l : Nat} {B T b : Int32} (h : OKm S j n k l B T) : OKm (bgM S n b) j (n + 1) k l B T := by
  obtain ⟨h1, h2, h3, h4, h5, h6, h7, h8⟩ := h
  have e : ∀ q, hI (bgM S n b) 39 q = hI S 39 q := fun q => by rw [hI_bgM, if_neg (fun q => by omega), if_neg (fun q => by omega)]
  refine ⟨by rw [Lay_bgM]; exact h1, by rw [hI_bgM, if_pos (by decide)], h3, by rw [e]; exact h4, h5, ?_, by rw [e]; exact h7, by rw [e]; exact h8⟩
  rw [← h6]
  refine ct_congr (fun i _ => ?_)
  unfold tell_by
  rw [e, e]
theorem OKm.beg {Q : hp → Prop} {S : hp} {j n k l : Nat} {B T b : Int32} (h : OKm S j n k l B T) (hn : n < 16) (hQ : OKm (bgM S n b) j (n + 1) k l B T → Q (bgM S n b)) : hK S 35 = 11 ∧ wp_X12_began Q S 35 b := ⟨(h.1.1 35 (by decide)).1, (e_began h.1 n h.2.1 hn).mpr (hQ h.nx)⟩
theorem OKm.k {S : hp} {j n k l : Nat} {B T : Int32} (h : OKm S j n k l B T) : hK S 35 = 11 := (h.1.1 35 (by decide)).1
theorem m_plain {Q : Int32 → hp → Prop} {S : hp} {j n k l : Nat} {B T : Int32} (h : OKm S j n k l B T) (hn : n < 16) (hQ : OKm (bgM S n 10) j (n + 1) k l B T → Q B (bgM S n 10)) : wp_X12_plainSize Q S 35 (nI j) :=
  h.beg hn (fun g => ⟨g.k, (e_bribeOfM g.1 g.2.2.1).mpr (by rw [g.2.2.2.2.2.2.2]; exact hQ g)⟩)
theorem m_gossip {Q : Int32 → hp → Prop} {S : hp} {j n l : Nat} {B T : Int32} (h : OKm S j n 4 l B T) (hn : n < 15) (hQ : Q (B - 100) (bgM (bgM S n 13) (n + 1) 10)) : wp_X12_gossipSize Q S 35 (nI j) := by
  refine ⟨h.k, (e_kindOfM h.1 h.2.2.1).mpr ?_⟩
  rw [h.2.2.2.2.2.2.1]
  refine ⟨fun _ => h.beg (by omega) (fun g => ⟨g.k, m_plain g (by omega) (fun g2 => ?_)⟩), fun q => absurd q (by decide)⟩
  intro v hv
  subst hv
  refine ⟨g2.k, (e_kindOfM g2.1 g2.2.2.1).mpr ?_⟩
  rw [g2.2.2.2.2.2.2.1]
  exact ⟨fun _ => hQ, fun q => absurd q (by decide)⟩
theorem m_spy {Q : Int32 → hp → Prop} {S : hp} {j n l : Nat} {B T : Int32} (h : OKm S j n 5 l B T) (hn : n < 14) (hQ : Q (2 * (B - 100)) (bgM (bgM (bgM S n 14) (n + 1) 13) (n + 2) 10)) : wp_X12_gossipSize Q S 35 (nI j) := by
  refine ⟨h.k, (e_kindOfM h.1 h.2.2.1).mpr ?_⟩
  rw [h.2.2.2.2.2.2.1]
  refine ⟨fun q => absurd rfl q, fun _ => h.beg (by omega) (fun g0 => g0.beg (by omega) (fun g => ⟨g.k, m_plain g (by omega) (fun g2 => ?_)⟩))⟩
  intro v hv
  subst hv
  refine ⟨g2.k, (e_kindOfM g2.1 g2.2.2.1).mpr ?_⟩
  rw [g2.2.2.2.2.2.2.1]
  exact ⟨fun q => absurd rfl q, fun _ => hQ⟩
theorem m_loop {Q : Int32 → hp → Prop} {S : hp} {j n k l : Nat} {B T : Int32} (h : OKm S j n k l B T) (hn : n < 15) (hQ : OKm (bgM (bgM S n 21) (n + 1) 20) j (n + 2) k l B T → Q (if nI k = 1 then nI j + T else if nI k = 3 then nI j + T - 1000 else 2 * (nI j + T)) (bgM (bgM S n 21) (n + 1) 20)) : wB_X12_markOf_52 Q S 35 (nI j) (nI k) :=
  h.beg (by omega) (fun g => g.beg (by omega) (fun g2 => c_markLoop g2.1 g2.2.2.2.1 g2.2.2.2.2.1 (by rw [g2.2.2.2.2.2.1]; exact hQ g2)))
theorem m_mark {Q : Int32 → hp → Prop} {S : hp} {j c l n : Nat} {B T : Int32} (h1 : 1 ≤ c) (h5 : c ≤ 5) (hn : n < 11) (h : OKm S j n c l B T) (hQ : Q (mval c (nI j) B T) (bms S n (mtr c))) : wp_X12_markOf Q S 35 (nI j) := by
  refine ⟨h.k, (e_kindOfM h.1 h.2.2.1).mpr ?_⟩
  rw [h.2.2.2.2.2.2.1]
  rcases five h1 h5 with rfl | rfl | rfl | rfl | rfl
  · exact ⟨fun _ => ⟨fun _ => m_loop h (by omega) (fun _ => hQ), fun q => absurd rfl q⟩, fun q => absurd (by decide) q⟩
  · exact ⟨fun _ => ⟨fun q => absurd q (by decide), fun _ => ⟨fun _ => h.beg (by omega) (fun g => m_loop g (by omega) (fun _ => hQ)), fun q => absurd q (by decide)⟩⟩, fun q => absurd (by decide) q⟩
  · exact ⟨fun _ => ⟨fun q => absurd q (by decide), fun _ => ⟨fun q => absurd rfl q, fun _ => h.beg (by omega) (fun g => m_loop g (by omega) (fun _ => hQ))⟩⟩, fun q => absurd (by decide) q⟩
  · exact ⟨fun q => absurd q (by decide), fun _ => h.beg (by omega) (fun g => g.beg (by omega) (fun g2 => ⟨g2.k, m_gossip g2 (by omega) hQ⟩))⟩
  · exact ⟨fun q => absurd q (by decide), fun _ => h.beg (by omega) (fun g => g.beg (by omega) (fun g2 => ⟨g2.k, m_spy g2 (by omega) hQ⟩))⟩
theorem m_size {Q : Int32 → hp → Prop} {S : hp} {j c l : Nat} {B T : Int32} (h1 : 1 ≤ c) (h5 : c ≤ 5) (h : OKm S j 0 c l B T) (hQ : Q (sval c (nI j) B T) (bms S 0 (str c))) : wp_X12_sizeOf Q S 35 (nI j) := by
  refine ⟨h.k, (e_kindOfM h.1 h.2.2.1).mpr ?_⟩
  rw [h.2.2.2.2.2.2.1]
  rcases five h1 h5 with rfl | rfl | rfl | rfl | rfl
  · refine ⟨fun _ => ⟨fun _ => h.beg (by omega) (fun g => ⟨g.k, m_plain g (by omega) (fun g2 => ⟨g2.k, m_mark (by omega) (by omega) (by omega) g2 ?_⟩)⟩), fun q => absurd q (by decide)⟩, fun q => absurd (by decide) q⟩
    intro v hv
    subst hv
    exact ⟨fun _ => hQ, fun q => absurd q (by decide)⟩
  · refine ⟨fun _ => ⟨fun q => absurd rfl q, fun _ => h.beg (by omega) (fun g0 => g0.beg (by omega) (fun g => ⟨g.k, m_plain g (by omega) (fun g2 => ⟨g2.k, m_mark (by omega) (by omega) (by omega) g2 ?_⟩)⟩))⟩, fun q => absurd (by decide) q⟩
    intro v hv
    subst hv
    exact ⟨fun q => absurd rfl q, fun _ => hQ⟩
  · refine ⟨fun _ => ⟨fun _ => h.beg (by omega) (fun g => ⟨g.k, m_plain g (by omega) (fun g2 => ⟨g2.k, m_mark (by omega) (by omega) (by omega) g2 ?_⟩)⟩), fun q => absurd q (by decide)⟩, fun q => absurd (by decide) q⟩
    intro v hv
    subst hv
    exact ⟨fun _ => hQ, fun q => absurd q (by decide)⟩
  · exact ⟨fun q => absurd q (by decide), fun _ => ⟨h.k, m_gossip h (by omega) hQ⟩⟩
  · exact ⟨fun q => absurd q (by decide), fun _ => ⟨h.k, m_spy h (by omega) hQ⟩⟩
