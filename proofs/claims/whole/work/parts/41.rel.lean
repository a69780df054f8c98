/-- a street's cells: six in a row, and what stands in its row of mouths are mouths -/
def SL (S : hp) (a : Nat) : Prop := (a + 5 < hC S ∧ hK S a = 7 ∧ hK S (a + 1) = 12 ∧ hK S (a + 2) = 12 ∧ hK S (a + 3) = 12 ∧ hK S (a + 4) = 14 ∧ hK S (a + 5) = 12) ∧ (hN S (a + 1) = 12 ∧ hN S (a + 2) = 12 ∧ hN S (a + 3) = 12 ∧ hN S (a + 4) = 5 ∧ hN S (a + 5) = 96) ∧ (hR S a 0 = some (a + 1) ∧ hR S a 1 = some (a + 2) ∧ hR S a 2 = some (a + 3) ∧ hR S a 3 = some (a + 4) ∧ hR S a 4 = some (a + 5)) ∧ ∀ j r, j < 5 → hR S (a + 4) j = some r → r < hC S ∧ isM (hK S r)
theorem SL.eqs {S : hp} {a : Nat} (h : SL S a) : hK S a = 7 ∧ hK S (a + 1) = 12 ∧ hK S (a + 2) = 12 ∧ hK S (a + 3) = 12 ∧ hK S (a + 4) = 14 ∧ hK S (a + 5) = 12 ∧ hN S (a + 1) = 12 ∧ hN S (a + 2) = 12 ∧ hN S (a + 3) = 12 ∧ hN S (a + 4) = 5 ∧ hN S (a + 5) = 96 ∧ hR S a 0 = some (a + 1) ∧ hR S a 1 = some (a + 2) ∧ hR S a 2 = some (a + 3) ∧ hR S a 3 = some (a + 4) ∧ hR S a 4 = some (a + 5) := ⟨h.1.2.1, h.1.2.2.1, h.1.2.2.2.1, h.1.2.2.2.2.1, h.1.2.2.2.2.2.1, h.1.2.2.2.2.2.2, h.2.1.1, h.2.1.2.1, h.2.1.2.2.1, h.2.1.2.2.2.1, h.2.1.2.2.2.2, h.2.2.1.1, h.2.2.1.2.1, h.2.2.1.2.2.1, h.2.2.1.2.2.2.1, h.2.2.1.2.2.2.2⟩
theorem isM_12 : ¬ isM 12 := by unfold isM; omega
theorem isM_14 : ¬ isM 14 := by unfold isM; omega
theorem isM_7 : ¬ isM 7 := by unfold isM; omega
/-- a set of cells that holds no cell of the street a, and no mouth -/
def Off (S : hp) (a : Nat) (P : Nat → Prop) : Prop := ∀ b, b < hC S → P b → (b < a ∨ a + 5 < b) ∧ ¬ isM (hK S b)
theorem SL.fr {P : Nat → Prop} {S S' : hp} {a : Nat} (h : SL S a) (hf : Fr P S S') (ho : ∀ b, b < hC S → P b → (b < a ∨ a + 5 < b)) : SL S' a := by
  have k : ∀ i, i ≤ 5 → hK S' (a + i) = hK S (a + i) ∧ hN S' (a + i) = hN S (a + i) := fun i hi => hf.2.1 (a + i) (by have := h.1.1; omega)
  have q : ∀ i, i ≤ 5 → hR S' (a + i) = hR S (a + i) := fun i hi => (hf.2.2 (a + i) (by have := h.1.1; omega) (fun p => by have := ho (a + i) (by have := h.1.1; omega) p; omega)).2
  have e := h.eqs
  have k0 := k 0 (by omega)
  have q0 := q 0 (by omega)
  rw [Nat.add_zero] at k0 q0
  refine ⟨⟨Nat.lt_of_lt_of_le h.1.1 hf.1, ?_, ?_, ?_, ?_, ?_, ?_⟩, ⟨?_, ?_, ?_, ?_, ?_⟩, ⟨?_, ?_, ?_, ?_, ?_⟩, fun j r hj hr => ?_⟩
  · rw [k0.1]; exact e.1
  · rw [(k 1 (by omega)).1]; exact e.2.1
  · rw [(k 2 (by omega)).1]; exact e.2.2.1
  · rw [(k 3 (by omega)).1]; exact e.2.2.2.1
  · rw [(k 4 (by omega)).1]; exact e.2.2.2.2.1
  · rw [(k 5 (by omega)).1]; exact e.2.2.2.2.2.1
  · rw [(k 1 (by omega)).2]; exact h.2.1.1
  · rw [(k 2 (by omega)).2]; exact h.2.1.2.1
  · rw [(k 3 (by omega)).2]; exact h.2.1.2.2.1
  · rw [(k 4 (by omega)).2]; exact h.2.1.2.2.2.1
  · rw [(k 5 (by omega)).2]; exact h.2.1.2.2.2.2
  · rw [q0]; exact h.2.2.1.1
  · rw [q0]; exact h.2.2.1.2.1
  · rw [q0]; exact h.2.2.1.2.2.1
  · rw [q0]; exact h.2.2.1.2.2.2.1
  · rw [q0]; exact h.2.2.1.2.2.2.2
  · rw [q 4 (by omega)] at hr
    obtain ⟨g1, g2⟩ := h.2.2.2 j r hj hr
    exact ⟨Nat.lt_of_lt_of_le g1 hf.1, by rw [(hf.2.1 r g1).1]; exact g2⟩
def nd (f : Nat → Int32) : Nat := (f 2).toNatClampNeg
def nm (f : Nat → Int32) : Nat := (f 3).toNatClampNeg
def nl (f : Nat → Int32) : Nat := (f 4).toNatClampNeg
def kd (f : Nat → Int32) (j : Nat) : Nat := (f (41 + 2 * j)).toNatClampNeg
def bd (x : Int32) : Prop := -999 ≤ x.toInt ∧ x.toInt ≤ 999
/-- the class of a kind of mouths -/
def mkd (k : Nat) : Nat := match k with
  | 1 => 9
  | 2 => 1
  | 3 => 4
  | 4 => 3
  | _ => 6
def LineOK (f : Nat → Int32) (i : Nat) : Prop :=
  (f (51 + 6 * i) = 0 ∧ ∃ m d p : Nat, f (52 + 6 * i) = nI m ∧ m < nm f ∧ f (53 + 6 * i) = nI d ∧ d < nd f ∧ f (54 + 6 * i) = nI p ∧ p < 3 ∧ rg (f (55 + 6 * i)) (-99) 99 = true ∧ rg (f (56 + 6 * i)) (-198) 198 = true) ∨
  f (51 + 6 * i) = 1 ∨
  (f (51 + 6 * i) = 2 ∧ ∃ a b : Nat, f (52 + 6 * i) = nI a ∧ a < nd f ∧ f (53 + 6 * i) = nI b ∧ b < nd f ∧ a < b)
def WF (f : Nat → Int32) : Prop :=
  (f 2 = nI (nd f) ∧ nd f ≤ 4) ∧ (f 3 = nI (nm f) ∧ nm f ≤ 5) ∧ (f 4 = nI (nl f) ∧ nl f ≤ 16) ∧ ((f 0 = 0 ∧ nd f = 0 ∧ nm f = 0 ∧ nl f = 0) ∨ (f 0 = 1 ∧ rg (f 1) 2 20 = true)) ∧
  (∀ j, j < nm f → f (41 + 2 * j) = nI (kd f j) ∧ 1 ≤ kd f j ∧ kd f j ≤ 5 ∧ rg (f (42 + 2 * j)) 0 99 = true) ∧ (∀ k, k < 12 → bd (f (5 + k)) ∧ bd (f (17 + k)) ∧ bd (f (29 + k))) ∧ ∀ i, i < nl f → LineOK f i
/-- the street a of the class is the street f -/
def RSt (S : hp) (a : Nat) (f : Nat → Int32) : Prop :=
  SL S a ∧ WF f ∧ (hI S a 5 = f 0 ∧ hI S a 6 = f 1 ∧ hI S a 7 = f 2 ∧ hI S a 8 = f 3 ∧ hI S a 9 = f 4) ∧ (∀ k, k < 3 * nd f → hI S (a + 1) k = f (5 + k) ∧ hI S (a + 2) k = f (17 + k) ∧ hI S (a + 3) k = f (29 + k)) ∧
  (∀ j, j < nm f → ∃ r, hR S (a + 4) j = some r ∧ r < hC S ∧ hK S r = mkd (kd f j) ∧ hI S r 0 = nI j ∧ hI S r 1 = f (42 + 2 * j)) ∧ ∀ k, k < 6 * nl f → hI S (a + 5) k = f (51 + k)
theorem mkd_isM (k : Nat) : isM (mkd k) := by unfold mkd isM; split <;> omega
theorem RSt.fr {P : Nat → Prop} {S S' : hp} {a : Nat} {f : Nat → Int32} (h : RSt S a f) (hf : Fr P S S') (ho : Off S a P) : RSt S' a f := by
  obtain ⟨hS, hW, hF, hA, hM, hG⟩ := h
  have ho1 : ∀ b, b < hC S → P b → (b < a ∨ a + 5 < b) := fun b hb hp => (ho b hb hp).1
  have q : ∀ i, i ≤ 5 → hI S' (a + i) = hI S (a + i) ∧ hR S' (a + i) = hR S (a + i) := fun i hi => hf.2.2 (a + i) (by have := hS.1.1; omega) (fun p => by have := ho1 (a + i) (by have := hS.1.1; omega) p; omega)
  have q0 := q 0 (by omega)
  rw [Nat.add_zero] at q0
  refine ⟨hS.fr hf ho1, hW, ?_, ?_, fun j hj => ?_, ?_⟩
  · rw [q0.1]; exact hF
  · rw [(q 1 (by omega)).1, (q 2 (by omega)).1, (q 3 (by omega)).1]; exact hA
  · obtain ⟨r, h1, h2, h3, h4, h5⟩ := hM j hj
    have hr := hf.2.2 r h2 (fun p => (ho r h2 p).2 (by rw [h3]; exact mkd_isM _))
    exact ⟨r, by rw [(q 4 (by omega)).2]; exact h1, Nat.lt_of_lt_of_le h2 hf.1, by rw [(hf.2.1 r h2).1]; exact h3, by rw [hr.1]; exact h4, by rw [hr.1]; exact h5⟩
  · rw [(q 5 (by omega)).1]; exact hG
/-- 147 numbers of a row, as a street -/
def vec (S : hp) (m o : Nat) : Nat → Int32 := fun k => if k < 147 then hI S m (o + k) else 0
theorem vec_lt {S : hp} {m o k : Nat} (h : k < 147) : vec S m o k = hI S m (o + k) := if_pos h
theorem vec_eq {S S' : hp} {m m' o o' : Nat} (h : ∀ k, k < 147 → hI S' m' (o' + k) = hI S m (o + k)) : vec S' m' o' = vec S m o := by
  funext k
  unfold vec
  by_cases hk : k < 147
  · rw [if_pos hk, if_pos hk]; exact h k hk
  · rw [if_neg hk, if_neg hk]
theorem vec_same {S S' : hp} {m o : Nat} (h : hI S' m = hI S m) : vec S' m o = vec S m o := by unfold vec; rw [h]
def RRows (S : hp) : Prop := ∀ r, r < 8 → ((hI S 13 r = 0 ∧ hI S 36 r = -1) ∨ (hI S 13 r = 1 ∧ hI S 36 r = hI S 11 r ∧ rg (hI S 11 r) 0 2 = true)) ∧ hI S 12 r = hI S 37 r ∧ rg (hI S 37 r) 0 40 = true ∧ ∀ k, k < 40 → hI S (3 + r) k = hI S 38 (40 * r + k)
def RTape (S : hp) : Prop := ∃ n, n ≤ 140 ∧ hI S 14 1 = nI n ∧ hI S 35 10 = nI n ∧ ∀ k, k < n → hI S 15 k = hI S 42 k ∧ rg (hI S 42 k) 0 255 = true
def RImg (S : hp) : Prop := ∀ k, k < 2 → (hI S 44 k = 0 ∧ hR S 33 k = none) ∨ (hI S 44 k = 1 ∧ ∃ a, hR S 33 k = some a ∧ 50 ≤ a ∧ RSt S a (vec S 45 (147 * k)))
def RActs (S : hp) : Prop := ∃ n l : Nat, n ≤ 24 ∧ l < 24 ∧ hI S 0 8 = nI n ∧ hI S 35 8 = nI n ∧ hI S 0 9 = nI l ∧ (∀ p a, p < 24 → hR S 34 p = some a → 50 ≤ a ∧ SL S a) ∧ ∀ j, j < n → ∃ a, hR S 34 ((l + 24 - j) % 24) = some a ∧ RSt S a (vec S 41 (147 * (n - 1 - j)))
def RDis (S : hp) : Prop := (∀ p q a, p < 24 → q < 24 → hR S 34 p = some a → hR S 34 q = some a → p = q) ∧ (∀ p k a, p < 24 → k < 2 → hR S 34 p = some a → ¬ hR S 33 k = some a) ∧ ∀ a, hR S 33 0 = some a → ¬ hR S 33 1 = some a
def RTr (S : hp) : Prop := ∃ t, t ≤ 16 ∧ hI S 31 1 = nI t ∧ hI S 35 25 = nI t ∧ ∀ k, k < t → hI S 32 k = hI S 49 k
/-- the class and the reference agree -/
def Rel (S : hp) : Prop := Lay S ∧ RRows S ∧ RTape S ∧ (hI S 35 1 = hI S 0 11 ∧ hI S 35 17 = hI S 0 10) ∧ RSt S 16 (vec S 39 0) ∧ SL S 22 ∧ RImg S ∧ RActs S ∧ RDis S ∧ RTr S
/-! what a change leaves as it was -/
theorem RRows.fr {S S' : hp} (h : RRows S) (e : hI S' 13 = hI S 13 ∧ hI S' 36 = hI S 36 ∧ hI S' 11 = hI S 11 ∧ hI S' 12 = hI S 12 ∧ hI S' 37 = hI S 37 ∧ hI S' 38 = hI S 38 ∧ ∀ r, r < 8 → hI S' (3 + r) = hI S (3 + r)) : RRows S' := by
  intro r hr
  rw [e.1, e.2.1, e.2.2.1, e.2.2.2.1, e.2.2.2.2.1, e.2.2.2.2.2.1, e.2.2.2.2.2.2 r hr]
  exact h r hr
theorem RTape.fr {S S' : hp} (h : RTape S) (e : hI S' 14 1 = hI S 14 1 ∧ hI S' 35 10 = hI S 35 10 ∧ hI S' 15 = hI S 15 ∧ hI S' 42 = hI S 42) : RTape S' := by
  unfold RTape; rw [e.1, e.2.1, e.2.2.1, e.2.2.2]; exact h
theorem RTr.fr {S S' : hp} (h : RTr S) (e : hI S' 31 1 = hI S 31 1 ∧ hI S' 35 25 = hI S 35 25 ∧ hI S' 32 = hI S 32 ∧ hI S' 49 = hI S 49) : RTr S' := by
  unfold RTr; rw [e.1, e.2.1, e.2.2.1, e.2.2.2]; exact h
/-- where streets lie that are kept -/
def Kept (S : hp) (a : Nat) : Prop := (∃ k, k < 2 ∧ hR S 33 k = some a) ∨ ∃ p, p < 24 ∧ hR S 34 p = some a
theorem RImg.fr {P : Nat → Prop} {S S' : hp} (h : RImg S) (hf : Fr P S S') (e : hI S' 44 = hI S 44 ∧ hI S' 45 = hI S 45 ∧ hR S' 33 = hR S 33) (ho : ∀ k a, k < 2 → hR S 33 k = some a → Off S a P) : RImg S' := by
  intro k hk
  rw [e.1, e.2.2, vec_same e.2.1]
  rcases h k hk with h1 | ⟨h1, a, h2, h3, h4⟩
  · exact Or.inl h1
  · exact Or.inr ⟨h1, a, h2, h3, h4.fr hf (ho k a hk h2)⟩
theorem RActs.fr {P : Nat → Prop} {S S' : hp} (h : RActs S) (hf : Fr P S S') (e : hI S' 0 8 = hI S 0 8 ∧ hI S' 35 8 = hI S 35 8 ∧ hI S' 0 9 = hI S 0 9 ∧ hI S' 41 = hI S 41 ∧ hR S' 34 = hR S 34) (ho : ∀ p a, p < 24 → hR S 34 p = some a → Off S a P) : RActs S' := by
  obtain ⟨n, l, h1, h2, h3, h4, h5, h6, h7⟩ := h
  refine ⟨n, l, h1, h2, by rw [e.1]; exact h3, by rw [e.2.1]; exact h4, by rw [e.2.2.1]; exact h5, fun p a hp ha => ?_, fun j hj => ?_⟩
  · rw [e.2.2.2.2] at ha
    obtain ⟨g1, g2⟩ := h6 p a hp ha
    exact ⟨g1, g2.fr hf (fun b hb hp2 => (ho p a hp ha b hb hp2).1)⟩
  · obtain ⟨a, g1, g2⟩ := h7 j hj
    refine ⟨a, by rw [e.2.2.2.2]; exact g1, ?_⟩
    rw [vec_same e.2.2.2.1]
    exact g2.fr hf (ho _ a (Nat.mod_lt _ (by omega)) g1)
theorem RDis.fr {S S' : hp} (h : RDis S) (e : hR S' 33 = hR S 33 ∧ hR S' 34 = hR S 34) : RDis S' := by
  unfold RDis; rw [e.1, e.2]; exact h
/-- a change of cells below 50 only, none of them a cell of the street -/
theorem Off.low {S : hp} {a : Nat} {P : Nat → Prop} (hL : Lay S) (ha : 50 ≤ a) (hp : ∀ b, P b → b < 50) : Off S a P := by
  intro b hb h
  have hb5 := hp b h
  refine ⟨Or.inl (by omega), ?_⟩
  rw [(hL.1 b hb5).1]
  have : ∀ b, b < 50 → ¬ isM (kk b) := by unfold isM; decide
  exact this b hb5
theorem Off.low16 {S : hp} {a : Nat} {P : Nat → Prop} (hL : Lay S) (hp : ∀ b, P b → b < 50 ∧ (b < a ∨ a + 5 < b)) : Off S a P := by
  intro b hb h
  obtain ⟨hb5, h2⟩ := hp b h
  refine ⟨h2, ?_⟩
  rw [(hL.1 b hb5).1]
  have : ∀ b, b < 50 → ¬ isM (kk b) := by unfold isM; decide
  exact this b hb5
theorem RImg.a50 {S : hp} (h : RImg S) {k a : Nat} (hk : k < 2) (ha : hR S 33 k = some a) : 50 ≤ a := by
  rcases h k hk with ⟨_, h1⟩ | ⟨_, a', h2, h3, _⟩
  · rw [h1] at ha; cases ha
  · rw [h2] at ha; cases ha; exact h3
theorem RActs.a50 {S : hp} (h : RActs S) {p a : Nat} (hp : p < 24) (ha : hR S 34 p = some a) : 50 ≤ a := by
  obtain ⟨n, l, h1, h2, h3, h4, h5, h6, h7⟩ := h
  exact (h6 p a hp ha).1
/-- a change of low cells that are neither the street's nor the spare street's: what is left to show is what it touches -/
theorem Rel.low {P : Nat → Prop} {S S' : hp} (h : Rel S) (hf : Fr P S S') (hp : ∀ b, P b → b < 50 ∧ (b < 16 ∨ 27 < b)) (hl : Lay S') (e1 : RRows S') (e2 : RTape S') (e3 : hI S' 35 1 = hI S' 0 11 ∧ hI S' 35 17 = hI S' 0 10) (e4 : vec S' 39 0 = vec S 39 0) (e5 : hI S' 44 = hI S 44 ∧ hI S' 45 = hI S 45 ∧ hR S' 33 = hR S 33) (e6 : hI S' 0 8 = hI S 0 8 ∧ hI S' 35 8 = hI S 35 8 ∧ hI S' 0 9 = hI S 0 9 ∧ hI S' 41 = hI S 41 ∧ hR S' 34 = hR S 34) (e7 : RTr S') : Rel S' := by
  obtain ⟨hL, h1, h2, h3, h4, h5, h6, h7, h8, h9⟩ := h
  refine ⟨hl, e1, e2, e3, ?_, h5.fr hf (fun b _ hb => by have := hp b hb; omega), h6.fr hf e5 (fun k a hk ha => Off.low hL (h6.a50 hk ha) (fun b hb => (hp b hb).1)), h7.fr hf e6 (fun p a hpp ha => Off.low hL (h7.a50 hpp ha) (fun b hb => (hp b hb).1)), h8.fr ⟨e5.2.2, e6.2.2.2.2⟩, e7⟩
  rw [e4]
  exact h4.fr hf (Off.low16 hL (fun b hb => ⟨(hp b hb).1, by have := hp b hb; omega⟩))
