theorem vz {j n : Nat} {m : Nat} (h : j < n) (e : m = n) (hn : n < 100000 := by omega) : vp_in (nI j) m := by rw [e]; exact vp_in_nI h (by omega)
/-- nothing but nought stands anywhere, but in the lanes -/
def Zr (S : hp) : Prop := ∀ b j, b ≠ 36 → hI S b j = 0
theorem Zr.newC {S : hp} (h : Zr S) {k n : Nat} : Zr (newC S k n) := fun b j hb => by
  show (if b = S.1 then 0 else S.2.2.2.1 b j) = 0
  by_cases c : b = S.1
  · rw [if_pos c]
  · rw [if_neg c]; exact h b j hb
theorem Zr.newG {S : hp} (h : Zr S) {k n : Nat} : Zr (newG S k n) := fun b j hb => by
  show (if S.1 ≤ b ∧ b ≤ S.1 + k then 0 else S.2.2.2.1 b j) = 0
  by_cases c : S.1 ≤ b ∧ b ≤ S.1 + k
  · rw [if_pos c]
  · rw [if_neg c]; exact h b j hb
theorem Zr.setR {S : hp} (h : Zr S) {a k : Nat} {v : Option Nat} : Zr (setR S a k v) := fun b j hb => h b j hb
theorem Zr.setI {S : hp} (h : Zr S) {k : Nat} {v : Int32} : Zr (setI S 36 k v) := fun b j hb => by
  rw [hI_setI_ne hb]; exact h b j hb
theorem rel_of {S : hp} (hL : Lay S) (h0 : Zr S) (h1 : ∀ r, r < 8 → hI S 36 r = -1) (n20 : ∀ j, j < 5 → hR S 20 j = none) (n26 : ∀ j, j < 5 → hR S 26 j = none) (n33 : ∀ j, j < 2 → hR S 33 j = none) (n34 : ∀ j, j < 24 → hR S 34 j = none) : Rel S := by
  have z : ∀ b j, b ≠ 36 → hI S b j = 0 := h0
  have vz : ∀ k, vec S 39 0 k = 0 := fun k => by unfold vec; by_cases c : k < 147 <;> simp [c, z 39]
  have n2 : nd (vec S 39 0) = 0 := by unfold nd; rw [vz]; rfl
  have n3 : nm (vec S 39 0) = 0 := by unfold nm; rw [vz]; rfl
  have n4 : nl (vec S 39 0) = 0 := by unfold nl; rw [vz]; rfl
  have c50 := hL.2.2
  have s16 : SL S 16 := ⟨⟨by omega, by simp only [hL.eqs, and_self]⟩, by simp only [hL.eqs, and_self], by simp only [hL.eqs, and_self], fun j r hj q => by rw [n20 j hj] at q; cases q⟩
  have s22 : SL S 22 := ⟨⟨by omega, by simp only [hL.eqs, and_self]⟩, by simp only [hL.eqs, and_self], by simp only [hL.eqs, and_self], fun j r hj q => by rw [n26 j hj] at q; cases q⟩
  refine ⟨hL, fun r hr => ⟨Or.inl ⟨z 13 r (by decide), h1 r hr⟩, by rw [z 12 r (by decide), z 37 r (by decide)], by rw [z 37 r (by decide)]; decide, fun k hk => by rw [z (3 + r) k (by omega), z 38 _ (by decide)]⟩, ⟨0, by omega, z 14 1 (by decide), z 35 10 (by decide), fun k hk => by omega⟩, ⟨by rw [z 35 1 (by decide), z 0 11 (by decide)], by rw [z 35 17 (by decide), z 0 10 (by decide)]⟩, ⟨s16, ⟨⟨by rw [n2, vz]; rfl, by omega⟩, ⟨by rw [n3, vz]; rfl, by omega⟩, ⟨by rw [n4, vz]; rfl, by omega⟩, Or.inl ⟨vz 0, n2, n3, n4⟩, fun j hj => by omega, fun k hk => by rw [vz, vz, vz]; unfold bd; decide, fun i hi => by omega⟩, ⟨by rw [z 16 5 (by decide), vz], by rw [z 16 6 (by decide), vz], by rw [z 16 7 (by decide), vz], by rw [z 16 8 (by decide), vz], by rw [z 16 9 (by decide), vz]⟩, fun k hk => by omega, fun j hj => by omega, fun k hk => by omega⟩, s22, fun k hk => Or.inl ⟨z 44 k (by decide), n33 k hk⟩, ⟨0, 0, by omega, by omega, z 0 8 (by decide), z 35 8 (by decide), z 0 9 (by decide), (fun p a hp q => by rw [n34 p hp] at q; cases q), fun j hj => by omega⟩, ⟨(fun p q a hp hq q1 => by rw [n34 p hp] at q1; cases q1), (fun p k a hp hk q1 => by rw [n34 p hp] at q1; cases q1), (fun a q1 => by rw [n33 0 (by omega)] at q1; cases q1)⟩, ⟨0, by omega, z 31 1 (by decide), z 35 25 (by decide), fun k hk => by omega⟩⟩
def iq0 : hp := newC emp 10 0
def iq1 : hp := newC iq0 5 0
def iq2 : hp := newG iq1 8 40
def iq3 : hp := setR iq2 1 0 (some 2)
def iq4 : hp := newC iq3 12 8
def iq5 : hp := setR iq4 1 1 (some 11)
def iq6 : hp := newC iq5 12 8
def iq7 : hp := setR iq6 1 2 (some 12)
def iq8 : hp := newC iq7 13 8
def iq9 : hp := setR iq8 1 3 (some 13)
def iq10 : hp := setR iq9 0 0 (some 1)
def iq11 : hp := newC iq10 8 0
def iq12 : hp := newC iq11 12 140
def iq13 : hp := setR iq12 14 0 (some 15)
def iq14 : hp := setR iq13 0 1 (some 14)
def iq15 : hp := newC iq14 7 0
def iq16 : hp := newC iq15 12 12
def iq17 : hp := setR iq16 16 0 (some 17)
def iq18 : hp := newC iq17 12 12
def iq19 : hp := setR iq18 16 1 (some 18)
def iq20 : hp := newC iq19 12 12
def iq21 : hp := setR iq20 16 2 (some 19)
def iq22 : hp := newC iq21 14 5
def iq23 : hp := setR iq22 16 3 (some 20)
def iq24 : hp := newC iq23 12 96
def iq25 : hp := setR iq24 16 4 (some 21)
def iq26 : hp := setR iq25 0 2 (some 16)
def iq27 : hp := newC iq26 7 0
def iq28 : hp := newC iq27 12 12
def iq29 : hp := setR iq28 22 0 (some 23)
def iq30 : hp := newC iq29 12 12
def iq31 : hp := setR iq30 22 1 (some 24)
def iq32 : hp := newC iq31 12 12
def iq33 : hp := setR iq32 22 2 (some 25)
def iq34 : hp := newC iq33 14 5
def iq35 : hp := setR iq34 22 3 (some 26)
def iq36 : hp := newC iq35 12 96
def iq37 : hp := setR iq36 22 4 (some 27)
def iq38 : hp := setR iq37 0 3 (some 22)
def iq39 : hp := newC iq38 2 0
def iq40 : hp := newC iq39 12 15
def iq41 : hp := setR iq40 28 0 (some 29)
def iq42 : hp := newC iq41 12 16
def iq43 : hp := setR iq42 28 1 (some 30)
def iq44 : hp := setR iq43 0 4 (some 28)
def iq45 : hp := newC iq44 0 0
def iq46 : hp := newC iq45 12 16
def iq47 : hp := setR iq46 31 0 (some 32)
def iq48 : hp := setR iq47 0 5 (some 31)
def iq49 : hp := newC iq48 15 2
def iq50 : hp := setR iq49 0 6 (some 33)
def iq51 : hp := newC iq50 15 24
def iq52 : hp := setR iq51 0 7 (some 34)
def iq53 : hp := newC iq52 11 0
def iq54 : hp := newC iq53 12 8
def iq55 : hp := setI iq54 36 0 (-1)
def iq56 : hp := setI iq55 36 1 (-1)
def iq57 : hp := setI iq56 36 2 (-1)
def iq58 : hp := setI iq57 36 3 (-1)
def iq59 : hp := setI iq58 36 4 (-1)
def iq60 : hp := setI iq59 36 5 (-1)
def iq61 : hp := setI iq60 36 6 (-1)
def iq62 : hp := setI iq61 36 7 (-1)
def iq63 : hp := setR iq62 35 2 (some 36)
def iq64 : hp := newC iq63 12 8
def iq65 : hp := setR iq64 35 3 (some 37)
def iq66 : hp := newC iq65 12 320
def iq67 : hp := setR iq66 35 4 (some 38)
def iq68 : hp := newC iq67 12 147
def iq69 : hp := setR iq68 35 5 (some 39)
def iq70 : hp := newC iq69 12 147
def iq71 : hp := setR iq70 35 6 (some 40)
def iq72 : hp := newC iq71 12 3528
def iq73 : hp := setR iq72 35 7 (some 41)
def iq74 : hp := newC iq73 12 140
def iq75 : hp := setR iq74 35 9 (some 42)
def iq76 : hp := newC iq75 12 12
def iq77 : hp := setR iq76 35 18 (some 43)
def iq78 : hp := newC iq77 13 2
def iq79 : hp := setR iq78 35 19 (some 44)
def iq80 : hp := newC iq79 12 294
def iq81 : hp := setR iq80 35 20 (some 45)
def iq82 : hp := newC iq81 12 4
def iq83 : hp := setR iq82 35 21 (some 46)
def iq84 : hp := newC iq83 12 4
def iq85 : hp := setR iq84 35 22 (some 47)
def iq86 : hp := newC iq85 12 4
def iq87 : hp := setR iq86 35 23 (some 48)
def iq88 : hp := newC iq87 12 16
def iq89 : hp := setR iq88 35 24 (some 49)
theorem zr0 : Zr iq0 := Zr.newC (fun _ _ _ => rfl)
theorem zr1 : Zr iq1 := zr0.newC
theorem zr2 : Zr iq2 := zr1.newG
theorem zr3 : Zr iq3 := zr2.setR
theorem zr4 : Zr iq4 := zr3.newC
theorem zr5 : Zr iq5 := zr4.setR
theorem zr6 : Zr iq6 := zr5.newC
theorem zr7 : Zr iq7 := zr6.setR
theorem zr8 : Zr iq8 := zr7.newC
theorem zr9 : Zr iq9 := zr8.setR
theorem zr10 : Zr iq10 := zr9.setR
theorem zr11 : Zr iq11 := zr10.newC
theorem zr12 : Zr iq12 := zr11.newC
theorem zr13 : Zr iq13 := zr12.setR
theorem zr14 : Zr iq14 := zr13.setR
theorem zr15 : Zr iq15 := zr14.newC
theorem zr16 : Zr iq16 := zr15.newC
theorem zr17 : Zr iq17 := zr16.setR
theorem zr18 : Zr iq18 := zr17.newC
theorem zr19 : Zr iq19 := zr18.setR
theorem zr20 : Zr iq20 := zr19.newC
theorem zr21 : Zr iq21 := zr20.setR
theorem zr22 : Zr iq22 := zr21.newC
theorem zr23 : Zr iq23 := zr22.setR
theorem zr24 : Zr iq24 := zr23.newC
theorem zr25 : Zr iq25 := zr24.setR
theorem zr26 : Zr iq26 := zr25.setR
theorem zr27 : Zr iq27 := zr26.newC
theorem zr28 : Zr iq28 := zr27.newC
theorem zr29 : Zr iq29 := zr28.setR
theorem zr30 : Zr iq30 := zr29.newC
theorem zr31 : Zr iq31 := zr30.setR
theorem zr32 : Zr iq32 := zr31.newC
theorem zr33 : Zr iq33 := zr32.setR
theorem zr34 : Zr iq34 := zr33.newC
theorem zr35 : Zr iq35 := zr34.setR
theorem zr36 : Zr iq36 := zr35.newC
theorem zr37 : Zr iq37 := zr36.setR
theorem zr38 : Zr iq38 := zr37.setR
theorem zr39 : Zr iq39 := zr38.newC
theorem zr40 : Zr iq40 := zr39.newC
theorem zr41 : Zr iq41 := zr40.setR
theorem zr42 : Zr iq42 := zr41.newC
theorem zr43 : Zr iq43 := zr42.setR
theorem zr44 : Zr iq44 := zr43.setR
theorem zr45 : Zr iq45 := zr44.newC
theorem zr46 : Zr iq46 := zr45.newC
theorem zr47 : Zr iq47 := zr46.setR
theorem zr48 : Zr iq48 := zr47.setR
theorem zr49 : Zr iq49 := zr48.newC
theorem zr50 : Zr iq50 := zr49.setR
theorem zr51 : Zr iq51 := zr50.newC
theorem zr52 : Zr iq52 := zr51.setR
theorem zr53 : Zr iq53 := zr52.newC
theorem zr54 : Zr iq54 := zr53.newC
theorem zr55 : Zr iq55 := zr54.setI
theorem zr56 : Zr iq56 := zr55.setI
theorem zr57 : Zr iq57 := zr56.setI
theorem zr58 : Zr iq58 := zr57.setI
theorem zr59 : Zr iq59 := zr58.setI
theorem zr60 : Zr iq60 := zr59.setI
theorem zr61 : Zr iq61 := zr60.setI
theorem zr62 : Zr iq62 := zr61.setI
theorem zr63 : Zr iq63 := zr62.setR
theorem zr64 : Zr iq64 := zr63.newC
theorem zr65 : Zr iq65 := zr64.setR
theorem zr66 : Zr iq66 := zr65.newC
theorem zr67 : Zr iq67 := zr66.setR
theorem zr68 : Zr iq68 := zr67.newC
theorem zr69 : Zr iq69 := zr68.setR
theorem zr70 : Zr iq70 := zr69.newC
theorem zr71 : Zr iq71 := zr70.setR
theorem zr72 : Zr iq72 := zr71.newC
theorem zr73 : Zr iq73 := zr72.setR
theorem zr74 : Zr iq74 := zr73.newC
theorem zr75 : Zr iq75 := zr74.setR
theorem zr76 : Zr iq76 := zr75.newC
theorem zr77 : Zr iq77 := zr76.setR
theorem zr78 : Zr iq78 := zr77.newC
theorem zr79 : Zr iq79 := zr78.setR
theorem zr80 : Zr iq80 := zr79.newC
theorem zr81 : Zr iq81 := zr80.setR
theorem zr82 : Zr iq82 := zr81.newC
theorem zr83 : Zr iq83 := zr82.setR
theorem zr84 : Zr iq84 := zr83.newC
theorem zr85 : Zr iq85 := zr84.setR
theorem zr86 : Zr iq86 := zr85.newC
theorem zr87 : Zr iq87 := zr86.setR
theorem zr88 : Zr iq88 := zr87.newC
theorem zr89 : Zr iq89 := zr88.setR
theorem lay_z : Lay iq89 := ⟨by decide +kernel, by decide +kernel, by decide +kernel⟩
theorem p_init : st_init Rel := by
  unfold st_init wp_X11_init
  refine fun S e => ?_; have e : S = iq1 := e; subst e
  try unfold wp_X6_init
  refine fun S e => ?_; have e : S = iq2 := e; subst e
  refine ⟨by decide +kernel, ?_⟩
  refine fun S e => ?_; have e : S = iq3 := e; subst e
  refine fun S e => ?_; have e : S = iq4 := e; subst e
  refine ⟨by decide +kernel, ?_⟩
  refine fun S e => ?_; have e : S = iq5 := e; subst e
  refine fun S e => ?_; have e : S = iq6 := e; subst e
  refine ⟨by decide +kernel, ?_⟩
  refine fun S e => ?_; have e : S = iq7 := e; subst e
  refine fun S e => ?_; have e : S = iq8 := e; subst e
  refine ⟨by decide +kernel, ?_⟩
  refine fun S e => ?_; have e : S = iq9 := e; subst e
  refine ⟨by decide +kernel, ?_⟩
  refine fun S e => ?_; have e : S = iq10 := e; subst e
  refine fun S e => ?_; have e : S = iq11 := e; subst e
  try unfold wp_X9_init
  refine fun S e => ?_; have e : S = iq12 := e; subst e
  refine ⟨by decide +kernel, ?_⟩
  refine fun S e => ?_; have e : S = iq13 := e; subst e
  refine ⟨by decide +kernel, ?_⟩
  refine fun S e => ?_; have e : S = iq14 := e; subst e
  refine fun S e => ?_; have e : S = iq15 := e; subst e
  try unfold wp_X8_init
  refine fun S e => ?_; have e : S = iq16 := e; subst e
  refine ⟨by decide +kernel, ?_⟩
  refine fun S e => ?_; have e : S = iq17 := e; subst e
  refine fun S e => ?_; have e : S = iq18 := e; subst e
  refine ⟨by decide +kernel, ?_⟩
  refine fun S e => ?_; have e : S = iq19 := e; subst e
  refine fun S e => ?_; have e : S = iq20 := e; subst e
  refine ⟨by decide +kernel, ?_⟩
  refine fun S e => ?_; have e : S = iq21 := e; subst e
  refine fun S e => ?_; have e : S = iq22 := e; subst e
  refine ⟨by decide +kernel, ?_⟩
  refine fun S e => ?_; have e : S = iq23 := e; subst e
  refine fun S e => ?_; have e : S = iq24 := e; subst e
  refine ⟨by decide +kernel, ?_⟩
  refine fun S e => ?_; have e : S = iq25 := e; subst e
  refine ⟨by decide +kernel, ?_⟩
  refine fun S e => ?_; have e : S = iq26 := e; subst e
  refine fun S e => ?_; have e : S = iq27 := e; subst e
  try unfold wp_X8_init
  refine fun S e => ?_; have e : S = iq28 := e; subst e
  refine ⟨by decide +kernel, ?_⟩
  refine fun S e => ?_; have e : S = iq29 := e; subst e
  refine fun S e => ?_; have e : S = iq30 := e; subst e
  refine ⟨by decide +kernel, ?_⟩
  refine fun S e => ?_; have e : S = iq31 := e; subst e
  refine fun S e => ?_; have e : S = iq32 := e; subst e
  refine ⟨by decide +kernel, ?_⟩
  refine fun S e => ?_; have e : S = iq33 := e; subst e
  refine fun S e => ?_; have e : S = iq34 := e; subst e
  refine ⟨by decide +kernel, ?_⟩
  refine fun S e => ?_; have e : S = iq35 := e; subst e
  refine fun S e => ?_; have e : S = iq36 := e; subst e
  refine ⟨by decide +kernel, ?_⟩
  refine fun S e => ?_; have e : S = iq37 := e; subst e
  refine ⟨by decide +kernel, ?_⟩
  refine fun S e => ?_; have e : S = iq38 := e; subst e
  refine fun S e => ?_; have e : S = iq39 := e; subst e
  try unfold wp_X2_init
  refine fun S e => ?_; have e : S = iq40 := e; subst e
  refine ⟨by decide +kernel, ?_⟩
  refine fun S e => ?_; have e : S = iq41 := e; subst e
  refine fun S e => ?_; have e : S = iq42 := e; subst e
  refine ⟨by decide +kernel, ?_⟩
  refine fun S e => ?_; have e : S = iq43 := e; subst e
  refine ⟨by decide +kernel, ?_⟩
  refine fun S e => ?_; have e : S = iq44 := e; subst e
  refine fun S e => ?_; have e : S = iq45 := e; subst e
  try unfold wp_X0_init
  refine fun S e => ?_; have e : S = iq46 := e; subst e
  refine ⟨by decide +kernel, ?_⟩
  refine fun S e => ?_; have e : S = iq47 := e; subst e
  refine ⟨by decide +kernel, ?_⟩
  refine fun S e => ?_; have e : S = iq48 := e; subst e
  refine fun S e => ?_; have e : S = iq49 := e; subst e
  refine ⟨by decide +kernel, ?_⟩
  refine fun S e => ?_; have e : S = iq50 := e; subst e
  refine fun S e => ?_; have e : S = iq51 := e; subst e
  refine ⟨by decide +kernel, ?_⟩
  refine fun S e => ?_; have e : S = iq52 := e; subst e
  refine ⟨by decide +kernel, ?_⟩
  show wp_X12_init (fun S2 => Rel S2) (newC iq52 11 0) 35
  rw [show newC iq52 11 0 = iq53 from rfl]
  unfold wp_X12_init
  refine fun S e => ?_; have e : S = iq54 := e; subst e
  refine ⟨by decide +kernel, ?_⟩
  refine ⟨vz (j := 0) (n := 8) (by omega) (by decide +kernel), ?_⟩
  refine fun S e => ?_; have e : S = iq55 := e; subst e
  refine ⟨vz (j := 1) (n := 8) (by omega) (by decide +kernel), ?_⟩
  refine fun S e => ?_; have e : S = iq56 := e; subst e
  refine ⟨vz (j := 2) (n := 8) (by omega) (by decide +kernel), ?_⟩
  refine fun S e => ?_; have e : S = iq57 := e; subst e
  refine ⟨vz (j := 3) (n := 8) (by omega) (by decide +kernel), ?_⟩
  refine fun S e => ?_; have e : S = iq58 := e; subst e
  refine ⟨vz (j := 4) (n := 8) (by omega) (by decide +kernel), ?_⟩
  refine fun S e => ?_; have e : S = iq59 := e; subst e
  refine ⟨vz (j := 5) (n := 8) (by omega) (by decide +kernel), ?_⟩
  refine fun S e => ?_; have e : S = iq60 := e; subst e
  refine ⟨vz (j := 6) (n := 8) (by omega) (by decide +kernel), ?_⟩
  refine fun S e => ?_; have e : S = iq61 := e; subst e
  refine ⟨vz (j := 7) (n := 8) (by omega) (by decide +kernel), ?_⟩
  refine fun S e => ?_; have e : S = iq62 := e; subst e
  refine ⟨by decide +kernel, ?_⟩
  refine fun S e => ?_; have e : S = iq63 := e; subst e
  refine fun S e => ?_; have e : S = iq64 := e; subst e
  refine ⟨by decide +kernel, ?_⟩
  refine fun S e => ?_; have e : S = iq65 := e; subst e
  refine fun S e => ?_; have e : S = iq66 := e; subst e
  refine ⟨by decide +kernel, ?_⟩
  refine fun S e => ?_; have e : S = iq67 := e; subst e
  refine fun S e => ?_; have e : S = iq68 := e; subst e
  refine ⟨by decide +kernel, ?_⟩
  refine fun S e => ?_; have e : S = iq69 := e; subst e
  refine fun S e => ?_; have e : S = iq70 := e; subst e
  refine ⟨by decide +kernel, ?_⟩
  refine fun S e => ?_; have e : S = iq71 := e; subst e
  refine fun S e => ?_; have e : S = iq72 := e; subst e
  refine ⟨by decide +kernel, ?_⟩
  refine fun S e => ?_; have e : S = iq73 := e; subst e
  refine fun S e => ?_; have e : S = iq74 := e; subst e
  refine ⟨by decide +kernel, ?_⟩
  refine fun S e => ?_; have e : S = iq75 := e; subst e
  refine fun S e => ?_; have e : S = iq76 := e; subst e
  refine ⟨by decide +kernel, ?_⟩
  refine fun S e => ?_; have e : S = iq77 := e; subst e
  refine fun S e => ?_; have e : S = iq78 := e; subst e
  refine ⟨by decide +kernel, ?_⟩
  refine fun S e => ?_; have e : S = iq79 := e; subst e
  refine fun S e => ?_; have e : S = iq80 := e; subst e
  refine ⟨by decide +kernel, ?_⟩
  refine fun S e => ?_; have e : S = iq81 := e; subst e
  refine fun S e => ?_; have e : S = iq82 := e; subst e
  refine ⟨by decide +kernel, ?_⟩
  refine fun S e => ?_; have e : S = iq83 := e; subst e
  refine fun S e => ?_; have e : S = iq84 := e; subst e
  refine ⟨by decide +kernel, ?_⟩
  refine fun S e => ?_; have e : S = iq85 := e; subst e
  refine fun S e => ?_; have e : S = iq86 := e; subst e
  refine ⟨by decide +kernel, ?_⟩
  refine fun S e => ?_; have e : S = iq87 := e; subst e
  refine fun S e => ?_; have e : S = iq88 := e; subst e
  refine ⟨by decide +kernel, ?_⟩
  refine fun S e => ?_; have e : S = iq89 := e; subst e
  exact rel_of lay_z zr89 (by decide +kernel) (by decide +kernel) (by decide +kernel) (by decide +kernel) (by decide +kernel)
