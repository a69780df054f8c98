def bI (b : Bool) : Int32 := if b then 1 else 0
theorem bI_t : bI true = 1 := rfl
theorem bI_f : bI false = 0 := rfl
theorem bI0 (b : Bool) : (bI b = 0) = (b = false) := by cases b <;> simp [bI]
theorem bIz (b : Bool) : isZ (bI b) = True := by cases b <;> simp [bI, isZ]
theorem i1_ne0 : ((1 : Int32) = 0) = False := by decide
def rg (x : Int32) (lo hi : Int) : Bool := decide (lo ≤ x.toInt) && decide (x.toInt ≤ hi)
theorem rg_t {x : Int32} {lo hi : Int} : rg x lo hi = true ↔ lo ≤ x.toInt ∧ x.toInt ≤ hi := by simp [rg]
theorem rg_f {x : Int32} {lo hi : Int} : rg x lo hi = false ↔ x.toInt < lo ∨ hi < x.toInt := by
  rw [← Bool.not_eq_true, rg_t]; omega
theorem l64_0 : (0 : Int64).toInt = 0 := rfl
theorem l64_1 : (1 : Int64).toInt = 1 := rfl
theorem l64_2 : (2 : Int64).toInt = 2 := rfl
theorem l64_5 : (5 : Int64).toInt = 5 := rfl
theorem l64_6 : (6 : Int64).toInt = 6 := rfl
theorem l64_7 : (7 : Int64).toInt = 7 := rfl
theorem l64_m1 : (-1 : Int64).toInt = -1 := rfl
theorem l64_99 : (99 : Int64).toInt = 99 := rfl
theorem l64_m99 : (-99 : Int64).toInt = -99 := rfl
theorem l64_255 : (255 : Int64).toInt = 255 := rfl
theorem l64_999 : (999 : Int64).toInt = 999 := rfl
theorem l64_m999 : (-999 : Int64).toInt = -999 := rfl
theorem l64_297 : (297 : Int64).toInt = 297 := rfl
theorem l64_200 : (200 : Int64).toInt = 200 := rfl
theorem l64_m200 : (-200 : Int64).toInt = -200 := rfl
theorem l64_97 : (97 : Int64).toInt = 97 := rfl
theorem l64_122 : (122 : Int64).toInt = 122 := rfl
theorem l64_48 : (48 : Int64).toInt = 48 := rfl
theorem l64_57 : (57 : Int64).toInt = 57 := rfl
theorem t_lt (a b : Int32) : (a < b) = (a.toInt < b.toInt) := propext Int32.lt_iff_toInt_lt
theorem t_le (a b : Int32) : (a ≤ b) = (a.toInt ≤ b.toInt) := propext Int32.le_iff_toInt_le
theorem t_eq (a b : Int32) : (a = b) = (a.toInt = b.toInt) := propext Int32.toInt_inj.symm
theorem t_lit (n : Nat) (h : n < 2 ^ 31) : (OfNat.ofNat n : Int32).toInt = (n : Int) := nI_toInt h
theorem t_rng (x : Int32) : -2147483648 ≤ x.toInt ∧ x.toInt < 2147483648 := ⟨Int32.le_toInt x, Int32.toInt_lt x⟩
theorem bm {x : Int} (h : -2147483648 ≤ x) (h2 : x < 2147483648) : x.bmod (2 ^ 32) = x := Int.bmod_eq_of_le (by omega) (by omega)
theorem t_add {a b : Int32} (h : -2147483648 ≤ a.toInt + b.toInt ∧ a.toInt + b.toInt < 2147483648) : (a + b).toInt = a.toInt + b.toInt := by rw [Int32.toInt_add, bm h.1 h.2]
theorem t_sub {a b : Int32} (h : -2147483648 ≤ a.toInt - b.toInt ∧ a.toInt - b.toInt < 2147483648) : (a - b).toInt = a.toInt - b.toInt := by rw [Int32.toInt_sub, bm h.1 h.2]
theorem t_mul {a b : Int32} (h : -2147483648 ≤ a.toInt * b.toInt ∧ a.toInt * b.toInt < 2147483648) : (a * b).toInt = a.toInt * b.toInt := by rw [Int32.toInt_mul, bm h.1 h.2]
theorem t_neg {a : Int32} (h : a.toInt ≠ -2147483648) : (-a).toInt = -a.toInt := by
  have := t_rng a
  rw [Int32.toInt_neg, bm (by omega) (by omega)]
theorem rg_nat {x : Int32} {hi : Int} (h : rg x 0 hi = true) : ∃ r : Nat, (r : Int) ≤ hi ∧ r < 2147483648 ∧ x = nI r := by
  obtain ⟨h1, h2⟩ := rg_t.mp h
  obtain ⟨j, hj, e⟩ := nI_of (x := x) (by rw [t_lt]; show ¬ x.toInt < 0; omega)
  refine ⟨j, ?_, hj, e⟩
  rw [e, nI_toInt hj] at h2
  exact h2
theorem rg_nI {r : Nat} {hi : Int} (h : (r : Int) ≤ hi) (h2 : r < 2147483648) : rg (nI r) 0 hi = true := by
  rw [rg_t, nI_toInt h2]; omega
theorem nI_mul (a b : Nat) : nI a * nI b = nI (a * b) := (Int32.ofNat_mul a b).symm
theorem nI_sub1 {a : Nat} (h : 0 < a) : nI a - 1 = nI (a - 1) := by
  obtain ⟨k, rfl⟩ : ∃ k, a = k + 1 := ⟨a - 1, by omega⟩
  exact nI_pred k
theorem hI_setI_ne {S : hp} {a k b : Nat} {v : Int32} (h : b ≠ a) : hI (setI S a k v) b = hI S b := by
  funext j; rw [hI_setI, if_neg (fun q => h q.1)]
theorem hR_setR_ne {S : hp} {a k b : Nat} {v : Option Nat} (h : b ≠ a) : hR (setR S a k v) b = hR S b := by
  funext j; rw [hR_setR, if_neg (fun q => h q.1)]
theorem hI_cpyI_ne {S : hp} {a d sp dp n b : Nat} (h : b ≠ d) : hI (cpyI S a d sp dp n) b = hI S b := by
  funext j; rw [hI_cpyI, if_neg (fun q => h q.1)]
/-- the kinds and lengths of the fifty cells that the two constructors make, and their references -/
def kk (a : Nat) : Nat := match a with
  | 0 => 10
  | 1 => 5
  | 2 => 16
  | 3 => 12
  | 4 => 12
  | 5 => 12
  | 6 => 12
  | 7 => 12
  | 8 => 12
  | 9 => 12
  | 10 => 12
  | 11 => 12
  | 12 => 12
  | 13 => 13
  | 14 => 8
  | 15 => 12
  | 16 => 7
  | 17 => 12
  | 18 => 12
  | 19 => 12
  | 20 => 14
  | 21 => 12
  | 22 => 7
  | 23 => 12
  | 24 => 12
  | 25 => 12
  | 26 => 14
  | 27 => 12
  | 28 => 2
  | 29 => 12
  | 30 => 12
  | 31 => 0
  | 32 => 12
  | 33 => 15
  | 34 => 15
  | 35 => 11
  | 36 => 12
  | 37 => 12
  | 38 => 12
  | 39 => 12
  | 40 => 12
  | 41 => 12
  | 42 => 12
  | 43 => 12
  | 44 => 13
  | 45 => 12
  | 46 => 12
  | 47 => 12
  | 48 => 12
  | 49 => 12
  | _ => 99
def nn (a : Nat) : Nat := match a with
  | 2 => 8
  | 3 => 40
  | 4 => 40
  | 5 => 40
  | 6 => 40
  | 7 => 40
  | 8 => 40
  | 9 => 40
  | 10 => 40
  | 11 => 8
  | 12 => 8
  | 13 => 8
  | 15 => 140
  | 17 => 12
  | 18 => 12
  | 19 => 12
  | 20 => 5
  | 21 => 96
  | 23 => 12
  | 24 => 12
  | 25 => 12
  | 26 => 5
  | 27 => 96
  | 29 => 15
  | 30 => 16
  | 32 => 16
  | 33 => 2
  | 34 => 24
  | 36 => 8
  | 37 => 8
  | 38 => 320
  | 39 => 147
  | 40 => 147
  | 41 => 3528
  | 42 => 140
  | 43 => 12
  | 44 => 2
  | 45 => 294
  | 46 => 4
  | 47 => 4
  | 48 => 4
  | 49 => 16
  | _ => 0
def rl : List (Nat × Nat × Nat) := [(0, 0, 1), (0, 1, 14), (0, 2, 16), (0, 3, 22), (0, 4, 28), (0, 5, 31), (0, 6, 33), (0, 7, 34), (1, 0, 2), (1, 1, 11), (1, 2, 12), (1, 3, 13), (2, 0, 3), (2, 1, 4), (2, 2, 5), (2, 3, 6), (2, 4, 7), (2, 5, 8), (2, 6, 9), (2, 7, 10), (14, 0, 15), (16, 0, 17), (16, 1, 18), (16, 2, 19), (16, 3, 20), (16, 4, 21), (22, 0, 23), (22, 1, 24), (22, 2, 25), (22, 3, 26), (22, 4, 27), (28, 0, 29), (28, 1, 30), (31, 0, 32), (35, 2, 36), (35, 3, 37), (35, 4, 38), (35, 5, 39), (35, 6, 40), (35, 7, 41), (35, 9, 42), (35, 18, 43), (35, 19, 44), (35, 20, 45), (35, 21, 46), (35, 22, 47), (35, 23, 48), (35, 24, 49)]
def Lay (S : hp) : Prop := (∀ a, a < 50 → hK S a = kk a ∧ hN S a = nn a) ∧ (∀ q ∈ rl, hR S q.1 q.2.1 = some q.2.2) ∧ 50 ≤ hC S
theorem Lay.eqs {S : hp} (h : Lay S) : hK S 0 = 10 ∧ hK S 1 = 5 ∧ hK S 2 = 16 ∧ hK S 3 = 12 ∧ hK S 4 = 12 ∧ hK S 5 = 12 ∧ hK S 6 = 12 ∧ hK S 7 = 12 ∧ hK S 8 = 12 ∧ hK S 9 = 12 ∧ hK S 10 = 12 ∧ hK S 11 = 12 ∧ hK S 12 = 12 ∧ hK S 13 = 13 ∧ hK S 14 = 8 ∧ hK S 15 = 12 ∧ hK S 16 = 7 ∧ hK S 17 = 12 ∧ hK S 18 = 12 ∧ hK S 19 = 12 ∧ hK S 20 = 14 ∧ hK S 21 = 12 ∧ hK S 22 = 7 ∧ hK S 23 = 12 ∧ hK S 24 = 12 ∧ hK S 25 = 12 ∧ hK S 26 = 14 ∧ hK S 27 = 12 ∧ hK S 28 = 2 ∧ hK S 29 = 12 ∧ hK S 30 = 12 ∧ hK S 31 = 0 ∧ hK S 32 = 12 ∧ hK S 33 = 15 ∧ hK S 34 = 15 ∧ hK S 35 = 11 ∧ hK S 36 = 12 ∧ hK S 37 = 12 ∧ hK S 38 = 12 ∧ hK S 39 = 12 ∧ hK S 40 = 12 ∧ hK S 41 = 12 ∧ hK S 42 = 12 ∧ hK S 43 = 12 ∧ hK S 44 = 13 ∧ hK S 45 = 12 ∧ hK S 46 = 12 ∧ hK S 47 = 12 ∧ hK S 48 = 12 ∧ hK S 49 = 12 ∧ hN S 2 = 8 ∧ hN S 3 = 40 ∧ hN S 4 = 40 ∧ hN S 5 = 40 ∧ hN S 6 = 40 ∧ hN S 7 = 40 ∧ hN S 8 = 40 ∧ hN S 9 = 40 ∧ hN S 10 = 40 ∧ hN S 11 = 8 ∧ hN S 12 = 8 ∧ hN S 13 = 8 ∧ hN S 15 = 140 ∧ hN S 17 = 12 ∧ hN S 18 = 12 ∧ hN S 19 = 12 ∧ hN S 20 = 5 ∧ hN S 21 = 96 ∧ hN S 23 = 12 ∧ hN S 24 = 12 ∧ hN S 25 = 12 ∧ hN S 26 = 5 ∧ hN S 27 = 96 ∧ hN S 29 = 15 ∧ hN S 30 = 16 ∧ hN S 32 = 16 ∧ hN S 33 = 2 ∧ hN S 34 = 24 ∧ hN S 36 = 8 ∧ hN S 37 = 8 ∧ hN S 38 = 320 ∧ hN S 39 = 147 ∧ hN S 40 = 147 ∧ hN S 41 = 3528 ∧ hN S 42 = 140 ∧ hN S 43 = 12 ∧ hN S 44 = 2 ∧ hN S 45 = 294 ∧ hN S 46 = 4 ∧ hN S 47 = 4 ∧ hN S 48 = 4 ∧ hN S 49 = 16 ∧ hR S 0 0 = some 1 ∧ hR S 0 1 = some 14 ∧ hR S 0 2 = some 16 ∧ hR S 0 3 = some 22 ∧ hR S 0 4 = some 28 ∧ hR S 0 5 = some 31 ∧ hR S 0 6 = some 33 ∧ hR S 0 7 = some 34 ∧ hR S 1 0 = some 2 ∧ hR S 1 1 = some 11 ∧ hR S 1 2 = some 12 ∧ hR S 1 3 = some 13 ∧ hR S 2 0 = some 3 ∧ hR S 2 1 = some 4 ∧ hR S 2 2 = some 5 ∧ hR S 2 3 = some 6 ∧ hR S 2 4 = some 7 ∧ hR S 2 5 = some 8 ∧ hR S 2 6 = some 9 ∧ hR S 2 7 = some 10 ∧ hR S 14 0 = some 15 ∧ hR S 16 0 = some 17 ∧ hR S 16 1 = some 18 ∧ hR S 16 2 = some 19 ∧ hR S 16 3 = some 20 ∧ hR S 16 4 = some 21 ∧ hR S 22 0 = some 23 ∧ hR S 22 1 = some 24 ∧ hR S 22 2 = some 25 ∧ hR S 22 3 = some 26 ∧ hR S 22 4 = some 27 ∧ hR S 28 0 = some 29 ∧ hR S 28 1 = some 30 ∧ hR S 31 0 = some 32 ∧ hR S 35 2 = some 36 ∧ hR S 35 3 = some 37 ∧ hR S 35 4 = some 38 ∧ hR S 35 5 = some 39 ∧ hR S 35 6 = some 40 ∧ hR S 35 7 = some 41 ∧ hR S 35 9 = some 42 ∧ hR S 35 18 = some 43 ∧ hR S 35 19 = some 44 ∧ hR S 35 20 = some 45 ∧ hR S 35 21 = some 46 ∧ hR S 35 22 = some 47 ∧ hR S 35 23 = some 48 ∧ hR S 35 24 = some 49 :=
  ⟨(h.1 0 (by decide)).1, (h.1 1 (by decide)).1, (h.1 2 (by decide)).1, (h.1 3 (by decide)).1, (h.1 4 (by decide)).1, (h.1 5 (by decide)).1, (h.1 6 (by decide)).1, (h.1 7 (by decide)).1, (h.1 8 (by decide)).1, (h.1 9 (by decide)).1, (h.1 10 (by decide)).1, (h.1 11 (by decide)).1, (h.1 12 (by decide)).1, (h.1 13 (by decide)).1, (h.1 14 (by decide)).1, (h.1 15 (by decide)).1, (h.1 16 (by decide)).1, (h.1 17 (by decide)).1, (h.1 18 (by decide)).1, (h.1 19 (by decide)).1, (h.1 20 (by decide)).1, (h.1 21 (by decide)).1, (h.1 22 (by decide)).1, (h.1 23 (by decide)).1, (h.1 24 (by decide)).1, (h.1 25 (by decide)).1, (h.1 26 (by decide)).1, (h.1 27 (by decide)).1, (h.1 28 (by decide)).1, (h.1 29 (by decide)).1, (h.1 30 (by decide)).1, (h.1 31 (by decide)).1, (h.1 32 (by decide)).1, (h.1 33 (by decide)).1, (h.1 34 (by decide)).1, (h.1 35 (by decide)).1, (h.1 36 (by decide)).1, (h.1 37 (by decide)).1, (h.1 38 (by decide)).1, (h.1 39 (by decide)).1, (h.1 40 (by decide)).1, (h.1 41 (by decide)).1, (h.1 42 (by decide)).1, (h.1 43 (by decide)).1, (h.1 44 (by decide)).1, (h.1 45 (by decide)).1, (h.1 46 (by decide)).1, (h.1 47 (by decide)).1, (h.1 48 (by decide)).1, (h.1 49 (by decide)).1, (h.1 2 (by decide)).2, (h.1 3 (by decide)).2, (h.1 4 (by decide)).2, (h.1 5 (by decide)).2, (h.1 6 (by decide)).2, (h.1 7 (by decide)).2, (h.1 8 (by decide)).2, (h.1 9 (by decide)).2, (h.1 10 (by decide)).2, (h.1 11 (by decide)).2, (h.1 12 (by decide)).2, (h.1 13 (by decide)).2, (h.1 15 (by decide)).2, (h.1 17 (by decide)).2, (h.1 18 (by decide)).2, (h.1 19 (by decide)).2, (h.1 20 (by decide)).2, (h.1 21 (by decide)).2, (h.1 23 (by decide)).2, (h.1 24 (by decide)).2, (h.1 25 (by decide)).2, (h.1 26 (by decide)).2, (h.1 27 (by decide)).2, (h.1 29 (by decide)).2, (h.1 30 (by decide)).2, (h.1 32 (by decide)).2, (h.1 33 (by decide)).2, (h.1 34 (by decide)).2, (h.1 36 (by decide)).2, (h.1 37 (by decide)).2, (h.1 38 (by decide)).2, (h.1 39 (by decide)).2, (h.1 40 (by decide)).2, (h.1 41 (by decide)).2, (h.1 42 (by decide)).2, (h.1 43 (by decide)).2, (h.1 44 (by decide)).2, (h.1 45 (by decide)).2, (h.1 46 (by decide)).2, (h.1 47 (by decide)).2, (h.1 48 (by decide)).2, (h.1 49 (by decide)).2, h.2.1 _ (List.mem_of_getElem? (i := 0) rfl), h.2.1 _ (List.mem_of_getElem? (i := 1) rfl), h.2.1 _ (List.mem_of_getElem? (i := 2) rfl), h.2.1 _ (List.mem_of_getElem? (i := 3) rfl), h.2.1 _ (List.mem_of_getElem? (i := 4) rfl), h.2.1 _ (List.mem_of_getElem? (i := 5) rfl), h.2.1 _ (List.mem_of_getElem? (i := 6) rfl), h.2.1 _ (List.mem_of_getElem? (i := 7) rfl), h.2.1 _ (List.mem_of_getElem? (i := 8) rfl), h.2.1 _ (List.mem_of_getElem? (i := 9) rfl), h.2.1 _ (List.mem_of_getElem? (i := 10) rfl), h.2.1 _ (List.mem_of_getElem? (i := 11) rfl), h.2.1 _ (List.mem_of_getElem? (i := 12) rfl), h.2.1 _ (List.mem_of_getElem? (i := 13) rfl), h.2.1 _ (List.mem_of_getElem? (i := 14) rfl), h.2.1 _ (List.mem_of_getElem? (i := 15) rfl), h.2.1 _ (List.mem_of_getElem? (i := 16) rfl), h.2.1 _ (List.mem_of_getElem? (i := 17) rfl), h.2.1 _ (List.mem_of_getElem? (i := 18) rfl), h.2.1 _ (List.mem_of_getElem? (i := 19) rfl), h.2.1 _ (List.mem_of_getElem? (i := 20) rfl), h.2.1 _ (List.mem_of_getElem? (i := 21) rfl), h.2.1 _ (List.mem_of_getElem? (i := 22) rfl), h.2.1 _ (List.mem_of_getElem? (i := 23) rfl), h.2.1 _ (List.mem_of_getElem? (i := 24) rfl), h.2.1 _ (List.mem_of_getElem? (i := 25) rfl), h.2.1 _ (List.mem_of_getElem? (i := 26) rfl), h.2.1 _ (List.mem_of_getElem? (i := 27) rfl), h.2.1 _ (List.mem_of_getElem? (i := 28) rfl), h.2.1 _ (List.mem_of_getElem? (i := 29) rfl), h.2.1 _ (List.mem_of_getElem? (i := 30) rfl), h.2.1 _ (List.mem_of_getElem? (i := 31) rfl), h.2.1 _ (List.mem_of_getElem? (i := 32) rfl), h.2.1 _ (List.mem_of_getElem? (i := 33) rfl), h.2.1 _ (List.mem_of_getElem? (i := 34) rfl), h.2.1 _ (List.mem_of_getElem? (i := 35) rfl), h.2.1 _ (List.mem_of_getElem? (i := 36) rfl), h.2.1 _ (List.mem_of_getElem? (i := 37) rfl), h.2.1 _ (List.mem_of_getElem? (i := 38) rfl), h.2.1 _ (List.mem_of_getElem? (i := 39) rfl), h.2.1 _ (List.mem_of_getElem? (i := 40) rfl), h.2.1 _ (List.mem_of_getElem? (i := 41) rfl), h.2.1 _ (List.mem_of_getElem? (i := 42) rfl), h.2.1 _ (List.mem_of_getElem? (i := 43) rfl), h.2.1 _ (List.mem_of_getElem? (i := 44) rfl), h.2.1 _ (List.mem_of_getElem? (i := 45) rfl), h.2.1 _ (List.mem_of_getElem? (i := 46) rfl), h.2.1 _ (List.mem_of_getElem? (i := 47) rfl)⟩
/-- a whole row of numbers put in place -/
def putA (S : hp) (a : Nat) (g : Nat → Int32) : hp := (S.1, S.2.1, S.2.2.1, (fun b => if b = a then g else S.2.2.2.1 b), S.2.2.2.2)
theorem hC_putA (S : hp) (a : Nat) (g : Nat → Int32) : hC (putA S a g) = hC S := rfl
theorem hK_putA (S : hp) (a : Nat) (g : Nat → Int32) : hK (putA S a g) = hK S := rfl
theorem hN_putA (S : hp) (a : Nat) (g : Nat → Int32) : hN (putA S a g) = hN S := rfl
theorem hR_putA (S : hp) (a : Nat) (g : Nat → Int32) : hR (putA S a g) = hR S := rfl
theorem hI_putA (S : hp) (a : Nat) (g : Nat → Int32) (b : Nat) : hI (putA S a g) b = if b = a then g else hI S b := rfl
theorem hI_putA_s (S : hp) (a : Nat) (g : Nat → Int32) : hI (putA S a g) a = g := if_pos rfl
theorem hI_putA_ne {S : hp} {a b : Nat} {g : Nat → Int32} (h : b ≠ a) : hI (putA S a g) b = hI S b := if_neg h
theorem setI_putA (S : hp) (a k : Nat) (g : Nat → Int32) (v : Int32) : setI (putA S a g) a k v = putA S a (fun i => if i = k then v else g i) := by
  unfold setI putA
  simp only [Prod.mk.injEq, true_and, and_true]
  funext b j
  by_cases hb : b = a
  · simp [hb]
  · simp [hb]
theorem putA_self (S : hp) (a : Nat) : putA S a (hI S a) = S := by
  unfold putA hI
  obtain ⟨c, k, n, i, r⟩ := S
  simp only [Prod.mk.injEq, true_and, and_true]
  funext b
  by_cases hb : b = a
  · simp [hb]
  · simp [hb]
theorem setI_asA (S : hp) (a k : Nat) (v : Int32) : setI S a k v = putA S a (fun i => if i = k then v else hI S a i) := by
  rw [← setI_putA, putA_self]
theorem putA_putA (S : hp) (a : Nat) (g g2 : Nat → Int32) : putA (putA S a g) a g2 = putA S a g2 := by
  unfold putA
  simp only [Prod.mk.injEq, true_and, and_true]
  funext b
  by_cases hb : b = a
  · simp [hb]
  · simp [hb]
theorem cpyI_asA (S : hp) (a d sp dp n : Nat) : cpyI S a d sp dp n = putA S d (fun j => if dp ≤ j ∧ j < dp + n then hI S a (sp + (j - dp)) else hI S d j) := by
  unfold cpyI putA hI
  simp only [Prod.mk.injEq, true_and, and_true]
  funext b j
  by_cases hb : b = d
  · simp [hb]
  · simp [hb]
theorem Lay_putA (S : hp) (a : Nat) (g : Nat → Int32) : Lay (putA S a g) = Lay S := rfl
theorem Lay_setI (S : hp) (a k : Nat) (v : Int32) : Lay (setI S a k v) = Lay S := rfl
theorem Lay_cpyI (S : hp) (a d sp dp n : Nat) : Lay (cpyI S a d sp dp n) = Lay S := rfl
/-- a step that grows the heap, and changes old cells but those outside P -/
def Fr (P : Nat → Prop) (S S' : hp) : Prop := hC S ≤ hC S' ∧ (∀ b, b < hC S → hK S' b = hK S b ∧ hN S' b = hN S b) ∧ ∀ b, b < hC S → ¬ P b → hI S' b = hI S b ∧ hR S' b = hR S b
theorem Fr.rfl' {P : Nat → Prop} {S : hp} : Fr P S S := ⟨Nat.le_refl _, fun _ _ => ⟨rfl, rfl⟩, fun _ _ _ => ⟨rfl, rfl⟩⟩
theorem Fr.tr {P P2 : Nat → Prop} {S S1 S2 : hp} (h : Fr P S S1) (h2 : Fr P2 S1 S2) : Fr (fun b => P b ∨ P2 b) S S2 :=
  ⟨Nat.le_trans h.1 h2.1, fun b hb => ⟨((h2.2.1 b (Nat.lt_of_lt_of_le hb h.1)).1).trans (h.2.1 b hb).1, ((h2.2.1 b (Nat.lt_of_lt_of_le hb h.1)).2).trans (h.2.1 b hb).2⟩,
   fun b hb hp => ⟨((h2.2.2 b (Nat.lt_of_lt_of_le hb h.1) (fun q => hp (Or.inr q))).1).trans (h.2.2 b hb (fun q => hp (Or.inl q))).1, ((h2.2.2 b (Nat.lt_of_lt_of_le hb h.1) (fun q => hp (Or.inr q))).2).trans (h.2.2 b hb (fun q => hp (Or.inl q))).2⟩⟩
theorem Fr.mono {P P2 : Nat → Prop} {S S1 : hp} (h : Fr P S S1) (hp : ∀ b, P b → P2 b) : Fr P2 S S1 := ⟨h.1, h.2.1, fun b hb h2 => h.2.2 b hb (fun q => h2 (hp b q))⟩
theorem Fr.setI {P : Nat → Prop} {S S1 : hp} {a k : Nat} {v : Int32} (h : Fr P S S1) (ha : P a) : Fr P S (setI S1 a k v) :=
  ⟨h.1, h.2.1, fun b hb hp => ⟨by rw [hI_setI_ne (b := b) (a := a) (fun e => hp (e ▸ ha))]; exact (h.2.2 b hb hp).1, (h.2.2 b hb hp).2⟩⟩
theorem Fr.setR {P : Nat → Prop} {S S1 : hp} {a k : Nat} {v : Option Nat} (h : Fr P S S1) (ha : P a) : Fr P S (setR S1 a k v) :=
  ⟨h.1, h.2.1, fun b hb hp => ⟨(h.2.2 b hb hp).1, by rw [hR_setR_ne (b := b) (a := a) (fun e => hp (e ▸ ha))]; exact (h.2.2 b hb hp).2⟩⟩
theorem Fr.cpyI {P : Nat → Prop} {S S1 : hp} {a d sp dp n : Nat} (h : Fr P S S1) (ha : P d) : Fr P S (cpyI S1 a d sp dp n) :=
  ⟨h.1, h.2.1, fun b hb hp => ⟨by rw [hI_cpyI_ne (b := b) (d := d) (fun e => hp (e ▸ ha))]; exact (h.2.2 b hb hp).1, (h.2.2 b hb hp).2⟩⟩
theorem Fr.putA {P : Nat → Prop} {S S1 : hp} {a : Nat} {g : Nat → Int32} (h : Fr P S S1) (ha : P a) : Fr P S (putA S1 a g) :=
  ⟨h.1, h.2.1, fun b hb hp => ⟨by rw [hI_putA_ne (b := b) (a := a) (fun e => hp (e ▸ ha))]; exact (h.2.2 b hb hp).1, (h.2.2 b hb hp).2⟩⟩
theorem Fr.newC {P : Nat → Prop} {S S1 : hp} {kd n : Nat} (h : Fr P S S1) : Fr P S (newC S1 kd n) := by
  have hne : ∀ b, b < hC S → b ≠ hC S1 := fun b hb => by have := h.1; omega
  refine ⟨by rw [hC_newC]; have := h.1; omega, fun b hb => ?_, fun b hb hp => ⟨?_, ?_⟩⟩
  · rw [hK_newC, hN_newC, if_neg (hne b hb), if_neg (hne b hb)]; exact h.2.1 b hb
  · funext j; rw [hI_newC, if_neg (hne b hb), (h.2.2 b hb hp).1]
  · funext j; rw [hR_newC, if_neg (hne b hb), (h.2.2 b hb hp).2]
/-- which cells have their references for good -/
def statR (b : Nat) : Prop := b < 50 ∧ b ≠ 20 ∧ b ≠ 26 ∧ b ≠ 33 ∧ b ≠ 34
theorem rl_stat : ∀ q ∈ rl, statR q.1 := by unfold statR; decide
theorem Lay.fr {P : Nat → Prop} {S S' : hp} (hL : Lay S) (h : Fr P S S') (hp : ∀ b, b < 50 → statR b → hR S' b = hR S b) : Lay S' := by
  refine ⟨fun a ha => ?_, fun q hq => ?_, Nat.le_trans hL.2.2 h.1⟩
  · have := h.2.1 a (Nat.lt_of_lt_of_le ha hL.2.2)
    rw [this.1, this.2]; exact hL.1 a ha
  · rw [hp q.1 (rl_stat q hq).1 (rl_stat q hq)]; exact hL.2.1 q hq
/-! small methods, by their answers -/
theorem e_in {Q : Int32 → hp → Prop} {S : hp} {x : Int32} {y z : Int64} : wp_X12_in Q S x.toInt64 y z ↔ Q (bI (rg x y.toInt z.toInt)) S := by
  have c : ∀ a b : Int64, (lg_cmp a b < 0 ↔ a.toInt < b.toInt) ∧ (0 < lg_cmp a b ↔ b.toInt < a.toInt) := by
    intro a b
    unfold lg_cmp
    by_cases h : a > b
    · rw [if_pos h]
      have h' : b.toInt < a.toInt := Int64.lt_iff_toInt_lt.mp h
      exact ⟨⟨fun q => absurd q (by decide), fun q => by omega⟩, ⟨fun _ => h', fun _ => by decide⟩⟩
    · rw [if_neg h]
      have h' : ¬ b.toInt < a.toInt := fun q => h (Int64.lt_iff_toInt_lt.mpr q)
      by_cases h2 : a = b
      · rw [if_pos h2]; subst h2
        exact ⟨⟨fun q => absurd q (by decide), fun q => by omega⟩, ⟨fun q => absurd q (by decide), fun q => by omega⟩⟩
      · rw [if_neg h2]
        have h3 : ¬ a.toInt = b.toInt := fun q => h2 (Int64.toInt_inj.mp q)
        exact ⟨⟨fun _ => by omega, fun _ => by decide⟩, ⟨fun q => absurd q (by decide), fun q => by omega⟩⟩
  unfold wp_X12_in
  rw [propext (c x.toInt64 y).1, propext (c x.toInt64 z).2, Int32.toInt_toInt64]
  cases h : rg x y.toInt z.toInt with
  | true =>
    have := rg_t.mp h
    rw [bI_t]
    simp only [show ¬ x.toInt < y.toInt by omega, show ¬ z.toInt < x.toInt by omega, ↓reduceIte, Nat.reduceEqDiff, and_false, false_and, true_and, and_true, forall_eq, forall_eq', exists_eq_left, exists_eq_left', Option.some.injEq, eq_self_iff_true, not_true, not_false_iff, false_implies, true_implies, forall_const, reduceCtorEq, ne_eq]
  | false =>
    have := rg_f.mp h
    rw [bI_f]
    by_cases h1 : x.toInt < y.toInt
    · simp only [h1, ↓reduceIte, Nat.reduceEqDiff, and_false, false_and, true_and, and_true, forall_eq, forall_eq', exists_eq_left, exists_eq_left', Option.some.injEq, eq_self_iff_true, not_true, not_false_iff, false_implies, true_implies, forall_const, reduceCtorEq, ne_eq]
    · simp only [h1, show z.toInt < x.toInt by omega, ↓reduceIte, Nat.reduceEqDiff, and_false, false_and, true_and, and_true, forall_eq, forall_eq', exists_eq_left, exists_eq_left', Option.some.injEq, eq_self_iff_true, not_true, not_false_iff, false_implies, true_implies, forall_const, reduceCtorEq, ne_eq]
theorem e_isRowM {Q : Int32 → hp → Prop} {S : hp} {x : Int32} : wp_X12_isRow Q S x ↔ Q (bI (rg x 0 7)) S := by
  unfold wp_X12_isRow; simp only [e_in, bIz, l64_0, l64_1, l64_2, l64_5, l64_6, l64_7, l64_m1, l64_99, l64_m99, l64_255, l64_999, l64_m999, l64_297, l64_200, l64_m200, l64_97, l64_122, l64_48, l64_57, Int32.toInt_toInt64, ↓reduceIte, Nat.reduceEqDiff, and_false, false_and, true_and, and_true, forall_eq, forall_eq', exists_eq_left, exists_eq_left', Option.some.injEq, eq_self_iff_true, not_true, not_false_iff, false_implies, true_implies, forall_const, reduceCtorEq, ne_eq]
theorem e_isPlaceM {Q : Int32 → hp → Prop} {S : hp} {x : Int32} : wp_X12_isPlace Q S x ↔ Q (bI (rg x 0 2)) S := by
  unfold wp_X12_isPlace; simp only [e_in, bIz, l64_0, l64_1, l64_2, l64_5, l64_6, l64_7, l64_m1, l64_99, l64_m99, l64_255, l64_999, l64_m999, l64_297, l64_200, l64_m200, l64_97, l64_122, l64_48, l64_57, Int32.toInt_toInt64, ↓reduceIte, Nat.reduceEqDiff, and_false, false_and, true_and, and_true, forall_eq, forall_eq', exists_eq_left, exists_eq_left', Option.some.injEq, eq_self_iff_true, not_true, not_false_iff, false_implies, true_implies, forall_const, reduceCtorEq, ne_eq]
theorem e_isRow {Q : Int32 → hp → Prop} {S : hp} {x : Int32} : wp_X6_isRow Q S x ↔ Q (bI (rg x 0 7)) S := by
  unfold wp_X6_isRow
  simp only [t_lt, t_le, show (0 : Int32).toInt = 0 from rfl, show (8 : Int32).toInt = 8 from rfl]
  cases h : rg x 0 7 with
  | true => have := rg_t.mp h; simp only [show ¬ x.toInt < 0 by omega, show ¬ 8 ≤ x.toInt by omega, bI_t, ↓reduceIte, Nat.reduceEqDiff, and_false, false_and, true_and, and_true, forall_eq, forall_eq', exists_eq_left, exists_eq_left', Option.some.injEq, eq_self_iff_true, not_true, not_false_iff, false_implies, true_implies, forall_const, reduceCtorEq, ne_eq]
  | false =>
    have := rg_f.mp h
    by_cases h1 : x.toInt < 0
    · simp only [h1, bI_f, ↓reduceIte, Nat.reduceEqDiff, and_false, false_and, true_and, and_true, forall_eq, forall_eq', exists_eq_left, exists_eq_left', Option.some.injEq, eq_self_iff_true, not_true, not_false_iff, false_implies, true_implies, forall_const, reduceCtorEq, ne_eq]
    · simp only [h1, show 8 ≤ x.toInt by omega, bI_f, ↓reduceIte, Nat.reduceEqDiff, and_false, false_and, true_and, and_true, forall_eq, forall_eq', exists_eq_left, exists_eq_left', Option.some.injEq, eq_self_iff_true, not_true, not_false_iff, false_implies, true_implies, forall_const, reduceCtorEq, ne_eq]
theorem e_isLane {Q : Int32 → hp → Prop} {S : hp} {x : Int32} : wp_X6_isLane Q S x ↔ Q (bI (rg x 0 2)) S := by
  unfold wp_X6_isLane
  simp only [t_lt, t_le, show (0 : Int32).toInt = 0 from rfl, show (2 : Int32).toInt = 2 from rfl]
  cases h : rg x 0 2 with
  | true => have := rg_t.mp h; simp only [show ¬ x.toInt < 0 by omega, show ¬ 2 < x.toInt by omega, bI_t, ↓reduceIte, Nat.reduceEqDiff, and_false, false_and, true_and, and_true, forall_eq, forall_eq', exists_eq_left, exists_eq_left', Option.some.injEq, eq_self_iff_true, not_true, not_false_iff, false_implies, true_implies, forall_const, reduceCtorEq, ne_eq]
  | false =>
    have := rg_f.mp h
    by_cases h1 : x.toInt < 0
    · simp only [h1, bI_f, ↓reduceIte, Nat.reduceEqDiff, and_false, false_and, true_and, and_true, forall_eq, forall_eq', exists_eq_left, exists_eq_left', Option.some.injEq, eq_self_iff_true, not_true, not_false_iff, false_implies, true_implies, forall_const, reduceCtorEq, ne_eq]
    · simp only [h1, show 2 < x.toInt by omega, bI_f, ↓reduceIte, Nat.reduceEqDiff, and_false, false_and, true_and, and_true, forall_eq, forall_eq', exists_eq_left, exists_eq_left', Option.some.injEq, eq_self_iff_true, not_true, not_false_iff, false_implies, true_implies, forall_const, reduceCtorEq, ne_eq]
