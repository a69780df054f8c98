/-- a word of bits -/
def mk2 (f : Nat → Bool) : Nat → Nat
  | 0 => 0
  | n + 1 => mk2 f n + (if f n = true then 2 ^ n else 0)
theorem mk2_lt (f : Nat → Bool) : ∀ n, mk2 f n < 2 ^ n
  | 0 => by show 0 < 1; omega
  | n + 1 => by
    have ih := mk2_lt f n
    show mk2 f n + (if f n = true then 2 ^ n else 0) < 2 ^ (n + 1)
    rw [Nat.pow_succ]
    by_cases c : f n = true
    · rw [if_pos c]; omega
    · rw [if_neg c]; omega
theorem mk2_bit (f : Nat → Bool) : ∀ n k, (mk2 f n / 2 ^ k % 2 = 1) ↔ (k < n ∧ f k = true)
  | 0, k => by
    show (0 / 2 ^ k % 2 = 1) ↔ _
    rw [Nat.zero_div]; omega
  | n + 1, k => by
    have ih := mk2_bit f n k
    have hl := mk2_lt f n
    show ((mk2 f n + (if f n = true then 2 ^ n else 0)) / 2 ^ k % 2 = 1) ↔ _
    by_cases c : f n = true
    · rw [if_pos c]
      by_cases q : k < n
      · have e : 2 ^ n = 2 ^ k * (2 * 2 ^ (n - k - 1)) := by
          rw [← Nat.mul_assoc, ← Nat.pow_succ, ← Nat.pow_add]; congr 1; omega
        rw [e, Nat.add_mul_div_left _ _ (Nat.two_pow_pos k), Nat.add_mul_mod_self_left, ih]
        exact ⟨fun z => ⟨by omega, z.2⟩, fun z => ⟨q, z.2⟩⟩
      · by_cases q2 : k = n
        · subst q2
          rw [Nat.add_div_right _ (Nat.two_pow_pos k), Nat.div_eq_of_lt hl]
          exact ⟨fun _ => ⟨by omega, c⟩, fun _ => rfl⟩
        · have h2 : mk2 f n + 2 ^ n < 2 ^ k := Nat.lt_of_lt_of_le (show mk2 f n + 2 ^ n < 2 ^ (n + 1) by rw [Nat.pow_succ]; omega) (Nat.pow_le_pow_right (by omega) (by omega))
          rw [Nat.div_eq_of_lt h2]; omega
    · rw [if_neg c, Nat.add_zero, ih]
      constructor
      · intro z; exact ⟨by omega, z.2⟩
      · intro z
        refine ⟨?_, z.2⟩
        by_cases q2 : k = n
        · subst q2; exact absurd z.2 c
        · omega
theorem sh1 : ∀ s, s < 32 → (1 : Int32) <<< (nI s &&& 31) = nI (2 ^ s) := by decide
theorem nI_or (a b : Nat) : nI a ||| nI b = nI (a ||| b) := by
  unfold nI
  apply Int32.toBitVec_inj.mp
  rw [Int32.toBitVec_or, Int32.toBitVec_ofNat', Int32.toBitVec_ofNat', Int32.toBitVec_ofNat', BitVec.ofNat_or]
theorem mk2_or {f : Nat → Bool} {n : Nat} (h : n < 32) (c : f n = true) : nI (mk2 f n) ||| (1 : Int32) <<< (nI n &&& 31) = nI (mk2 f (n + 1)) := by
  rw [sh1 n h, nI_or, Nat.or_comm]
  have := Nat.two_pow_add_eq_or_of_lt (mk2_lt f n) 1
  rw [Nat.mul_one] at this
  rw [← this]
  show nI _ = nI (mk2 f n + (if f n = true then 2 ^ n else 0))
  rw [if_pos c, Nat.add_comm]
theorem has32 {M s : Nat} (hM : M < 2 ^ 32) (hs : s < 32) : ((((nI M).toUInt32 >>> ((nI s).toUInt32 &&& Int32.toUInt32 31)).toInt32 &&& (1 : Int32)) = (1 : Int32)) ↔ M / 2 ^ s % 2 = 1 := by
  have e1 : (nI s).toUInt32 &&& Int32.toUInt32 31 = UInt32.ofNat s := by
    have : ∀ s, s < 32 → (nI s).toUInt32 &&& Int32.toUInt32 31 = UInt32.ofNat s := by decide
    exact this s hs
  have e2 : (nI M).toUInt32 = UInt32.ofNat M := rfl
  rw [e1, e2]
  have e3 : (UInt32.ofNat M >>> UInt32.ofNat s) = UInt32.ofNat (M / 2 ^ s) := by
    apply UInt32.toNat_inj.mp
    rw [UInt32.toNat_shiftRight, UInt32.toNat_ofNat', UInt32.toNat_ofNat', UInt32.toNat_ofNat', Nat.mod_eq_of_lt hM, Nat.mod_eq_of_lt (show s < 2 ^ 32 by omega), Nat.mod_eq_of_lt hs, Nat.shiftRight_eq_div_pow]
    exact (Nat.mod_eq_of_lt (Nat.lt_of_le_of_lt (Nat.div_le_self _ _) hM)).symm
  rw [e3]
  have hK : M / 2 ^ s < 2 ^ 32 := Nat.lt_of_le_of_lt (Nat.div_le_self _ _) hM
  generalize M / 2 ^ s = K at hK
  have e4 : ((UInt32.ofNat K).toInt32 &&& (1 : Int32)) = nI (K % 2) := by
    apply Int32.toBitVec_inj.mp
    rw [Int32.toBitVec_and]
    apply BitVec.eq_of_toNat_eq
    rw [BitVec.toNat_and]
    show (K % 2 ^ 32) &&& 1 = (K % 2) % 2 ^ 32
    rw [Nat.and_one_is_mod]
    omega
  rw [e4]
  have : K % 2 = 0 ∨ K % 2 = 1 := by omega
  rcases this with q | q
  · rw [q]; decide
  · rw [q]; decide
theorem and_sp {h a k m : Nat} (ha : a < 256) (hm : m < 256) : (256 * h + a) &&& (256 * k + m) = 256 * (h &&& k) + (a &&& m) := by
  have e1 : ((256 * h + a) &&& (256 * k + m)) / 2 ^ 8 = (256 * h + a) / 2 ^ 8 &&& (256 * k + m) / 2 ^ 8 := Nat.and_div_two_pow
  have e2 : ((256 * h + a) &&& (256 * k + m)) % 2 ^ 8 = (256 * h + a) % 2 ^ 8 &&& (256 * k + m) % 2 ^ 8 := Nat.and_mod_two_pow
  rw [show (256 * h + a) / 2 ^ 8 = h by omega, show (256 * k + m) / 2 ^ 8 = k by omega] at e1
  rw [show (256 * h + a) % 2 ^ 8 = a by omega, show (256 * k + m) % 2 ^ 8 = m by omega] at e2
  rw [← e1, ← e2]
  omega
def w4 (a b c d : Nat) : Nat := 256 * (256 * (256 * d + c) + b) + a
theorem and4 {a b c d m : Nat} (ha : a < 256) (hb : b < 256) (hc : c < 256) (hm : m < 256) : w4 a b c d &&& w4 m m m m = w4 (a &&& m) (b &&& m) (c &&& m) (d &&& m) := by
  unfold w4
  rw [and_sp ha hm, and_sp hb hm, and_sp hc hm]
def S1 (a : Nat) : Nat := a - (a / 2 &&& 85)
def S2 (a : Nat) : Nat := (S1 a &&& 51) + (S1 a / 4 &&& 51)
def S3 (a : Nat) : Nat := (S2 a + S2 a / 16) &&& 15
def pc8 (a : Nat) : Nat := a % 2 + a / 2 % 2 + a / 4 % 2 + a / 8 % 2 + a / 16 % 2 + a / 32 % 2 + a / 64 % 2 + a / 128 % 2
theorem D1 : ∀ a, a < 256 → ∀ t, t < 2 → (a / 2 + 128 * t) &&& 85 = a / 2 &&& 85 := by decide +kernel
theorem D2 : ∀ a, a < 256 → (a / 2 &&& 85) ≤ a ∧ S1 a < 256 ∧ S2 a ≤ 68 ∧ S2 a % 16 ≤ 4 ∧ S3 a = pc8 a ∧ pc8 a ≤ 8 := by decide +kernel
theorem D3 : ∀ a, a < 256 → ∀ t, t < 4 → (a / 4 + 64 * t) &&& 51 = a / 4 &&& 51 := by decide +kernel
theorem D4 : ∀ a, a ≤ 68 → ∀ t, t ≤ 4 → (a + a / 16 + 16 * t) &&& 15 = (a + a / 16) &&& 15 := by decide +kernel
def nN (x : Int32) : Nat := x.toBitVec.toNat
theorem nN_nI {M : Nat} (h : M < 2 ^ 32) : nN (nI M) = M := by
  show M % 2 ^ 32 = M
  omega
theorem nN_inj {x y : Int32} (h : nN x = nN y) : x = y := Int32.toBitVec_inj.mp (BitVec.eq_of_toNat_eq h)
theorem nN_and (x y : Int32) : nN (x &&& y) = nN x &&& nN y := by unfold nN; rw [Int32.toBitVec_and, BitVec.toNat_and]
theorem nN_add {x y : Int32} (h : nN x + nN y < 2 ^ 32) : nN (x + y) = nN x + nN y := by
  unfold nN at *; rw [Int32.toBitVec_add, BitVec.toNat_add]; exact Nat.mod_eq_of_lt h
theorem nN_sub {x y : Int32} (h : nN y ≤ nN x) : nN (x - y) = nN x - nN y := by
  have h1 : nN x < 2 ^ 32 := x.toBitVec.isLt
  unfold nN at *; rw [Int32.toBitVec_sub, BitVec.toNat_sub]; omega
theorem nN_sh (x : Int32) (k : Int32) {n : Nat} (hk : k.toUInt32 &&& Int32.toUInt32 31 = UInt32.ofNat n) (hn : n < 32) : nN ((x.toUInt32 >>> (k.toUInt32 &&& Int32.toUInt32 31)).toInt32) = nN x / 2 ^ n := by
  rw [hk]
  show (x.toUInt32 >>> UInt32.ofNat n).toNat = x.toUInt32.toNat / 2 ^ n
  rw [UInt32.toNat_shiftRight, UInt32.toNat_ofNat', Nat.mod_eq_of_lt (show n < 2 ^ 32 by omega), Nat.mod_eq_of_lt hn, Nat.shiftRight_eq_div_pow]
theorem bc_w4 {a b c d : Nat} (ha : a < 256) (hb : b < 256) (hc : c < 256) (hd : d < 256) : bc (nI (w4 a b c d)) = nI (pc8 a + pc8 b + pc8 c + pc8 d) := by
  obtain ⟨a1, a2, a3, a4, a5, a6⟩ := D2 a ha
  obtain ⟨b1, b2, b3, b4, b5, b6⟩ := D2 b hb
  obtain ⟨c1, c2, c3, c4, c5, c6⟩ := D2 c hc
  obtain ⟨d1, d2, d3, d4, d5, d6⟩ := D2 d hd
  apply nN_inj
  unfold bc
  simp only []
  have k0 : nN (nI (w4 a b c d)) = w4 a b c d := nN_nI (by unfold w4; omega)
  generalize nI (w4 a b c d) = x at k0
  have k1 : nN (((x).toUInt32 >>> (((1 : Int32)).toUInt32 &&& Int32.toUInt32 31)).toInt32 &&& (1431655765 : Int32)) = w4 (a / 2 &&& 85) (b / 2 &&& 85) (c / 2 &&& 85) (d / 2 &&& 85) := by
    rw [nN_and, nN_sh x 1 (n := 1) rfl (by omega), k0, show nN (1431655765 : Int32) = w4 85 85 85 85 from rfl, show w4 a b c d / 2 ^ 1 = w4 (a / 2 + 128 * (b % 2)) (b / 2 + 128 * (c % 2)) (c / 2 + 128 * (d % 2)) (d / 2) by unfold w4; omega, and4 (by omega) (by omega) (by omega) (by omega), D1 a ha _ (by omega), D1 b hb _ (by omega), D1 c hc _ (by omega)]
  generalize ((x).toUInt32 >>> (((1 : Int32)).toUInt32 &&& Int32.toUInt32 31)).toInt32 &&& (1431655765 : Int32) = y at k1
  have k2 : nN (x - y) = w4 (S1 a) (S1 b) (S1 c) (S1 d) := by
    rw [nN_sub (by rw [k0, k1]; unfold w4; omega), k0, k1]; unfold w4 S1; omega
  generalize x - y = v1 at k2
  have k3 : nN (v1 &&& (858993459 : Int32)) = w4 (S1 a &&& 51) (S1 b &&& 51) (S1 c &&& 51) (S1 d &&& 51) := by
    rw [nN_and, k2, show nN (858993459 : Int32) = w4 51 51 51 51 from rfl, and4 a2 b2 c2 (by omega)]
  have k4 : nN (((v1).toUInt32 >>> (((2 : Int32)).toUInt32 &&& Int32.toUInt32 31)).toInt32 &&& (858993459 : Int32)) = w4 (S1 a / 4 &&& 51) (S1 b / 4 &&& 51) (S1 c / 4 &&& 51) (S1 d / 4 &&& 51) := by
    rw [nN_and, nN_sh v1 2 (n := 2) rfl (by omega), k2, show nN (858993459 : Int32) = w4 51 51 51 51 from rfl, show w4 (S1 a) (S1 b) (S1 c) (S1 d) / 2 ^ 2 = w4 (S1 a / 4 + 64 * (S1 b % 4)) (S1 b / 4 + 64 * (S1 c % 4)) (S1 c / 4 + 64 * (S1 d % 4)) (S1 d / 4) by unfold w4; omega, and4 (by omega) (by omega) (by omega) (by omega), D3 _ a2 _ (by omega), D3 _ b2 _ (by omega), D3 _ c2 _ (by omega)]
  generalize v1 &&& (858993459 : Int32) = y1 at k3
  generalize ((v1).toUInt32 >>> (((2 : Int32)).toUInt32 &&& Int32.toUInt32 31)).toInt32 &&& (858993459 : Int32) = y2 at k4
  have k5 : nN (y1 + y2) = w4 (S2 a) (S2 b) (S2 c) (S2 d) := by
    have : nN y1 + nN y2 = w4 (S2 a) (S2 b) (S2 c) (S2 d) := by rw [k3, k4]; unfold w4 S2; omega
    rw [nN_add (by rw [this]; unfold w4; omega), this]
  generalize y1 + y2 = v2 at k5
  have k6 : nN ((v2 + ((v2).toUInt32 >>> (((4 : Int32)).toUInt32 &&& Int32.toUInt32 31)).toInt32) &&& (252645135 : Int32)) = w4 (pc8 a) (pc8 b) (pc8 c) (pc8 d) := by
    have e : nN v2 + nN (((v2).toUInt32 >>> (((4 : Int32)).toUInt32 &&& Int32.toUInt32 31)).toInt32) = w4 (S2 a + S2 a / 16 + 16 * (S2 b % 16)) (S2 b + S2 b / 16 + 16 * (S2 c % 16)) (S2 c + S2 c / 16 + 16 * (S2 d % 16)) (S2 d + S2 d / 16) := by
      rw [nN_sh v2 4 (n := 4) rfl (by omega), k5]; unfold w4; omega
    rw [nN_and, nN_add (by rw [e]; unfold w4; omega), e, show nN (252645135 : Int32) = w4 15 15 15 15 from rfl, and4 (by omega) (by omega) (by omega) (by omega), D4 _ a3 _ b4, D4 _ b3 _ c4, D4 _ c3 _ d4, ← a5, ← b5, ← c5, ← d5]
    rfl
  generalize (v2 + ((v2).toUInt32 >>> (((4 : Int32)).toUInt32 &&& Int32.toUInt32 31)).toInt32) &&& (252645135 : Int32) = v3 at k6
  have k7 : nN (v3 + ((v3).toUInt32 >>> (((8 : Int32)).toUInt32 &&& Int32.toUInt32 31)).toInt32) = w4 (pc8 a + pc8 b) (pc8 b + pc8 c) (pc8 c + pc8 d) (pc8 d) := by
    have e : nN v3 + nN (((v3).toUInt32 >>> (((8 : Int32)).toUInt32 &&& Int32.toUInt32 31)).toInt32) = w4 (pc8 a + pc8 b) (pc8 b + pc8 c) (pc8 c + pc8 d) (pc8 d) := by
      rw [nN_sh v3 8 (n := 8) rfl (by omega), k6]; unfold w4; omega
    rw [nN_add (by rw [e]; unfold w4; omega), e]
  generalize v3 + ((v3).toUInt32 >>> (((8 : Int32)).toUInt32 &&& Int32.toUInt32 31)).toInt32 = v4 at k7
  have e : nN v4 + nN (((v4).toUInt32 >>> (((16 : Int32)).toUInt32 &&& Int32.toUInt32 31)).toInt32) = w4 (pc8 a + pc8 b + pc8 c + pc8 d) (pc8 b + pc8 c + pc8 d) (pc8 c + pc8 d) (pc8 d) := by
    rw [nN_sh v4 16 (n := 16) rfl (by omega), k7]; unfold w4; omega
  rw [nN_and, nN_add (by rw [e]; unfold w4; omega), e, show nN (63 : Int32) = 2 ^ 6 - 1 from rfl, Nat.and_two_pow_sub_one_eq_mod, nN_nI (by omega)]
  unfold w4
  omega
/-- how many of the first n, as a number -/
def nct (f : Nat → Bool) : Nat → Nat
  | 0 => 0
  | n + 1 => nct f n + (if f n = true then 1 else 0)
theorem ct_nct (f : Nat → Bool) : ∀ n, ct f n = nI (nct f n)
  | 0 => rfl
  | n + 1 => by
    show ct f n + bI (f n) = nI (nct f n + (if f n = true then 1 else 0))
    rw [ct_nct f n, ← nI_add]
    cases f n <;> rfl
theorem nct_le (f : Nat → Bool) : ∀ n, nct f n ≤ n
  | 0 => Nat.le_refl _
  | n + 1 => by
    have := nct_le f n
    show nct f n + (if f n = true then 1 else 0) ≤ n + 1
    by_cases c : f n = true
    · rw [if_pos c]; omega
    · rw [if_neg c]; omega
theorem nct_mono (f g : Nat → Bool) (h : ∀ k, f k = true → g k = true) : ∀ n, nct f n ≤ nct g n
  | 0 => Nat.le_refl _
  | n + 1 => by
    have := nct_mono f g h n
    show nct f n + (if f n = true then 1 else 0) ≤ nct g n + (if g n = true then 1 else 0)
    by_cases c : f n = true
    · rw [if_pos c, if_pos (h n c)]; omega
    · rw [if_neg c]; omega
theorem nct_cut {f g : Nat → Bool} {n : Nat} (h : ∀ k, g k = true ↔ (k < n ∧ f k = true)) : ∀ N, n ≤ N → nct g N = nct f n := by
  have h0 : ∀ k, k ≤ n → nct g k = nct f k := by
    intro k
    induction k with
    | zero => intro _; rfl
    | succ k ih =>
      intro hk
      show nct g k + (if g k = true then 1 else 0) = nct f k + (if f k = true then 1 else 0)
      rw [ih (by omega)]
      congr 1
      have := h k
      by_cases c : f k = true
      · rw [if_pos c, if_pos (this.mpr ⟨by omega, c⟩)]
      · rw [if_neg c, if_neg (fun z => c (this.mp z).2)]
  intro N
  induction N with
  | zero => intro hN; rw [h0 0 (by omega)]; congr 1; omega
  | succ N ih =>
    intro hN
    by_cases q : n ≤ N
    · show nct g N + (if g N = true then 1 else 0) = nct f n
      rw [ih q, if_neg (fun z => by have := (h N).mp z; omega)]; rfl
    · have : n = N + 1 := by omega
      subst this
      exact h0 _ (Nat.le_refl _)
theorem pc8_m (K : Nat) : pc8 (K % 256) = K % 2 + K / 2 % 2 + K / 4 % 2 + K / 8 % 2 + K / 16 % 2 + K / 32 % 2 + K / 64 % 2 + K / 128 % 2 := by
  unfold pc8
  rw [show K % 256 % 2 = K % 2 by omega, show K % 256 / 2 % 2 = K / 2 % 2 by omega, show K % 256 / 4 % 2 = K / 4 % 2 by omega, show K % 256 / 8 % 2 = K / 8 % 2 by omega, show K % 256 / 16 % 2 = K / 16 % 2 by omega, show K % 256 / 32 % 2 = K / 32 % 2 by omega, show K % 256 / 64 % 2 = K / 64 % 2 by omega, show K % 256 / 128 % 2 = K / 128 % 2 by omega]
theorem bc_bits {M : Nat} (h : M < 2 ^ 32) : bc (nI M) = nI (nct (fun k => decide (M / 2 ^ k % 2 = 1)) 32) := by
  have e : M = w4 (M % 256) (M / 256 % 256) (M / 65536 % 256) (M / 16777216 % 256) := by unfold w4; omega
  have b : ∀ K : Nat, (if decide (K % 2 = 1) = true then 1 else 0) = K % 2 := fun K => by
    have : K % 2 = 0 ∨ K % 2 = 1 := by omega
    rcases this with q | q <;> rw [q] <;> rfl
  have e1 : bc (nI M) = nI (pc8 (M % 256) + pc8 (M / 256 % 256) + pc8 (M / 65536 % 256) + pc8 (M / 16777216 % 256)) := by
    have := bc_w4 (a := M % 256) (b := M / 256 % 256) (c := M / 65536 % 256) (d := M / 16777216 % 256) (by omega) (by omega) (by omega) (by omega)
    rw [← e] at this
    exact this
  rw [e1]
  congr 1
  simp only [nct, b, pc8_m, Nat.div_div_eq_div_mul, Nat.reduceMul, Nat.reducePow, Nat.div_one, Nat.zero_add, Nat.add_assoc]
theorem bc_mk2 {f : Nat → Bool} {n : Nat} (h : n ≤ 32) : bc (nI (mk2 f n)) = ct f n := by
  have h1 := mk2_lt f n
  have h2 : mk2 f n < 2 ^ 32 := Nat.lt_of_lt_of_le h1 (Nat.pow_le_pow_right (by omega) h)
  rw [bc_bits h2, ct_nct]
  congr 1
  exact nct_cut (fun k => by rw [decide_eq_true_eq]; exact mk2_bit f n k) 32 h
