def iZ (z : Int) : Int32 := Int32.ofInt z
theorem iZ_toInt {z : Int} (h : -2147483648 ≤ z ∧ z < 2147483648) : (iZ z).toInt = z := by
  unfold iZ; rw [Int32.toInt_ofInt]; exact bm h.1 h.2
theorem iZ_1 {z : Int} (h : -2147483648 ≤ z ∧ z < 2147483647) : iZ z + 1 = iZ (z + 1) := by
  apply Int32.toInt_inj.mp
  have e1 : (1 : Int32).toInt = 1 := rfl
  rw [t_add (by rw [iZ_toInt (by omega), e1]; omega), iZ_toInt (by omega), iZ_toInt (by omega), e1]
/-- the least that is told of a mouth of the kind k so that it pads x; none -/
def tfn (k : Nat) (x : Int32) : Nat → Nat → Int32
  | 0, _ => -1000000
  | r + 1, j => if pad k (iZ ((j : Int) - 99)) = x then iZ ((j : Int) - 99) else tfn k x r (j + 1)
def told (k : Nat) (x : Int32) : Int32 := tfn k x 199 0
theorem z99 : (-99 : Int32) = iZ (((0 : Nat) : Int) - 99) := by decide
theorem c_leastTold {Q : Int32 → hp → Prop} {S : hp} {r k : Nat} {x : Int32} (hk : hK S r = mkd k) (h1 : 1 ≤ k) (h5 : k ≤ 5) (h : Q (told k x) S) : wp_X2_leastTold Q S r x := by
  have key : ∀ t j, j + t = 199 → Q (tfn k x t j) S → wl_X2_leastTold_3 Q (t + 1) S r x (iZ ((j : Int) - 99)) := by
    intro t
    induction t with
    | zero =>
      intro j hj hq
      have : j = 199 := by omega
      subst this
      exact ⟨fun _ => hq, fun q => absurd (by decide) q⟩
    | succ t ih =>
      intro j hj hq
      unfold wl_X2_leastTold_3 wB_X2_leastTold_3
      have e99 : ¬ (99 : Int32) < iZ ((j : Int) - 99) := by rw [t_lt, iZ_toInt (by omega)]; show ¬ (99 : Int) < _; omega
      refine ⟨fun q => absurd q e99, fun _ => (e_padding hk h1 h5).mpr ?_⟩
      unfold tfn at hq
      refine ⟨fun q => ?_, fun q => ?_⟩
      · rw [if_neg q] at hq
        simp only [↓reduceIte, Nat.reduceEqDiff, and_false, false_and, true_and, and_true, forall_eq, forall_eq', exists_eq_left, exists_eq_left', Option.some.injEq, eq_self_iff_true, not_true, not_false_iff, false_implies, true_implies, forall_const, reduceCtorEq, ne_eq]
        rw [iZ_1 (by omega)]
        have := ih (j + 1) (by omega) hq
        rw [show ((j + 1 : Nat) : Int) - 99 = (j : Int) - 99 + 1 by omega] at this
        exact this
      · rw [if_pos q] at hq; exact hq
  have := key 199 0 (by omega) h
  rw [← z99] at this
  exact ⟨200, this⟩
theorem c_toldFor {Q : Int32 → hp → Prop} {S : hp} {j k : Nat} {x : Int32} (hL : Lay S) (hj : j < 5) (hk : hI S 39 (41 + 2 * j) = nI k) (h1 : 1 ≤ k) (h5 : k ≤ 5) (h : Q (told k x) S) : wp_X12_toldFor Q S 35 (nI j) x := by
  have key : ∀ t i, i + t = 199 → Q (tfn k x t i) S → wl_X12_toldFor_3 Q (t + 1) S 35 (nI j) x (iZ ((i : Int) - 99)) := by
    intro t
    induction t with
    | zero =>
      intro i hi hq
      have : i = 199 := by omega
      subst this
      exact ⟨fun _ => hq, fun q => absurd (by decide) q⟩
    | succ t ih =>
      intro i hi hq
      unfold wl_X12_toldFor_3 wB_X12_toldFor_3
      have e99 : ¬ (99 : Int32) < iZ ((i : Int) - 99) := by rw [t_lt, iZ_toInt (by omega)]; show ¬ (99 : Int) < _; omega
      refine ⟨fun q => absurd q e99, fun _ => ⟨(hL.1 35 (by decide)).1, (e_padsOfM hL hj hk h1 h5).mpr ?_⟩⟩
      unfold tfn at hq
      refine ⟨fun q => ?_, fun q => ?_⟩
      · rw [if_neg q] at hq
        simp only [↓reduceIte, Nat.reduceEqDiff, and_false, false_and, true_and, and_true, forall_eq, forall_eq', exists_eq_left, exists_eq_left', Option.some.injEq, eq_self_iff_true, not_true, not_false_iff, false_implies, true_implies, forall_const, reduceCtorEq, ne_eq]
        rw [iZ_1 (by omega)]
        have := ih (i + 1) (by omega) hq
        rw [show ((i + 1 : Nat) : Int) - 99 = (i : Int) - 99 + 1 by omega] at this
        exact this
      · rw [if_pos q] at hq; exact hq
  have := key 199 0 (by omega) h
  rw [← z99] at this
  exact ⟨200, this⟩
/-- who is to tell: the kinds and bribes by functions -/
def wst (kf : Nat → Nat) (bf : Nat → Int32) (x : Int32) (j : Nat) (acc : Option Nat) : Option Nat := if told (kf j) x = -1000000 then acc else match acc with
  | none => some j
  | some i => if bf i ≤ bf j then acc else some j
def who (kf : Nat → Nat) (bf : Nat → Int32) (x : Int32) (m : Nat) : Option Nat := fo (wst kf bf x) m none
theorem who_lt (kf : Nat → Nat) (bf : Nat → Int32) (x : Int32) : ∀ m i, who kf bf x m = some i → i < m ∧ told (kf i) x ≠ -1000000
  | 0, i, h => by simp [who, fo] at h
  | m + 1, i, h => by
    have ih := who_lt kf bf x m
    change wst kf bf x m (who kf bf x m) = some i at h
    unfold wst at h
    by_cases e : told (kf m) x = -1000000
    · rw [if_pos e] at h; have := ih i h; exact ⟨by omega, this.2⟩
    · rw [if_neg e] at h
      split at h
      · cases h; exact ⟨by omega, e⟩
      · rename_i q
        split at h
        · have := ih i h; exact ⟨by omega, this.2⟩
        · cases h; exact ⟨by omega, e⟩
def kof (S : hp) (j : Nat) : Nat := (hI S 39 (41 + 2 * j)).toNatClampNeg
def bof (S : hp) (j : Nat) : Int32 := hI S 39 (42 + 2 * j)
def rfo (S : hp) (j : Nat) : Nat := (hR S 20 j).getD 0
theorem MouthV.k {S : hp} {j : Nat} (h : MouthV S j) : hI S 39 (41 + 2 * j) = nI (kof S j) ∧ 1 ≤ kof S j ∧ kof S j ≤ 5 ∧ hR S 20 j = some (rfo S j) ∧ hK S (rfo S j) = mkd (kof S j) ∧ hI S (rfo S j) 0 = nI j ∧ hI S (rfo S j) 1 = bof S j := by
  obtain ⟨r, c, m1, m2, m3, m4, m5, m6, m7, m8, m9⟩ := h
  have ek : kof S j = c := by unfold kof; rw [m3]; exact nI_clamp (by omega)
  have er : rfo S j = r := by unfold rfo; rw [m1]; rfl
  rw [ek, er]
  exact ⟨m3, m4, m5, m1, m6, m7, m8⟩
theorem c_cheapestFor {Q : Option Nat → hp → Prop} {S : hp} {m : Nat} {x : Int32} (vS : SL S 16) (h8 : hI S 16 8 = nI m) (hm : m ≤ 5) (v5 : ∀ j, j < m → MouthV S j) (h : Q ((who (kof S) (bof S) x m).map (rfo S)) S) : wp_X2_cheapestFor Q S 16 x := by
  have key : ∀ t j, j + t = m → wl_X2_cheapestFor_4 Q (t + 1) S 16 x ((who (kof S) (bof S) x j).map (rfo S)) (nI j) := by
    intro t
    induction t with
    | zero =>
      intro j hj
      have : j = m := by omega
      subst this
      unfold wl_X2_cheapestFor_4 wB_X2_cheapestFor_4
      have ex : hI S 16 8 ≤ nI j := by rw [h8]; exact nI_le (Nat.le_refl _) (by omega)
      refine ⟨fun q => ⟨vS.eqs.1, fun _ => by rw [q] at h; exact h, fun z => absurd ex z⟩, fun z q => ⟨vS.eqs.1, fun _ => by rw [q] at h; exact h, fun z => absurd ex z⟩⟩
    | succ t ih =>
      intro j hj
      have nx := ih (j + 1) (by omega)
      obtain ⟨k1, k2, k3, k4, k5, k6, k7⟩ := (v5 j (by omega)).k
      have ex : ¬ hI S 16 8 ≤ nI j := by rw [h8]; exact nI_ge (by omega) (by omega)
      have hrc : rc (nI j) (nI m) = true := rc_t.mpr (by rw [nI_toInt (by omega), nI_toInt (by omega)]; omega)
      have hmo : ∀ {Q' : Option Nat → hp → Prop}, Q' (some (rfo S j)) S → wp_X8_mouthAt Q' S 16 (nI j) := fun {Q'} hq => by
        rw [e_mouthAt vS h8 hm, hrc, if_pos rfl, nI_clamp (by omega), show 16 + 4 = 20 from rfl, k4]; exact hq
      have e1 : who (kof S) (bof S) x (j + 1) = wst (kof S) (bof S) x j (who (kof S) (bof S) x j) := rfl
      rw [e1] at nx
      unfold wl_X2_cheapestFor_4 wB_X2_cheapestFor_4 wB_X2_cheapestFor_40n2 wB_X2_cheapestFor_40 wB_X2_cheapestFor_54n2 wB_X2_cheapestFor_54
      cases hw : who (kof S) (bof S) x j with
      | none =>
        rw [hw] at nx
        refine ⟨fun _ => ⟨vS.eqs.1, fun z => absurd z ex, fun _ => hmo ⟨(fun z => nomatch z), fun r hr => ?_⟩⟩, fun z q => nomatch q⟩
        cases hr
        refine c_leastTold k5 k2 k3 ⟨fun q => ?_, fun q => ?_⟩
        · simp only [nI_1, ↓reduceIte, Nat.reduceEqDiff, and_false, false_and, true_and, and_true, forall_eq, forall_eq', exists_eq_left, exists_eq_left', Option.some.injEq, eq_self_iff_true, not_true, not_false_iff, false_implies, true_implies, forall_const, reduceCtorEq, ne_eq]
          unfold wst at nx; rw [if_pos q] at nx; exact nx
        · simp only [nI_1, ↓reduceIte, Nat.reduceEqDiff, and_false, false_and, true_and, and_true, forall_eq, forall_eq', exists_eq_left, exists_eq_left', Option.some.injEq, eq_self_iff_true, not_true, not_false_iff, false_implies, true_implies, forall_const, reduceCtorEq, ne_eq]
          unfold wst at nx; rw [if_neg q] at nx; exact nx
      | some i =>
        rw [hw] at nx
        obtain ⟨hi, -⟩ := who_lt _ _ _ j i hw
        obtain ⟨y1, y2, y3, y4, y5, y6, y7⟩ := (v5 i (by omega)).k
        refine ⟨(fun z => nomatch z), fun z q => ?_⟩
        cases q
        refine ⟨vS.eqs.1, fun z => absurd z ex, fun _ => hmo ⟨(fun z => nomatch z), fun r hr => ?_⟩⟩
        cases hr
        refine ⟨by rw [k5]; exact mkd_isM _, by rw [y5]; exact mkd_isM _, ?_⟩
        rw [y7, k7]
        refine ⟨fun q => ?_, fun q => ?_⟩
        · simp only [nI_1, ↓reduceIte, Nat.reduceEqDiff, and_false, false_and, true_and, and_true, forall_eq, forall_eq', exists_eq_left, exists_eq_left', Option.some.injEq, eq_self_iff_true, not_true, not_false_iff, false_implies, true_implies, forall_const, reduceCtorEq, ne_eq]
          unfold wst at nx
          by_cases e : told (kof S j) x = -1000000
          · rw [if_pos e] at nx; exact nx
          · rw [if_neg e] at nx; simp only at nx; rw [if_pos q] at nx; exact nx
        · refine c_leastTold k5 k2 k3 ⟨fun e => ?_, fun e => ?_⟩
          · simp only [nI_1, ↓reduceIte, Nat.reduceEqDiff, and_false, false_and, true_and, and_true, forall_eq, forall_eq', exists_eq_left, exists_eq_left', Option.some.injEq, eq_self_iff_true, not_true, not_false_iff, false_implies, true_implies, forall_const, reduceCtorEq, ne_eq]
            unfold wst at nx; rw [if_pos e] at nx; exact nx
          · simp only [nI_1, ↓reduceIte, Nat.reduceEqDiff, and_false, false_and, true_and, and_true, forall_eq, forall_eq', exists_eq_left, exists_eq_left', Option.some.injEq, eq_self_iff_true, not_true, not_false_iff, false_implies, true_implies, forall_const, reduceCtorEq, ne_eq]
            unfold wst at nx; rw [if_neg e] at nx; simp only at nx; rw [if_neg q] at nx; exact nx
  exact ⟨m + 1, key m 0 (by omega)⟩
def oI (o : Option Nat) : Int32 := match o with
  | none => -1000000
  | some j => nI j
theorem oI_none {o : Option Nat} (h : ∀ i, o = some i → i < 100) : (oI o = -1000000) = (o = none) := by
  cases o with
  | none => simp [oI]
  | some i =>
    have := h i rfl
    have e : ¬ nI i = (-1000000 : Int32) := fun q => by
      have q2 := congrArg Int32.toInt q
      rw [nI_toInt (by omega)] at q2
      have : (-1000000 : Int32).toInt = -1000000 := rfl
      omega
    simp [oI, e]
theorem c_whoForM {Q : Int32 → hp → Prop} {S : hp} {m : Nat} {x : Int32} (hL : Lay S) (h8 : hI S 39 3 = nI m) (hm : m ≤ 5) (v5 : ∀ j, j < m → hI S 39 (41 + 2 * j) = nI (kof S j) ∧ 1 ≤ kof S j ∧ kof S j ≤ 5) (h : Q (oI (who (kof S) (bof S) x m)) S) : wp_X12_whoFor Q S 35 x := by
  have key : ∀ t j, j + t = m → wl_X12_whoFor_5 Q (t + 1) S 35 x (oI (who (kof S) (bof S) x j)) (nI j) := by
    intro t
    induction t with
    | zero =>
      intro j hj
      have : j = m := by omega
      subst this
      unfold wl_X12_whoFor_5 wB_X12_whoFor_5
      simp only [hL.eqs, vi3, cl3, h8, ↓reduceIte, Nat.reduceEqDiff, and_false, false_and, true_and, and_true, forall_eq, forall_eq', exists_eq_left, exists_eq_left', Option.some.injEq, eq_self_iff_true, not_true, not_false_iff, false_implies, true_implies, forall_const, reduceCtorEq, ne_eq]
      exact ⟨fun _ => h, fun q => absurd (nI_le (Nat.le_refl _) (by omega)) q⟩
    | succ t ih =>
      intro j hj
      have nx := ih (j + 1) (by omega)
      obtain ⟨k1, k2, k3⟩ := v5 j (by omega)
      have e1 : who (kof S) (bof S) x (j + 1) = wst (kof S) (bof S) x j (who (kof S) (bof S) x j) := rfl
      rw [e1] at nx
      have on := oI_none (o := who (kof S) (bof S) x j) (fun i hi => by have := who_lt _ _ _ j i hi; omega)
      unfold wl_X12_whoFor_5 wB_X12_whoFor_5 wB_X12_whoFor_31 wB_X12_whoFor_57 wB_X12_whoFor_61 wB_X12_whoFor_62
      simp only [hL.eqs, vi3, cl3, h8, i1_ne0, nI_1, on, ↓reduceIte, Nat.reduceEqDiff, and_false, false_and, true_and, and_true, forall_eq, forall_eq', exists_eq_left, exists_eq_left', Option.some.injEq, eq_self_iff_true, not_true, not_false_iff, false_implies, true_implies, forall_const, reduceCtorEq, ne_eq]
      refine ⟨fun q => absurd q (nI_ge (by omega) (by omega)), fun _ => c_toldFor hL (by omega) k1 k2 k3 ⟨fun e => ?_, fun e => ⟨fun q => ?_, fun q => ?_⟩⟩⟩
      · unfold wst at nx; rw [if_pos e] at nx; exact nx
      · unfold wst at nx; rw [if_neg e, q] at nx; exact nx
      · cases hw : who (kof S) (bof S) x j with
        | none => exact absurd hw q
        | some i =>
          obtain ⟨hi, -⟩ := who_lt _ _ _ j i hw
          rw [hw] at nx
          refine ⟨(hL.1 35 (by decide)).1, (e_bribeOfM hL (show j < 5 by omega)).mpr ⟨(hL.1 35 (by decide)).1, ?_⟩⟩
          show wp_X12_bribeOf _ S 35 (nI i)
          refine (e_bribeOfM hL (show i < 5 by omega)).mpr ?_
          unfold wst at nx
          rw [if_neg e] at nx
          simp only at nx
          refine ⟨fun q2 => ?_, fun q2 => ?_⟩
          · rw [if_pos (show bof S i ≤ bof S j from q2)] at nx; exact nx
          · rw [if_neg (show ¬ bof S i ≤ bof S j from q2)] at nx; exact nx
  exact ⟨m + 1, key m 0 (by omega)⟩
/-- the places of a dummy, one by one: bribes and the answer; none: nobody -/
def rst (pin : Nat → Int32) (wh : Nat → Option Nat) (kf : Nat → Nat) (bf : Nat → Int32) (w : Int32) (p : Nat) (acc : Option (Int32 × Int32)) : Option (Int32 × Int32) := match acc with
  | none => none
  | some (b, a) => if pin p = 0 then some (b, a) else match wh p with
    | none => none
    | some i => some (b + bf i, if w = nI (1 + p) then nI i else if w = nI (4 + p) then told (kf i) (pin p) else a)
def mst (pin : Nat → Int32) (wh : Nat → Option Nat) (bf : Nat → Int32) (p : Nat) (acc : Option Int32) : Option Int32 := match acc with
  | none => none
  | some s => if pin p = 0 then some s else match wh p with
    | none => none
    | some i => some (s + bf i)
def rC (w : Int32) (o : Option (Int32 × Int32)) : Int32 := match o with
  | none => -1000000
  | some (b, a) => if w = 0 then b else a
def rM (pin : Nat → Int32) (wh : Nat → Option Nat) (kf : Nat → Nat) (w : Nat) (o : Option Int32) : Int32 := match o with
  | none => -1000000
  | some s => if w = 0 then s else if pin ((w - 1) % 3) = 0 then -1000000 else if w < 4 then oI (wh ((w - 1) % 3)) else match wh ((w - 1) % 3) with
    | none => -1000000
    | some i => told (kf i) (pin ((w - 1) % 3))
theorem seven {w : Nat} (h : w ≤ 6) : w = 0 ∨ w = 1 ∨ w = 2 ∨ w = 3 ∨ w = 4 ∨ w = 5 ∨ w = 6 := by omega
theorem nl7 : ∀ a, a < 7 → ∀ b, b < 7 → ((nI a = nI b) ↔ a = b) := fun a ha b hb => nI_eq (by omega) (by omega)
theorem r_eq (pin : Nat → Int32) (wh : Nat → Option Nat) (kf : Nat → Nat) (bf : Nat → Int32) {w : Nat} (hw : w ≤ 6) : rC (nI w) (fo (rst pin wh kf bf (nI w)) 3 (some (0, -1000000))) = rM pin wh kf w (fo (mst pin wh bf) 3 (some 0)) := by
  have z0 : ∀ a, a < 7 → ((nI a = 0) ↔ a = 0) := fun a ha => nl7 a ha 0 (by omega)
  simp only [fo]
  by_cases p0 : pin 0 = 0 <;> by_cases p1 : pin 1 = 0 <;> by_cases p2 : pin 2 = 0 <;> cases w0 : wh 0 <;> cases w1 : wh 1 <;> cases w2 : wh 2 <;> simp only [rst, mst, p0, p1, p2, w0, w1, w2, rC, rM, ↓reduceIte, Nat.reduceEqDiff, and_false, false_and, true_and, and_true, forall_eq, forall_eq', exists_eq_left, exists_eq_left', Option.some.injEq, eq_self_iff_true, not_true, not_false_iff, false_implies, true_implies, forall_const, reduceCtorEq, ne_eq] <;> rcases seven hw with rfl | rfl | rfl | rfl | rfl | rfl | rfl <;> simp [nl7, z0, p0, p1, p2, w0, w1, w2, oI]
