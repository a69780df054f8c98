def wB_X12_row_65 (bk65 : hp → Nat → Int32 → Int32 → Int32 → Prop) (Q : Int32 → hp → Prop) (S : hp) (l0 : Nat) (l1 : Int32) (l3 : Int32) (l4 : Int32) : Prop :=
  (((40 : Int32) ≤ l4 → Q l3 S) ∧ (¬ (40 : Int32) ≤ l4 → hK S l0 = 11 ∧ ∃ r36 : Nat, hR S l0 4 = some r36 ∧ hK S r36 = 12 ∧ vp_in (((40 : Int32) * l1) + l4) (hN S r36) ∧ ∀ S39 : hp, S39 = setI S r36 ((((40 : Int32) * l1) + l4)).toNatClampNeg (0 : Int32) → ∀ v44 : Int32, v44 = l4 + (1 : Int32) → bk65 S39 l0 l1 l3 v44))
def wl_X12_row_65 (Q : Int32 → hp → Prop) : Nat → hp → Nat → Int32 → Int32 → Int32 → Prop
  | 0 => fun _ _ _ _ _ => False
  | n + 1 => wB_X12_row_65 (wl_X12_row_65 Q n) Q
def wp_X12_row (Q : Int32 → hp → Prop) (S : hp) (a0 : Nat) (x1 : Int32) (x2 : Int32) (x3 : Int32) : Prop :=
  hK S a0 = 11 ∧ ∀ S2 : hp, S2 = setI S a0 0 (0 : Int32) → wp_X12_isRow (fun r5 S4 => ((r5 = 0 → Q (-1000001 : Int32) S4) ∧ (¬ r5 = 0 → wp_X12_in (fun r8 S7 => ((r8 = 0 → Q (-1000001 : Int32) S7) ∧ (¬ r8 = 0 → ((x3 ≤ (40 : Int32) → hK S7 a0 = 11 ∧ ∀ S12 : hp, S12 = setI S7 a0 1 (0 : Int32) → ((0 ≤ x3 → ∃ r15 : Nat, hR S12 a0 2 = some r15 ∧ hK S12 r15 = 12 ∧ vp_in x1 (hN S12 r15) ∧ ∀ S18 : hp, S18 = setI S12 r15 (x1).toNatClampNeg x2 → ∃ r23 : Nat, hR S18 a0 3 = some r23 ∧ hK S18 r23 = 12 ∧ vp_in x1 (hN S18 r23) ∧ ∀ S26 : hp, S26 = setI S18 r23 (x1).toNatClampNeg x3 → ∃ n : Nat, wl_X12_row_65 Q n S26 a0 x1 x3 (0 : Int32)) ∧ (¬ 0 ≤ x3 → wp_X12_finding (fun r46 S45 => Q r46 S45) S12 a0 (4 : Int32)))) ∧ (¬ x3 ≤ (40 : Int32) → Q (-1000001 : Int32) S7))))) S4 ((x2).toInt64) ((0 : Int64)) ((2 : Int64))))) S2 x1
theorem k_X12_row : Cond.code yX12_row cX12_row 5 (some .int) ∈ gtb := mg 1021 (by decide +kernel) (by decide +kernel)
theorem dn_X12_row : yX12_row.cls ≠ "java/lang/invoke/MethodHandle" ∧ yX12_row.cls ≠ "java/lang/invoke/VarHandle" ∧ (parseMethodDescriptor yX12_row.desc).map (fun d => d.parameters.length) = some 3 := by decide +kernel
set_option maxRecDepth 100000 in
set_option maxHeartbeats 4000000 in
theorem s_X12_row (l : Launch) (b : Nat) (D : va_G) (cy : Nat → ClassId) {Q : Int32 → hp → Prop} {S : hp} {a0 : Nat} {x1 : Int32} {x2 : Int32} {x3 : Int32} (h : wp_X12_row Q S a0 x1 x2 x3) : MT l yX12_row cX12_row 5 (some .int) 2 45 0 0 b D cy S [.ref a0, .int x1, .int x2, .int x3] (pI Q) := by
  refine MT.of (by decide +kernel) (Nat.le_of_ble_eq_true rfl) ?_
  intro p e s m args below meth c X hr hlk hnm
  have j65 : ∀ (bk65 : hp → Nat → Int32 → Int32 → Int32 → Prop) (hbk65 : ∀ (S : hp) (l0 : Nat) (l1 : Int32) (l3 : Int32) (l4 : Int32), bk65 S l0 l1 l3 l4 → VM l b D cy 5 2 45 0 0 (pI Q) p e s m args below meth c S 0 0 65 [(0, .ref l0), (1, .int l1), (3, .int l3), (4, .int l4)] []) (S : hp) (l0 : Nat) (l1 : Int32) (l3 : Int32) (l4 : Int32), wB_X12_row_65 bk65 Q S l0 l1 l3 l4 → VM l b D cy 5 2 45 0 0 (pI Q) p e s m args below meth c S 0 0 65 [(0, .ref l0), (1, .int l1), (3, .int l3), (4, .int l4)] [] := by
    intro bk65 hbk65 S l0 l1 l3 l4 h
    unfold wB_X12_row_65 at h
    refine v_iload X 3 dX12_row_65 rfl ?_
    refine v_bipush X (v := 40) dX12_row_67 (by decide) ?_
    refine v_icmp_ge X (tgt := 91) dX12_row_69 (by decide) (fun c34 => ?_) (fun c34 => ?_)
    · replace h := h.1 c34
      refine v_iload_n X 2 dX12_row_91 rfl rfl ?_
      exact v_iret X hr hlk ⟨_, rfl, h⟩ dX12_row_92
    · replace h := h.2 c34
      refine v_aload_n X 0 dX12_row_72 rfl rfl ?_
      obtain ⟨hk35, h⟩ := h
      obtain ⟨r36, hr36, h⟩ := h
      refine v_getR X (T := TX12) (N := 26) (k := 4) hk35 (by decide) rfl (by decide) inX12 wd943 rfl dX12_row_73 hr36 ?_
      refine v_bipush X (v := 40) dX12_row_76 (by decide) ?_
      refine v_iload_n X 1 dX12_row_78 rfl rfl ?_
      refine v_imul X dX12_row_79 ?_
      refine v_iload X 3 dX12_row_80 rfl ?_
      refine v_iadd X dX12_row_82 ?_
      refine v_iconst X (v := 0) dX12_row_83 (by decide) ?_
      obtain ⟨hk37, h⟩ := h
      obtain ⟨hi38, h⟩ := h
      refine v_iast X hk37 hi38 dX12_row_84 ?_
      refine v_nmS (fun S39 eS39 => ?_)
      replace h := h S39 eS39
      have hk40 : hK S39 l0 = 11 := by rw [eS39]; exact hk35
      have hk41 : hK S39 r36 = 12 := by rw [eS39]; exact hk37
      have hi42 : vp_in (((40 : Int32) * l1) + l4) (hN S39 r36) := by rw [eS39]; exact hi38
      have hr43 : hR S39 l0 4 = some r36 := by rw [eS39]; exact hr36
      obtain ⟨v44, hv44⟩ : ∃ y : Int32, y = l4 + (1 : Int32) := ⟨_, rfl⟩
      replace h := h v44 hv44
      refine v_iinc X (j := 3) (v := v44) (lv' := [(4, .int v44), (0, .ref l0), (1, .int l1), (3, .int l3)]) dX12_row_85 rfl (by rw [hv44] <;> rfl) (by decide) rfl ?_
      refine v_goto X (tgt := 65) dX12_row_88 (by decide) ?_
      refine v_lv (lv' := [(0, .ref l0), (1, .int l1), (3, .int l3), (4, .int v44)]) [1, 2, 3, 0] rfl ?_
      exact hbk65 _ _ _ _ _ h
  have l65 : ∀  (n : Nat) (S : hp) (l0 : Nat) (l1 : Int32) (l3 : Int32) (l4 : Int32), wl_X12_row_65 Q n S l0 l1 l3 l4 → VM l b D cy 5 2 45 0 0 (pI Q) p e s m args below meth c S 0 0 65 [(0, .ref l0), (1, .int l1), (3, .int l3), (4, .int l4)] [] := by
    intro  n
    induction n with
    | zero => intro S l0 l1 l3 l4 h; exact h.elim
    | succ n ih => intro S l0 l1 l3 l4 h; exact j65 (wl_X12_row_65 Q n) ih S l0 l1 l3 l4 h
  unfold wp_X12_row at h
  show VM l b D cy 5 2 45 0 0 (pI Q) p e s m args below meth c S 0 0 0 [(0, .ref a0), (1, .int x1), (2, .int x2), (3, .int x3)] []
  refine v_aload_n X 0 dX12_row_0 rfl rfl ?_
  refine v_iconst X (v := 0) dX12_row_1 (by decide) ?_
  obtain ⟨hk1, h⟩ := h
  refine v_putI X (T := TX12) (N := 26) (k := 0) hk1 (by decide) rfl (by decide) inX12 wd939 tyX12 tyX12_ok nmX12 rfl rfl rfl rfl dX12_row_2 ?_
  refine v_nmS (fun S2 eS2 => ?_)
  replace h := h S2 eS2
  have hk3 : hK S2 a0 = 11 := by rw [eS2]; exact hk1
  refine v_iload_n X 1 dX12_row_5 rfl rfl ?_
  refine v_callS X (av := [.int x1]) (s_X12_isRow l b D cy h) wd1022 wd1023 wd62 k_X12_isRow dn_X12_isRow rfl ⟨Nat.le_of_ble_eq_true rfl, Nat.le_of_ble_eq_true rfl⟩ (Nat.le_of_ble_eq_true rfl) ⟨Nat.le_of_ble_eq_true rfl, Nat.le_of_ble_eq_true rfl⟩ dX12_row_6 rfl (kI (fun r5 S4 h => ?_))
  refine v_if_eq X (tgt := 30) dX12_row_9 (by decide) (fun c6 => ?_) (fun c6 => ?_)
  · replace h := h.1 c6
    refine v_ldc X wd1030 dX12_row_30 ?_
    exact v_iret X hr hlk ⟨_, rfl, h⟩ dX12_row_32
  · replace h := h.2 c6
    refine v_iload_n X 2 dX12_row_12 rfl rfl ?_
    refine v_i2l X dX12_row_13 ?_
    refine v_lconst X (v := 0) dX12_row_14 (by decide) ?_
    refine v_ldc2 X wd1029 dX12_row_15 ?_
    refine v_callS X (av := [.long (x2).toInt64, .long (0 : Int64), .long (2 : Int64)]) (s_X12_in l b D cy h) wd1026 wd1027 wd62 k_X12_in dn_X12_in rfl ⟨Nat.le_of_ble_eq_true rfl, Nat.le_of_ble_eq_true rfl⟩ (Nat.le_of_ble_eq_true rfl) ⟨Nat.le_of_ble_eq_true rfl, Nat.le_of_ble_eq_true rfl⟩ dX12_row_18 rfl (kI (fun r8 S7 h => ?_))
    refine v_if_eq X (tgt := 30) dX12_row_21 (by decide) (fun c9 => ?_) (fun c9 => ?_)
    · replace h := h.1 c9
      refine v_ldc X wd1030 dX12_row_30 ?_
      exact v_iret X hr hlk ⟨_, rfl, h⟩ dX12_row_32
    · replace h := h.2 c9
      refine v_iload_n X 3 dX12_row_24 rfl rfl ?_
      refine v_bipush X (v := 40) dX12_row_25 (by decide) ?_
      refine v_icmp_le X (tgt := 33) dX12_row_27 (by decide) (fun c10 => ?_) (fun c10 => ?_)
      · replace h := h.1 c10
        refine v_aload_n X 0 dX12_row_33 rfl rfl ?_
        refine v_iconst X (v := 0) dX12_row_34 (by decide) ?_
        obtain ⟨hk11, h⟩ := h
        refine v_putI X (T := TX12) (N := 26) (k := 1) hk11 (by decide) rfl (by decide) inX12 wd940 tyX12 tyX12_ok nmX12 rfl rfl rfl rfl dX12_row_35 ?_
        refine v_nmS (fun S12 eS12 => ?_)
        replace h := h S12 eS12
        have hk13 : hK S12 a0 = 11 := by rw [eS12]; exact hk11
        refine v_iload_n X 3 dX12_row_38 rfl rfl ?_
        refine v_if_ge X (tgt := 48) dX12_row_39 (by decide) (fun c14 => ?_) (fun c14 => ?_)
        · replace h := h.1 c14
          refine v_aload_n X 0 dX12_row_48 rfl rfl ?_
          obtain ⟨r15, hr15, h⟩ := h
          refine v_getR X (T := TX12) (N := 26) (k := 2) hk13 (by decide) rfl (by decide) inX12 wd941 rfl dX12_row_49 hr15 ?_
          refine v_iload_n X 1 dX12_row_52 rfl rfl ?_
          refine v_iload_n X 2 dX12_row_53 rfl rfl ?_
          obtain ⟨hk16, h⟩ := h
          obtain ⟨hi17, h⟩ := h
          refine v_iast X hk16 hi17 dX12_row_54 ?_
          refine v_nmS (fun S18 eS18 => ?_)
          replace h := h S18 eS18
          have hk19 : hK S18 a0 = 11 := by rw [eS18]; exact hk13
          have hk20 : hK S18 r15 = 12 := by rw [eS18]; exact hk16
          have hi21 : vp_in x1 (hN S18 r15) := by rw [eS18]; exact hi17
          have hr22 : hR S18 a0 2 = some r15 := by rw [eS18]; exact hr15
          refine v_aload_n X 0 dX12_row_55 rfl rfl ?_
          obtain ⟨r23, hr23, h⟩ := h
          refine v_getR X (T := TX12) (N := 26) (k := 3) hk19 (by decide) rfl (by decide) inX12 wd942 rfl dX12_row_56 hr23 ?_
          refine v_iload_n X 1 dX12_row_59 rfl rfl ?_
          refine v_iload_n X 3 dX12_row_60 rfl rfl ?_
          obtain ⟨hk24, h⟩ := h
          obtain ⟨hi25, h⟩ := h
          refine v_iast X hk24 hi25 dX12_row_61 ?_
          refine v_nmS (fun S26 eS26 => ?_)
          replace h := h S26 eS26
          have hk27 : hK S26 a0 = 11 := by rw [eS26]; exact hk19
          have hk28 : hK S26 r15 = 12 := by rw [eS26]; exact hk20
          have hk29 : hK S26 r23 = 12 := by rw [eS26]; exact hk24
          have hi30 : vp_in x1 (hN S26 r15) := by rw [eS26]; exact hi21
          have hi31 : vp_in x1 (hN S26 r23) := by rw [eS26]; exact hi25
          have hr32 : hR S26 a0 2 = some r15 := by rw [eS26]; exact hr22
          have hr33 : hR S26 a0 3 = some r23 := by rw [eS26]; exact hr23
          refine v_iconst X (v := 0) dX12_row_62 (by decide) ?_
          refine v_istore X (lv' := [(4, .int (0 : Int32)), (0, .ref a0), (1, .int x1), (2, .int x2), (3, .int x3)]) dX12_row_63 (by decide) rfl ?_
          refine v_lv (lv' := [(0, .ref a0), (1, .int x1), (3, .int x3), (4, .int (0 : Int32))]) [1, 2, 4, 0] rfl ?_
          obtain ⟨n, h⟩ := h
          exact l65 n _ _ _ _ _ h
        · replace h := h.2 c14
          refine v_aload_n X 0 dX12_row_42 rfl rfl ?_
          refine v_iconst X (v := 4) dX12_row_43 (by decide) ?_
          refine v_callV X (av := [.int (4 : Int32)]) (T := TX12) (N := 26) (s_X12_finding l b D cy h) hk13 (by decide) rfl wd1031 wd1033 wd20 wd62 k_X12_finding dn_X12_finding rfl ⟨Nat.le_of_ble_eq_true rfl, Nat.le_of_ble_eq_true rfl⟩ (Nat.le_of_ble_eq_true rfl) ⟨Nat.le_of_ble_eq_true rfl, Nat.le_of_ble_eq_true rfl⟩ dX12_row_44 rfl (kI (fun r46 S45 h => ?_))
          exact v_iret X hr hlk ⟨_, rfl, h⟩ dX12_row_47
      · replace h := h.2 c10
        refine v_ldc X wd1030 dX12_row_30 ?_
        exact v_iret X hr hlk ⟨_, rfl, h⟩ dX12_row_32
def wB_X12_set_99 (Q : Int32 → hp → Prop) (S : hp) (l0 : Nat) (l1 : Int32) (l2 : Int32) (k0 : Int32) (k1 : Int32) (k2 : Nat) : Prop :=
  hK S k2 = 12 ∧ vp_in k1 (hN S k2) ∧ ∀ S29 : hp, S29 = setI S k2 (k1).toNatClampNeg k0 → hK S29 l0 = 11 ∧ ∃ r33 : Nat, hR S29 l0 4 = some r33 ∧ hK S29 r33 = 12 ∧ vp_in (((40 : Int32) * l1) + l2) (hN S29 r33) ∧ Q (hI S29 r33 ((((40 : Int32) * l1) + l2)).toNatClampNeg) S29
def wp_X12_set (Q : Int32 → hp → Prop) (S : hp) (a0 : Nat) (x1 : Int32) (x2 : Int32) (x3 : Int32) : Prop :=
  hK S a0 = 11 ∧ ∀ S2 : hp, S2 = setI S a0 0 (0 : Int32) → wp_X12_isRow (fun r5 S4 => ((¬ r5 = 0 → hK S4 a0 = 11 ∧ ∀ S8 : hp, S8 = setI S4 a0 1 (0 : Int32) → ∃ r10 : Nat, hR S8 a0 2 = some r10 ∧ hK S8 r10 = 12 ∧ vp_in x1 (hN S8 r10) ∧ ((0 ≤ (hI S8 r10 (x1).toNatClampNeg) → ∃ r14 : Nat, hR S8 a0 3 = some r14 ∧ hK S8 r14 = 12 ∧ vp_in x1 (hN S8 r14) ∧ wp_X12_in (fun r18 S17 => ((¬ r18 = 0 → hK S17 a0 = 11 ∧ ∃ r21 : Nat, hR S17 a0 4 = some r21 ∧ ∃ r22 : Nat, hR S17 a0 2 = some r22 ∧ hK S17 r22 = 12 ∧ vp_in x1 (hN S17 r22) ∧ ((¬ (hI S17 r22 (x1).toNatClampNeg) = 0 → ((¬ (hI S17 r22 (x1).toNatClampNeg) = (1 : Int32) → wB_X12_set_99 Q S17 a0 x1 x2 x3 ((((40 : Int32) * x1) + x2)) r21) ∧ ((hI S17 r22 (x1).toNatClampNeg) = (1 : Int32) → wB_X12_set_99 Q S17 a0 x1 x2 ((x3).toInt16.toInt32) ((((40 : Int32) * x1) + x2)) r21))) ∧ ((hI S17 r22 (x1).toNatClampNeg) = 0 → wB_X12_set_99 Q S17 a0 x1 x2 ((x3).toInt8.toInt32) ((((40 : Int32) * x1) + x2)) r21))) ∧ (r18 = 0 → hK S17 a0 = 11 ∧ wp_X12_finding (fun r38 S36 => Q r38 S36) S17 a0 (2 : Int32)))) S8 ((x2).toInt64) ((0 : Int64)) ((((hI S8 r14 (x1).toNatClampNeg) - (1 : Int32))).toInt64)) ∧ (¬ 0 ≤ (hI S8 r10 (x1).toNatClampNeg) → wp_X12_finding (fun r40 S39 => Q r40 S39) S8 a0 (1 : Int32)))) ∧ (r5 = 0 → Q (-1000001 : Int32) S4))) S2 x1
theorem k_X12_set : Cond.code yX12_set cX12_set 4 (some .int) ∈ gtb := mg 1039 (by decide +kernel) (by decide +kernel)
theorem dn_X12_set : yX12_set.cls ≠ "java/lang/invoke/MethodHandle" ∧ yX12_set.cls ≠ "java/lang/invoke/VarHandle" ∧ (parseMethodDescriptor yX12_set.desc).map (fun d => d.parameters.length) = some 3 := by decide +kernel
set_option maxRecDepth 100000 in
set_option maxHeartbeats 4000000 in
theorem s_X12_set (l : Launch) (b : Nat) (D : va_G) (cy : Nat → ClassId) {Q : Int32 → hp → Prop} {S : hp} {a0 : Nat} {x1 : Int32} {x2 : Int32} {x3 : Int32} (h : wp_X12_set Q S a0 x1 x2 x3) : MT l yX12_set cX12_set 4 (some .int) 2 45 0 0 b D cy S [.ref a0, .int x1, .int x2, .int x3] (pI Q) := by
  refine MT.of (by decide +kernel) (Nat.le_of_ble_eq_true rfl) ?_
  intro p e s m args below meth c X hr hlk hnm
  have j99 : ∀  (S : hp) (l0 : Nat) (l1 : Int32) (l2 : Int32) (k0 : Int32) (k1 : Int32) (k2 : Nat), wB_X12_set_99 Q S l0 l1 l2 k0 k1 k2 → VM l b D cy 4 2 45 0 0 (pI Q) p e s m args below meth c S 0 0 99 [(0, .ref l0), (1, .int l1), (2, .int l2)] [.int k0, .int k1, .ref k2] := by
    intro  S l0 l1 l2 k0 k1 k2 h
    unfold wB_X12_set_99 at h
    obtain ⟨hk27, h⟩ := h
    obtain ⟨hi28, h⟩ := h
    refine v_iast X hk27 hi28 dX12_set_99 ?_
    refine v_nmS (fun S29 eS29 => ?_)
    replace h := h S29 eS29
    have hk30 : hK S29 k2 = 12 := by rw [eS29]; exact hk27
    have hi31 : vp_in k1 (hN S29 k2) := by rw [eS29]; exact hi28
    refine v_aload_n X 0 dX12_set_100 rfl rfl ?_
    obtain ⟨hk32, h⟩ := h
    obtain ⟨r33, hr33, h⟩ := h
    refine v_getR X (T := TX12) (N := 26) (k := 4) hk32 (by decide) rfl (by decide) inX12 wd943 rfl dX12_set_101 hr33 ?_
    refine v_bipush X (v := 40) dX12_set_104 (by decide) ?_
    refine v_iload_n X 1 dX12_set_106 rfl rfl ?_
    refine v_imul X dX12_set_107 ?_
    refine v_iload_n X 2 dX12_set_108 rfl rfl ?_
    refine v_iadd X dX12_set_109 ?_
    obtain ⟨hk34, h⟩ := h
    obtain ⟨hi35, h⟩ := h
    refine v_iald X hk34 hi35 dX12_set_110 ?_
    exact v_iret X hr hlk ⟨_, rfl, h⟩ dX12_set_111
  unfold wp_X12_set at h
  show VM l b D cy 4 2 45 0 0 (pI Q) p e s m args below meth c S 0 0 0 [(0, .ref a0), (1, .int x1), (2, .int x2), (3, .int x3)] []
  refine v_aload_n X 0 dX12_set_0 rfl rfl ?_
  refine v_iconst X (v := 0) dX12_set_1 (by decide) ?_
  obtain ⟨hk1, h⟩ := h
  refine v_putI X (T := TX12) (N := 26) (k := 0) hk1 (by decide) rfl (by decide) inX12 wd939 tyX12 tyX12_ok nmX12 rfl rfl rfl rfl dX12_set_2 ?_
  refine v_nmS (fun S2 eS2 => ?_)
  replace h := h S2 eS2
  have hk3 : hK S2 a0 = 11 := by rw [eS2]; exact hk1
  refine v_iload_n X 1 dX12_set_5 rfl rfl ?_
  refine v_callS X (av := [.int x1]) (s_X12_isRow l b D cy h) wd1022 wd1023 wd62 k_X12_isRow dn_X12_isRow rfl ⟨Nat.le_of_ble_eq_true rfl, Nat.le_of_ble_eq_true rfl⟩ (Nat.le_of_ble_eq_true rfl) ⟨Nat.le_of_ble_eq_true rfl, Nat.le_of_ble_eq_true rfl⟩ dX12_set_6 rfl (kI (fun r5 S4 h => ?_))
  refine v_if_ne X (tgt := 15) dX12_set_9 (by decide) (fun c6 => ?_) (fun c6 => ?_)
  · replace h := h.1 c6
    refine v_aload_n X 0 dX12_set_15 rfl rfl ?_
    refine v_iconst X (v := 0) dX12_set_16 (by decide) ?_
    obtain ⟨hk7, h⟩ := h
    refine v_putI X (T := TX12) (N := 26) (k := 1) hk7 (by decide) rfl (by decide) inX12 wd940 tyX12 tyX12_ok nmX12 rfl rfl rfl rfl dX12_set_17 ?_
    refine v_nmS (fun S8 eS8 => ?_)
    replace h := h S8 eS8
    have hk9 : hK S8 a0 = 11 := by rw [eS8]; exact hk7
    refine v_aload_n X 0 dX12_set_20 rfl rfl ?_
    obtain ⟨r10, hr10, h⟩ := h
    refine v_getR X (T := TX12) (N := 26) (k := 2) hk9 (by decide) rfl (by decide) inX12 wd941 rfl dX12_set_21 hr10 ?_
    refine v_iload_n X 1 dX12_set_24 rfl rfl ?_
    obtain ⟨hk11, h⟩ := h
    obtain ⟨hi12, h⟩ := h
    refine v_iald X hk11 hi12 dX12_set_25 ?_
    refine v_if_ge X (tgt := 35) dX12_set_26 (by decide) (fun c13 => ?_) (fun c13 => ?_)
    · replace h := h.1 c13
      refine v_iload_n X 2 dX12_set_35 rfl rfl ?_
      refine v_i2l X dX12_set_36 ?_
      refine v_lconst X (v := 0) dX12_set_37 (by decide) ?_
      refine v_aload_n X 0 dX12_set_38 rfl rfl ?_
      obtain ⟨r14, hr14, h⟩ := h
      refine v_getR X (T := TX12) (N := 26) (k := 3) hk9 (by decide) rfl (by decide) inX12 wd942 rfl dX12_set_39 hr14 ?_
      refine v_iload_n X 1 dX12_set_42 rfl rfl ?_
      obtain ⟨hk15, h⟩ := h
      obtain ⟨hi16, h⟩ := h
      refine v_iald X hk15 hi16 dX12_set_43 ?_
      refine v_iconst X (v := 1) dX12_set_44 (by decide) ?_
      refine v_isub X dX12_set_45 ?_
      refine v_i2l X dX12_set_46 ?_
      refine v_callS X (av := [.long (x2).toInt64, .long (0 : Int64), .long (((hI S8 r14 (x1).toNatClampNeg) - (1 : Int32))).toInt64]) (s_X12_in l b D cy h) wd1026 wd1027 wd62 k_X12_in dn_X12_in rfl ⟨Nat.le_of_ble_eq_true rfl, Nat.le_of_ble_eq_true rfl⟩ (Nat.le_of_ble_eq_true rfl) ⟨Nat.le_of_ble_eq_true rfl, Nat.le_of_ble_eq_true rfl⟩ dX12_set_47 rfl (kI (fun r18 S17 h => ?_))
      refine v_if_ne X (tgt := 59) dX12_set_50 (by decide) (fun c19 => ?_) (fun c19 => ?_)
      · replace h := h.1 c19
        refine v_aload_n X 0 dX12_set_59 rfl rfl ?_
        obtain ⟨hk20, h⟩ := h
        obtain ⟨r21, hr21, h⟩ := h
        refine v_getR X (T := TX12) (N := 26) (k := 4) hk20 (by decide) rfl (by decide) inX12 wd943 rfl dX12_set_60 hr21 ?_
        refine v_bipush X (v := 40) dX12_set_63 (by decide) ?_
        refine v_iload_n X 1 dX12_set_65 rfl rfl ?_
        refine v_imul X dX12_set_66 ?_
        refine v_iload_n X 2 dX12_set_67 rfl rfl ?_
        refine v_iadd X dX12_set_68 ?_
        refine v_aload_n X 0 dX12_set_69 rfl rfl ?_
        obtain ⟨r22, hr22, h⟩ := h
        refine v_getR X (T := TX12) (N := 26) (k := 2) hk20 (by decide) rfl (by decide) inX12 wd941 rfl dX12_set_70 hr22 ?_
        refine v_iload_n X 1 dX12_set_73 rfl rfl ?_
        obtain ⟨hk23, h⟩ := h
        obtain ⟨hi24, h⟩ := h
        refine v_iald X hk23 hi24 dX12_set_74 ?_
        refine v_if_ne X (tgt := 83) dX12_set_75 (by decide) (fun c25 => ?_) (fun c25 => ?_)
        · replace h := h.1 c25
          refine v_aload_n X 0 dX12_set_83 rfl rfl ?_
          refine v_getR X (T := TX12) (N := 26) (k := 2) hk20 (by decide) rfl (by decide) inX12 wd941 rfl dX12_set_84 hr22 ?_
          refine v_iload_n X 1 dX12_set_87 rfl rfl ?_
          refine v_iald X hk23 hi24 dX12_set_88 ?_
          refine v_iconst X (v := 1) dX12_set_89 (by decide) ?_
          refine v_icmp_ne X (tgt := 98) dX12_set_90 (by decide) (fun c26 => ?_) (fun c26 => ?_)
          · replace h := h.1 c26
            refine v_iload_n X 3 dX12_set_98 rfl rfl ?_
            refine v_lv (lv' := [(0, .ref a0), (1, .int x1), (2, .int x2)]) [0, 1, 2] rfl ?_
            exact j99 _ _ _ _ _ _ _ h
          · replace h := h.2 c26
            refine v_iload_n X 3 dX12_set_93 rfl rfl ?_
            refine v_i2s X dX12_set_94 ?_
            refine v_goto X (tgt := 99) dX12_set_95 (by decide) ?_
            refine v_lv (lv' := [(0, .ref a0), (1, .int x1), (2, .int x2)]) [0, 1, 2] rfl ?_
            exact j99 _ _ _ _ _ _ _ h
        · replace h := h.2 c25
          refine v_iload_n X 3 dX12_set_78 rfl rfl ?_
          refine v_i2b X dX12_set_79 ?_
          refine v_goto X (tgt := 99) dX12_set_80 (by decide) ?_
          refine v_lv (lv' := [(0, .ref a0), (1, .int x1), (2, .int x2)]) [0, 1, 2] rfl ?_
          exact j99 _ _ _ _ _ _ _ h
      · replace h := h.2 c19
        refine v_aload_n X 0 dX12_set_53 rfl rfl ?_
        refine v_iconst X (v := 2) dX12_set_54 (by decide) ?_
        obtain ⟨hk37, h⟩ := h
        refine v_callV X (av := [.int (2 : Int32)]) (T := TX12) (N := 26) (s_X12_finding l b D cy h) hk37 (by decide) rfl wd1031 wd1033 wd20 wd62 k_X12_finding dn_X12_finding rfl ⟨Nat.le_of_ble_eq_true rfl, Nat.le_of_ble_eq_true rfl⟩ (Nat.le_of_ble_eq_true rfl) ⟨Nat.le_of_ble_eq_true rfl, Nat.le_of_ble_eq_true rfl⟩ dX12_set_55 rfl (kI (fun r38 S36 h => ?_))
        exact v_iret X hr hlk ⟨_, rfl, h⟩ dX12_set_58
    · replace h := h.2 c13
      refine v_aload_n X 0 dX12_set_29 rfl rfl ?_
      refine v_iconst X (v := 1) dX12_set_30 (by decide) ?_
      refine v_callV X (av := [.int (1 : Int32)]) (T := TX12) (N := 26) (s_X12_finding l b D cy h) hk9 (by decide) rfl wd1031 wd1033 wd20 wd62 k_X12_finding dn_X12_finding rfl ⟨Nat.le_of_ble_eq_true rfl, Nat.le_of_ble_eq_true rfl⟩ (Nat.le_of_ble_eq_true rfl) ⟨Nat.le_of_ble_eq_true rfl, Nat.le_of_ble_eq_true rfl⟩ dX12_set_31 rfl (kI (fun r40 S39 h => ?_))
      exact v_iret X hr hlk ⟨_, rfl, h⟩ dX12_set_34
  · replace h := h.2 c6
    refine v_ldc X wd1030 dX12_set_12 ?_
    exact v_iret X hr hlk ⟨_, rfl, h⟩ dX12_set_14
def wB_X12_copy_45 (Q : Int32 → hp → Prop) (S : hp) (l0 : Nat) : Prop :=
  hK S l0 = 11 ∧ wp_X12_finding (fun r19 S17 => Q r19 S17) S l0 (1 : Int32)
def wB_X12_copy_121 (Q : Int32 → hp → Prop) (S : hp) (l0 : Nat) : Prop :=
  hK S l0 = 11 ∧ wp_X12_finding (fun r26 S24 => Q r26 S24) S l0 (2 : Int32)
def wB_X12_copy_167 (bk143 : hp → Nat → Int32 → Int32 → Int32 → Int32 → Int32 → Int32 → Int32 → Prop) (Q : Int32 → hp → Prop) (S : hp) (l0 : Nat) (l1 : Int32) (l2 : Int32) (l3 : Int32) (l4 : Int32) (l5 : Int32) (l6 : Int32) (l7 : Int32) (k0 : Int32) : Prop :=
  hK S l0 = 11 ∧ ∃ r39 : Nat, hR S l0 4 = some r39 ∧ hK S r39 = 12 ∧ vp_in ((((40 : Int32) * l1) + l2) + k0) (hN S r39) ∧ vp_in ((((40 : Int32) * l3) + l4) + k0) (hN S r39) ∧ ∀ S43 : hp, S43 = setI S r39 (((((40 : Int32) * l3) + l4) + k0)).toNatClampNeg (hI S r39 (((((40 : Int32) * l1) + l2) + k0)).toNatClampNeg) → ∀ v49 : Int32, v49 = l7 + (1 : Int32) → bk143 S43 l0 l1 l2 l3 l4 l5 l6 v49
def wB_X12_copy_143 (bk143 : hp → Nat → Int32 → Int32 → Int32 → Int32 → Int32 → Int32 → Int32 → Prop) (Q : Int32 → hp → Prop) (S : hp) (l0 : Nat) (l1 : Int32) (l2 : Int32) (l3 : Int32) (l4 : Int32) (l5 : Int32) (l6 : Int32) (l7 : Int32) : Prop :=
  ((l5 ≤ l7 → Q l5 S) ∧ (¬ l5 ≤ l7 → ((l6 = 0 → wB_X12_copy_167 bk143 Q S l0 l1 l2 l3 l4 l5 l6 l7 (((l5 - (1 : Int32)) - l7))) ∧ (¬ l6 = 0 → wB_X12_copy_167 bk143 Q S l0 l1 l2 l3 l4 l5 l6 l7 l7))))
def wl_X12_copy_143 (Q : Int32 → hp → Prop) : Nat → hp → Nat → Int32 → Int32 → Int32 → Int32 → Int32 → Int32 → Int32 → Prop
  | 0 => fun _ _ _ _ _ _ _ _ _ => False
  | n + 1 => wB_X12_copy_143 (wl_X12_copy_143 Q n) Q
def wB_X12_copy_138 (Q : Int32 → hp → Prop) (S : hp) (l0 : Nat) (l1 : Int32) (l2 : Int32) (l3 : Int32) (l4 : Int32) (l5 : Int32) (k0 : Int32) : Prop :=
  ∃ n : Nat, wl_X12_copy_143 Q n S l0 l1 l2 l3 l4 l5 k0 (0 : Int32)
def wp_X12_copy (Q : Int32 → hp → Prop) (S : hp) (a0 : Nat) (x1 : Int32) (x2 : Int32) (x3 : Int32) (x4 : Int32) (x5 : Int32) : Prop :=
  hK S a0 = 11 ∧ ∀ S2 : hp, S2 = setI S a0 0 (0 : Int32) → wp_X12_isRow (fun r5 S4 => ((r5 = 0 → Q (-1000001 : Int32) S4) ∧ (¬ r5 = 0 → wp_X12_isRow (fun r8 S7 => ((¬ r8 = 0 → hK S7 a0 = 11 ∧ ∀ S11 : hp, S11 = setI S7 a0 1 (0 : Int32) → ∃ r13 : Nat, hR S11 a0 2 = some r13 ∧ hK S11 r13 = 12 ∧ vp_in x1 (hN S11 r13) ∧ (((hI S11 r13 (x1).toNatClampNeg) < 0 → wB_X12_copy_45 Q S11 a0) ∧ (¬ (hI S11 r13 (x1).toNatClampNeg) < 0 → vp_in x3 (hN S11 r13) ∧ ((0 ≤ (hI S11 r13 (x3).toNatClampNeg) → (((hI S11 r13 (x1).toNatClampNeg) = (hI S11 r13 (x3).toNatClampNeg) → ((x2 < 0 → wB_X12_copy_121 Q S11 a0) ∧ (¬ x2 < 0 → ((x4 < 0 → wB_X12_copy_121 Q S11 a0) ∧ (¬ x4 < 0 → ((x5 < 0 → wB_X12_copy_121 Q S11 a0) ∧ (¬ x5 < 0 → ∃ r29 : Nat, hR S11 a0 3 = some r29 ∧ hK S11 r29 = 12 ∧ vp_in x1 (hN S11 r29) ∧ ((0 < (lg_cmp ((x2).toInt64 + (x5).toInt64) ((hI S11 r29 (x1).toNatClampNeg)).toInt64) → wB_X12_copy_121 Q S11 a0) ∧ (¬ 0 < (lg_cmp ((x2).toInt64 + (x5).toInt64) ((hI S11 r29 (x1).toNatClampNeg)).toInt64) → vp_in x3 (hN S11 r29) ∧ (((lg_cmp ((x4).toInt64 + (x5).toInt64) ((hI S11 r29 (x3).toNatClampNeg)).toInt64) ≤ 0 → ((x2 < x4 → wB_X12_copy_138 Q S11 a0 x1 x2 x3 x4 x5 (0 : Int32)) ∧ (¬ x2 < x4 → wB_X12_copy_138 Q S11 a0 x1 x2 x3 x4 x5 (1 : Int32)))) ∧ (¬ (lg_cmp ((x4).toInt64 + (x5).toInt64) ((hI S11 r29 (x3).toNatClampNeg)).toInt64) ≤ 0 → wB_X12_copy_121 Q S11 a0))))))))))) ∧ (¬ (hI S11 r13 (x1).toNatClampNeg) = (hI S11 r13 (x3).toNatClampNeg) → wp_X12_finding (fun r51 S50 => Q r51 S50) S11 a0 (5 : Int32)))) ∧ (¬ 0 ≤ (hI S11 r13 (x3).toNatClampNeg) → wB_X12_copy_45 Q S11 a0))))) ∧ (r8 = 0 → Q (-1000001 : Int32) S7))) S4 x3))) S2 x1
theorem k_X12_copy : Cond.code yX12_copy cX12_copy 9 (some .int) ∈ gtb := mg 1043 (by decide +kernel) (by decide +kernel)
theorem dn_X12_copy : yX12_copy.cls ≠ "java/lang/invoke/MethodHandle" ∧ yX12_copy.cls ≠ "java/lang/invoke/VarHandle" ∧ (parseMethodDescriptor yX12_copy.desc).map (fun d => d.parameters.length) = some 5 := by decide +kernel
set_option maxRecDepth 100000 in
set_option maxHeartbeats 4000000 in
theorem s_X12_copy (l : Launch) (b : Nat) (D : va_G) (cy : Nat → ClassId) {Q : Int32 → hp → Prop} {S : hp} {a0 : Nat} {x1 : Int32} {x2 : Int32} {x3 : Int32} {x4 : Int32} {x5 : Int32} (h : wp_X12_copy Q S a0 x1 x2 x3 x4 x5) : MT l yX12_copy cX12_copy 9 (some .int) 2 45 0 0 b D cy S [.ref a0, .int x1, .int x2, .int x3, .int x4, .int x5] (pI Q) := by
  refine MT.of (by decide +kernel) (Nat.le_of_ble_eq_true rfl) ?_
  intro p e s m args below meth c X hr hlk hnm
  have j45 : ∀  (S : hp) (l0 : Nat), wB_X12_copy_45 Q S l0 → VM l b D cy 9 2 45 0 0 (pI Q) p e s m args below meth c S 0 0 45 [(0, .ref l0)] [] := by
    intro  S l0 h
    unfold wB_X12_copy_45 at h
    refine v_aload_n X 0 dX12_copy_45 rfl rfl ?_
    refine v_iconst X (v := 1) dX12_copy_46 (by decide) ?_
    obtain ⟨hk18, h⟩ := h
    refine v_callV X (av := [.int (1 : Int32)]) (T := TX12) (N := 26) (s_X12_finding l b D cy h) hk18 (by decide) rfl wd1031 wd1033 wd20 wd62 k_X12_finding dn_X12_finding rfl ⟨Nat.le_of_ble_eq_true rfl, Nat.le_of_ble_eq_true rfl⟩ (Nat.le_of_ble_eq_true rfl) ⟨Nat.le_of_ble_eq_true rfl, Nat.le_of_ble_eq_true rfl⟩ dX12_copy_47 rfl (kI (fun r19 S17 h => ?_))
    exact v_iret X hr hlk ⟨_, rfl, h⟩ dX12_copy_50
  have j121 : ∀  (S : hp) (l0 : Nat), wB_X12_copy_121 Q S l0 → VM l b D cy 9 2 45 0 0 (pI Q) p e s m args below meth c S 0 0 121 [(0, .ref l0)] [] := by
    intro  S l0 h
    unfold wB_X12_copy_121 at h
    refine v_aload_n X 0 dX12_copy_121 rfl rfl ?_
    refine v_iconst X (v := 2) dX12_copy_122 (by decide) ?_
    obtain ⟨hk25, h⟩ := h
    refine v_callV X (av := [.int (2 : Int32)]) (T := TX12) (N := 26) (s_X12_finding l b D cy h) hk25 (by decide) rfl wd1031 wd1033 wd20 wd62 k_X12_finding dn_X12_finding rfl ⟨Nat.le_of_ble_eq_true rfl, Nat.le_of_ble_eq_true rfl⟩ (Nat.le_of_ble_eq_true rfl) ⟨Nat.le_of_ble_eq_true rfl, Nat.le_of_ble_eq_true rfl⟩ dX12_copy_123 rfl (kI (fun r26 S24 h => ?_))
    exact v_iret X hr hlk ⟨_, rfl, h⟩ dX12_copy_126
  have j167 : ∀ (bk143 : hp → Nat → Int32 → Int32 → Int32 → Int32 → Int32 → Int32 → Int32 → Prop) (hbk143 : ∀ (S : hp) (l0 : Nat) (l1 : Int32) (l2 : Int32) (l3 : Int32) (l4 : Int32) (l5 : Int32) (l6 : Int32) (l7 : Int32), bk143 S l0 l1 l2 l3 l4 l5 l6 l7 → VM l b D cy 9 2 45 0 0 (pI Q) p e s m args below meth c S 0 0 143 [(0, .ref l0), (1, .int l1), (2, .int l2), (3, .int l3), (4, .int l4), (5, .int l5), (6, .int l6), (7, .int l7)] []) (S : hp) (l0 : Nat) (l1 : Int32) (l2 : Int32) (l3 : Int32) (l4 : Int32) (l5 : Int32) (l6 : Int32) (l7 : Int32) (k0 : Int32), wB_X12_copy_167 bk143 Q S l0 l1 l2 l3 l4 l5 l6 l7 k0 → VM l b D cy 9 2 45 0 0 (pI Q) p e s m args below meth c S 0 0 167 [(0, .ref l0), (1, .int l1), (2, .int l2), (3, .int l3), (4, .int l4), (5, .int l5), (6, .int l6), (7, .int l7)] [.int k0] := by
    intro bk143 hbk143 S l0 l1 l2 l3 l4 l5 l6 l7 k0 h
    unfold wB_X12_copy_167 at h
    refine v_istore X (lv' := [(8, .int k0), (0, .ref l0), (1, .int l1), (2, .int l2), (3, .int l3), (4, .int l4), (5, .int l5), (6, .int l6), (7, .int l7)]) dX12_copy_167 (by decide) rfl ?_
    refine v_aload_n X 1 dX12_copy_169 rfl rfl ?_
    obtain ⟨hk38, h⟩ := h
    obtain ⟨r39, hr39, h⟩ := h
    refine v_getR X (T := TX12) (N := 26) (k := 4) hk38 (by decide) rfl (by decide) inX12 wd943 rfl dX12_copy_170 hr39 ?_
    refine v_bipush X (v := 40) dX12_copy_173 (by decide) ?_
    refine v_iload_n X 4 dX12_copy_175 rfl rfl ?_
    refine v_imul X dX12_copy_176 ?_
    refine v_iload X 5 dX12_copy_177 rfl ?_
    refine v_iadd X dX12_copy_179 ?_
    refine v_iload X 0 dX12_copy_180 rfl ?_
    refine v_iadd X dX12_copy_182 ?_
    refine v_aload_n X 1 dX12_copy_183 rfl rfl ?_
    refine v_getR X (T := TX12) (N := 26) (k := 4) hk38 (by decide) rfl (by decide) inX12 wd943 rfl dX12_copy_184 hr39 ?_
    refine v_bipush X (v := 40) dX12_copy_187 (by decide) ?_
    refine v_iload_n X 2 dX12_copy_189 rfl rfl ?_
    refine v_imul X dX12_copy_190 ?_
    refine v_iload_n X 3 dX12_copy_191 rfl rfl ?_
    refine v_iadd X dX12_copy_192 ?_
    refine v_iload X 0 dX12_copy_193 rfl ?_
    refine v_iadd X dX12_copy_195 ?_
    obtain ⟨hk40, h⟩ := h
    obtain ⟨hi41, h⟩ := h
    refine v_iald X hk40 hi41 dX12_copy_196 ?_
    obtain ⟨hi42, h⟩ := h
    refine v_iast X hk40 hi42 dX12_copy_197 ?_
    refine v_nmS (fun S43 eS43 => ?_)
    replace h := h S43 eS43
    have hk44 : hK S43 l0 = 11 := by rw [eS43]; exact hk38
    have hk45 : hK S43 r39 = 12 := by rw [eS43]; exact hk40
    have hi46 : vp_in ((((40 : Int32) * l1) + l2) + k0) (hN S43 r39) := by rw [eS43]; exact hi41
    have hi47 : vp_in ((((40 : Int32) * l3) + l4) + k0) (hN S43 r39) := by rw [eS43]; exact hi42
    have hr48 : hR S43 l0 4 = some r39 := by rw [eS43]; exact hr39
    obtain ⟨v49, hv49⟩ : ∃ y : Int32, y = l7 + (1 : Int32) := ⟨_, rfl⟩
    replace h := h v49 hv49
    refine v_iinc X (j := 8) (v := v49) (lv' := [(7, .int v49), (8, .int k0), (0, .ref l0), (1, .int l1), (2, .int l2), (3, .int l3), (4, .int l4), (5, .int l5), (6, .int l6)]) dX12_copy_198 rfl (by rw [hv49] <;> rfl) (by decide) rfl ?_
    refine v_goto X (tgt := 143) dX12_copy_201 (by decide) ?_
    refine v_lv (lv' := [(0, .ref l0), (1, .int l1), (2, .int l2), (3, .int l3), (4, .int l4), (5, .int l5), (6, .int l6), (7, .int v49)]) [2, 3, 4, 5, 6, 7, 8, 0] rfl ?_
    exact hbk143 _ _ _ _ _ _ _ _ _ h
  have j143 : ∀ (bk143 : hp → Nat → Int32 → Int32 → Int32 → Int32 → Int32 → Int32 → Int32 → Prop) (hbk143 : ∀ (S : hp) (l0 : Nat) (l1 : Int32) (l2 : Int32) (l3 : Int32) (l4 : Int32) (l5 : Int32) (l6 : Int32) (l7 : Int32), bk143 S l0 l1 l2 l3 l4 l5 l6 l7 → VM l b D cy 9 2 45 0 0 (pI Q) p e s m args below meth c S 0 0 143 [(0, .ref l0), (1, .int l1), (2, .int l2), (3, .int l3), (4, .int l4), (5, .int l5), (6, .int l6), (7, .int l7)] []) (S : hp) (l0 : Nat) (l1 : Int32) (l2 : Int32) (l3 : Int32) (l4 : Int32) (l5 : Int32) (l6 : Int32) (l7 : Int32), wB_X12_copy_143 bk143 Q S l0 l1 l2 l3 l4 l5 l6 l7 → VM l b D cy 9 2 45 0 0 (pI Q) p e s m args below meth c S 0 0 143 [(0, .ref l0), (1, .int l1), (2, .int l2), (3, .int l3), (4, .int l4), (5, .int l5), (6, .int l6), (7, .int l7)] [] := by
    intro bk143 hbk143 S l0 l1 l2 l3 l4 l5 l6 l7 h
    unfold wB_X12_copy_143 at h
    refine v_iload X 7 dX12_copy_143 rfl ?_
    refine v_iload X 5 dX12_copy_145 rfl ?_
    refine v_icmp_ge X (tgt := 204) dX12_copy_147 (by decide) (fun c36 => ?_) (fun c36 => ?_)
    · replace h := h.1 c36
      refine v_iload X 5 dX12_copy_204 rfl ?_
      exact v_iret X hr hlk ⟨_, rfl, h⟩ dX12_copy_206
    · replace h := h.2 c36
      refine v_iload X 6 dX12_copy_150 rfl ?_
      refine v_if_eq X (tgt := 160) dX12_copy_152 (by decide) (fun c37 => ?_) (fun c37 => ?_)
      · replace h := h.1 c37
        refine v_iload X 5 dX12_copy_160 rfl ?_
        refine v_iconst X (v := 1) dX12_copy_162 (by decide) ?_
        refine v_isub X dX12_copy_163 ?_
        refine v_iload X 7 dX12_copy_164 rfl ?_
        refine v_isub X dX12_copy_166 ?_
        exact j167 bk143 hbk143 _ _ _ _ _ _ _ _ _ _ h
      · replace h := h.2 c37
        refine v_iload X 7 dX12_copy_155 rfl ?_
        refine v_goto X (tgt := 167) dX12_copy_157 (by decide) ?_
        exact j167 bk143 hbk143 _ _ _ _ _ _ _ _ _ _ h
  have l143 : ∀  (n : Nat) (S : hp) (l0 : Nat) (l1 : Int32) (l2 : Int32) (l3 : Int32) (l4 : Int32) (l5 : Int32) (l6 : Int32) (l7 : Int32), wl_X12_copy_143 Q n S l0 l1 l2 l3 l4 l5 l6 l7 → VM l b D cy 9 2 45 0 0 (pI Q) p e s m args below meth c S 0 0 143 [(0, .ref l0), (1, .int l1), (2, .int l2), (3, .int l3), (4, .int l4), (5, .int l5), (6, .int l6), (7, .int l7)] [] := by
    intro  n
    induction n with
    | zero => intro S l0 l1 l2 l3 l4 l5 l6 l7 h; exact h.elim
    | succ n ih => intro S l0 l1 l2 l3 l4 l5 l6 l7 h; exact j143 (wl_X12_copy_143 Q n) ih S l0 l1 l2 l3 l4 l5 l6 l7 h
  have j138 : ∀  (S : hp) (l0 : Nat) (l1 : Int32) (l2 : Int32) (l3 : Int32) (l4 : Int32) (l5 : Int32) (k0 : Int32), wB_X12_copy_138 Q S l0 l1 l2 l3 l4 l5 k0 → VM l b D cy 9 2 45 0 0 (pI Q) p e s m args below meth c S 0 0 138 [(0, .ref l0), (1, .int l1), (2, .int l2), (3, .int l3), (4, .int l4), (5, .int l5)] [.int k0] := by
    intro  S l0 l1 l2 l3 l4 l5 k0 h
    unfold wB_X12_copy_138 at h
    refine v_istore X (lv' := [(6, .int k0), (0, .ref l0), (1, .int l1), (2, .int l2), (3, .int l3), (4, .int l4), (5, .int l5)]) dX12_copy_138 (by decide) rfl ?_
    refine v_iconst X (v := 0) dX12_copy_140 (by decide) ?_
    refine v_istore X (lv' := [(7, .int (0 : Int32)), (6, .int k0), (0, .ref l0), (1, .int l1), (2, .int l2), (3, .int l3), (4, .int l4), (5, .int l5)]) dX12_copy_141 (by decide) rfl ?_
    refine v_lv (lv' := [(0, .ref l0), (1, .int l1), (2, .int l2), (3, .int l3), (4, .int l4), (5, .int l5), (6, .int k0), (7, .int (0 : Int32))]) [2, 3, 4, 5, 6, 7, 1, 0] rfl ?_
    obtain ⟨n, h⟩ := h
    exact l143 n _ _ _ _ _ _ _ _ _ h
  unfold wp_X12_copy at h
  show VM l b D cy 9 2 45 0 0 (pI Q) p e s m args below meth c S 0 0 0 [(0, .ref a0), (1, .int x1), (2, .int x2), (3, .int x3), (4, .int x4), (5, .int x5)] []
  refine v_aload_n X 0 dX12_copy_0 rfl rfl ?_
  refine v_iconst X (v := 0) dX12_copy_1 (by decide) ?_
  obtain ⟨hk1, h⟩ := h
  refine v_putI X (T := TX12) (N := 26) (k := 0) hk1 (by decide) rfl (by decide) inX12 wd939 tyX12 tyX12_ok nmX12 rfl rfl rfl rfl dX12_copy_2 ?_
  refine v_nmS (fun S2 eS2 => ?_)
  replace h := h S2 eS2
  have hk3 : hK S2 a0 = 11 := by rw [eS2]; exact hk1
  refine v_iload_n X 1 dX12_copy_5 rfl rfl ?_
  refine v_callS X (av := [.int x1]) (s_X12_isRow l b D cy h) wd1022 wd1023 wd62 k_X12_isRow dn_X12_isRow rfl ⟨Nat.le_of_ble_eq_true rfl, Nat.le_of_ble_eq_true rfl⟩ (Nat.le_of_ble_eq_true rfl) ⟨Nat.le_of_ble_eq_true rfl, Nat.le_of_ble_eq_true rfl⟩ dX12_copy_6 rfl (kI (fun r5 S4 h => ?_))
  refine v_if_eq X (tgt := 19) dX12_copy_9 (by decide) (fun c6 => ?_) (fun c6 => ?_)
  · replace h := h.1 c6
    refine v_ldc X wd1030 dX12_copy_19 ?_
    exact v_iret X hr hlk ⟨_, rfl, h⟩ dX12_copy_21
  · replace h := h.2 c6
    refine v_iload_n X 3 dX12_copy_12 rfl rfl ?_
    refine v_callS X (av := [.int x3]) (s_X12_isRow l b D cy h) wd1022 wd1023 wd62 k_X12_isRow dn_X12_isRow rfl ⟨Nat.le_of_ble_eq_true rfl, Nat.le_of_ble_eq_true rfl⟩ (Nat.le_of_ble_eq_true rfl) ⟨Nat.le_of_ble_eq_true rfl, Nat.le_of_ble_eq_true rfl⟩ dX12_copy_13 rfl (kI (fun r8 S7 h => ?_))
    refine v_if_ne X (tgt := 22) dX12_copy_16 (by decide) (fun c9 => ?_) (fun c9 => ?_)
    · replace h := h.1 c9
      refine v_aload_n X 0 dX12_copy_22 rfl rfl ?_
      refine v_iconst X (v := 0) dX12_copy_23 (by decide) ?_
      obtain ⟨hk10, h⟩ := h
      refine v_putI X (T := TX12) (N := 26) (k := 1) hk10 (by decide) rfl (by decide) inX12 wd940 tyX12 tyX12_ok nmX12 rfl rfl rfl rfl dX12_copy_24 ?_
      refine v_nmS (fun S11 eS11 => ?_)
      replace h := h S11 eS11
      have hk12 : hK S11 a0 = 11 := by rw [eS11]; exact hk10
      refine v_aload_n X 0 dX12_copy_27 rfl rfl ?_
      obtain ⟨r13, hr13, h⟩ := h
      refine v_getR X (T := TX12) (N := 26) (k := 2) hk12 (by decide) rfl (by decide) inX12 wd941 rfl dX12_copy_28 hr13 ?_
      refine v_iload_n X 1 dX12_copy_31 rfl rfl ?_
      obtain ⟨hk14, h⟩ := h
      obtain ⟨hi15, h⟩ := h
      refine v_iald X hk14 hi15 dX12_copy_32 ?_
      refine v_if_lt X (tgt := 45) dX12_copy_33 (by decide) (fun c16 => ?_) (fun c16 => ?_)
      · replace h := h.1 c16
        refine v_lv (lv' := [(0, .ref a0)]) [0] rfl ?_
        exact j45 _ _ h
      · replace h := h.2 c16
        refine v_aload_n X 0 dX12_copy_36 rfl rfl ?_
        refine v_getR X (T := TX12) (N := 26) (k := 2) hk12 (by decide) rfl (by decide) inX12 wd941 rfl dX12_copy_37 hr13 ?_
        refine v_iload_n X 3 dX12_copy_40 rfl rfl ?_
        obtain ⟨hi20, h⟩ := h
        refine v_iald X hk14 hi20 dX12_copy_41 ?_
        refine v_if_ge X (tgt := 51) dX12_copy_42 (by decide) (fun c21 => ?_) (fun c21 => ?_)
        · replace h := h.1 c21
          refine v_aload_n X 0 dX12_copy_51 rfl rfl ?_
          refine v_getR X (T := TX12) (N := 26) (k := 2) hk12 (by decide) rfl (by decide) inX12 wd941 rfl dX12_copy_52 hr13 ?_
          refine v_iload_n X 1 dX12_copy_55 rfl rfl ?_
          refine v_iald X hk14 hi15 dX12_copy_56 ?_
          refine v_aload_n X 0 dX12_copy_57 rfl rfl ?_
          refine v_getR X (T := TX12) (N := 26) (k := 2) hk12 (by decide) rfl (by decide) inX12 wd941 rfl dX12_copy_58 hr13 ?_
          refine v_iload_n X 3 dX12_copy_61 rfl rfl ?_
          refine v_iald X hk14 hi20 dX12_copy_62 ?_
          refine v_icmp_eq X (tgt := 72) dX12_copy_63 (by decide) (fun c22 => ?_) (fun c22 => ?_)
          · replace h := h.1 c22
            refine v_iload_n X 2 dX12_copy_72 rfl rfl ?_
            refine v_if_lt X (tgt := 121) dX12_copy_73 (by decide) (fun c23 => ?_) (fun c23 => ?_)
            · replace h := h.1 c23
              refine v_lv (lv' := [(0, .ref a0)]) [0] rfl ?_
              exact j121 _ _ h
            · replace h := h.2 c23
              refine v_iload X 4 dX12_copy_76 rfl ?_
              refine v_if_lt X (tgt := 121) dX12_copy_78 (by decide) (fun c27 => ?_) (fun c27 => ?_)
              · replace h := h.1 c27
                refine v_lv (lv' := [(0, .ref a0)]) [0] rfl ?_
                exact j121 _ _ h
              · replace h := h.2 c27
                refine v_iload X 5 dX12_copy_81 rfl ?_
                refine v_if_lt X (tgt := 121) dX12_copy_83 (by decide) (fun c28 => ?_) (fun c28 => ?_)
                · replace h := h.1 c28
                  refine v_lv (lv' := [(0, .ref a0)]) [0] rfl ?_
                  exact j121 _ _ h
                · replace h := h.2 c28
                  refine v_iload_n X 2 dX12_copy_86 rfl rfl ?_
                  refine v_i2l X dX12_copy_87 ?_
                  refine v_iload X 5 dX12_copy_88 rfl ?_
                  refine v_i2l X dX12_copy_90 ?_
                  refine v_ladd X dX12_copy_91 ?_
                  refine v_aload_n X 0 dX12_copy_92 rfl rfl ?_
                  obtain ⟨r29, hr29, h⟩ := h
                  refine v_getR X (T := TX12) (N := 26) (k := 3) hk12 (by decide) rfl (by decide) inX12 wd942 rfl dX12_copy_93 hr29 ?_
                  refine v_iload_n X 1 dX12_copy_96 rfl rfl ?_
                  obtain ⟨hk30, h⟩ := h
                  obtain ⟨hi31, h⟩ := h
                  refine v_iald X hk30 hi31 dX12_copy_97 ?_
                  refine v_i2l X dX12_copy_98 ?_
                  refine v_lcmp X dX12_copy_99 ?_
                  refine v_if_gt X (tgt := 121) dX12_copy_100 (by decide) (fun c32 => ?_) (fun c32 => ?_)
                  · replace h := h.1 c32
                    refine v_lv (lv' := [(0, .ref a0)]) [0] rfl ?_
                    exact j121 _ _ h
                  · replace h := h.2 c32
                    refine v_iload X 4 dX12_copy_103 rfl ?_
                    refine v_i2l X dX12_copy_105 ?_
                    refine v_iload X 5 dX12_copy_106 rfl ?_
                    refine v_i2l X dX12_copy_108 ?_
                    refine v_ladd X dX12_copy_109 ?_
                    refine v_aload_n X 0 dX12_copy_110 rfl rfl ?_
                    refine v_getR X (T := TX12) (N := 26) (k := 3) hk12 (by decide) rfl (by decide) inX12 wd942 rfl dX12_copy_111 hr29 ?_
                    refine v_iload_n X 3 dX12_copy_114 rfl rfl ?_
                    obtain ⟨hi33, h⟩ := h
                    refine v_iald X hk30 hi33 dX12_copy_115 ?_
                    refine v_i2l X dX12_copy_116 ?_
                    refine v_lcmp X dX12_copy_117 ?_
                    refine v_if_le X (tgt := 127) dX12_copy_118 (by decide) (fun c34 => ?_) (fun c34 => ?_)
                    · replace h := h.1 c34
                      refine v_iload_n X 2 dX12_copy_127 rfl rfl ?_
                      refine v_iload X 4 dX12_copy_128 rfl ?_
                      refine v_icmp_lt X (tgt := 137) dX12_copy_130 (by decide) (fun c35 => ?_) (fun c35 => ?_)
                      · replace h := h.1 c35
                        refine v_iconst X (v := 0) dX12_copy_137 (by decide) ?_
                        exact j138 _ _ _ _ _ _ _ _ h
                      · replace h := h.2 c35
                        refine v_iconst X (v := 1) dX12_copy_133 (by decide) ?_
                        refine v_goto X (tgt := 138) dX12_copy_134 (by decide) ?_
                        exact j138 _ _ _ _ _ _ _ _ h
                    · replace h := h.2 c34
                      refine v_lv (lv' := [(0, .ref a0)]) [0] rfl ?_
                      exact j121 _ _ h
          · replace h := h.2 c22
            refine v_aload_n X 0 dX12_copy_66 rfl rfl ?_
            refine v_iconst X (v := 5) dX12_copy_67 (by decide) ?_
            refine v_callV X (av := [.int (5 : Int32)]) (T := TX12) (N := 26) (s_X12_finding l b D cy h) hk12 (by decide) rfl wd1031 wd1033 wd20 wd62 k_X12_finding dn_X12_finding rfl ⟨Nat.le_of_ble_eq_true rfl, Nat.le_of_ble_eq_true rfl⟩ (Nat.le_of_ble_eq_true rfl) ⟨Nat.le_of_ble_eq_true rfl, Nat.le_of_ble_eq_true rfl⟩ dX12_copy_68 rfl (kI (fun r51 S50 h => ?_))
            exact v_iret X hr hlk ⟨_, rfl, h⟩ dX12_copy_71
        · replace h := h.2 c21
          refine v_lv (lv' := [(0, .ref a0)]) [0] rfl ?_
          exact j45 _ _ h
    · replace h := h.2 c9
      refine v_ldc X wd1030 dX12_copy_19 ?_
      exact v_iret X hr hlk ⟨_, rfl, h⟩ dX12_copy_21
def wp_X12_drop (Q : Int32 → hp → Prop) (S : hp) (a0 : Nat) (x1 : Int32) : Prop :=
  hK S a0 = 11 ∧ ∀ S2 : hp, S2 = setI S a0 0 (0 : Int32) → wp_X12_isRow (fun r5 S4 => ((¬ r5 = 0 → hK S4 a0 = 11 ∧ ∀ S8 : hp, S8 = setI S4 a0 1 (0 : Int32) → ∃ r10 : Nat, hR S8 a0 2 = some r10 ∧ hK S8 r10 = 12 ∧ vp_in x1 (hN S8 r10) ∧ ((0 ≤ (hI S8 r10 (x1).toNatClampNeg) → ∀ S14 : hp, S14 = setI S8 r10 (x1).toNatClampNeg (-1 : Int32) → ∃ r19 : Nat, hR S14 a0 3 = some r19 ∧ hK S14 r19 = 12 ∧ vp_in x1 (hN S14 r19) ∧ Q (hI S14 r19 (x1).toNatClampNeg) S14) ∧ (¬ 0 ≤ (hI S8 r10 (x1).toNatClampNeg) → wp_X12_finding (fun r23 S22 => Q r23 S22) S8 a0 (1 : Int32)))) ∧ (r5 = 0 → Q (-1000001 : Int32) S4))) S2 x1
theorem k_X12_drop : Cond.code yX12_drop cX12_drop 2 (some .int) ∈ gtb := mg 1047 (by decide +kernel) (by decide +kernel)
theorem dn_X12_drop : yX12_drop.cls ≠ "java/lang/invoke/MethodHandle" ∧ yX12_drop.cls ≠ "java/lang/invoke/VarHandle" ∧ (parseMethodDescriptor yX12_drop.desc).map (fun d => d.parameters.length) = some 1 := by decide +kernel
set_option maxRecDepth 100000 in
set_option maxHeartbeats 4000000 in
theorem s_X12_drop (l : Launch) (b : Nat) (D : va_G) (cy : Nat → ClassId) {Q : Int32 → hp → Prop} {S : hp} {a0 : Nat} {x1 : Int32} (h : wp_X12_drop Q S a0 x1) : MT l yX12_drop cX12_drop 2 (some .int) 2 45 0 0 b D cy S [.ref a0, .int x1] (pI Q) := by
  refine MT.of (by decide +kernel) (Nat.le_of_ble_eq_true rfl) ?_
  intro p e s m args below meth c X hr hlk hnm
  unfold wp_X12_drop at h
  show VM l b D cy 2 2 45 0 0 (pI Q) p e s m args below meth c S 0 0 0 [(0, .ref a0), (1, .int x1)] []
  refine v_aload_n X 0 dX12_drop_0 rfl rfl ?_
  refine v_iconst X (v := 0) dX12_drop_1 (by decide) ?_
  obtain ⟨hk1, h⟩ := h
  refine v_putI X (T := TX12) (N := 26) (k := 0) hk1 (by decide) rfl (by decide) inX12 wd939 tyX12 tyX12_ok nmX12 rfl rfl rfl rfl dX12_drop_2 ?_
  refine v_nmS (fun S2 eS2 => ?_)
  replace h := h S2 eS2
  have hk3 : hK S2 a0 = 11 := by rw [eS2]; exact hk1
  refine v_iload_n X 1 dX12_drop_5 rfl rfl ?_
  refine v_callS X (av := [.int x1]) (s_X12_isRow l b D cy h) wd1022 wd1023 wd62 k_X12_isRow dn_X12_isRow rfl ⟨Nat.le_of_ble_eq_true rfl, Nat.le_of_ble_eq_true rfl⟩ (Nat.le_of_ble_eq_true rfl) ⟨Nat.le_of_ble_eq_true rfl, Nat.le_of_ble_eq_true rfl⟩ dX12_drop_6 rfl (kI (fun r5 S4 h => ?_))
  refine v_if_ne X (tgt := 15) dX12_drop_9 (by decide) (fun c6 => ?_) (fun c6 => ?_)
  · replace h := h.1 c6
    refine v_aload_n X 0 dX12_drop_15 rfl rfl ?_
    refine v_iconst X (v := 0) dX12_drop_16 (by decide) ?_
    obtain ⟨hk7, h⟩ := h
    refine v_putI X (T := TX12) (N := 26) (k := 1) hk7 (by decide) rfl (by decide) inX12 wd940 tyX12 tyX12_ok nmX12 rfl rfl rfl rfl dX12_drop_17 ?_
    refine v_nmS (fun S8 eS8 => ?_)
    replace h := h S8 eS8
    have hk9 : hK S8 a0 = 11 := by rw [eS8]; exact hk7
    refine v_aload_n X 0 dX12_drop_20 rfl rfl ?_
    obtain ⟨r10, hr10, h⟩ := h
    refine v_getR X (T := TX12) (N := 26) (k := 2) hk9 (by decide) rfl (by decide) inX12 wd941 rfl dX12_drop_21 hr10 ?_
    refine v_iload_n X 1 dX12_drop_24 rfl rfl ?_
    obtain ⟨hk11, h⟩ := h
    obtain ⟨hi12, h⟩ := h
    refine v_iald X hk11 hi12 dX12_drop_25 ?_
    refine v_if_ge X (tgt := 35) dX12_drop_26 (by decide) (fun c13 => ?_) (fun c13 => ?_)
    · replace h := h.1 c13
      refine v_aload_n X 0 dX12_drop_35 rfl rfl ?_
      refine v_getR X (T := TX12) (N := 26) (k := 2) hk9 (by decide) rfl (by decide) inX12 wd941 rfl dX12_drop_36 hr10 ?_
      refine v_iload_n X 1 dX12_drop_39 rfl rfl ?_
      refine v_iconst X (v := -1) dX12_drop_40 (by decide) ?_
      refine v_iast X hk11 hi12 dX12_drop_41 ?_
      refine v_nmS (fun S14 eS14 => ?_)
      replace h := h S14 eS14
      have hk15 : hK S14 a0 = 11 := by rw [eS14]; exact hk9
      have hk16 : hK S14 r10 = 12 := by rw [eS14]; exact hk11
      have hi17 : vp_in x1 (hN S14 r10) := by rw [eS14]; exact hi12
      have hr18 : hR S14 a0 2 = some r10 := by rw [eS14]; exact hr10
      refine v_aload_n X 0 dX12_drop_42 rfl rfl ?_
      obtain ⟨r19, hr19, h⟩ := h
      refine v_getR X (T := TX12) (N := 26) (k := 3) hk15 (by decide) rfl (by decide) inX12 wd942 rfl dX12_drop_43 hr19 ?_
      refine v_iload_n X 1 dX12_drop_46 rfl rfl ?_
      obtain ⟨hk20, h⟩ := h
      obtain ⟨hi21, h⟩ := h
      refine v_iald X hk20 hi21 dX12_drop_47 ?_
      exact v_iret X hr hlk ⟨_, rfl, h⟩ dX12_drop_48
    · replace h := h.2 c13
      refine v_aload_n X 0 dX12_drop_29 rfl rfl ?_
      refine v_iconst X (v := 1) dX12_drop_30 (by decide) ?_
      refine v_callV X (av := [.int (1 : Int32)]) (T := TX12) (N := 26) (s_X12_finding l b D cy h) hk9 (by decide) rfl wd1031 wd1033 wd20 wd62 k_X12_finding dn_X12_finding rfl ⟨Nat.le_of_ble_eq_true rfl, Nat.le_of_ble_eq_true rfl⟩ (Nat.le_of_ble_eq_true rfl) ⟨Nat.le_of_ble_eq_true rfl, Nat.le_of_ble_eq_true rfl⟩ dX12_drop_31 rfl (kI (fun r23 S22 h => ?_))
      exact v_iret X hr hlk ⟨_, rfl, h⟩ dX12_drop_34
  · replace h := h.2 c6
    refine v_ldc X wd1030 dX12_drop_12 ?_
    exact v_iret X hr hlk ⟨_, rfl, h⟩ dX12_drop_14
def wp_X12_feed (Q : Int32 → hp → Prop) (S : hp) (a0 : Nat) (x1 : Int32) : Prop :=
  hK S a0 = 11 ∧ ∀ S2 : hp, S2 = setI S a0 0 (0 : Int32) → wp_X12_in (fun r5 S4 => ((¬ r5 = 0 → hK S4 a0 = 11 ∧ ((¬ (hI S4 a0 10) = (140 : Int32) → ∃ r9 : Nat, hR S4 a0 9 = some r9 ∧ hK S4 r9 = 12 ∧ vp_in (hI S4 a0 10) (hN S4 r9) ∧ ∀ S12 : hp, S12 = setI S4 r9 ((hI S4 a0 10)).toNatClampNeg x1 → ∀ S17 : hp, S17 = setI S12 a0 10 ((hI S12 a0 10) + (1 : Int32)) → Q (hI S17 a0 10) S17) ∧ ((hI S4 a0 10) = (140 : Int32) → Q (-1000003 : Int32) S4))) ∧ (r5 = 0 → Q (-1000001 : Int32) S4))) S2 ((x1).toInt64) ((0 : Int64)) ((255 : Int64))
theorem k_X12_feed : Cond.code yX12_feed cX12_feed 2 (some .int) ∈ gtb := mg 1051 (by decide +kernel) (by decide +kernel)
theorem dn_X12_feed : yX12_feed.cls ≠ "java/lang/invoke/MethodHandle" ∧ yX12_feed.cls ≠ "java/lang/invoke/VarHandle" ∧ (parseMethodDescriptor yX12_feed.desc).map (fun d => d.parameters.length) = some 1 := by decide +kernel
set_option maxRecDepth 100000 in
set_option maxHeartbeats 4000000 in
theorem s_X12_feed (l : Launch) (b : Nat) (D : va_G) (cy : Nat → ClassId) {Q : Int32 → hp → Prop} {S : hp} {a0 : Nat} {x1 : Int32} (h : wp_X12_feed Q S a0 x1) : MT l yX12_feed cX12_feed 2 (some .int) 1 25 0 0 b D cy S [.ref a0, .int x1] (pI Q) := by
  refine MT.of (by decide +kernel) (Nat.le_of_ble_eq_true rfl) ?_
  intro p e s m args below meth c X hr hlk hnm
  unfold wp_X12_feed at h
  show VM l b D cy 2 1 25 0 0 (pI Q) p e s m args below meth c S 0 0 0 [(0, .ref a0), (1, .int x1)] []
  refine v_aload_n X 0 dX12_feed_0 rfl rfl ?_
  refine v_iconst X (v := 0) dX12_feed_1 (by decide) ?_
  obtain ⟨hk1, h⟩ := h
  refine v_putI X (T := TX12) (N := 26) (k := 0) hk1 (by decide) rfl (by decide) inX12 wd939 tyX12 tyX12_ok nmX12 rfl rfl rfl rfl dX12_feed_2 ?_
  refine v_nmS (fun S2 eS2 => ?_)
  replace h := h S2 eS2
  have hk3 : hK S2 a0 = 11 := by rw [eS2]; exact hk1
  refine v_iload_n X 1 dX12_feed_5 rfl rfl ?_
  refine v_i2l X dX12_feed_6 ?_
  refine v_lconst X (v := 0) dX12_feed_7 (by decide) ?_
  refine v_ldc2 X wd1052 dX12_feed_8 ?_
  refine v_callS X (av := [.long (x1).toInt64, .long (0 : Int64), .long (255 : Int64)]) (s_X12_in l b D cy h) wd1026 wd1027 wd62 k_X12_in dn_X12_in rfl ⟨Nat.le_of_ble_eq_true rfl, Nat.le_of_ble_eq_true rfl⟩ (Nat.le_of_ble_eq_true rfl) ⟨Nat.le_of_ble_eq_true rfl, Nat.le_of_ble_eq_true rfl⟩ dX12_feed_11 rfl (kI (fun r5 S4 h => ?_))
  refine v_if_ne X (tgt := 20) dX12_feed_14 (by decide) (fun c6 => ?_) (fun c6 => ?_)
  · replace h := h.1 c6
    refine v_aload_n X 0 dX12_feed_20 rfl rfl ?_
    obtain ⟨hk7, h⟩ := h
    refine v_getI X (T := TX12) (N := 26) (k := 10) hk7 (by decide) rfl (by decide) inX12 wd949 rfl dX12_feed_21 ?_
    refine v_sipush X (v := 140) dX12_feed_24 (by decide) ?_
    refine v_icmp_ne X (tgt := 33) dX12_feed_27 (by decide) (fun c8 => ?_) (fun c8 => ?_)
    · replace h := h.1 c8
      refine v_aload_n X 0 dX12_feed_33 rfl rfl ?_
      obtain ⟨r9, hr9, h⟩ := h
      refine v_getR X (T := TX12) (N := 26) (k := 9) hk7 (by decide) rfl (by decide) inX12 wd948 rfl dX12_feed_34 hr9 ?_
      refine v_aload_n X 0 dX12_feed_37 rfl rfl ?_
      refine v_getI X (T := TX12) (N := 26) (k := 10) hk7 (by decide) rfl (by decide) inX12 wd949 rfl dX12_feed_38 ?_
      refine v_iload_n X 1 dX12_feed_41 rfl rfl ?_
      obtain ⟨hk10, h⟩ := h
      obtain ⟨hi11, h⟩ := h
      refine v_iast X hk10 hi11 dX12_feed_42 ?_
      refine v_nmS (fun S12 eS12 => ?_)
      replace h := h S12 eS12
      have hk13 : hK S12 a0 = 11 := by rw [eS12]; exact hk7
      have hk14 : hK S12 r9 = 12 := by rw [eS12]; exact hk10
      have hi15 : vp_in (hI S4 a0 10) (hN S12 r9) := by rw [eS12]; exact hi11
      have hr16 : hR S12 a0 9 = some r9 := by rw [eS12]; exact hr9
      refine v_aload_n X 0 dX12_feed_43 rfl rfl ?_
      refine v_dup X dX12_feed_44 rfl ?_
      refine v_getI X (T := TX12) (N := 26) (k := 10) hk13 (by decide) rfl (by decide) inX12 wd949 rfl dX12_feed_45 ?_
      refine v_iconst X (v := 1) dX12_feed_48 (by decide) ?_
      refine v_iadd X dX12_feed_49 ?_
      refine v_putI X (T := TX12) (N := 26) (k := 10) hk13 (by decide) rfl (by decide) inX12 wd949 tyX12 tyX12_ok nmX12 rfl rfl rfl rfl dX12_feed_50 ?_
      refine v_nmS (fun S17 eS17 => ?_)
      replace h := h S17 eS17
      have hk18 : hK S17 a0 = 11 := by rw [eS17]; exact hk13
      have hk19 : hK S17 r9 = 12 := by rw [eS17]; exact hk14
      have hi20 : vp_in (hI S4 a0 10) (hN S17 r9) := by rw [eS17]; exact hi15
      have hr21 : hR S17 a0 9 = some r9 := by rw [eS17]; exact hr16
      refine v_aload_n X 0 dX12_feed_53 rfl rfl ?_
      refine v_getI X (T := TX12) (N := 26) (k := 10) hk18 (by decide) rfl (by decide) inX12 wd949 rfl dX12_feed_54 ?_
      exact v_iret X hr hlk ⟨_, rfl, h⟩ dX12_feed_57
    · replace h := h.2 c8
      refine v_ldc X wd1053 dX12_feed_30 ?_
      exact v_iret X hr hlk ⟨_, rfl, h⟩ dX12_feed_32
  · replace h := h.2 c6
    refine v_ldc X wd1030 dX12_feed_17 ?_
    exact v_iret X hr hlk ⟨_, rfl, h⟩ dX12_feed_19
def wp_X12_bad (Q : hp → Prop) (S : hp) (a0 : Nat) (x1 : Int32) : Prop :=
  hK S a0 = 11 ∧ ((¬ (hI S a0 15) = 0 → Q S) ∧ ((hI S a0 15) = 0 → ∀ S3 : hp, S3 = setI S a0 15 x1 → ∀ S5 : hp, S5 = setI S3 a0 16 (hI S3 a0 12) → Q S5))
theorem k_X12_bad : Cond.code yX12_bad cX12_bad 2 none ∈ gtb := mg 1086 (by decide +kernel) (by decide +kernel)
theorem dn_X12_bad : yX12_bad.cls ≠ "java/lang/invoke/MethodHandle" ∧ yX12_bad.cls ≠ "java/lang/invoke/VarHandle" ∧ (parseMethodDescriptor yX12_bad.desc).map (fun d => d.parameters.length) = some 1 := by decide +kernel
set_option maxRecDepth 100000 in
set_option maxHeartbeats 4000000 in
theorem s_X12_bad (l : Launch) (b : Nat) (D : va_G) (cy : Nat → ClassId) {Q : hp → Prop} {S : hp} {a0 : Nat} {x1 : Int32} (h : wp_X12_bad Q S a0 x1) : MT l yX12_bad cX12_bad 2 none 0 0 0 0 b D cy S [.ref a0, .int x1] (pV Q) := by
  refine MT.of (by decide +kernel) (Nat.le_of_ble_eq_true rfl) ?_
  intro p e s m args below meth c X hr hlk hnm
  unfold wp_X12_bad at h
  show VM l b D cy 2 0 0 0 0 (pV Q) p e s m args below meth c S 0 0 0 [(0, .ref a0), (1, .int x1)] []
  refine v_aload_n X 0 dX12_bad_0 rfl rfl ?_
  obtain ⟨hk1, h⟩ := h
  refine v_getI X (T := TX12) (N := 26) (k := 15) hk1 (by decide) rfl (by decide) inX12 wd954 rfl dX12_bad_1 ?_
  refine v_if_ne X (tgt := 20) dX12_bad_4 (by decide) (fun c2 => ?_) (fun c2 => ?_)
  · replace h := h.1 c2
    exact v_vret X hr hlk ⟨rfl, h⟩ dX12_bad_20
  · replace h := h.2 c2
    refine v_aload_n X 0 dX12_bad_7 rfl rfl ?_
    refine v_iload_n X 1 dX12_bad_8 rfl rfl ?_
    refine v_putI X (T := TX12) (N := 26) (k := 15) hk1 (by decide) rfl (by decide) inX12 wd954 tyX12 tyX12_ok nmX12 rfl rfl rfl rfl dX12_bad_9 ?_
    refine v_nmS (fun S3 eS3 => ?_)
    replace h := h S3 eS3
    have hk4 : hK S3 a0 = 11 := by rw [eS3]; exact hk1
    refine v_aload_n X 0 dX12_bad_12 rfl rfl ?_
    refine v_aload_n X 0 dX12_bad_13 rfl rfl ?_
    refine v_getI X (T := TX12) (N := 26) (k := 12) hk4 (by decide) rfl (by decide) inX12 wd951 rfl dX12_bad_14 ?_
    refine v_putI X (T := TX12) (N := 26) (k := 16) hk4 (by decide) rfl (by decide) inX12 wd955 tyX12 tyX12_ok nmX12 rfl rfl rfl rfl dX12_bad_17 ?_
    refine v_nmS (fun S5 eS5 => ?_)
    replace h := h S5 eS5
    have hk6 : hK S5 a0 = 11 := by rw [eS5]; exact hk4
    exact v_vret X hr hlk ⟨rfl, h⟩ dX12_bad_20
def wB_X12_nextToken_274 (Q : hp → Prop) (S : hp) (k0 : Int32) (k1 : Nat) : Prop :=
  hK S k1 = 11 ∧ ∀ S37 : hp, S37 = setI S k1 13 k0 → Q S37
def wB_X12_nextToken_255 (Q : hp → Prop) (S : hp) (l0 : Nat) : Prop :=
  hK S l0 = 11 ∧ ((((hI S l0 11) - (hI S l0 12)) ≤ (2 : Int32) → wB_X12_nextToken_274 Q S (3 : Int32) l0) ∧ (¬ ((hI S l0 11) - (hI S l0 12)) ≤ (2 : Int32) → wB_X12_nextToken_274 Q S (0 : Int32) l0))
def wB_X12_nextToken_239 (bk165 : hp → Nat → Prop) (Q : hp → Prop) (S : hp) (l0 : Nat) (k0 : Int32) (k1 : Nat) : Prop :=
  hK S k1 = 11 ∧ ∀ S48 : hp, S48 = setI S k1 14 k0 → hK S48 l0 = 11 ∧ ∀ S51 : hp, S51 = setI S48 l0 11 ((hI S48 l0 11) + (1 : Int32)) → bk165 S51 l0
def wB_X12_nextToken_165 (bk165 : hp → Nat → Prop) (Q : hp → Prop) (S : hp) (l0 : Nat) : Prop :=
  hK S l0 = 11 ∧ (((hI S l0 10) ≤ (hI S l0 11) → wB_X12_nextToken_255 Q S l0) ∧ (¬ (hI S l0 10) ≤ (hI S l0 11) → ∃ r39 : Nat, hR S l0 9 = some r39 ∧ hK S r39 = 12 ∧ vp_in (hI S l0 11) (hN S r39) ∧ wp_X12_in (fun r43 S42 => ((r43 = 0 → wB_X12_nextToken_255 Q S42 l0) ∧ (¬ r43 = 0 → hK S42 l0 = 11 ∧ (((2 : Int32) ≤ ((hI S42 l0 11) - (hI S42 l0 12)) → wB_X12_nextToken_239 bk165 Q S42 l0 ((hI S42 l0 14)) l0) ∧ (¬ (2 : Int32) ≤ ((hI S42 l0 11) - (hI S42 l0 12)) → ∃ r54 : Nat, hR S42 l0 9 = some r54 ∧ hK S42 r54 = 12 ∧ vp_in (hI S42 l0 11) (hN S42 r54) ∧ wB_X12_nextToken_239 bk165 Q S42 l0 (((((10 : Int32) * (hI S42 l0 14)) + (hI S42 r54 ((hI S42 l0 11)).toNatClampNeg)) - (48 : Int32))) l0))))) S (((hI S r39 ((hI S l0 11)).toNatClampNeg)).toInt64) ((48 : Int64)) ((57 : Int64))))
def wl_X12_nextToken_165 (Q : hp → Prop) : Nat → hp → Nat → Prop
  | 0 => fun _ _ => False
  | n + 1 => wB_X12_nextToken_165 (wl_X12_nextToken_165 Q n) Q
def wB_X12_nextToken_142 (Q : hp → Prop) (S : hp) (l0 : Nat) (k0 : Int32) (k1 : Int32) (k2 : Nat) : Prop :=
  hK S k2 = 11 ∧ ∀ S25 : hp, S25 = setI S k2 11 (k1 + k0) → hK S25 l0 = 11 ∧ ((¬ (hI S25 l0 13) = (3 : Int32) → Q S25) ∧ ((hI S25 l0 13) = (3 : Int32) → ∀ S29 : hp, S29 = setI S25 l0 14 ((hI S25 l0 14) - (48 : Int32)) → ∃ n : Nat, wl_X12_nextToken_165 Q n S29 l0))
def wB_X12_nextToken_118 (Q : hp → Prop) (S : hp) (l0 : Nat) (k0 : Int32) (k1 : Nat) : Prop :=
  hK S k1 = 11 ∧ ∀ S20 : hp, S20 = setI S k1 13 k0 → hK S20 l0 = 11 ∧ (((hI S20 l0 10) ≤ (hI S20 l0 11) → wB_X12_nextToken_142 Q S20 l0 (0 : Int32) ((hI S20 l0 11)) l0) ∧ (¬ (hI S20 l0 10) ≤ (hI S20 l0 11) → wB_X12_nextToken_142 Q S20 l0 (1 : Int32) ((hI S20 l0 11)) l0))
def wB_X12_nextToken_113 (Q : hp → Prop) (S : hp) (l0 : Nat) (k0 : Nat) : Prop :=
  wB_X12_nextToken_118 Q S l0 (4 : Int32) k0
def wB_X12_nextToken_34 (Q : hp → Prop) (S : hp) (l0 : Nat) (k0 : Int32) (k1 : Nat) : Prop :=
  hK S k1 = 11 ∧ ∀ S6 : hp, S6 = setI S k1 14 k0 → hK S6 l0 = 11 ∧ ((¬ (hI S6 l0 11) = (hI S6 l0 10) → wp_X12_in (fun r11 S10 => ((r11 = 0 → hK S10 l0 = 11 ∧ wp_X12_in (fun r15 S14 => ((r15 = 0 → hK S14 l0 = 11 ∧ (((hI S14 l0 14) = (44 : Int32) → wB_X12_nextToken_113 Q S14 l0 l0) ∧ (¬ (hI S14 l0 14) = (44 : Int32) → ((¬ (hI S14 l0 14) = (59 : Int32) → wB_X12_nextToken_118 Q S14 l0 (0 : Int32) l0) ∧ ((hI S14 l0 14) = (59 : Int32) → wB_X12_nextToken_113 Q S14 l0 l0))))) ∧ (¬ r15 = 0 → wB_X12_nextToken_118 Q S14 l0 (3 : Int32) l0))) S10 (((hI S10 l0 14)).toInt64) ((48 : Int64)) ((57 : Int64))) ∧ (¬ r11 = 0 → wB_X12_nextToken_118 Q S10 l0 (2 : Int32) l0))) S6 (((hI S6 l0 14)).toInt64) ((97 : Int64)) ((122 : Int64))) ∧ ((hI S6 l0 11) = (hI S6 l0 10) → wB_X12_nextToken_118 Q S6 l0 (1 : Int32) l0))
def wp_X12_nextToken (Q : hp → Prop) (S : hp) (a0 : Nat) : Prop :=
  hK S a0 = 11 ∧ ∀ S2 : hp, S2 = setI S a0 12 (hI S a0 11) → (((hI S2 a0 10) ≤ (hI S2 a0 11) → wB_X12_nextToken_34 Q S2 a0 (-1000000 : Int32) a0) ∧ (¬ (hI S2 a0 10) ≤ (hI S2 a0 11) → ∃ r58 : Nat, hR S2 a0 9 = some r58 ∧ hK S2 r58 = 12 ∧ vp_in (hI S2 a0 11) (hN S2 r58) ∧ wB_X12_nextToken_34 Q S2 a0 ((hI S2 r58 ((hI S2 a0 11)).toNatClampNeg)) a0))
theorem k_X12_nextToken : Cond.code yX12_nextToken cX12_nextToken 1 none ∈ gtb := mg 1069 (by decide +kernel) (by decide +kernel)
theorem dn_X12_nextToken : yX12_nextToken.cls ≠ "java/lang/invoke/MethodHandle" ∧ yX12_nextToken.cls ≠ "java/lang/invoke/VarHandle" ∧ (parseMethodDescriptor yX12_nextToken.desc).map (fun d => d.parameters.length) = some 0 := by decide +kernel
set_option maxRecDepth 100000 in
set_option maxHeartbeats 4000000 in
theorem s_X12_nextToken (l : Launch) (b : Nat) (D : va_G) (cy : Nat → ClassId) {Q : hp → Prop} {S : hp} {a0 : Nat} (h : wp_X12_nextToken Q S a0) : MT l yX12_nextToken cX12_nextToken 1 none 1 25 0 0 b D cy S [.ref a0] (pV Q) := by
  refine MT.of (by decide +kernel) (Nat.le_of_ble_eq_true rfl) ?_
  intro p e s m args below meth c X hr hlk hnm
  have j274 : ∀  (S : hp) (k0 : Int32) (k1 : Nat), wB_X12_nextToken_274 Q S k0 k1 → VM l b D cy 1 1 25 0 0 (pV Q) p e s m args below meth c S 0 0 274 [] [.int k0, .ref k1] := by
    intro  S k0 k1 h
    unfold wB_X12_nextToken_274 at h
    obtain ⟨hk36, h⟩ := h
    refine v_putI X (T := TX12) (N := 26) (k := 13) hk36 (by decide) rfl (by decide) inX12 wd952 tyX12 tyX12_ok nmX12 rfl rfl rfl rfl dX12_nextToken_274 ?_
    refine v_nmS (fun S37 eS37 => ?_)
    replace h := h S37 eS37
    have hk38 : hK S37 k1 = 11 := by rw [eS37]; exact hk36
    exact v_vret X hr hlk ⟨rfl, h⟩ dX12_nextToken_277
  have j255 : ∀  (S : hp) (l0 : Nat), wB_X12_nextToken_255 Q S l0 → VM l b D cy 1 1 25 0 0 (pV Q) p e s m args below meth c S 0 0 255 [(0, .ref l0)] [] := by
    intro  S l0 h
    unfold wB_X12_nextToken_255 at h
    refine v_aload_n X 0 dX12_nextToken_255 rfl rfl ?_
    refine v_aload_n X 0 dX12_nextToken_256 rfl rfl ?_
    obtain ⟨hk34, h⟩ := h
    refine v_getI X (T := TX12) (N := 26) (k := 11) hk34 (by decide) rfl (by decide) inX12 wd950 rfl dX12_nextToken_257 ?_
    refine v_aload_n X 0 dX12_nextToken_260 rfl rfl ?_
    refine v_getI X (T := TX12) (N := 26) (k := 12) hk34 (by decide) rfl (by decide) inX12 wd951 rfl dX12_nextToken_261 ?_
    refine v_isub X dX12_nextToken_264 ?_
    refine v_iconst X (v := 2) dX12_nextToken_265 (by decide) ?_
    refine v_icmp_le X (tgt := 273) dX12_nextToken_266 (by decide) (fun c35 => ?_) (fun c35 => ?_)
    · replace h := h.1 c35
      refine v_iconst X (v := 3) dX12_nextToken_273 (by decide) ?_
      refine v_lv (lv' := []) [] rfl ?_
      exact j274 _ _ _ h
    · replace h := h.2 c35
      refine v_iconst X (v := 0) dX12_nextToken_269 (by decide) ?_
      refine v_goto X (tgt := 274) dX12_nextToken_270 (by decide) ?_
      refine v_lv (lv' := []) [] rfl ?_
      exact j274 _ _ _ h
  have j239 : ∀ (bk165 : hp → Nat → Prop) (hbk165 : ∀ (S : hp) (l0 : Nat), bk165 S l0 → VM l b D cy 1 1 25 0 0 (pV Q) p e s m args below meth c S 0 0 165 [(0, .ref l0)] []) (S : hp) (l0 : Nat) (k0 : Int32) (k1 : Nat), wB_X12_nextToken_239 bk165 Q S l0 k0 k1 → VM l b D cy 1 1 25 0 0 (pV Q) p e s m args below meth c S 0 0 239 [(0, .ref l0)] [.int k0, .ref k1] := by
    intro bk165 hbk165 S l0 k0 k1 h
    unfold wB_X12_nextToken_239 at h
    obtain ⟨hk47, h⟩ := h
    refine v_putI X (T := TX12) (N := 26) (k := 14) hk47 (by decide) rfl (by decide) inX12 wd953 tyX12 tyX12_ok nmX12 rfl rfl rfl rfl dX12_nextToken_239 ?_
    refine v_nmS (fun S48 eS48 => ?_)
    replace h := h S48 eS48
    have hk49 : hK S48 k1 = 11 := by rw [eS48]; exact hk47
    refine v_aload_n X 0 dX12_nextToken_242 rfl rfl ?_
    refine v_dup X dX12_nextToken_243 rfl ?_
    obtain ⟨hk50, h⟩ := h
    refine v_getI X (T := TX12) (N := 26) (k := 11) hk50 (by decide) rfl (by decide) inX12 wd950 rfl dX12_nextToken_244 ?_
    refine v_iconst X (v := 1) dX12_nextToken_247 (by decide) ?_
    refine v_iadd X dX12_nextToken_248 ?_
    refine v_putI X (T := TX12) (N := 26) (k := 11) hk50 (by decide) rfl (by decide) inX12 wd950 tyX12 tyX12_ok nmX12 rfl rfl rfl rfl dX12_nextToken_249 ?_
    refine v_nmS (fun S51 eS51 => ?_)
    replace h := h S51 eS51
    have hk52 : hK S51 k1 = 11 := by rw [eS51]; exact hk49
    have hk53 : hK S51 l0 = 11 := by rw [eS51]; exact hk50
    refine v_goto X (tgt := 165) dX12_nextToken_252 (by decide) ?_
    exact hbk165 _ _ h
  have j165 : ∀ (bk165 : hp → Nat → Prop) (hbk165 : ∀ (S : hp) (l0 : Nat), bk165 S l0 → VM l b D cy 1 1 25 0 0 (pV Q) p e s m args below meth c S 0 0 165 [(0, .ref l0)] []) (S : hp) (l0 : Nat), wB_X12_nextToken_165 bk165 Q S l0 → VM l b D cy 1 1 25 0 0 (pV Q) p e s m args below meth c S 0 0 165 [(0, .ref l0)] [] := by
    intro bk165 hbk165 S l0 h
    unfold wB_X12_nextToken_165 at h
    refine v_aload_n X 0 dX12_nextToken_165 rfl rfl ?_
    obtain ⟨hk32, h⟩ := h
    refine v_getI X (T := TX12) (N := 26) (k := 11) hk32 (by decide) rfl (by decide) inX12 wd950 rfl dX12_nextToken_166 ?_
    refine v_aload_n X 0 dX12_nextToken_169 rfl rfl ?_
    refine v_getI X (T := TX12) (N := 26) (k := 10) hk32 (by decide) rfl (by decide) inX12 wd949 rfl dX12_nextToken_170 ?_
    refine v_icmp_ge X (tgt := 255) dX12_nextToken_173 (by decide) (fun c33 => ?_) (fun c33 => ?_)
    · replace h := h.1 c33
      exact j255 _ _ h
    · replace h := h.2 c33
      refine v_aload_n X 0 dX12_nextToken_176 rfl rfl ?_
      obtain ⟨r39, hr39, h⟩ := h
      refine v_getR X (T := TX12) (N := 26) (k := 9) hk32 (by decide) rfl (by decide) inX12 wd948 rfl dX12_nextToken_177 hr39 ?_
      refine v_aload_n X 0 dX12_nextToken_180 rfl rfl ?_
      refine v_getI X (T := TX12) (N := 26) (k := 11) hk32 (by decide) rfl (by decide) inX12 wd950 rfl dX12_nextToken_181 ?_
      obtain ⟨hk40, h⟩ := h
      obtain ⟨hi41, h⟩ := h
      refine v_iald X hk40 hi41 dX12_nextToken_184 ?_
      refine v_i2l X dX12_nextToken_185 ?_
      refine v_ldc2 X wd1073 dX12_nextToken_186 ?_
      refine v_ldc2 X wd1074 dX12_nextToken_189 ?_
      refine v_callS X (av := [.long ((hI S r39 ((hI S l0 11)).toNatClampNeg)).toInt64, .long (48 : Int64), .long (57 : Int64)]) (s_X12_in l b D cy h) wd1026 wd1027 wd62 k_X12_in dn_X12_in rfl ⟨Nat.le_of_ble_eq_true rfl, Nat.le_of_ble_eq_true rfl⟩ (Nat.le_of_ble_eq_true rfl) ⟨Nat.le_of_ble_eq_true rfl, Nat.le_of_ble_eq_true rfl⟩ dX12_nextToken_192 rfl (kI (fun r43 S42 h => ?_))
      refine v_if_eq X (tgt := 255) dX12_nextToken_195 (by decide) (fun c44 => ?_) (fun c44 => ?_)
      · replace h := h.1 c44
        exact j255 _ _ h
      · replace h := h.2 c44
        refine v_aload_n X 0 dX12_nextToken_198 rfl rfl ?_
        refine v_aload_n X 0 dX12_nextToken_199 rfl rfl ?_
        obtain ⟨hk45, h⟩ := h
        refine v_getI X (T := TX12) (N := 26) (k := 11) hk45 (by decide) rfl (by decide) inX12 wd950 rfl dX12_nextToken_200 ?_
        refine v_aload_n X 0 dX12_nextToken_203 rfl rfl ?_
        refine v_getI X (T := TX12) (N := 26) (k := 12) hk45 (by decide) rfl (by decide) inX12 wd951 rfl dX12_nextToken_204 ?_
        refine v_isub X dX12_nextToken_207 ?_
        refine v_iconst X (v := 2) dX12_nextToken_208 (by decide) ?_
        refine v_icmp_ge X (tgt := 235) dX12_nextToken_209 (by decide) (fun c46 => ?_) (fun c46 => ?_)
        · replace h := h.1 c46
          refine v_aload_n X 0 dX12_nextToken_235 rfl rfl ?_
          refine v_getI X (T := TX12) (N := 26) (k := 14) hk45 (by decide) rfl (by decide) inX12 wd953 rfl dX12_nextToken_236 ?_
          exact j239 bk165 hbk165 _ _ _ _ h
        · replace h := h.2 c46
          refine v_bipush X (v := 10) dX12_nextToken_212 (by decide) ?_
          refine v_aload_n X 0 dX12_nextToken_214 rfl rfl ?_
          refine v_getI X (T := TX12) (N := 26) (k := 14) hk45 (by decide) rfl (by decide) inX12 wd953 rfl dX12_nextToken_215 ?_
          refine v_imul X dX12_nextToken_218 ?_
          refine v_aload_n X 0 dX12_nextToken_219 rfl rfl ?_
          obtain ⟨r54, hr54, h⟩ := h
          refine v_getR X (T := TX12) (N := 26) (k := 9) hk45 (by decide) rfl (by decide) inX12 wd948 rfl dX12_nextToken_220 hr54 ?_
          refine v_aload_n X 0 dX12_nextToken_223 rfl rfl ?_
          refine v_getI X (T := TX12) (N := 26) (k := 11) hk45 (by decide) rfl (by decide) inX12 wd950 rfl dX12_nextToken_224 ?_
          obtain ⟨hk55, h⟩ := h
          obtain ⟨hi56, h⟩ := h
          refine v_iald X hk55 hi56 dX12_nextToken_227 ?_
          refine v_iadd X dX12_nextToken_228 ?_
          refine v_bipush X (v := 48) dX12_nextToken_229 (by decide) ?_
          refine v_isub X dX12_nextToken_231 ?_
          refine v_goto X (tgt := 239) dX12_nextToken_232 (by decide) ?_
          exact j239 bk165 hbk165 _ _ _ _ h
  have l165 : ∀  (n : Nat) (S : hp) (l0 : Nat), wl_X12_nextToken_165 Q n S l0 → VM l b D cy 1 1 25 0 0 (pV Q) p e s m args below meth c S 0 0 165 [(0, .ref l0)] [] := by
    intro  n
    induction n with
    | zero => intro S l0 h; exact h.elim
    | succ n ih => intro S l0 h; exact j165 (wl_X12_nextToken_165 Q n) ih S l0 h
  have j142 : ∀  (S : hp) (l0 : Nat) (k0 : Int32) (k1 : Int32) (k2 : Nat), wB_X12_nextToken_142 Q S l0 k0 k1 k2 → VM l b D cy 1 1 25 0 0 (pV Q) p e s m args below meth c S 0 0 142 [(0, .ref l0)] [.int k0, .int k1, .ref k2] := by
    intro  S l0 k0 k1 k2 h
    unfold wB_X12_nextToken_142 at h
    refine v_iadd X dX12_nextToken_142 ?_
    obtain ⟨hk24, h⟩ := h
    refine v_putI X (T := TX12) (N := 26) (k := 11) hk24 (by decide) rfl (by decide) inX12 wd950 tyX12 tyX12_ok nmX12 rfl rfl rfl rfl dX12_nextToken_143 ?_
    refine v_nmS (fun S25 eS25 => ?_)
    replace h := h S25 eS25
    have hk26 : hK S25 k2 = 11 := by rw [eS25]; exact hk24
    refine v_aload_n X 0 dX12_nextToken_146 rfl rfl ?_
    obtain ⟨hk27, h⟩ := h
    refine v_getI X (T := TX12) (N := 26) (k := 13) hk27 (by decide) rfl (by decide) inX12 wd952 rfl dX12_nextToken_147 ?_
    refine v_iconst X (v := 3) dX12_nextToken_150 (by decide) ?_
    refine v_icmp_ne X (tgt := 277) dX12_nextToken_151 (by decide) (fun c28 => ?_) (fun c28 => ?_)
    · replace h := h.1 c28
      exact v_vret X hr hlk ⟨rfl, h⟩ dX12_nextToken_277
    · replace h := h.2 c28
      refine v_aload_n X 0 dX12_nextToken_154 rfl rfl ?_
      refine v_dup X dX12_nextToken_155 rfl ?_
      refine v_getI X (T := TX12) (N := 26) (k := 14) hk27 (by decide) rfl (by decide) inX12 wd953 rfl dX12_nextToken_156 ?_
      refine v_bipush X (v := 48) dX12_nextToken_159 (by decide) ?_
      refine v_isub X dX12_nextToken_161 ?_
      refine v_putI X (T := TX12) (N := 26) (k := 14) hk27 (by decide) rfl (by decide) inX12 wd953 tyX12 tyX12_ok nmX12 rfl rfl rfl rfl dX12_nextToken_162 ?_
      refine v_nmS (fun S29 eS29 => ?_)
      replace h := h S29 eS29
      have hk30 : hK S29 k2 = 11 := by rw [eS29]; exact hk26
      have hk31 : hK S29 l0 = 11 := by rw [eS29]; exact hk27
      obtain ⟨n, h⟩ := h
      exact l165 n _ _ h
  have j118 : ∀  (S : hp) (l0 : Nat) (k0 : Int32) (k1 : Nat), wB_X12_nextToken_118 Q S l0 k0 k1 → VM l b D cy 1 1 25 0 0 (pV Q) p e s m args below meth c S 0 0 118 [(0, .ref l0)] [.int k0, .ref k1] := by
    intro  S l0 k0 k1 h
    unfold wB_X12_nextToken_118 at h
    obtain ⟨hk19, h⟩ := h
    refine v_putI X (T := TX12) (N := 26) (k := 13) hk19 (by decide) rfl (by decide) inX12 wd952 tyX12 tyX12_ok nmX12 rfl rfl rfl rfl dX12_nextToken_118 ?_
    refine v_nmS (fun S20 eS20 => ?_)
    replace h := h S20 eS20
    have hk21 : hK S20 k1 = 11 := by rw [eS20]; exact hk19
    refine v_aload_n X 0 dX12_nextToken_121 rfl rfl ?_
    refine v_dup X dX12_nextToken_122 rfl ?_
    obtain ⟨hk22, h⟩ := h
    refine v_getI X (T := TX12) (N := 26) (k := 11) hk22 (by decide) rfl (by decide) inX12 wd950 rfl dX12_nextToken_123 ?_
    refine v_aload_n X 0 dX12_nextToken_126 rfl rfl ?_
    refine v_getI X (T := TX12) (N := 26) (k := 11) hk22 (by decide) rfl (by decide) inX12 wd950 rfl dX12_nextToken_127 ?_
    refine v_aload_n X 0 dX12_nextToken_130 rfl rfl ?_
    refine v_getI X (T := TX12) (N := 26) (k := 10) hk22 (by decide) rfl (by decide) inX12 wd949 rfl dX12_nextToken_131 ?_
    refine v_icmp_ge X (tgt := 141) dX12_nextToken_134 (by decide) (fun c23 => ?_) (fun c23 => ?_)
    · replace h := h.1 c23
      refine v_iconst X (v := 0) dX12_nextToken_141 (by decide) ?_
      exact j142 _ _ _ _ _ h
    · replace h := h.2 c23
      refine v_iconst X (v := 1) dX12_nextToken_137 (by decide) ?_
      refine v_goto X (tgt := 142) dX12_nextToken_138 (by decide) ?_
      exact j142 _ _ _ _ _ h
  have j113 : ∀  (S : hp) (l0 : Nat) (k0 : Nat), wB_X12_nextToken_113 Q S l0 k0 → VM l b D cy 1 1 25 0 0 (pV Q) p e s m args below meth c S 0 0 113 [(0, .ref l0)] [.ref k0] := by
    intro  S l0 k0 h
    unfold wB_X12_nextToken_113 at h
    refine v_iconst X (v := 4) dX12_nextToken_113 (by decide) ?_
    refine v_goto X (tgt := 118) dX12_nextToken_114 (by decide) ?_
    exact j118 _ _ _ _ h
  have j34 : ∀  (S : hp) (l0 : Nat) (k0 : Int32) (k1 : Nat), wB_X12_nextToken_34 Q S l0 k0 k1 → VM l b D cy 1 1 25 0 0 (pV Q) p e s m args below meth c S 0 0 34 [(0, .ref l0)] [.int k0, .ref k1] := by
    intro  S l0 k0 k1 h
    unfold wB_X12_nextToken_34 at h
    obtain ⟨hk5, h⟩ := h
    refine v_putI X (T := TX12) (N := 26) (k := 14) hk5 (by decide) rfl (by decide) inX12 wd953 tyX12 tyX12_ok nmX12 rfl rfl rfl rfl dX12_nextToken_34 ?_
    refine v_nmS (fun S6 eS6 => ?_)
    replace h := h S6 eS6
    have hk7 : hK S6 k1 = 11 := by rw [eS6]; exact hk5
    refine v_aload_n X 0 dX12_nextToken_37 rfl rfl ?_
    refine v_aload_n X 0 dX12_nextToken_38 rfl rfl ?_
    obtain ⟨hk8, h⟩ := h
    refine v_getI X (T := TX12) (N := 26) (k := 11) hk8 (by decide) rfl (by decide) inX12 wd950 rfl dX12_nextToken_39 ?_
    refine v_aload_n X 0 dX12_nextToken_42 rfl rfl ?_
    refine v_getI X (T := TX12) (N := 26) (k := 10) hk8 (by decide) rfl (by decide) inX12 wd949 rfl dX12_nextToken_43 ?_
    refine v_icmp_ne X (tgt := 53) dX12_nextToken_46 (by decide) (fun c9 => ?_) (fun c9 => ?_)
    · replace h := h.1 c9
      refine v_aload_n X 0 dX12_nextToken_53 rfl rfl ?_
      refine v_getI X (T := TX12) (N := 26) (k := 14) hk8 (by decide) rfl (by decide) inX12 wd953 rfl dX12_nextToken_54 ?_
      refine v_i2l X dX12_nextToken_57 ?_
      refine v_ldc2 X wd1071 dX12_nextToken_58 ?_
      refine v_ldc2 X wd1072 dX12_nextToken_61 ?_
      refine v_callS X (av := [.long ((hI S6 l0 14)).toInt64, .long (97 : Int64), .long (122 : Int64)]) (s_X12_in l b D cy h) wd1026 wd1027 wd62 k_X12_in dn_X12_in rfl ⟨Nat.le_of_ble_eq_true rfl, Nat.le_of_ble_eq_true rfl⟩ (Nat.le_of_ble_eq_true rfl) ⟨Nat.le_of_ble_eq_true rfl, Nat.le_of_ble_eq_true rfl⟩ dX12_nextToken_64 rfl (kI (fun r11 S10 h => ?_))
      refine v_if_eq X (tgt := 74) dX12_nextToken_67 (by decide) (fun c12 => ?_) (fun c12 => ?_)
      · replace h := h.1 c12
        refine v_aload_n X 0 dX12_nextToken_74 rfl rfl ?_
        obtain ⟨hk13, h⟩ := h
        refine v_getI X (T := TX12) (N := 26) (k := 14) hk13 (by decide) rfl (by decide) inX12 wd953 rfl dX12_nextToken_75 ?_
        refine v_i2l X dX12_nextToken_78 ?_
        refine v_ldc2 X wd1073 dX12_nextToken_79 ?_
        refine v_ldc2 X wd1074 dX12_nextToken_82 ?_
        refine v_callS X (av := [.long ((hI S10 l0 14)).toInt64, .long (48 : Int64), .long (57 : Int64)]) (s_X12_in l b D cy h) wd1026 wd1027 wd62 k_X12_in dn_X12_in rfl ⟨Nat.le_of_ble_eq_true rfl, Nat.le_of_ble_eq_true rfl⟩ (Nat.le_of_ble_eq_true rfl) ⟨Nat.le_of_ble_eq_true rfl, Nat.le_of_ble_eq_true rfl⟩ dX12_nextToken_85 rfl (kI (fun r15 S14 h => ?_))
        refine v_if_eq X (tgt := 95) dX12_nextToken_88 (by decide) (fun c16 => ?_) (fun c16 => ?_)
        · replace h := h.1 c16
          refine v_aload_n X 0 dX12_nextToken_95 rfl rfl ?_
          obtain ⟨hk17, h⟩ := h
          refine v_getI X (T := TX12) (N := 26) (k := 14) hk17 (by decide) rfl (by decide) inX12 wd953 rfl dX12_nextToken_96 ?_
          refine v_bipush X (v := 44) dX12_nextToken_99 (by decide) ?_
          refine v_icmp_eq X (tgt := 113) dX12_nextToken_101 (by decide) (fun c18 => ?_) (fun c18 => ?_)
          · replace h := h.1 c18
            exact j113 _ _ _ h
          · replace h := h.2 c18
            refine v_aload_n X 0 dX12_nextToken_104 rfl rfl ?_
            refine v_getI X (T := TX12) (N := 26) (k := 14) hk17 (by decide) rfl (by decide) inX12 wd953 rfl dX12_nextToken_105 ?_
            refine v_bipush X (v := 59) dX12_nextToken_108 (by decide) ?_
            refine v_icmp_ne X (tgt := 117) dX12_nextToken_110 (by decide) (fun c57 => ?_) (fun c57 => ?_)
            · replace h := h.1 c57
              refine v_iconst X (v := 0) dX12_nextToken_117 (by decide) ?_
              exact j118 _ _ _ _ h
            · replace h := h.2 c57
              exact j113 _ _ _ h
        · replace h := h.2 c16
          refine v_iconst X (v := 3) dX12_nextToken_91 (by decide) ?_
          refine v_goto X (tgt := 118) dX12_nextToken_92 (by decide) ?_
          exact j118 _ _ _ _ h
      · replace h := h.2 c12
        refine v_iconst X (v := 2) dX12_nextToken_70 (by decide) ?_
        refine v_goto X (tgt := 118) dX12_nextToken_71 (by decide) ?_
        exact j118 _ _ _ _ h
    · replace h := h.2 c9
      refine v_iconst X (v := 1) dX12_nextToken_49 (by decide) ?_
      refine v_goto X (tgt := 118) dX12_nextToken_50 (by decide) ?_
      exact j118 _ _ _ _ h
  unfold wp_X12_nextToken at h
  show VM l b D cy 1 1 25 0 0 (pV Q) p e s m args below meth c S 0 0 0 [(0, .ref a0)] []
  refine v_aload_n X 0 dX12_nextToken_0 rfl rfl ?_
  refine v_aload_n X 0 dX12_nextToken_1 rfl rfl ?_
  obtain ⟨hk1, h⟩ := h
  refine v_getI X (T := TX12) (N := 26) (k := 11) hk1 (by decide) rfl (by decide) inX12 wd950 rfl dX12_nextToken_2 ?_
  refine v_putI X (T := TX12) (N := 26) (k := 12) hk1 (by decide) rfl (by decide) inX12 wd951 tyX12 tyX12_ok nmX12 rfl rfl rfl rfl dX12_nextToken_5 ?_
  refine v_nmS (fun S2 eS2 => ?_)
  replace h := h S2 eS2
  have hk3 : hK S2 a0 = 11 := by rw [eS2]; exact hk1
  refine v_aload_n X 0 dX12_nextToken_8 rfl rfl ?_
  refine v_aload_n X 0 dX12_nextToken_9 rfl rfl ?_
  refine v_getI X (T := TX12) (N := 26) (k := 11) hk3 (by decide) rfl (by decide) inX12 wd950 rfl dX12_nextToken_10 ?_
  refine v_aload_n X 0 dX12_nextToken_13 rfl rfl ?_
  refine v_getI X (T := TX12) (N := 26) (k := 10) hk3 (by decide) rfl (by decide) inX12 wd949 rfl dX12_nextToken_14 ?_
  refine v_icmp_ge X (tgt := 32) dX12_nextToken_17 (by decide) (fun c4 => ?_) (fun c4 => ?_)
  · replace h := h.1 c4
    refine v_ldc X wd1070 dX12_nextToken_32 ?_
    exact j34 _ _ _ _ h
  · replace h := h.2 c4
    refine v_aload_n X 0 dX12_nextToken_20 rfl rfl ?_
    obtain ⟨r58, hr58, h⟩ := h
    refine v_getR X (T := TX12) (N := 26) (k := 9) hk3 (by decide) rfl (by decide) inX12 wd948 rfl dX12_nextToken_21 hr58 ?_
    refine v_aload_n X 0 dX12_nextToken_24 rfl rfl ?_
    refine v_getI X (T := TX12) (N := 26) (k := 11) hk3 (by decide) rfl (by decide) inX12 wd950 rfl dX12_nextToken_25 ?_
    obtain ⟨hk59, h⟩ := h
    obtain ⟨hi60, h⟩ := h
    refine v_iald X hk59 hi60 dX12_nextToken_28 ?_
    refine v_goto X (tgt := 34) dX12_nextToken_29 (by decide) ?_
    exact j34 _ _ _ _ h
def wB_X12_must_9 (Q : hp → Prop) (S : hp) (l0 : Nat) : Prop :=
  hK S l0 = 11 ∧ ((¬ (hI S l0 15) = 0 → Q S) ∧ ((hI S l0 15) = 0 → wp_X12_nextToken (fun S4 => Q S4) S l0))
def wp_X12_must (Q : hp → Prop) (S : hp) (a0 : Nat) (x1 : Int32) : Prop :=
  ((¬ x1 = 0 → wB_X12_must_9 Q S a0) ∧ (x1 = 0 → hK S a0 = 11 ∧ wp_X12_bad (fun S5 => wB_X12_must_9 Q S5 a0) S a0 (1 : Int32)))
theorem k_X12_must : Cond.code yX12_must cX12_must 2 none ∈ gtb := mg 1082 (by decide +kernel) (by decide +kernel)
theorem dn_X12_must : yX12_must.cls ≠ "java/lang/invoke/MethodHandle" ∧ yX12_must.cls ≠ "java/lang/invoke/VarHandle" ∧ (parseMethodDescriptor yX12_must.desc).map (fun d => d.parameters.length) = some 1 := by decide +kernel
set_option maxRecDepth 100000 in
set_option maxHeartbeats 4000000 in
theorem s_X12_must (l : Launch) (b : Nat) (D : va_G) (cy : Nat → ClassId) {Q : hp → Prop} {S : hp} {a0 : Nat} {x1 : Int32} (h : wp_X12_must Q S a0 x1) : MT l yX12_must cX12_must 2 none 2 45 0 0 b D cy S [.ref a0, .int x1] (pV Q) := by
  refine MT.of (by decide +kernel) (Nat.le_of_ble_eq_true rfl) ?_
  intro p e s m args below meth c X hr hlk hnm
  have j9 : ∀  (S : hp) (l0 : Nat), wB_X12_must_9 Q S l0 → VM l b D cy 2 2 45 0 0 (pV Q) p e s m args below meth c S 0 0 9 [(0, .ref l0)] [] := by
    intro  S l0 h
    unfold wB_X12_must_9 at h
    refine v_aload_n X 0 dX12_must_9 rfl rfl ?_
    obtain ⟨hk2, h⟩ := h
    refine v_getI X (T := TX12) (N := 26) (k := 15) hk2 (by decide) rfl (by decide) inX12 wd954 rfl dX12_must_10 ?_
    refine v_if_ne X (tgt := 20) dX12_must_13 (by decide) (fun c3 => ?_) (fun c3 => ?_)
    · replace h := h.1 c3
      exact v_vret X hr hlk ⟨rfl, h⟩ dX12_must_20
    · replace h := h.2 c3
      refine v_aload_n X 0 dX12_must_16 rfl rfl ?_
      refine v_callV X (av := []) (T := TX12) (N := 26) (s_X12_nextToken l b D cy h) hk2 (by decide) rfl wd1066 wd1068 wd22 wd62 k_X12_nextToken dn_X12_nextToken rfl ⟨Nat.le_of_ble_eq_true rfl, Nat.le_of_ble_eq_true rfl⟩ (Nat.le_of_ble_eq_true rfl) ⟨Nat.le_of_ble_eq_true rfl, Nat.le_of_ble_eq_true rfl⟩ dX12_must_17 rfl (kV (fun S4 h => ?_))
      exact v_vret X hr hlk ⟨rfl, h⟩ dX12_must_20
  unfold wp_X12_must at h
  show VM l b D cy 2 2 45 0 0 (pV Q) p e s m args below meth c S 0 0 0 [(0, .ref a0), (1, .int x1)] []
  refine v_iload_n X 1 dX12_must_0 rfl rfl ?_
  refine v_if_ne X (tgt := 9) dX12_must_1 (by decide) (fun c1 => ?_) (fun c1 => ?_)
  · replace h := h.1 c1
    refine v_lv (lv' := [(0, .ref a0)]) [0] rfl ?_
    exact j9 _ _ h
  · replace h := h.2 c1
    refine v_aload_n X 0 dX12_must_4 rfl rfl ?_
    refine v_iconst X (v := 1) dX12_must_5 (by decide) ?_
    obtain ⟨hk6, h⟩ := h
    refine v_callV X (av := [.int (1 : Int32)]) (T := TX12) (N := 26) (s_X12_bad l b D cy h) hk6 (by decide) rfl wd1083 wd1085 wd25 wd62 k_X12_bad dn_X12_bad rfl ⟨Nat.le_of_ble_eq_true rfl, Nat.le_of_ble_eq_true rfl⟩ (Nat.le_of_ble_eq_true rfl) ⟨Nat.le_of_ble_eq_true rfl, Nat.le_of_ble_eq_true rfl⟩ dX12_must_6 rfl (kV (fun S5 h => ?_))
    refine v_lv (lv' := [(0, .ref a0)]) [0] rfl ?_
    exact j9 _ _ h
def wp_X12_isLetter (Q : Int32 → hp → Prop) (S : hp) (a0 : Nat) (x1 : Int32) : Prop :=
  hK S a0 = 11 ∧ ((¬ (hI S a0 15) = 0 → Q (0 : Int32) S) ∧ ((hI S a0 15) = 0 → ((¬ (hI S a0 13) = (2 : Int32) → Q (0 : Int32) S) ∧ ((hI S a0 13) = (2 : Int32) → ((¬ (hI S a0 14) = x1 → Q (0 : Int32) S) ∧ ((hI S a0 14) = x1 → Q (1 : Int32) S))))))
theorem k_X12_isLetter : Cond.code yX12_isLetter cX12_isLetter 2 (some .boolean) ∈ gtb := mg 1078 (by decide +kernel) (by decide +kernel)
theorem dn_X12_isLetter : yX12_isLetter.cls ≠ "java/lang/invoke/MethodHandle" ∧ yX12_isLetter.cls ≠ "java/lang/invoke/VarHandle" ∧ (parseMethodDescriptor yX12_isLetter.desc).map (fun d => d.parameters.length) = some 1 := by decide +kernel
set_option maxRecDepth 100000 in
set_option maxHeartbeats 4000000 in
theorem s_X12_isLetter (l : Launch) (b : Nat) (D : va_G) (cy : Nat → ClassId) {Q : Int32 → hp → Prop} {S : hp} {a0 : Nat} {x1 : Int32} (h : wp_X12_isLetter Q S a0 x1) : MT l yX12_isLetter cX12_isLetter 2 (some .boolean) 0 0 0 0 b D cy S [.ref a0, .int x1] (pI Q) := by
  refine MT.of (by decide +kernel) (Nat.le_of_ble_eq_true rfl) ?_
  intro p e s m args below meth c X hr hlk hnm
  unfold wp_X12_isLetter at h
  show VM l b D cy 2 0 0 0 0 (pI Q) p e s m args below meth c S 0 0 0 [(0, .ref a0), (1, .int x1)] []
  refine v_aload_n X 0 dX12_isLetter_0 rfl rfl ?_
  obtain ⟨hk1, h⟩ := h
  refine v_getI X (T := TX12) (N := 26) (k := 15) hk1 (by decide) rfl (by decide) inX12 wd954 rfl dX12_isLetter_1 ?_
  refine v_if_ne X (tgt := 27) dX12_isLetter_4 (by decide) (fun c2 => ?_) (fun c2 => ?_)
  · replace h := h.1 c2
    refine v_iconst X (v := 0) dX12_isLetter_27 (by decide) ?_
    exact v_zret X hr (by decide) hlk ⟨_, rfl, h⟩ dX12_isLetter_28
  · replace h := h.2 c2
    refine v_aload_n X 0 dX12_isLetter_7 rfl rfl ?_
    refine v_getI X (T := TX12) (N := 26) (k := 13) hk1 (by decide) rfl (by decide) inX12 wd952 rfl dX12_isLetter_8 ?_
    refine v_iconst X (v := 2) dX12_isLetter_11 (by decide) ?_
    refine v_icmp_ne X (tgt := 27) dX12_isLetter_12 (by decide) (fun c3 => ?_) (fun c3 => ?_)
    · replace h := h.1 c3
      refine v_iconst X (v := 0) dX12_isLetter_27 (by decide) ?_
      exact v_zret X hr (by decide) hlk ⟨_, rfl, h⟩ dX12_isLetter_28
    · replace h := h.2 c3
      refine v_aload_n X 0 dX12_isLetter_15 rfl rfl ?_
      refine v_getI X (T := TX12) (N := 26) (k := 14) hk1 (by decide) rfl (by decide) inX12 wd953 rfl dX12_isLetter_16 ?_
      refine v_iload_n X 1 dX12_isLetter_19 rfl rfl ?_
      refine v_icmp_ne X (tgt := 27) dX12_isLetter_20 (by decide) (fun c4 => ?_) (fun c4 => ?_)
      · replace h := h.1 c4
        refine v_iconst X (v := 0) dX12_isLetter_27 (by decide) ?_
        exact v_zret X hr (by decide) hlk ⟨_, rfl, h⟩ dX12_isLetter_28
      · replace h := h.2 c4
        refine v_iconst X (v := 1) dX12_isLetter_23 (by decide) ?_
        refine v_goto X (tgt := 28) dX12_isLetter_24 (by decide) ?_
        exact v_zret X hr (by decide) hlk ⟨_, rfl, h⟩ dX12_isLetter_28
def wB_X12_number_62 (Q : Int32 → hp → Prop) (S : hp) (l0 : Nat) (k0 : Int32) : Prop :=
  hK S l0 = 11 ∧ wp_X12_must (fun S7 => Q k0 S7) S l0 (1 : Int32)
def wB_X12_number_47 (Q : Int32 → hp → Prop) (S : hp) (l0 : Nat) (l1 : Int32) : Prop :=
  hK S l0 = 11 ∧ ((¬ (hI S l0 15) = 0 → wB_X12_number_62 Q S l0 l1) ∧ ((hI S l0 15) = 0 → wB_X12_number_62 Q S l0 ((hI S l0 14))))
def wB_X12_number_20 (Q : Int32 → hp → Prop) (S : hp) (l0 : Nat) (l1 : Int32) (l2 : Int32) : Prop :=
  hK S l0 = 11 ∧ ((¬ (hI S l0 15) = 0 → wB_X12_number_47 Q S l0 l1) ∧ ((hI S l0 15) = 0 → wp_X12_in (fun r10 S9 => ((¬ r10 = 0 → wB_X12_number_47 Q S9 l0 l1) ∧ (r10 = 0 → hK S9 l0 = 11 ∧ wp_X12_bad (fun S12 => wB_X12_number_47 Q S12 l0 l1) S9 l0 (2 : Int32)))) S (((hI S l0 14)).toInt64) ((l1).toInt64) ((l2).toInt64)))
def wp_X12_number (Q : Int32 → hp → Prop) (S : hp) (a0 : Nat) (x1 : Int32) (x2 : Int32) : Prop :=
  hK S a0 = 11 ∧ ((¬ (hI S a0 15) = 0 → wB_X12_number_20 Q S a0 x1 x2) ∧ ((hI S a0 15) = 0 → (((hI S a0 13) = (3 : Int32) → wB_X12_number_20 Q S a0 x1 x2) ∧ (¬ (hI S a0 13) = (3 : Int32) → wp_X12_bad (fun S15 => wB_X12_number_20 Q S15 a0 x1 x2) S a0 (1 : Int32)))))
theorem k_X12_number : Cond.code yX12_number cX12_number 4 (some .int) ∈ gtb := mg 1090 (by decide +kernel) (by decide +kernel)
theorem dn_X12_number : yX12_number.cls ≠ "java/lang/invoke/MethodHandle" ∧ yX12_number.cls ≠ "java/lang/invoke/VarHandle" ∧ (parseMethodDescriptor yX12_number.desc).map (fun d => d.parameters.length) = some 2 := by decide +kernel
set_option maxRecDepth 100000 in
set_option maxHeartbeats 4000000 in
theorem s_X12_number (l : Launch) (b : Nat) (D : va_G) (cy : Nat → ClassId) {Q : Int32 → hp → Prop} {S : hp} {a0 : Nat} {x1 : Int32} {x2 : Int32} (h : wp_X12_number Q S a0 x1 x2) : MT l yX12_number cX12_number 4 (some .int) 3 66 0 0 b D cy S [.ref a0, .int x1, .int x2] (pI Q) := by
  refine MT.of (by decide +kernel) (Nat.le_of_ble_eq_true rfl) ?_
  intro p e s m args below meth c X hr hlk hnm
  have j62 : ∀  (S : hp) (l0 : Nat) (k0 : Int32), wB_X12_number_62 Q S l0 k0 → VM l b D cy 4 3 66 0 0 (pI Q) p e s m args below meth c S 0 0 62 [(0, .ref l0)] [.int k0] := by
    intro  S l0 k0 h
    unfold wB_X12_number_62 at h
    refine v_istore_n X (lv' := [(3, .int k0), (0, .ref l0)]) dX12_number_62 rfl (by decide) rfl ?_
    refine v_aload_n X 1 dX12_number_63 rfl rfl ?_
    refine v_iconst X (v := 1) dX12_number_64 (by decide) ?_
    obtain ⟨hk8, h⟩ := h
    refine v_callV X (av := [.int (1 : Int32)]) (T := TX12) (N := 26) (s_X12_must l b D cy h) hk8 (by decide) rfl wd1079 wd1081 wd24 wd62 k_X12_must dn_X12_must rfl ⟨Nat.le_of_ble_eq_true rfl, Nat.le_of_ble_eq_true rfl⟩ (Nat.le_of_ble_eq_true rfl) ⟨Nat.le_of_ble_eq_true rfl, Nat.le_of_ble_eq_true rfl⟩ dX12_number_65 rfl (kV (fun S7 h => ?_))
    refine v_iload_n X 0 dX12_number_68 rfl rfl ?_
    exact v_iret X hr hlk ⟨_, rfl, h⟩ dX12_number_69
  have j47 : ∀  (S : hp) (l0 : Nat) (l1 : Int32), wB_X12_number_47 Q S l0 l1 → VM l b D cy 4 3 66 0 0 (pI Q) p e s m args below meth c S 0 0 47 [(0, .ref l0), (1, .int l1)] [] := by
    intro  S l0 l1 h
    unfold wB_X12_number_47 at h
    refine v_aload_n X 0 dX12_number_47 rfl rfl ?_
    obtain ⟨hk5, h⟩ := h
    refine v_getI X (T := TX12) (N := 26) (k := 15) hk5 (by decide) rfl (by decide) inX12 wd954 rfl dX12_number_48 ?_
    refine v_if_ne X (tgt := 61) dX12_number_51 (by decide) (fun c6 => ?_) (fun c6 => ?_)
    · replace h := h.1 c6
      refine v_iload_n X 1 dX12_number_61 rfl rfl ?_
      refine v_lv (lv' := [(0, .ref l0)]) [0] rfl ?_
      exact j62 _ _ _ h
    · replace h := h.2 c6
      refine v_aload_n X 0 dX12_number_54 rfl rfl ?_
      refine v_getI X (T := TX12) (N := 26) (k := 14) hk5 (by decide) rfl (by decide) inX12 wd953 rfl dX12_number_55 ?_
      refine v_goto X (tgt := 62) dX12_number_58 (by decide) ?_
      refine v_lv (lv' := [(0, .ref l0)]) [0] rfl ?_
      exact j62 _ _ _ h
  have j20 : ∀  (S : hp) (l0 : Nat) (l1 : Int32) (l2 : Int32), wB_X12_number_20 Q S l0 l1 l2 → VM l b D cy 4 3 66 0 0 (pI Q) p e s m args below meth c S 0 0 20 [(0, .ref l0), (1, .int l1), (2, .int l2)] [] := by
    intro  S l0 l1 l2 h
    unfold wB_X12_number_20 at h
    refine v_aload_n X 0 dX12_number_20 rfl rfl ?_
    obtain ⟨hk3, h⟩ := h
    refine v_getI X (T := TX12) (N := 26) (k := 15) hk3 (by decide) rfl (by decide) inX12 wd954 rfl dX12_number_21 ?_
    refine v_if_ne X (tgt := 47) dX12_number_24 (by decide) (fun c4 => ?_) (fun c4 => ?_)
    · replace h := h.1 c4
      refine v_lv (lv' := [(0, .ref l0), (1, .int l1)]) [0, 1] rfl ?_
      exact j47 _ _ _ h
    · replace h := h.2 c4
      refine v_aload_n X 0 dX12_number_27 rfl rfl ?_
      refine v_getI X (T := TX12) (N := 26) (k := 14) hk3 (by decide) rfl (by decide) inX12 wd953 rfl dX12_number_28 ?_
      refine v_i2l X dX12_number_31 ?_
      refine v_iload_n X 1 dX12_number_32 rfl rfl ?_
      refine v_i2l X dX12_number_33 ?_
      refine v_iload_n X 2 dX12_number_34 rfl rfl ?_
      refine v_i2l X dX12_number_35 ?_
      refine v_callS X (av := [.long ((hI S l0 14)).toInt64, .long (l1).toInt64, .long (l2).toInt64]) (s_X12_in l b D cy h) wd1026 wd1027 wd62 k_X12_in dn_X12_in rfl ⟨Nat.le_of_ble_eq_true rfl, Nat.le_of_ble_eq_true rfl⟩ (Nat.le_of_ble_eq_true rfl) ⟨Nat.le_of_ble_eq_true rfl, Nat.le_of_ble_eq_true rfl⟩ dX12_number_36 rfl (kI (fun r10 S9 h => ?_))
      refine v_if_ne X (tgt := 47) dX12_number_39 (by decide) (fun c11 => ?_) (fun c11 => ?_)
      · replace h := h.1 c11
        refine v_lv (lv' := [(0, .ref l0), (1, .int l1)]) [0, 1] rfl ?_
        exact j47 _ _ _ h
      · replace h := h.2 c11
        refine v_aload_n X 0 dX12_number_42 rfl rfl ?_
        refine v_iconst X (v := 2) dX12_number_43 (by decide) ?_
        obtain ⟨hk13, h⟩ := h
        refine v_callV X (av := [.int (2 : Int32)]) (T := TX12) (N := 26) (s_X12_bad l b D cy h) hk13 (by decide) rfl wd1083 wd1085 wd25 wd62 k_X12_bad dn_X12_bad rfl ⟨Nat.le_of_ble_eq_true rfl, Nat.le_of_ble_eq_true rfl⟩ (Nat.le_of_ble_eq_true rfl) ⟨Nat.le_of_ble_eq_true rfl, Nat.le_of_ble_eq_true rfl⟩ dX12_number_44 rfl (kV (fun S12 h => ?_))
        refine v_lv (lv' := [(0, .ref l0), (1, .int l1)]) [0, 1] rfl ?_
        exact j47 _ _ _ h
  unfold wp_X12_number at h
  show VM l b D cy 4 3 66 0 0 (pI Q) p e s m args below meth c S 0 0 0 [(0, .ref a0), (1, .int x1), (2, .int x2)] []
  refine v_aload_n X 0 dX12_number_0 rfl rfl ?_
  obtain ⟨hk1, h⟩ := h
  refine v_getI X (T := TX12) (N := 26) (k := 15) hk1 (by decide) rfl (by decide) inX12 wd954 rfl dX12_number_1 ?_
  refine v_if_ne X (tgt := 20) dX12_number_4 (by decide) (fun c2 => ?_) (fun c2 => ?_)
  · replace h := h.1 c2
    exact j20 _ _ _ _ h
  · replace h := h.2 c2
    refine v_aload_n X 0 dX12_number_7 rfl rfl ?_
    refine v_getI X (T := TX12) (N := 26) (k := 13) hk1 (by decide) rfl (by decide) inX12 wd952 rfl dX12_number_8 ?_
    refine v_iconst X (v := 3) dX12_number_11 (by decide) ?_
    refine v_icmp_eq X (tgt := 20) dX12_number_12 (by decide) (fun c14 => ?_) (fun c14 => ?_)
    · replace h := h.1 c14
      exact j20 _ _ _ _ h
    · replace h := h.2 c14
      refine v_aload_n X 0 dX12_number_15 rfl rfl ?_
      refine v_iconst X (v := 1) dX12_number_16 (by decide) ?_
      refine v_callV X (av := [.int (1 : Int32)]) (T := TX12) (N := 26) (s_X12_bad l b D cy h) hk1 (by decide) rfl wd1083 wd1085 wd25 wd62 k_X12_bad dn_X12_bad rfl ⟨Nat.le_of_ble_eq_true rfl, Nat.le_of_ble_eq_true rfl⟩ (Nat.le_of_ble_eq_true rfl) ⟨Nat.le_of_ble_eq_true rfl, Nat.le_of_ble_eq_true rfl⟩ dX12_number_17 rfl (kV (fun S15 h => ?_))
      exact j20 _ _ _ _ h
def wB_X12_mustSign_22 (Q : hp → Prop) (S : hp) (k0 : Int32) (k1 : Nat) : Prop :=
  hK S k1 = 11 ∧ wp_X12_must (fun S3 => Q S3) S k1 k0
def wB_X12_mustSign_21 (Q : hp → Prop) (S : hp) (k0 : Nat) : Prop :=
  wB_X12_mustSign_22 Q S (0 : Int32) k0
def wp_X12_mustSign (Q : hp → Prop) (S : hp) (a0 : Nat) (x1 : Int32) : Prop :=
  hK S a0 = 11 ∧ ((¬ (hI S a0 13) = (4 : Int32) → wB_X12_mustSign_21 Q S a0) ∧ ((hI S a0 13) = (4 : Int32) → ((¬ (hI S a0 14) = x1 → wB_X12_mustSign_21 Q S a0) ∧ ((hI S a0 14) = x1 → wB_X12_mustSign_22 Q S (1 : Int32) a0))))
theorem k_X12_mustSign : Cond.code yX12_mustSign cX12_mustSign 2 none ∈ gtb := mg 1094 (by decide +kernel) (by decide +kernel)
theorem dn_X12_mustSign : yX12_mustSign.cls ≠ "java/lang/invoke/MethodHandle" ∧ yX12_mustSign.cls ≠ "java/lang/invoke/VarHandle" ∧ (parseMethodDescriptor yX12_mustSign.desc).map (fun d => d.parameters.length) = some 1 := by decide +kernel
set_option maxRecDepth 100000 in
set_option maxHeartbeats 4000000 in
theorem s_X12_mustSign (l : Launch) (b : Nat) (D : va_G) (cy : Nat → ClassId) {Q : hp → Prop} {S : hp} {a0 : Nat} {x1 : Int32} (h : wp_X12_mustSign Q S a0 x1) : MT l yX12_mustSign cX12_mustSign 2 none 3 66 0 0 b D cy S [.ref a0, .int x1] (pV Q) := by
  refine MT.of (by decide +kernel) (Nat.le_of_ble_eq_true rfl) ?_
  intro p e s m args below meth c X hr hlk hnm
  have j22 : ∀  (S : hp) (k0 : Int32) (k1 : Nat), wB_X12_mustSign_22 Q S k0 k1 → VM l b D cy 2 3 66 0 0 (pV Q) p e s m args below meth c S 0 0 22 [] [.int k0, .ref k1] := by
    intro  S k0 k1 h
    unfold wB_X12_mustSign_22 at h
    obtain ⟨hk4, h⟩ := h
    refine v_callV X (av := [.int k0]) (T := TX12) (N := 26) (s_X12_must l b D cy h) hk4 (by decide) rfl wd1079 wd1081 wd24 wd62 k_X12_must dn_X12_must rfl ⟨Nat.le_of_ble_eq_true rfl, Nat.le_of_ble_eq_true rfl⟩ (Nat.le_of_ble_eq_true rfl) ⟨Nat.le_of_ble_eq_true rfl, Nat.le_of_ble_eq_true rfl⟩ dX12_mustSign_22 rfl (kV (fun S3 h => ?_))
    exact v_vret X hr hlk ⟨rfl, h⟩ dX12_mustSign_25
  have j21 : ∀  (S : hp) (k0 : Nat), wB_X12_mustSign_21 Q S k0 → VM l b D cy 2 3 66 0 0 (pV Q) p e s m args below meth c S 0 0 21 [] [.ref k0] := by
    intro  S k0 h
    unfold wB_X12_mustSign_21 at h
    refine v_iconst X (v := 0) dX12_mustSign_21 (by decide) ?_
    exact j22 _ _ _ h
  unfold wp_X12_mustSign at h
  show VM l b D cy 2 3 66 0 0 (pV Q) p e s m args below meth c S 0 0 0 [(0, .ref a0), (1, .int x1)] []
  refine v_aload_n X 0 dX12_mustSign_0 rfl rfl ?_
  refine v_aload_n X 0 dX12_mustSign_1 rfl rfl ?_
  obtain ⟨hk1, h⟩ := h
  refine v_getI X (T := TX12) (N := 26) (k := 13) hk1 (by decide) rfl (by decide) inX12 wd952 rfl dX12_mustSign_2 ?_
  refine v_iconst X (v := 4) dX12_mustSign_5 (by decide) ?_
  refine v_icmp_ne X (tgt := 21) dX12_mustSign_6 (by decide) (fun c2 => ?_) (fun c2 => ?_)
  · replace h := h.1 c2
    refine v_lv (lv' := []) [] rfl ?_
    exact j21 _ _ h
  · replace h := h.2 c2
    refine v_aload_n X 0 dX12_mustSign_9 rfl rfl ?_
    refine v_getI X (T := TX12) (N := 26) (k := 14) hk1 (by decide) rfl (by decide) inX12 wd953 rfl dX12_mustSign_10 ?_
    refine v_iload_n X 1 dX12_mustSign_13 rfl rfl ?_
    refine v_icmp_ne X (tgt := 21) dX12_mustSign_14 (by decide) (fun c5 => ?_) (fun c5 => ?_)
    · replace h := h.1 c5
      refine v_lv (lv' := []) [] rfl ?_
      exact j21 _ _ h
    · replace h := h.2 c5
      refine v_iconst X (v := 1) dX12_mustSign_17 (by decide) ?_
      refine v_goto X (tgt := 22) dX12_mustSign_18 (by decide) ?_
      refine v_lv (lv' := []) [] rfl ?_
      exact j22 _ _ _ h
def wp_X12_begin (Q : hp → Prop) (S : hp) (a0 : Nat) : Prop :=
  hK S a0 = 11 ∧ ∀ S2 : hp, S2 = setI S a0 11 (0 : Int32) → ∀ S4 : hp, S4 = setI S2 a0 15 (0 : Int32) → wp_X12_nextToken (fun S6 => Q S6) S4 a0
theorem k_X12_begin : Cond.code yX12_begin cX12_begin 1 none ∈ gtb := mg 1065 (by decide +kernel) (by decide +kernel)
theorem dn_X12_begin : yX12_begin.cls ≠ "java/lang/invoke/MethodHandle" ∧ yX12_begin.cls ≠ "java/lang/invoke/VarHandle" ∧ (parseMethodDescriptor yX12_begin.desc).map (fun d => d.parameters.length) = some 0 := by decide +kernel
set_option maxRecDepth 100000 in
set_option maxHeartbeats 4000000 in
theorem s_X12_begin (l : Launch) (b : Nat) (D : va_G) (cy : Nat → ClassId) {Q : hp → Prop} {S : hp} {a0 : Nat} (h : wp_X12_begin Q S a0) : MT l yX12_begin cX12_begin 1 none 2 45 0 0 b D cy S [.ref a0] (pV Q) := by
  refine MT.of (by decide +kernel) (Nat.le_of_ble_eq_true rfl) ?_
  intro p e s m args below meth c X hr hlk hnm
  unfold wp_X12_begin at h
  show VM l b D cy 1 2 45 0 0 (pV Q) p e s m args below meth c S 0 0 0 [(0, .ref a0)] []
  refine v_aload_n X 0 dX12_begin_0 rfl rfl ?_
  refine v_iconst X (v := 0) dX12_begin_1 (by decide) ?_
  obtain ⟨hk1, h⟩ := h
  refine v_putI X (T := TX12) (N := 26) (k := 11) hk1 (by decide) rfl (by decide) inX12 wd950 tyX12 tyX12_ok nmX12 rfl rfl rfl rfl dX12_begin_2 ?_
  refine v_nmS (fun S2 eS2 => ?_)
  replace h := h S2 eS2
  have hk3 : hK S2 a0 = 11 := by rw [eS2]; exact hk1
  refine v_aload_n X 0 dX12_begin_5 rfl rfl ?_
  refine v_iconst X (v := 0) dX12_begin_6 (by decide) ?_
  refine v_putI X (T := TX12) (N := 26) (k := 15) hk3 (by decide) rfl (by decide) inX12 wd954 tyX12 tyX12_ok nmX12 rfl rfl rfl rfl dX12_begin_7 ?_
  refine v_nmS (fun S4 eS4 => ?_)
  replace h := h S4 eS4
  have hk5 : hK S4 a0 = 11 := by rw [eS4]; exact hk3
  refine v_aload_n X 0 dX12_begin_10 rfl rfl ?_
  refine v_callV X (av := []) (T := TX12) (N := 26) (s_X12_nextToken l b D cy h) hk5 (by decide) rfl wd1066 wd1068 wd22 wd62 k_X12_nextToken dn_X12_nextToken rfl ⟨Nat.le_of_ble_eq_true rfl, Nat.le_of_ble_eq_true rfl⟩ (Nat.le_of_ble_eq_true rfl) ⟨Nat.le_of_ble_eq_true rfl, Nat.le_of_ble_eq_true rfl⟩ dX12_begin_11 rfl (kV (fun S6 h => ?_))
  exact v_vret X hr hlk ⟨rfl, h⟩ dX12_begin_14
