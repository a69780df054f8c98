def wB_X12_blame_111 (Q : Int32 → hp → Prop) (S : hp) (l7 : Int32) (l8 : Int32) (k0 : Int32) : Prop :=
  wp_X12_common (fun r30 S29 => ¬ r30 = 0 ∧ Q (k0 / r30) S29) S l8 l7
def wp_X12_blame (Q : Int32 → hp → Prop) (S : hp) (a0 : Nat) (x1 : Int32) (x2 : Int32) (x3 : Int32) (x4 : Int32) (x5 : Int32) : Prop :=
  hK S a0 = 11 ∧ ∀ S2 : hp, S2 = setI S a0 0 (0 : Int32) → wp_X12_isDummy (fun r5 S4 => ((r5 = 0 → Q (-1000001 : Int32) S4) ∧ (¬ r5 = 0 → hK S4 a0 = 11 ∧ wp_X12_isMouth (fun r9 S7 => ((r9 = 0 → Q (-1000001 : Int32) S7) ∧ (¬ r9 = 0 → wp_X12_isRow (fun r12 S11 => ((r12 = 0 → Q (-1000001 : Int32) S11) ∧ (¬ r12 = 0 → wp_X12_in (fun r15 S14 => ((¬ r15 = 0 → hK S14 a0 = 11 ∧ wp_X12_noRow (fun r19 S17 => ((0 ≤ r19 → hK S17 a0 = 11 ∧ wp_X12_setsOf (fun r23 S21 => ((¬ r23 = 0 → hK S21 a0 = 11 ∧ wp_X12_setsOf (fun r27 S25 => ((¬ x5 = 0 → wB_X12_blame_111 Q S25 r23 r27 r23) ∧ (x5 = 0 → wB_X12_blame_111 Q S25 r23 r27 r27))) S21 a0 x1 ((((40 : Int32) * x3) + x4)) x2) ∧ (r23 = 0 → Q (-1000000 : Int32) S21))) S17 a0 x1 ((((40 : Int32) * x3) + x4)) (-1000000 : Int32)) ∧ (¬ 0 ≤ r19 → Q r19 S17))) S14 a0 x3 x4 (3 : Int32)) ∧ (r15 = 0 → Q (-1000001 : Int32) S14))) S11 ((x5).toInt64) ((0 : Int64)) ((1 : Int64))))) S7 x3))) S4 a0 x2))) S2 a0 x1
theorem k_X12_blame : Cond.code yX12_blame cX12_blame 9 (some .int) ∈ gtb := mg 1218 (by decide +kernel) (by decide +kernel)
theorem dn_X12_blame : yX12_blame.cls ≠ "java/lang/invoke/MethodHandle" ∧ yX12_blame.cls ≠ "java/lang/invoke/VarHandle" ∧ (parseMethodDescriptor yX12_blame.desc).map (fun d => d.parameters.length) = some 5 := by decide +kernel
set_option maxRecDepth 100000 in
set_option maxHeartbeats 4000000 in
theorem s_X12_blame (l : Launch) (b : Nat) (D : va_G) (cy : Nat → ClassId) {Q : Int32 → hp → Prop} {S : hp} {a0 : Nat} {x1 : Int32} {x2 : Int32} {x3 : Int32} {x4 : Int32} {x5 : Int32} (h : wp_X12_blame Q S a0 x1 x2 x3 x4 x5) : MT l yX12_blame cX12_blame 9 (some .int) 3 75 0 0 b D cy S [.ref a0, .int x1, .int x2, .int x3, .int x4, .int x5] (pI Q) := by
  refine MT.of (by decide +kernel) (Nat.le_of_ble_eq_true rfl) ?_
  intro p e s m args below meth c X hr hlk hnm
  have j111 : ∀  (S : hp) (l7 : Int32) (l8 : Int32) (k0 : Int32), wB_X12_blame_111 Q S l7 l8 k0 → VM l b D cy 9 3 75 0 0 (pI Q) p e s m args below meth c S 0 0 111 [(7, .int l7), (8, .int l8)] [.int k0] := by
    intro  S l7 l8 k0 h
    unfold wB_X12_blame_111 at h
    refine v_iload X 1 dX12_blame_111 rfl ?_
    refine v_iload X 0 dX12_blame_113 rfl ?_
    refine v_callS X (av := [.int l8, .int l7]) (s_X12_common l b D cy h) wd1219 wd1220 wd62 k_X12_common dn_X12_common rfl ⟨Nat.le_of_ble_eq_true rfl, Nat.le_of_ble_eq_true rfl⟩ (Nat.le_of_ble_eq_true rfl) ⟨Nat.le_of_ble_eq_true rfl, Nat.le_of_ble_eq_true rfl⟩ dX12_blame_115 rfl (kI (fun r30 S29 h => ?_))
    obtain ⟨hz31, h⟩ := h
    refine v_idiv X dX12_blame_118 hz31 ?_
    exact v_iret X hr hlk ⟨_, rfl, h⟩ dX12_blame_119
  unfold wp_X12_blame at h
  show VM l b D cy 9 3 75 0 0 (pI Q) p e s m args below meth c S 0 0 0 [(0, .ref a0), (1, .int x1), (2, .int x2), (3, .int x3), (4, .int x4), (5, .int x5)] []
  refine v_aload_n X 0 dX12_blame_0 rfl rfl ?_
  refine v_iconst X (v := 0) dX12_blame_1 (by decide) ?_
  obtain ⟨hk1, h⟩ := h
  refine v_putI X (T := TX12) (N := 26) (k := 0) hk1 (by decide) rfl (by decide) inX12 wd939 tyX12 tyX12_ok nmX12 rfl rfl rfl rfl dX12_blame_2 ?_
  refine v_nmS (fun S2 eS2 => ?_)
  replace h := h S2 eS2
  have hk3 : hK S2 a0 = 11 := by rw [eS2]; exact hk1
  refine v_aload_n X 0 dX12_blame_5 rfl rfl ?_
  refine v_iload_n X 1 dX12_blame_6 rfl rfl ?_
  refine v_callV X (av := [.int x1]) (T := TX12) (N := 26) (s_X12_isDummy l b D cy h) hk3 (by decide) rfl wd1119 wd1121 wd32 wd62 k_X12_isDummy dn_X12_isDummy rfl ⟨Nat.le_of_ble_eq_true rfl, Nat.le_of_ble_eq_true rfl⟩ (Nat.le_of_ble_eq_true rfl) ⟨Nat.le_of_ble_eq_true rfl, Nat.le_of_ble_eq_true rfl⟩ dX12_blame_7 rfl (kI (fun r5 S4 h => ?_))
  refine v_if_eq X (tgt := 39) dX12_blame_10 (by decide) (fun c6 => ?_) (fun c6 => ?_)
  · replace h := h.1 c6
    refine v_ldc X wd1030 dX12_blame_39 ?_
    exact v_iret X hr hlk ⟨_, rfl, h⟩ dX12_blame_41
  · replace h := h.2 c6
    refine v_aload_n X 0 dX12_blame_13 rfl rfl ?_
    refine v_iload_n X 2 dX12_blame_14 rfl rfl ?_
    obtain ⟨hk8, h⟩ := h
    refine v_callV X (av := [.int x2]) (T := TX12) (N := 26) (s_X12_isMouth l b D cy h) hk8 (by decide) rfl wd1115 wd1117 wd31 wd62 k_X12_isMouth dn_X12_isMouth rfl ⟨Nat.le_of_ble_eq_true rfl, Nat.le_of_ble_eq_true rfl⟩ (Nat.le_of_ble_eq_true rfl) ⟨Nat.le_of_ble_eq_true rfl, Nat.le_of_ble_eq_true rfl⟩ dX12_blame_15 rfl (kI (fun r9 S7 h => ?_))
    refine v_if_eq X (tgt := 39) dX12_blame_18 (by decide) (fun c10 => ?_) (fun c10 => ?_)
    · replace h := h.1 c10
      refine v_ldc X wd1030 dX12_blame_39 ?_
      exact v_iret X hr hlk ⟨_, rfl, h⟩ dX12_blame_41
    · replace h := h.2 c10
      refine v_iload_n X 3 dX12_blame_21 rfl rfl ?_
      refine v_callS X (av := [.int x3]) (s_X12_isRow l b D cy h) wd1022 wd1023 wd62 k_X12_isRow dn_X12_isRow rfl ⟨Nat.le_of_ble_eq_true rfl, Nat.le_of_ble_eq_true rfl⟩ (Nat.le_of_ble_eq_true rfl) ⟨Nat.le_of_ble_eq_true rfl, Nat.le_of_ble_eq_true rfl⟩ dX12_blame_22 rfl (kI (fun r12 S11 h => ?_))
      refine v_if_eq X (tgt := 39) dX12_blame_25 (by decide) (fun c13 => ?_) (fun c13 => ?_)
      · replace h := h.1 c13
        refine v_ldc X wd1030 dX12_blame_39 ?_
        exact v_iret X hr hlk ⟨_, rfl, h⟩ dX12_blame_41
      · replace h := h.2 c13
        refine v_iload X 5 dX12_blame_28 rfl ?_
        refine v_i2l X dX12_blame_30 ?_
        refine v_lconst X (v := 0) dX12_blame_31 (by decide) ?_
        refine v_lconst X (v := 1) dX12_blame_32 (by decide) ?_
        refine v_callS X (av := [.long (x5).toInt64, .long (0 : Int64), .long (1 : Int64)]) (s_X12_in l b D cy h) wd1026 wd1027 wd62 k_X12_in dn_X12_in rfl ⟨Nat.le_of_ble_eq_true rfl, Nat.le_of_ble_eq_true rfl⟩ (Nat.le_of_ble_eq_true rfl) ⟨Nat.le_of_ble_eq_true rfl, Nat.le_of_ble_eq_true rfl⟩ dX12_blame_33 rfl (kI (fun r15 S14 h => ?_))
        refine v_if_ne X (tgt := 42) dX12_blame_36 (by decide) (fun c16 => ?_) (fun c16 => ?_)
        · replace h := h.1 c16
          refine v_aload_n X 0 dX12_blame_42 rfl rfl ?_
          refine v_iload_n X 3 dX12_blame_43 rfl rfl ?_
          refine v_iload X 4 dX12_blame_44 rfl ?_
          refine v_iconst X (v := 3) dX12_blame_46 (by decide) ?_
          obtain ⟨hk18, h⟩ := h
          refine v_callV X (av := [.int x3, .int x4, .int (3 : Int32)]) (T := TX12) (N := 26) (s_X12_noRow l b D cy h) hk18 (by decide) rfl wd1200 wd1202 wd41 wd62 k_X12_noRow dn_X12_noRow rfl ⟨Nat.le_of_ble_eq_true rfl, Nat.le_of_ble_eq_true rfl⟩ (Nat.le_of_ble_eq_true rfl) ⟨Nat.le_of_ble_eq_true rfl, Nat.le_of_ble_eq_true rfl⟩ dX12_blame_47 rfl (kI (fun r19 S17 h => ?_))
          refine v_istore X (lv' := [(6, .int r19), (0, .ref a0), (1, .int x1), (2, .int x2), (3, .int x3), (4, .int x4), (5, .int x5)]) dX12_blame_50 (by decide) rfl ?_
          refine v_iload X 0 dX12_blame_52 rfl ?_
          refine v_if_ge X (tgt := 60) dX12_blame_54 (by decide) (fun c20 => ?_) (fun c20 => ?_)
          · replace h := h.1 c20
            refine v_aload_n X 1 dX12_blame_60 rfl rfl ?_
            refine v_iload_n X 2 dX12_blame_61 rfl rfl ?_
            refine v_bipush X (v := 40) dX12_blame_62 (by decide) ?_
            refine v_iload_n X 4 dX12_blame_64 rfl rfl ?_
            refine v_imul X dX12_blame_65 ?_
            refine v_iload X 5 dX12_blame_66 rfl ?_
            refine v_iadd X dX12_blame_68 ?_
            refine v_ldc X wd1070 dX12_blame_69 ?_
            obtain ⟨hk22, h⟩ := h
            refine v_callV X (av := [.int x1, .int (((40 : Int32) * x3) + x4), .int (-1000000 : Int32)]) (T := TX12) (N := 26) (s_X12_setsOf l b D cy h) hk22 (by decide) rfl wd1204 wd1206 wd42 wd62 k_X12_setsOf dn_X12_setsOf rfl ⟨Nat.le_of_ble_eq_true rfl, Nat.le_of_ble_eq_true rfl⟩ (Nat.le_of_ble_eq_true rfl) ⟨Nat.le_of_ble_eq_true rfl, Nat.le_of_ble_eq_true rfl⟩ dX12_blame_71 rfl (kI (fun r23 S21 h => ?_))
            refine v_istore X (lv' := [(7, .int r23), (6, .int r19), (0, .ref a0), (1, .int x1), (2, .int x2), (3, .int x3), (4, .int x4), (5, .int x5)]) dX12_blame_74 (by decide) rfl ?_
            refine v_iload X 0 dX12_blame_76 rfl ?_
            refine v_if_ne X (tgt := 84) dX12_blame_78 (by decide) (fun c24 => ?_) (fun c24 => ?_)
            · replace h := h.1 c24
              refine v_aload_n X 2 dX12_blame_84 rfl rfl ?_
              refine v_iload_n X 3 dX12_blame_85 rfl rfl ?_
              refine v_bipush X (v := 40) dX12_blame_86 (by decide) ?_
              refine v_iload_n X 5 dX12_blame_88 rfl rfl ?_
              refine v_imul X dX12_blame_89 ?_
              refine v_iload X 6 dX12_blame_90 rfl ?_
              refine v_iadd X dX12_blame_92 ?_
              refine v_iload_n X 4 dX12_blame_93 rfl rfl ?_
              obtain ⟨hk26, h⟩ := h
              refine v_callV X (av := [.int x1, .int (((40 : Int32) * x3) + x4), .int x2]) (T := TX12) (N := 26) (s_X12_setsOf l b D cy h) hk26 (by decide) rfl wd1204 wd1206 wd42 wd62 k_X12_setsOf dn_X12_setsOf rfl ⟨Nat.le_of_ble_eq_true rfl, Nat.le_of_ble_eq_true rfl⟩ (Nat.le_of_ble_eq_true rfl) ⟨Nat.le_of_ble_eq_true rfl, Nat.le_of_ble_eq_true rfl⟩ dX12_blame_94 rfl (kI (fun r27 S25 h => ?_))
              refine v_istore X (lv' := [(8, .int r27), (7, .int r23), (6, .int r19), (0, .ref a0), (1, .int x1), (2, .int x2), (3, .int x3), (4, .int x4), (5, .int x5)]) dX12_blame_97 (by decide) rfl ?_
              refine v_iload X 8 dX12_blame_99 rfl ?_
              refine v_if_ne X (tgt := 109) dX12_blame_101 (by decide) (fun c28 => ?_) (fun c28 => ?_)
              · replace h := h.1 c28
                refine v_iload X 1 dX12_blame_109 rfl ?_
                refine v_lv (lv' := [(7, .int r23), (8, .int r27)]) [1, 0] rfl ?_
                exact j111 _ _ _ _ h
              · replace h := h.2 c28
                refine v_iload X 0 dX12_blame_104 rfl ?_
                refine v_goto X (tgt := 111) dX12_blame_106 (by decide) ?_
                refine v_lv (lv' := [(7, .int r23), (8, .int r27)]) [1, 0] rfl ?_
                exact j111 _ _ _ _ h
            · replace h := h.2 c24
              refine v_ldc X wd1070 dX12_blame_81 ?_
              exact v_iret X hr hlk ⟨_, rfl, h⟩ dX12_blame_83
          · replace h := h.2 c20
            refine v_iload X 0 dX12_blame_57 rfl ?_
            exact v_iret X hr hlk ⟨_, rfl, h⟩ dX12_blame_59
        · replace h := h.2 c16
          refine v_ldc X wd1030 dX12_blame_39 ?_
          exact v_iret X hr hlk ⟨_, rfl, h⟩ dX12_blame_41
def wB_X12_toldFor_3 (bk3 : hp → Nat → Int32 → Int32 → Int32 → Prop) (Q : Int32 → hp → Prop) (S : hp) (l0 : Nat) (l1 : Int32) (l2 : Int32) (l3 : Int32) : Prop :=
  (((99 : Int32) < l3 → Q (-1000000 : Int32) S) ∧ (¬ (99 : Int32) < l3 → hK S l0 = 11 ∧ wp_X12_padsOf (fun r4 S2 => ((¬ r4 = l2 → ∀ v6 : Int32, v6 = l3 + (1 : Int32) → bk3 S2 l0 l1 l2 v6) ∧ (r4 = l2 → Q l3 S2))) S l0 l1 l3))
def wl_X12_toldFor_3 (Q : Int32 → hp → Prop) : Nat → hp → Nat → Int32 → Int32 → Int32 → Prop
  | 0 => fun _ _ _ _ _ => False
  | n + 1 => wB_X12_toldFor_3 (wl_X12_toldFor_3 Q n) Q
def wp_X12_toldFor (Q : Int32 → hp → Prop) (S : hp) (a0 : Nat) (x1 : Int32) (x2 : Int32) : Prop :=
  ∃ n : Nat, wl_X12_toldFor_3 Q n S a0 x1 x2 (-99 : Int32)
theorem k_X12_toldFor : Cond.code yX12_toldFor cX12_toldFor 4 (some .int) ∈ gtb := mg 1234 (by decide +kernel) (by decide +kernel)
theorem dn_X12_toldFor : yX12_toldFor.cls ≠ "java/lang/invoke/MethodHandle" ∧ yX12_toldFor.cls ≠ "java/lang/invoke/VarHandle" ∧ (parseMethodDescriptor yX12_toldFor.desc).map (fun d => d.parameters.length) = some 2 := by decide +kernel
set_option maxRecDepth 100000 in
set_option maxHeartbeats 4000000 in
theorem s_X12_toldFor (l : Launch) (b : Nat) (D : va_G) (cy : Nat → ClassId) {Q : Int32 → hp → Prop} {S : hp} {a0 : Nat} {x1 : Int32} {x2 : Int32} (h : wp_X12_toldFor Q S a0 x1 x2) : MT l yX12_toldFor cX12_toldFor 4 (some .int) 2 43 0 0 b D cy S [.ref a0, .int x1, .int x2] (pI Q) := by
  refine MT.of (by decide +kernel) (Nat.le_of_ble_eq_true rfl) ?_
  intro p e s m args below meth c X hr hlk hnm
  have j3 : ∀ (bk3 : hp → Nat → Int32 → Int32 → Int32 → Prop) (hbk3 : ∀ (S : hp) (l0 : Nat) (l1 : Int32) (l2 : Int32) (l3 : Int32), bk3 S l0 l1 l2 l3 → VM l b D cy 4 2 43 0 0 (pI Q) p e s m args below meth c S 0 0 3 [(0, .ref l0), (1, .int l1), (2, .int l2), (3, .int l3)] []) (S : hp) (l0 : Nat) (l1 : Int32) (l2 : Int32) (l3 : Int32), wB_X12_toldFor_3 bk3 Q S l0 l1 l2 l3 → VM l b D cy 4 2 43 0 0 (pI Q) p e s m args below meth c S 0 0 3 [(0, .ref l0), (1, .int l1), (2, .int l2), (3, .int l3)] [] := by
    intro bk3 hbk3 S l0 l1 l2 l3 h
    unfold wB_X12_toldFor_3 at h
    refine v_iload_n X 3 dX12_toldFor_3 rfl rfl ?_
    refine v_bipush X (v := 99) dX12_toldFor_4 (by decide) ?_
    refine v_icmp_gt X (tgt := 27) dX12_toldFor_6 (by decide) (fun c1 => ?_) (fun c1 => ?_)
    · replace h := h.1 c1
      refine v_ldc X wd1070 dX12_toldFor_27 ?_
      exact v_iret X hr hlk ⟨_, rfl, h⟩ dX12_toldFor_29
    · replace h := h.2 c1
      refine v_aload_n X 0 dX12_toldFor_9 rfl rfl ?_
      refine v_iload_n X 1 dX12_toldFor_10 rfl rfl ?_
      refine v_iload_n X 3 dX12_toldFor_11 rfl rfl ?_
      obtain ⟨hk3, h⟩ := h
      refine v_callV X (av := [.int l1, .int l3]) (T := TX12) (N := 26) (s_X12_padsOf l b D cy h) hk3 (by decide) rfl wd1128 wd1130 wd33 wd62 k_X12_padsOf dn_X12_padsOf rfl ⟨Nat.le_of_ble_eq_true rfl, Nat.le_of_ble_eq_true rfl⟩ (Nat.le_of_ble_eq_true rfl) ⟨Nat.le_of_ble_eq_true rfl, Nat.le_of_ble_eq_true rfl⟩ dX12_toldFor_12 rfl (kI (fun r4 S2 h => ?_))
      refine v_iload_n X 2 dX12_toldFor_15 rfl rfl ?_
      refine v_icmp_ne X (tgt := 21) dX12_toldFor_16 (by decide) (fun c5 => ?_) (fun c5 => ?_)
      · replace h := h.1 c5
        obtain ⟨v6, hv6⟩ : ∃ y : Int32, y = l3 + (1 : Int32) := ⟨_, rfl⟩
        replace h := h v6 hv6
        refine v_iinc X (j := 3) (v := v6) (lv' := [(3, .int v6), (0, .ref l0), (1, .int l1), (2, .int l2)]) dX12_toldFor_21 rfl (by rw [hv6] <;> rfl) (by decide) rfl ?_
        refine v_goto X (tgt := 3) dX12_toldFor_24 (by decide) ?_
        refine v_lv (lv' := [(0, .ref l0), (1, .int l1), (2, .int l2), (3, .int v6)]) [1, 2, 3, 0] rfl ?_
        exact hbk3 _ _ _ _ _ h
      · replace h := h.2 c5
        refine v_iload_n X 3 dX12_toldFor_19 rfl rfl ?_
        exact v_iret X hr hlk ⟨_, rfl, h⟩ dX12_toldFor_20
  have l3 : ∀  (n : Nat) (S : hp) (l0 : Nat) (l1 : Int32) (l2 : Int32) (l3 : Int32), wl_X12_toldFor_3 Q n S l0 l1 l2 l3 → VM l b D cy 4 2 43 0 0 (pI Q) p e s m args below meth c S 0 0 3 [(0, .ref l0), (1, .int l1), (2, .int l2), (3, .int l3)] [] := by
    intro  n
    induction n with
    | zero => intro S l0 l1 l2 l3 h; exact h.elim
    | succ n ih => intro S l0 l1 l2 l3 h; exact j3 (wl_X12_toldFor_3 Q n) ih S l0 l1 l2 l3 h
  unfold wp_X12_toldFor at h
  show VM l b D cy 4 2 43 0 0 (pI Q) p e s m args below meth c S 0 0 0 [(0, .ref a0), (1, .int x1), (2, .int x2)] []
  refine v_bipush X (v := -99) dX12_toldFor_0 (by decide) ?_
  refine v_istore_n X (lv' := [(3, .int (-99 : Int32)), (0, .ref a0), (1, .int x1), (2, .int x2)]) dX12_toldFor_2 rfl (by decide) rfl ?_
  refine v_lv (lv' := [(0, .ref a0), (1, .int x1), (2, .int x2), (3, .int (-99 : Int32))]) [1, 2, 3, 0] rfl ?_
  obtain ⟨n, h⟩ := h
  exact l3 n _ _ _ _ _ h
def wB_X12_whoFor_62 (bk5 : hp → Nat → Int32 → Int32 → Int32 → Prop) (Q : Int32 → hp → Prop) (S : hp) (l0 : Nat) (l1 : Int32) (l3 : Int32) (k0 : Int32) : Prop :=
  ∀ v10 : Int32, v10 = l3 + (1 : Int32) → bk5 S l0 l1 k0 v10
def wB_X12_whoFor_61 (bk5 : hp → Nat → Int32 → Int32 → Int32 → Prop) (Q : Int32 → hp → Prop) (S : hp) (l0 : Nat) (l1 : Int32) (l2 : Int32) (l3 : Int32) : Prop :=
  wB_X12_whoFor_62 bk5 Q S l0 l1 l3 l2
def wB_X12_whoFor_57 (bk5 : hp → Nat → Int32 → Int32 → Int32 → Prop) (Q : Int32 → hp → Prop) (S : hp) (l0 : Nat) (l1 : Int32) (l3 : Int32) : Prop :=
  wB_X12_whoFor_62 bk5 Q S l0 l1 l3 l3
def wB_X12_whoFor_31 (bk5 : hp → Nat → Int32 → Int32 → Int32 → Prop) (Q : Int32 → hp → Prop) (S : hp) (l0 : Nat) (l1 : Int32) (l2 : Int32) (l3 : Int32) (k0 : Int32) : Prop :=
  ((k0 = 0 → wB_X12_whoFor_61 bk5 Q S l0 l1 l2 l3) ∧ (¬ k0 = 0 → ((l2 = (-1000000 : Int32) → wB_X12_whoFor_57 bk5 Q S l0 l1 l3) ∧ (¬ l2 = (-1000000 : Int32) → hK S l0 = 11 ∧ wp_X12_bribeOf (fun r14 S12 => hK S12 l0 = 11 ∧ wp_X12_bribeOf (fun r17 S15 => ((r17 ≤ r14 → wB_X12_whoFor_61 bk5 Q S15 l0 l1 l2 l3) ∧ (¬ r17 ≤ r14 → wB_X12_whoFor_57 bk5 Q S15 l0 l1 l3))) S12 l0 l2) S l0 l3))))
def wB_X12_whoFor_5 (bk5 : hp → Nat → Int32 → Int32 → Int32 → Prop) (Q : Int32 → hp → Prop) (S : hp) (l0 : Nat) (l1 : Int32) (l2 : Int32) (l3 : Int32) : Prop :=
  hK S l0 = 11 ∧ ∃ r2 : Nat, hR S l0 5 = some r2 ∧ hK S r2 = 12 ∧ vp_in (3 : Int32) (hN S r2) ∧ (((hI S r2 ((3 : Int32)).toNatClampNeg) ≤ l3 → Q l2 S) ∧ (¬ (hI S r2 ((3 : Int32)).toNatClampNeg) ≤ l3 → wp_X12_toldFor (fun r7 S6 => ((r7 = (-1000000 : Int32) → wB_X12_whoFor_31 bk5 Q S6 l0 l1 l2 l3 (0 : Int32)) ∧ (¬ r7 = (-1000000 : Int32) → wB_X12_whoFor_31 bk5 Q S6 l0 l1 l2 l3 (1 : Int32)))) S l0 l3 l1))
def wl_X12_whoFor_5 (Q : Int32 → hp → Prop) : Nat → hp → Nat → Int32 → Int32 → Int32 → Prop
  | 0 => fun _ _ _ _ _ => False
  | n + 1 => wB_X12_whoFor_5 (wl_X12_whoFor_5 Q n) Q
def wp_X12_whoFor (Q : Int32 → hp → Prop) (S : hp) (a0 : Nat) (x1 : Int32) : Prop :=
  ∃ n : Nat, wl_X12_whoFor_5 Q n S a0 x1 (-1000000 : Int32) (0 : Int32)
theorem k_X12_whoFor : Cond.code yX12_whoFor cX12_whoFor 5 (some .int) ∈ gtb := mg 1230 (by decide +kernel) (by decide +kernel)
theorem dn_X12_whoFor : yX12_whoFor.cls ≠ "java/lang/invoke/MethodHandle" ∧ yX12_whoFor.cls ≠ "java/lang/invoke/VarHandle" ∧ (parseMethodDescriptor yX12_whoFor.desc).map (fun d => d.parameters.length) = some 1 := by decide +kernel
set_option maxRecDepth 100000 in
set_option maxHeartbeats 4000000 in
theorem s_X12_whoFor (l : Launch) (b : Nat) (D : va_G) (cy : Nat → ClassId) {Q : Int32 → hp → Prop} {S : hp} {a0 : Nat} {x1 : Int32} (h : wp_X12_whoFor Q S a0 x1) : MT l yX12_whoFor cX12_whoFor 5 (some .int) 3 66 0 0 b D cy S [.ref a0, .int x1] (pI Q) := by
  refine MT.of (by decide +kernel) (Nat.le_of_ble_eq_true rfl) ?_
  intro p e s m args below meth c X hr hlk hnm
  have j62 : ∀ (bk5 : hp → Nat → Int32 → Int32 → Int32 → Prop) (hbk5 : ∀ (S : hp) (l0 : Nat) (l1 : Int32) (l2 : Int32) (l3 : Int32), bk5 S l0 l1 l2 l3 → VM l b D cy 5 3 66 0 0 (pI Q) p e s m args below meth c S 0 0 5 [(0, .ref l0), (1, .int l1), (2, .int l2), (3, .int l3)] []) (S : hp) (l0 : Nat) (l1 : Int32) (l3 : Int32) (k0 : Int32), wB_X12_whoFor_62 bk5 Q S l0 l1 l3 k0 → VM l b D cy 5 3 66 0 0 (pI Q) p e s m args below meth c S 0 0 62 [(0, .ref l0), (1, .int l1), (3, .int l3)] [.int k0] := by
    intro bk5 hbk5 S l0 l1 l3 k0 h
    unfold wB_X12_whoFor_62 at h
    refine v_istore_n X (lv' := [(2, .int k0), (0, .ref l0), (1, .int l1), (3, .int l3)]) dX12_whoFor_62 rfl (by decide) rfl ?_
    obtain ⟨v10, hv10⟩ : ∃ y : Int32, y = l3 + (1 : Int32) := ⟨_, rfl⟩
    replace h := h v10 hv10
    refine v_iinc X (j := 3) (v := v10) (lv' := [(3, .int v10), (2, .int k0), (0, .ref l0), (1, .int l1)]) dX12_whoFor_63 rfl (by rw [hv10] <;> rfl) (by decide) rfl ?_
    refine v_goto X (tgt := 5) dX12_whoFor_66 (by decide) ?_
    refine v_lv (lv' := [(0, .ref l0), (1, .int l1), (2, .int k0), (3, .int v10)]) [2, 3, 1, 0] rfl ?_
    exact hbk5 _ _ _ _ _ h
  have j61 : ∀ (bk5 : hp → Nat → Int32 → Int32 → Int32 → Prop) (hbk5 : ∀ (S : hp) (l0 : Nat) (l1 : Int32) (l2 : Int32) (l3 : Int32), bk5 S l0 l1 l2 l3 → VM l b D cy 5 3 66 0 0 (pI Q) p e s m args below meth c S 0 0 5 [(0, .ref l0), (1, .int l1), (2, .int l2), (3, .int l3)] []) (S : hp) (l0 : Nat) (l1 : Int32) (l2 : Int32) (l3 : Int32), wB_X12_whoFor_61 bk5 Q S l0 l1 l2 l3 → VM l b D cy 5 3 66 0 0 (pI Q) p e s m args below meth c S 0 0 61 [(0, .ref l0), (1, .int l1), (2, .int l2), (3, .int l3)] [] := by
    intro bk5 hbk5 S l0 l1 l2 l3 h
    unfold wB_X12_whoFor_61 at h
    refine v_iload_n X 2 dX12_whoFor_61 rfl rfl ?_
    refine v_lv (lv' := [(0, .ref l0), (1, .int l1), (3, .int l3)]) [0, 1, 3] rfl ?_
    exact j62 bk5 hbk5 _ _ _ _ _ h
  have j57 : ∀ (bk5 : hp → Nat → Int32 → Int32 → Int32 → Prop) (hbk5 : ∀ (S : hp) (l0 : Nat) (l1 : Int32) (l2 : Int32) (l3 : Int32), bk5 S l0 l1 l2 l3 → VM l b D cy 5 3 66 0 0 (pI Q) p e s m args below meth c S 0 0 5 [(0, .ref l0), (1, .int l1), (2, .int l2), (3, .int l3)] []) (S : hp) (l0 : Nat) (l1 : Int32) (l3 : Int32), wB_X12_whoFor_57 bk5 Q S l0 l1 l3 → VM l b D cy 5 3 66 0 0 (pI Q) p e s m args below meth c S 0 0 57 [(0, .ref l0), (1, .int l1), (3, .int l3)] [] := by
    intro bk5 hbk5 S l0 l1 l3 h
    unfold wB_X12_whoFor_57 at h
    refine v_iload_n X 2 dX12_whoFor_57 rfl rfl ?_
    refine v_goto X (tgt := 62) dX12_whoFor_58 (by decide) ?_
    exact j62 bk5 hbk5 _ _ _ _ _ h
  have j31 : ∀ (bk5 : hp → Nat → Int32 → Int32 → Int32 → Prop) (hbk5 : ∀ (S : hp) (l0 : Nat) (l1 : Int32) (l2 : Int32) (l3 : Int32), bk5 S l0 l1 l2 l3 → VM l b D cy 5 3 66 0 0 (pI Q) p e s m args below meth c S 0 0 5 [(0, .ref l0), (1, .int l1), (2, .int l2), (3, .int l3)] []) (S : hp) (l0 : Nat) (l1 : Int32) (l2 : Int32) (l3 : Int32) (k0 : Int32), wB_X12_whoFor_31 bk5 Q S l0 l1 l2 l3 k0 → VM l b D cy 5 3 66 0 0 (pI Q) p e s m args below meth c S 0 0 31 [(0, .ref l0), (1, .int l1), (2, .int l2), (3, .int l3)] [.int k0] := by
    intro bk5 hbk5 S l0 l1 l2 l3 k0 h
    unfold wB_X12_whoFor_31 at h
    refine v_istore X (lv' := [(4, .int k0), (0, .ref l0), (1, .int l1), (2, .int l2), (3, .int l3)]) dX12_whoFor_31 (by decide) rfl ?_
    refine v_iload X 0 dX12_whoFor_33 rfl ?_
    refine v_if_eq X (tgt := 61) dX12_whoFor_35 (by decide) (fun c9 => ?_) (fun c9 => ?_)
    · replace h := h.1 c9
      refine v_lv (lv' := [(0, .ref l0), (1, .int l1), (2, .int l2), (3, .int l3)]) [1, 2, 3, 4] rfl ?_
      exact j61 bk5 hbk5 _ _ _ _ _ h
    · replace h := h.2 c9
      refine v_iload_n X 3 dX12_whoFor_38 rfl rfl ?_
      refine v_ldc X wd1070 dX12_whoFor_39 ?_
      refine v_icmp_eq X (tgt := 57) dX12_whoFor_41 (by decide) (fun c11 => ?_) (fun c11 => ?_)
      · replace h := h.1 c11
        refine v_lv (lv' := [(0, .ref l0), (1, .int l1), (3, .int l3)]) [1, 2, 4] rfl ?_
        exact j57 bk5 hbk5 _ _ _ _ h
      · replace h := h.2 c11
        refine v_aload_n X 1 dX12_whoFor_44 rfl rfl ?_
        refine v_iload_n X 4 dX12_whoFor_45 rfl rfl ?_
        obtain ⟨hk13, h⟩ := h
        refine v_callV X (av := [.int l3]) (T := TX12) (N := 26) (s_X12_bribeOf l b D cy h) hk13 (by decide) rfl wd1235 wd1237 wd46 wd62 k_X12_bribeOf dn_X12_bribeOf rfl ⟨Nat.le_of_ble_eq_true rfl, Nat.le_of_ble_eq_true rfl⟩ (Nat.le_of_ble_eq_true rfl) ⟨Nat.le_of_ble_eq_true rfl, Nat.le_of_ble_eq_true rfl⟩ dX12_whoFor_46 rfl (kI (fun r14 S12 h => ?_))
        refine v_aload_n X 1 dX12_whoFor_49 rfl rfl ?_
        refine v_iload_n X 3 dX12_whoFor_50 rfl rfl ?_
        obtain ⟨hk16, h⟩ := h
        refine v_callV X (av := [.int l2]) (T := TX12) (N := 26) (s_X12_bribeOf l b D cy h) hk16 (by decide) rfl wd1235 wd1237 wd46 wd62 k_X12_bribeOf dn_X12_bribeOf rfl ⟨Nat.le_of_ble_eq_true rfl, Nat.le_of_ble_eq_true rfl⟩ (Nat.le_of_ble_eq_true rfl) ⟨Nat.le_of_ble_eq_true rfl, Nat.le_of_ble_eq_true rfl⟩ dX12_whoFor_51 rfl (kI (fun r17 S15 h => ?_))
        refine v_icmp_ge X (tgt := 61) dX12_whoFor_54 (by decide) (fun c18 => ?_) (fun c18 => ?_)
        · replace h := h.1 c18
          refine v_lv (lv' := [(0, .ref l0), (1, .int l1), (2, .int l2), (3, .int l3)]) [1, 2, 3, 4] rfl ?_
          exact j61 bk5 hbk5 _ _ _ _ _ h
        · replace h := h.2 c18
          refine v_lv (lv' := [(0, .ref l0), (1, .int l1), (3, .int l3)]) [1, 2, 4] rfl ?_
          exact j57 bk5 hbk5 _ _ _ _ h
  have j5 : ∀ (bk5 : hp → Nat → Int32 → Int32 → Int32 → Prop) (hbk5 : ∀ (S : hp) (l0 : Nat) (l1 : Int32) (l2 : Int32) (l3 : Int32), bk5 S l0 l1 l2 l3 → VM l b D cy 5 3 66 0 0 (pI Q) p e s m args below meth c S 0 0 5 [(0, .ref l0), (1, .int l1), (2, .int l2), (3, .int l3)] []) (S : hp) (l0 : Nat) (l1 : Int32) (l2 : Int32) (l3 : Int32), wB_X12_whoFor_5 bk5 Q S l0 l1 l2 l3 → VM l b D cy 5 3 66 0 0 (pI Q) p e s m args below meth c S 0 0 5 [(0, .ref l0), (1, .int l1), (2, .int l2), (3, .int l3)] [] := by
    intro bk5 hbk5 S l0 l1 l2 l3 h
    unfold wB_X12_whoFor_5 at h
    refine v_iload_n X 3 dX12_whoFor_5 rfl rfl ?_
    refine v_aload_n X 0 dX12_whoFor_6 rfl rfl ?_
    obtain ⟨hk1, h⟩ := h
    obtain ⟨r2, hr2, h⟩ := h
    refine v_getR X (T := TX12) (N := 26) (k := 5) hk1 (by decide) rfl (by decide) inX12 wd944 rfl dX12_whoFor_7 hr2 ?_
    refine v_iconst X (v := 3) dX12_whoFor_10 (by decide) ?_
    obtain ⟨hk3, h⟩ := h
    obtain ⟨hi4, h⟩ := h
    refine v_iald X hk3 hi4 dX12_whoFor_11 ?_
    refine v_icmp_ge X (tgt := 69) dX12_whoFor_12 (by decide) (fun c5 => ?_) (fun c5 => ?_)
    · replace h := h.1 c5
      refine v_iload_n X 2 dX12_whoFor_69 rfl rfl ?_
      exact v_iret X hr hlk ⟨_, rfl, h⟩ dX12_whoFor_70
    · replace h := h.2 c5
      refine v_aload_n X 0 dX12_whoFor_15 rfl rfl ?_
      refine v_iload_n X 3 dX12_whoFor_16 rfl rfl ?_
      refine v_iload_n X 1 dX12_whoFor_17 rfl rfl ?_
      refine v_callV X (av := [.int l3, .int l1]) (T := TX12) (N := 26) (s_X12_toldFor l b D cy h) hk1 (by decide) rfl wd1231 wd1233 wd45 wd62 k_X12_toldFor dn_X12_toldFor rfl ⟨Nat.le_of_ble_eq_true rfl, Nat.le_of_ble_eq_true rfl⟩ (Nat.le_of_ble_eq_true rfl) ⟨Nat.le_of_ble_eq_true rfl, Nat.le_of_ble_eq_true rfl⟩ dX12_whoFor_18 rfl (kI (fun r7 S6 h => ?_))
      refine v_ldc X wd1070 dX12_whoFor_21 ?_
      refine v_icmp_eq X (tgt := 30) dX12_whoFor_23 (by decide) (fun c8 => ?_) (fun c8 => ?_)
      · replace h := h.1 c8
        refine v_iconst X (v := 0) dX12_whoFor_30 (by decide) ?_
        exact j31 bk5 hbk5 _ _ _ _ _ _ h
      · replace h := h.2 c8
        refine v_iconst X (v := 1) dX12_whoFor_26 (by decide) ?_
        refine v_goto X (tgt := 31) dX12_whoFor_27 (by decide) ?_
        exact j31 bk5 hbk5 _ _ _ _ _ _ h
  have l5 : ∀  (n : Nat) (S : hp) (l0 : Nat) (l1 : Int32) (l2 : Int32) (l3 : Int32), wl_X12_whoFor_5 Q n S l0 l1 l2 l3 → VM l b D cy 5 3 66 0 0 (pI Q) p e s m args below meth c S 0 0 5 [(0, .ref l0), (1, .int l1), (2, .int l2), (3, .int l3)] [] := by
    intro  n
    induction n with
    | zero => intro S l0 l1 l2 l3 h; exact h.elim
    | succ n ih => intro S l0 l1 l2 l3 h; exact j5 (wl_X12_whoFor_5 Q n) ih S l0 l1 l2 l3 h
  unfold wp_X12_whoFor at h
  show VM l b D cy 5 3 66 0 0 (pI Q) p e s m args below meth c S 0 0 0 [(0, .ref a0), (1, .int x1)] []
  refine v_ldc X wd1070 dX12_whoFor_0 ?_
  refine v_istore_n X (lv' := [(2, .int (-1000000 : Int32)), (0, .ref a0), (1, .int x1)]) dX12_whoFor_2 rfl (by decide) rfl ?_
  refine v_iconst X (v := 0) dX12_whoFor_3 (by decide) ?_
  refine v_istore_n X (lv' := [(3, .int (0 : Int32)), (2, .int (-1000000 : Int32)), (0, .ref a0), (1, .int x1)]) dX12_whoFor_4 rfl (by decide) rfl ?_
  refine v_lv (lv' := [(0, .ref a0), (1, .int x1), (2, .int (-1000000 : Int32)), (3, .int (0 : Int32))]) [2, 3, 1, 0] rfl ?_
  obtain ⟨n, h⟩ := h
  exact l5 n _ _ _ _ _ h
def wB_X12_right_87 (bk33 : hp → Nat → Int32 → Int32 → Int32 → Int32 → Prop) (Q : Int32 → hp → Prop) (S : hp) (l0 : Nat) (l1 : Int32) (l2 : Int32) (l4 : Int32) (k0 : Int32) (k1 : Int32) : Prop :=
  ∀ v37 : Int32, v37 = (k1 + k0) → ∀ v38 : Int32, v38 = l4 + (1 : Int32) → bk33 S l0 l1 l2 v37 v38
def wB_X12_right_71 (bk33 : hp → Nat → Int32 → Int32 → Int32 → Int32 → Prop) (Q : Int32 → hp → Prop) (S : hp) (l0 : Nat) (l1 : Int32) (l2 : Int32) (l3 : Int32) (l4 : Int32) (l5 : Int32) (l6 : Int32) : Prop :=
  ((¬ l5 = 0 → hK S l0 = 11 ∧ wp_X12_bribeOf (fun r36 S34 => wB_X12_right_87 bk33 Q S34 l0 l1 l2 l4 r36 l3) S l0 l6) ∧ (l5 = 0 → wB_X12_right_87 bk33 Q S l0 l1 l2 l4 (0 : Int32) l3))
def wB_X12_right_33 (bk33 : hp → Nat → Int32 → Int32 → Int32 → Int32 → Prop) (Q : Int32 → hp → Prop) (S : hp) (l0 : Nat) (l1 : Int32) (l2 : Int32) (l3 : Int32) (l4 : Int32) : Prop :=
  (((3 : Int32) ≤ l4 → ((¬ l2 = 0 → hK S l0 = 11 ∧ wp_X12_pinchOf (fun r14 S12 => ((¬ r14 = 0 → (((4 : Int32) ≤ l2 → hK S12 l0 = 11 ∧ wp_X12_whoFor (fun r19 S17 => hK S17 l0 = 11 ∧ wp_X12_toldFor (fun r22 S20 => Q r22 S20) S17 l0 r19 r14) S12 l0 r14) ∧ (¬ (4 : Int32) ≤ l2 → hK S12 l0 = 11 ∧ wp_X12_whoFor (fun r25 S23 => Q r25 S23) S12 l0 r14))) ∧ (r14 = 0 → Q (-1000000 : Int32) S12))) S l0 l1 (((l2 - (1 : Int32)) - (l2 - (1 : Int32)) / (3 : Int32) * (3 : Int32)))) ∧ (l2 = 0 → Q l3 S))) ∧ (¬ (3 : Int32) ≤ l4 → hK S l0 = 11 ∧ wp_X12_pinchOf (fun r28 S26 => hK S26 l0 = 11 ∧ wp_X12_whoFor (fun r31 S29 => ((r28 = 0 → wB_X12_right_71 bk33 Q S29 l0 l1 l2 l3 l4 r28 r31) ∧ (¬ r28 = 0 → ((¬ r31 = (-1000000 : Int32) → wB_X12_right_71 bk33 Q S29 l0 l1 l2 l3 l4 r28 r31) ∧ (r31 = (-1000000 : Int32) → Q (-1000000 : Int32) S29))))) S26 l0 r28) S l0 l1 l4))
def wl_X12_right_33 (Q : Int32 → hp → Prop) : Nat → hp → Nat → Int32 → Int32 → Int32 → Int32 → Prop
  | 0 => fun _ _ _ _ _ _ => False
  | n + 1 => wB_X12_right_33 (wl_X12_right_33 Q n) Q
def wp_X12_right (Q : Int32 → hp → Prop) (S : hp) (a0 : Nat) (x1 : Int32) (x2 : Int32) : Prop :=
  hK S a0 = 11 ∧ ∀ S2 : hp, S2 = setI S a0 0 (0 : Int32) → wp_X12_isDummy (fun r5 S4 => ((r5 = 0 → Q (-1000001 : Int32) S4) ∧ (¬ r5 = 0 → wp_X12_in (fun r8 S7 => ((¬ r8 = 0 → ∃ n : Nat, wl_X12_right_33 Q n S7 a0 x1 x2 (0 : Int32) (0 : Int32)) ∧ (r8 = 0 → Q (-1000001 : Int32) S7))) S4 ((x2).toInt64) ((0 : Int64)) ((6 : Int64))))) S2 a0 x1
theorem k_X12_right : Cond.code yX12_right cX12_right 7 (some .int) ∈ gtb := mg 1225 (by decide +kernel) (by decide +kernel)
theorem dn_X12_right : yX12_right.cls ≠ "java/lang/invoke/MethodHandle" ∧ yX12_right.cls ≠ "java/lang/invoke/VarHandle" ∧ (parseMethodDescriptor yX12_right.desc).map (fun d => d.parameters.length) = some 2 := by decide +kernel
set_option maxRecDepth 100000 in
set_option maxHeartbeats 4000000 in
theorem s_X12_right (l : Launch) (b : Nat) (D : va_G) (cy : Nat → ClassId) {Q : Int32 → hp → Prop} {S : hp} {a0 : Nat} {x1 : Int32} {x2 : Int32} (h : wp_X12_right Q S a0 x1 x2) : MT l yX12_right cX12_right 7 (some .int) 4 90 0 0 b D cy S [.ref a0, .int x1, .int x2] (pI Q) := by
  refine MT.of (by decide +kernel) (Nat.le_of_ble_eq_true rfl) ?_
  intro p e s m args below meth c X hr hlk hnm
  have j87 : ∀ (bk33 : hp → Nat → Int32 → Int32 → Int32 → Int32 → Prop) (hbk33 : ∀ (S : hp) (l0 : Nat) (l1 : Int32) (l2 : Int32) (l3 : Int32) (l4 : Int32), bk33 S l0 l1 l2 l3 l4 → VM l b D cy 7 4 90 0 0 (pI Q) p e s m args below meth c S 0 0 33 [(0, .ref l0), (1, .int l1), (2, .int l2), (3, .int l3), (4, .int l4)] []) (S : hp) (l0 : Nat) (l1 : Int32) (l2 : Int32) (l4 : Int32) (k0 : Int32) (k1 : Int32), wB_X12_right_87 bk33 Q S l0 l1 l2 l4 k0 k1 → VM l b D cy 7 4 90 0 0 (pI Q) p e s m args below meth c S 0 0 87 [(0, .ref l0), (1, .int l1), (2, .int l2), (4, .int l4)] [.int k0, .int k1] := by
    intro bk33 hbk33 S l0 l1 l2 l4 k0 k1 h
    unfold wB_X12_right_87 at h
    refine v_iadd X dX12_right_87 ?_
    refine v_nm (fun v37 hv37 => ?_)
    replace h := h v37 hv37
    refine v_istore_n X (lv' := [(3, .int v37), (0, .ref l0), (1, .int l1), (2, .int l2), (4, .int l4)]) dX12_right_88 rfl (by decide) rfl ?_
    obtain ⟨v38, hv38⟩ : ∃ y : Int32, y = l4 + (1 : Int32) := ⟨_, rfl⟩
    replace h := h v38 hv38
    refine v_iinc X (j := 4) (v := v38) (lv' := [(4, .int v38), (3, .int v37), (0, .ref l0), (1, .int l1), (2, .int l2)]) dX12_right_89 rfl (by rw [hv38] <;> rfl) (by decide) rfl ?_
    refine v_goto X (tgt := 33) dX12_right_92 (by decide) ?_
    refine v_lv (lv' := [(0, .ref l0), (1, .int l1), (2, .int l2), (3, .int v37), (4, .int v38)]) [2, 3, 4, 1, 0] rfl ?_
    exact hbk33 _ _ _ _ _ _ h
  have j71 : ∀ (bk33 : hp → Nat → Int32 → Int32 → Int32 → Int32 → Prop) (hbk33 : ∀ (S : hp) (l0 : Nat) (l1 : Int32) (l2 : Int32) (l3 : Int32) (l4 : Int32), bk33 S l0 l1 l2 l3 l4 → VM l b D cy 7 4 90 0 0 (pI Q) p e s m args below meth c S 0 0 33 [(0, .ref l0), (1, .int l1), (2, .int l2), (3, .int l3), (4, .int l4)] []) (S : hp) (l0 : Nat) (l1 : Int32) (l2 : Int32) (l3 : Int32) (l4 : Int32) (l5 : Int32) (l6 : Int32), wB_X12_right_71 bk33 Q S l0 l1 l2 l3 l4 l5 l6 → VM l b D cy 7 4 90 0 0 (pI Q) p e s m args below meth c S 0 0 71 [(0, .ref l0), (1, .int l1), (2, .int l2), (3, .int l3), (4, .int l4), (5, .int l5), (6, .int l6)] [] := by
    intro bk33 hbk33 S l0 l1 l2 l3 l4 l5 l6 h
    unfold wB_X12_right_71 at h
    refine v_iload_n X 3 dX12_right_71 rfl rfl ?_
    refine v_iload X 5 dX12_right_72 rfl ?_
    refine v_if_ne X (tgt := 81) dX12_right_74 (by decide) (fun c33 => ?_) (fun c33 => ?_)
    · replace h := h.1 c33
      refine v_aload_n X 0 dX12_right_81 rfl rfl ?_
      refine v_iload X 6 dX12_right_82 rfl ?_
      obtain ⟨hk35, h⟩ := h
      refine v_callV X (av := [.int l6]) (T := TX12) (N := 26) (s_X12_bribeOf l b D cy h) hk35 (by decide) rfl wd1235 wd1237 wd46 wd62 k_X12_bribeOf dn_X12_bribeOf rfl ⟨Nat.le_of_ble_eq_true rfl, Nat.le_of_ble_eq_true rfl⟩ (Nat.le_of_ble_eq_true rfl) ⟨Nat.le_of_ble_eq_true rfl, Nat.le_of_ble_eq_true rfl⟩ dX12_right_84 rfl (kI (fun r36 S34 h => ?_))
      refine v_lv (lv' := [(0, .ref l0), (1, .int l1), (2, .int l2), (4, .int l4)]) [0, 1, 2, 4] rfl ?_
      exact j87 bk33 hbk33 _ _ _ _ _ _ _ h
    · replace h := h.2 c33
      refine v_iconst X (v := 0) dX12_right_77 (by decide) ?_
      refine v_goto X (tgt := 87) dX12_right_78 (by decide) ?_
      refine v_lv (lv' := [(0, .ref l0), (1, .int l1), (2, .int l2), (4, .int l4)]) [0, 1, 2, 4] rfl ?_
      exact j87 bk33 hbk33 _ _ _ _ _ _ _ h
  have j33 : ∀ (bk33 : hp → Nat → Int32 → Int32 → Int32 → Int32 → Prop) (hbk33 : ∀ (S : hp) (l0 : Nat) (l1 : Int32) (l2 : Int32) (l3 : Int32) (l4 : Int32), bk33 S l0 l1 l2 l3 l4 → VM l b D cy 7 4 90 0 0 (pI Q) p e s m args below meth c S 0 0 33 [(0, .ref l0), (1, .int l1), (2, .int l2), (3, .int l3), (4, .int l4)] []) (S : hp) (l0 : Nat) (l1 : Int32) (l2 : Int32) (l3 : Int32) (l4 : Int32), wB_X12_right_33 bk33 Q S l0 l1 l2 l3 l4 → VM l b D cy 7 4 90 0 0 (pI Q) p e s m args below meth c S 0 0 33 [(0, .ref l0), (1, .int l1), (2, .int l2), (3, .int l3), (4, .int l4)] [] := by
    intro bk33 hbk33 S l0 l1 l2 l3 l4 h
    unfold wB_X12_right_33 at h
    refine v_iload X 4 dX12_right_33 rfl ?_
    refine v_iconst X (v := 3) dX12_right_35 (by decide) ?_
    refine v_icmp_ge X (tgt := 95) dX12_right_36 (by decide) (fun c10 => ?_) (fun c10 => ?_)
    · replace h := h.1 c10
      refine v_iload_n X 2 dX12_right_95 rfl rfl ?_
      refine v_if_ne X (tgt := 101) dX12_right_96 (by decide) (fun c11 => ?_) (fun c11 => ?_)
      · replace h := h.1 c11
        refine v_aload_n X 0 dX12_right_101 rfl rfl ?_
        refine v_iload_n X 1 dX12_right_102 rfl rfl ?_
        refine v_iload_n X 2 dX12_right_103 rfl rfl ?_
        refine v_iconst X (v := 1) dX12_right_104 (by decide) ?_
        refine v_isub X dX12_right_105 ?_
        refine v_iconst X (v := 3) dX12_right_106 (by decide) ?_
        refine v_irem X dX12_right_107 (by decide) ?_
        obtain ⟨hk13, h⟩ := h
        refine v_callV X (av := [.int l1, .int ((l2 - (1 : Int32)) - (l2 - (1 : Int32)) / (3 : Int32) * (3 : Int32))]) (T := TX12) (N := 26) (s_X12_pinchOf l b D cy h) hk13 (by decide) rfl wd1175 wd1177 wd39 wd62 k_X12_pinchOf dn_X12_pinchOf rfl ⟨Nat.le_of_ble_eq_true rfl, Nat.le_of_ble_eq_true rfl⟩ (Nat.le_of_ble_eq_true rfl) ⟨Nat.le_of_ble_eq_true rfl, Nat.le_of_ble_eq_true rfl⟩ dX12_right_108 rfl (kI (fun r14 S12 h => ?_))
        refine v_istore X (lv' := [(4, .int r14), (0, .ref l0), (1, .int l1), (2, .int l2), (3, .int l3)]) dX12_right_111 (by decide) rfl ?_
        refine v_iload X 0 dX12_right_113 rfl ?_
        refine v_if_ne X (tgt := 121) dX12_right_115 (by decide) (fun c15 => ?_) (fun c15 => ?_)
        · replace h := h.1 c15
          refine v_iload_n X 3 dX12_right_121 rfl rfl ?_
          refine v_iconst X (v := 4) dX12_right_122 (by decide) ?_
          refine v_icmp_ge X (tgt := 135) dX12_right_123 (by decide) (fun c16 => ?_) (fun c16 => ?_)
          · replace h := h.1 c16
            refine v_aload_n X 1 dX12_right_135 rfl rfl ?_
            refine v_aload_n X 1 dX12_right_136 rfl rfl ?_
            refine v_iload X 0 dX12_right_137 rfl ?_
            obtain ⟨hk18, h⟩ := h
            refine v_callV X (av := [.int r14]) (T := TX12) (N := 26) (s_X12_whoFor l b D cy h) hk18 (by decide) rfl wd1227 wd1229 wd44 wd62 k_X12_whoFor dn_X12_whoFor rfl ⟨Nat.le_of_ble_eq_true rfl, Nat.le_of_ble_eq_true rfl⟩ (Nat.le_of_ble_eq_true rfl) ⟨Nat.le_of_ble_eq_true rfl, Nat.le_of_ble_eq_true rfl⟩ dX12_right_139 rfl (kI (fun r19 S17 h => ?_))
            refine v_iload X 0 dX12_right_142 rfl ?_
            obtain ⟨hk21, h⟩ := h
            refine v_callV X (av := [.int r19, .int r14]) (T := TX12) (N := 26) (s_X12_toldFor l b D cy h) hk21 (by decide) rfl wd1231 wd1233 wd45 wd62 k_X12_toldFor dn_X12_toldFor rfl ⟨Nat.le_of_ble_eq_true rfl, Nat.le_of_ble_eq_true rfl⟩ (Nat.le_of_ble_eq_true rfl) ⟨Nat.le_of_ble_eq_true rfl, Nat.le_of_ble_eq_true rfl⟩ dX12_right_144 rfl (kI (fun r22 S20 h => ?_))
            exact v_iret X hr hlk ⟨_, rfl, h⟩ dX12_right_147
          · replace h := h.2 c16
            refine v_aload_n X 1 dX12_right_126 rfl rfl ?_
            refine v_iload X 0 dX12_right_127 rfl ?_
            obtain ⟨hk24, h⟩ := h
            refine v_callV X (av := [.int r14]) (T := TX12) (N := 26) (s_X12_whoFor l b D cy h) hk24 (by decide) rfl wd1227 wd1229 wd44 wd62 k_X12_whoFor dn_X12_whoFor rfl ⟨Nat.le_of_ble_eq_true rfl, Nat.le_of_ble_eq_true rfl⟩ (Nat.le_of_ble_eq_true rfl) ⟨Nat.le_of_ble_eq_true rfl, Nat.le_of_ble_eq_true rfl⟩ dX12_right_129 rfl (kI (fun r25 S23 h => ?_))
            refine v_goto X (tgt := 147) dX12_right_132 (by decide) ?_
            exact v_iret X hr hlk ⟨_, rfl, h⟩ dX12_right_147
        · replace h := h.2 c15
          refine v_ldc X wd1070 dX12_right_118 ?_
          exact v_iret X hr hlk ⟨_, rfl, h⟩ dX12_right_120
      · replace h := h.2 c11
        refine v_iload_n X 3 dX12_right_99 rfl rfl ?_
        exact v_iret X hr hlk ⟨_, rfl, h⟩ dX12_right_100
    · replace h := h.2 c10
      refine v_aload_n X 0 dX12_right_39 rfl rfl ?_
      refine v_iload_n X 1 dX12_right_40 rfl rfl ?_
      refine v_iload X 4 dX12_right_41 rfl ?_
      obtain ⟨hk27, h⟩ := h
      refine v_callV X (av := [.int l1, .int l4]) (T := TX12) (N := 26) (s_X12_pinchOf l b D cy h) hk27 (by decide) rfl wd1175 wd1177 wd39 wd62 k_X12_pinchOf dn_X12_pinchOf rfl ⟨Nat.le_of_ble_eq_true rfl, Nat.le_of_ble_eq_true rfl⟩ (Nat.le_of_ble_eq_true rfl) ⟨Nat.le_of_ble_eq_true rfl, Nat.le_of_ble_eq_true rfl⟩ dX12_right_43 rfl (kI (fun r28 S26 h => ?_))
      refine v_istore X (lv' := [(5, .int r28), (0, .ref l0), (1, .int l1), (2, .int l2), (3, .int l3), (4, .int l4)]) dX12_right_46 (by decide) rfl ?_
      refine v_aload_n X 1 dX12_right_48 rfl rfl ?_
      refine v_iload X 0 dX12_right_49 rfl ?_
      obtain ⟨hk30, h⟩ := h
      refine v_callV X (av := [.int r28]) (T := TX12) (N := 26) (s_X12_whoFor l b D cy h) hk30 (by decide) rfl wd1227 wd1229 wd44 wd62 k_X12_whoFor dn_X12_whoFor rfl ⟨Nat.le_of_ble_eq_true rfl, Nat.le_of_ble_eq_true rfl⟩ (Nat.le_of_ble_eq_true rfl) ⟨Nat.le_of_ble_eq_true rfl, Nat.le_of_ble_eq_true rfl⟩ dX12_right_51 rfl (kI (fun r31 S29 h => ?_))
      refine v_istore X (lv' := [(6, .int r31), (5, .int r28), (0, .ref l0), (1, .int l1), (2, .int l2), (3, .int l3), (4, .int l4)]) dX12_right_54 (by decide) rfl ?_
      refine v_iload X 1 dX12_right_56 rfl ?_
      refine v_if_eq X (tgt := 71) dX12_right_58 (by decide) (fun c32 => ?_) (fun c32 => ?_)
      · replace h := h.1 c32
        refine v_lv (lv' := [(0, .ref l0), (1, .int l1), (2, .int l2), (3, .int l3), (4, .int l4), (5, .int r28), (6, .int r31)]) [2, 3, 4, 5, 6, 1, 0] rfl ?_
        exact j71 bk33 hbk33 _ _ _ _ _ _ _ _ h
      · replace h := h.2 c32
        refine v_iload X 0 dX12_right_61 rfl ?_
        refine v_ldc X wd1070 dX12_right_63 ?_
        refine v_icmp_ne X (tgt := 71) dX12_right_65 (by decide) (fun c39 => ?_) (fun c39 => ?_)
        · replace h := h.1 c39
          refine v_lv (lv' := [(0, .ref l0), (1, .int l1), (2, .int l2), (3, .int l3), (4, .int l4), (5, .int r28), (6, .int r31)]) [2, 3, 4, 5, 6, 1, 0] rfl ?_
          exact j71 bk33 hbk33 _ _ _ _ _ _ _ _ h
        · replace h := h.2 c39
          refine v_ldc X wd1070 dX12_right_68 ?_
          exact v_iret X hr hlk ⟨_, rfl, h⟩ dX12_right_70
  have l33 : ∀  (n : Nat) (S : hp) (l0 : Nat) (l1 : Int32) (l2 : Int32) (l3 : Int32) (l4 : Int32), wl_X12_right_33 Q n S l0 l1 l2 l3 l4 → VM l b D cy 7 4 90 0 0 (pI Q) p e s m args below meth c S 0 0 33 [(0, .ref l0), (1, .int l1), (2, .int l2), (3, .int l3), (4, .int l4)] [] := by
    intro  n
    induction n with
    | zero => intro S l0 l1 l2 l3 l4 h; exact h.elim
    | succ n ih => intro S l0 l1 l2 l3 l4 h; exact j33 (wl_X12_right_33 Q n) ih S l0 l1 l2 l3 l4 h
  unfold wp_X12_right at h
  show VM l b D cy 7 4 90 0 0 (pI Q) p e s m args below meth c S 0 0 0 [(0, .ref a0), (1, .int x1), (2, .int x2)] []
  refine v_aload_n X 0 dX12_right_0 rfl rfl ?_
  refine v_iconst X (v := 0) dX12_right_1 (by decide) ?_
  obtain ⟨hk1, h⟩ := h
  refine v_putI X (T := TX12) (N := 26) (k := 0) hk1 (by decide) rfl (by decide) inX12 wd939 tyX12 tyX12_ok nmX12 rfl rfl rfl rfl dX12_right_2 ?_
  refine v_nmS (fun S2 eS2 => ?_)
  replace h := h S2 eS2
  have hk3 : hK S2 a0 = 11 := by rw [eS2]; exact hk1
  refine v_aload_n X 0 dX12_right_5 rfl rfl ?_
  refine v_iload_n X 1 dX12_right_6 rfl rfl ?_
  refine v_callV X (av := [.int x1]) (T := TX12) (N := 26) (s_X12_isDummy l b D cy h) hk3 (by decide) rfl wd1119 wd1121 wd32 wd62 k_X12_isDummy dn_X12_isDummy rfl ⟨Nat.le_of_ble_eq_true rfl, Nat.le_of_ble_eq_true rfl⟩ (Nat.le_of_ble_eq_true rfl) ⟨Nat.le_of_ble_eq_true rfl, Nat.le_of_ble_eq_true rfl⟩ dX12_right_7 rfl (kI (fun r5 S4 h => ?_))
  refine v_if_eq X (tgt := 25) dX12_right_10 (by decide) (fun c6 => ?_) (fun c6 => ?_)
  · replace h := h.1 c6
    refine v_ldc X wd1030 dX12_right_25 ?_
    exact v_iret X hr hlk ⟨_, rfl, h⟩ dX12_right_27
  · replace h := h.2 c6
    refine v_iload_n X 2 dX12_right_13 rfl rfl ?_
    refine v_i2l X dX12_right_14 ?_
    refine v_lconst X (v := 0) dX12_right_15 (by decide) ?_
    refine v_ldc2 X wd1226 dX12_right_16 ?_
    refine v_callS X (av := [.long (x2).toInt64, .long (0 : Int64), .long (6 : Int64)]) (s_X12_in l b D cy h) wd1026 wd1027 wd62 k_X12_in dn_X12_in rfl ⟨Nat.le_of_ble_eq_true rfl, Nat.le_of_ble_eq_true rfl⟩ (Nat.le_of_ble_eq_true rfl) ⟨Nat.le_of_ble_eq_true rfl, Nat.le_of_ble_eq_true rfl⟩ dX12_right_19 rfl (kI (fun r8 S7 h => ?_))
    refine v_if_ne X (tgt := 28) dX12_right_22 (by decide) (fun c9 => ?_) (fun c9 => ?_)
    · replace h := h.1 c9
      refine v_iconst X (v := 0) dX12_right_28 (by decide) ?_
      refine v_istore_n X (lv' := [(3, .int (0 : Int32)), (0, .ref a0), (1, .int x1), (2, .int x2)]) dX12_right_29 rfl (by decide) rfl ?_
      refine v_iconst X (v := 0) dX12_right_30 (by decide) ?_
      refine v_istore X (lv' := [(4, .int (0 : Int32)), (3, .int (0 : Int32)), (0, .ref a0), (1, .int x1), (2, .int x2)]) dX12_right_31 (by decide) rfl ?_
      refine v_lv (lv' := [(0, .ref a0), (1, .int x1), (2, .int x2), (3, .int (0 : Int32)), (4, .int (0 : Int32))]) [2, 3, 4, 1, 0] rfl ?_
      obtain ⟨n, h⟩ := h
      exact l33 n _ _ _ _ _ _ h
    · replace h := h.2 c9
      refine v_ldc X wd1030 dX12_right_25 ?_
      exact v_iret X hr hlk ⟨_, rfl, h⟩ dX12_right_27
def wB_X12_most_219 (Q : Int32 → hp → Prop) (S : hp) (l4 : Int32) : Prop :=
  Q l4 S
def wB_X12_most_202 (bk43 : hp → Nat → Int32 → Int32 → Int32 → Int32 → Int32 → Int32 → Prop) (Q : Int32 → hp → Prop) (S : hp) (l0 : Nat) (l1 : Int32) (l2 : Int32) (l3 : Int32) (l4 : Int32) (l5 : Int32) (l6 : Int32) : Prop :=
  ∀ v26 : Int32, v26 = l6 + (1 : Int32) → bk43 S l0 l1 l2 l3 l4 l5 v26
def wB_X12_most_194 (bk43 : hp → Nat → Int32 → Int32 → Int32 → Int32 → Int32 → Int32 → Prop) (Q : Int32 → hp → Prop) (S : hp) (l0 : Nat) (l1 : Int32) (l2 : Int32) (l3 : Int32) (l6 : Int32) (l7 : Int32) : Prop :=
  wB_X12_most_202 bk43 Q S l0 l1 l2 l3 l6 l7 l6
def wB_X12_most_160 (bk43 : hp → Nat → Int32 → Int32 → Int32 → Int32 → Int32 → Int32 → Prop) (bk63 : hp → Nat → Int32 → Int32 → Int32 → Int32 → Int32 → Int32 → Int32 → Int32 → Int32 → Prop) (Q : Int32 → hp → Prop) (S : hp) (l0 : Nat) (l1 : Int32) (l2 : Int32) (l3 : Int32) (l4 : Int32) (l5 : Int32) (l6 : Int32) (l8 : Int32) (l9 : Int32) (k0 : Int32) (k1 : Int32) : Prop :=
  ∀ v34 : Int32, v34 = (k1 + k0) → ∀ v35 : Int32, v35 = l9 + (1 : Int32) → bk63 S l0 l1 l2 l3 l4 l5 l6 v34 l8 v35
def wB_X12_most_140 (bk43 : hp → Nat → Int32 → Int32 → Int32 → Int32 → Int32 → Int32 → Prop) (bk63 : hp → Nat → Int32 → Int32 → Int32 → Int32 → Int32 → Int32 → Int32 → Int32 → Int32 → Prop) (Q : Int32 → hp → Prop) (S : hp) (l0 : Nat) (l1 : Int32) (l2 : Int32) (l3 : Int32) (l4 : Int32) (l5 : Int32) (l6 : Int32) (l7 : Int32) (l9 : Int32) (l10 : Int32) (k0 : Int32) : Prop :=
  ((l10 = 0 → wB_X12_most_160 bk43 bk63 Q S l0 l1 l2 l3 l4 l5 l6 k0 l9 (0 : Int32) l7) ∧ (¬ l10 = 0 → hK S l0 = 11 ∧ wp_X12_lineOf (fun r38 S36 => wB_X12_most_160 bk43 bk63 Q S36 l0 l1 l2 l3 l4 l5 l6 k0 l9 r38 l7) S l0 l9 (5 : Int32)))
def wB_X12_most_135 (bk43 : hp → Nat → Int32 → Int32 → Int32 → Int32 → Int32 → Int32 → Prop) (bk63 : hp → Nat → Int32 → Int32 → Int32 → Int32 → Int32 → Int32 → Int32 → Int32 → Int32 → Prop) (Q : Int32 → hp → Prop) (S : hp) (l0 : Nat) (l1 : Int32) (l2 : Int32) (l3 : Int32) (l4 : Int32) (l5 : Int32) (l6 : Int32) (l7 : Int32) (l9 : Int32) (l10 : Int32) : Prop :=
  wB_X12_most_140 bk43 bk63 Q S l0 l1 l2 l3 l4 l5 l6 l7 l9 l10 (1 : Int32)
def wB_X12_most_123 (bk43 : hp → Nat → Int32 → Int32 → Int32 → Int32 → Int32 → Int32 → Prop) (bk63 : hp → Nat → Int32 → Int32 → Int32 → Int32 → Int32 → Int32 → Int32 → Int32 → Int32 → Prop) (Q : Int32 → hp → Prop) (S : hp) (l0 : Nat) (l1 : Int32) (l2 : Int32) (l3 : Int32) (l4 : Int32) (l5 : Int32) (l6 : Int32) (l7 : Int32) (l8 : Int32) (l9 : Int32) (k0 : Int32) : Prop :=
  ((¬ l8 = 0 → wB_X12_most_135 bk43 bk63 Q S l0 l1 l2 l3 l4 l5 l6 l7 l9 k0) ∧ (l8 = 0 → ((k0 = 0 → wB_X12_most_140 bk43 bk63 Q S l0 l1 l2 l3 l4 l5 l6 l7 l9 k0 (0 : Int32)) ∧ (¬ k0 = 0 → wB_X12_most_135 bk43 bk63 Q S l0 l1 l2 l3 l4 l5 l6 l7 l9 k0))))
def wB_X12_most_122 (bk43 : hp → Nat → Int32 → Int32 → Int32 → Int32 → Int32 → Int32 → Prop) (bk63 : hp → Nat → Int32 → Int32 → Int32 → Int32 → Int32 → Int32 → Int32 → Int32 → Int32 → Prop) (Q : Int32 → hp → Prop) (S : hp) (l0 : Nat) (l1 : Int32) (l2 : Int32) (l3 : Int32) (l4 : Int32) (l5 : Int32) (l6 : Int32) (l7 : Int32) (l8 : Int32) (l9 : Int32) : Prop :=
  wB_X12_most_123 bk43 bk63 Q S l0 l1 l2 l3 l4 l5 l6 l7 l8 l9 (0 : Int32)
def wB_X12_most_63 (bk43 : hp → Nat → Int32 → Int32 → Int32 → Int32 → Int32 → Int32 → Prop) (bk63 : hp → Nat → Int32 → Int32 → Int32 → Int32 → Int32 → Int32 → Int32 → Int32 → Int32 → Prop) (Q : Int32 → hp → Prop) (S : hp) (l0 : Nat) (l1 : Int32) (l2 : Int32) (l3 : Int32) (l4 : Int32) (l5 : Int32) (l6 : Int32) (l7 : Int32) (l8 : Int32) (l9 : Int32) : Prop :=
  hK S l0 = 11 ∧ ∃ r21 : Nat, hR S l0 5 = some r21 ∧ hK S r21 = 12 ∧ vp_in (4 : Int32) (hN S r21) ∧ (((hI S r21 ((4 : Int32)).toNatClampNeg) ≤ l9 → ((l8 = 0 → wB_X12_most_202 bk43 Q S l0 l1 l2 l3 l4 l5 l6) ∧ (¬ l8 = 0 → ((l4 = (-1000000 : Int32) → wB_X12_most_194 bk43 Q S l0 l1 l2 l3 l6 l7) ∧ (¬ l4 = (-1000000 : Int32) → (((l7 * l7) ≤ (l5 * l5) → wB_X12_most_202 bk43 Q S l0 l1 l2 l3 l4 l5 l6) ∧ (¬ (l7 * l7) ≤ (l5 * l5) → wB_X12_most_194 bk43 Q S l0 l1 l2 l3 l6 l7))))))) ∧ (¬ (hI S r21 ((4 : Int32)).toNatClampNeg) ≤ l9 → wp_X12_lineOf (fun r30 S29 => ((¬ r30 = 0 → wB_X12_most_122 bk43 bk63 Q S29 l0 l1 l2 l3 l4 l5 l6 l7 l8 l9) ∧ (r30 = 0 → hK S29 l0 = 11 ∧ wp_X12_lineOf (fun r42 S40 => ((¬ r42 = l6 → wB_X12_most_122 bk43 bk63 Q S40 l0 l1 l2 l3 l4 l5 l6 l7 l8 l9) ∧ (r42 = l6 → hK S40 l0 = 11 ∧ wp_X12_lineOf (fun r46 S44 => ((¬ r46 = l1 → wB_X12_most_122 bk43 bk63 Q S44 l0 l1 l2 l3 l4 l5 l6 l7 l8 l9) ∧ (r46 = l1 → hK S44 l0 = 11 ∧ wp_X12_lineOf (fun r50 S48 => ((¬ r50 = l2 → wB_X12_most_122 bk43 bk63 Q S48 l0 l1 l2 l3 l4 l5 l6 l7 l8 l9) ∧ (r50 = l2 → wB_X12_most_123 bk43 bk63 Q S48 l0 l1 l2 l3 l4 l5 l6 l7 l8 l9 (1 : Int32)))) S44 l0 l9 (3 : Int32)))) S40 l0 l9 (2 : Int32)))) S29 l0 l9 (1 : Int32)))) S l0 l9 (0 : Int32)))
def wl_X12_most_63 (bk43 : hp → Nat → Int32 → Int32 → Int32 → Int32 → Int32 → Int32 → Prop) (Q : Int32 → hp → Prop) : Nat → hp → Nat → Int32 → Int32 → Int32 → Int32 → Int32 → Int32 → Int32 → Int32 → Int32 → Prop
  | 0 => fun _ _ _ _ _ _ _ _ _ _ _ => False
  | n + 1 => wB_X12_most_63 bk43 (wl_X12_most_63 bk43 Q n) Q
def wB_X12_most_43 (bk43 : hp → Nat → Int32 → Int32 → Int32 → Int32 → Int32 → Int32 → Prop) (Q : Int32 → hp → Prop) (S : hp) (l0 : Nat) (l1 : Int32) (l2 : Int32) (l3 : Int32) (l4 : Int32) (l5 : Int32) (l6 : Int32) : Prop :=
  hK S l0 = 11 ∧ ∃ r14 : Nat, hR S l0 5 = some r14 ∧ hK S r14 = 12 ∧ vp_in (3 : Int32) (hN S r14) ∧ (((hI S r14 ((3 : Int32)).toNatClampNeg) ≤ l6 → ((l4 = (-1000000 : Int32) → wB_X12_most_219 Q S l4) ∧ (¬ l4 = (-1000000 : Int32) → ((¬ l3 = 0 → Q l5 S) ∧ (l3 = 0 → wB_X12_most_219 Q S l4))))) ∧ (¬ (hI S r14 ((3 : Int32)).toNatClampNeg) ≤ l6 → ∃ n : Nat, wl_X12_most_63 bk43 Q n S l0 l1 l2 l3 l4 l5 l6 (0 : Int32) (0 : Int32) (0 : Int32)))
def wl_X12_most_43 (Q : Int32 → hp → Prop) : Nat → hp → Nat → Int32 → Int32 → Int32 → Int32 → Int32 → Int32 → Prop
  | 0 => fun _ _ _ _ _ _ _ _ => False
  | n + 1 => wB_X12_most_43 (wl_X12_most_43 Q n) Q
def wp_X12_most (Q : Int32 → hp → Prop) (S : hp) (a0 : Nat) (x1 : Int32) (x2 : Int32) (x3 : Int32) : Prop :=
  hK S a0 = 11 ∧ ∀ S2 : hp, S2 = setI S a0 0 (0 : Int32) → wp_X12_isDummy (fun r5 S4 => ((r5 = 0 → Q (-1000001 : Int32) S4) ∧ (¬ r5 = 0 → wp_X12_isPlace (fun r8 S7 => ((r8 = 0 → Q (-1000001 : Int32) S7) ∧ (¬ r8 = 0 → wp_X12_in (fun r11 S10 => ((¬ r11 = 0 → ∃ n : Nat, wl_X12_most_43 Q n S10 a0 x1 x2 x3 (-1000000 : Int32) (0 : Int32) (0 : Int32)) ∧ (r11 = 0 → Q (-1000001 : Int32) S10))) S7 ((x3).toInt64) ((0 : Int64)) ((1 : Int64))))) S4 x2))) S2 a0 x1
theorem k_X12_most : Cond.code yX12_most cX12_most 11 (some .int) ∈ gtb := mg 1242 (by decide +kernel) (by decide +kernel)
theorem dn_X12_most : yX12_most.cls ≠ "java/lang/invoke/MethodHandle" ∧ yX12_most.cls ≠ "java/lang/invoke/VarHandle" ∧ (parseMethodDescriptor yX12_most.desc).map (fun d => d.parameters.length) = some 3 := by decide +kernel
set_option maxRecDepth 100000 in
set_option maxHeartbeats 4000000 in
theorem s_X12_most (l : Launch) (b : Nat) (D : va_G) (cy : Nat → ClassId) {Q : Int32 → hp → Prop} {S : hp} {a0 : Nat} {x1 : Int32} {x2 : Int32} {x3 : Int32} (h : wp_X12_most Q S a0 x1 x2 x3) : MT l yX12_most cX12_most 11 (some .int) 2 46 0 0 b D cy S [.ref a0, .int x1, .int x2, .int x3] (pI Q) := by
  refine MT.of (by decide +kernel) (Nat.le_of_ble_eq_true rfl) ?_
  intro p e s m args below meth c X hr hlk hnm
  have j219 : ∀  (S : hp) (l4 : Int32), wB_X12_most_219 Q S l4 → VM l b D cy 11 2 46 0 0 (pI Q) p e s m args below meth c S 0 0 219 [(4, .int l4)] [] := by
    intro  S l4 h
    unfold wB_X12_most_219 at h
    refine v_iload X 0 dX12_most_219 rfl ?_
    refine v_goto X (tgt := 226) dX12_most_221 (by decide) ?_
    exact v_iret X hr hlk ⟨_, rfl, h⟩ dX12_most_226
  have j202 : ∀ (bk43 : hp → Nat → Int32 → Int32 → Int32 → Int32 → Int32 → Int32 → Prop) (hbk43 : ∀ (S : hp) (l0 : Nat) (l1 : Int32) (l2 : Int32) (l3 : Int32) (l4 : Int32) (l5 : Int32) (l6 : Int32), bk43 S l0 l1 l2 l3 l4 l5 l6 → VM l b D cy 11 2 46 0 0 (pI Q) p e s m args below meth c S 0 0 43 [(0, .ref l0), (1, .int l1), (2, .int l2), (3, .int l3), (4, .int l4), (5, .int l5), (6, .int l6)] []) (S : hp) (l0 : Nat) (l1 : Int32) (l2 : Int32) (l3 : Int32) (l4 : Int32) (l5 : Int32) (l6 : Int32), wB_X12_most_202 bk43 Q S l0 l1 l2 l3 l4 l5 l6 → VM l b D cy 11 2 46 0 0 (pI Q) p e s m args below meth c S 0 0 202 [(0, .ref l0), (1, .int l1), (2, .int l2), (3, .int l3), (4, .int l4), (5, .int l5), (6, .int l6)] [] := by
    intro bk43 hbk43 S l0 l1 l2 l3 l4 l5 l6 h
    unfold wB_X12_most_202 at h
    obtain ⟨v26, hv26⟩ : ∃ y : Int32, y = l6 + (1 : Int32) := ⟨_, rfl⟩
    replace h := h v26 hv26
    refine v_iinc X (j := 6) (v := v26) (lv' := [(6, .int v26), (0, .ref l0), (1, .int l1), (2, .int l2), (3, .int l3), (4, .int l4), (5, .int l5)]) dX12_most_202 rfl (by rw [hv26] <;> rfl) (by decide) rfl ?_
    refine v_goto X (tgt := 43) dX12_most_205 (by decide) ?_
    refine v_lv (lv' := [(0, .ref l0), (1, .int l1), (2, .int l2), (3, .int l3), (4, .int l4), (5, .int l5), (6, .int v26)]) [1, 2, 3, 4, 5, 6, 0] rfl ?_
    exact hbk43 _ _ _ _ _ _ _ _ h
  have j194 : ∀ (bk43 : hp → Nat → Int32 → Int32 → Int32 → Int32 → Int32 → Int32 → Prop) (hbk43 : ∀ (S : hp) (l0 : Nat) (l1 : Int32) (l2 : Int32) (l3 : Int32) (l4 : Int32) (l5 : Int32) (l6 : Int32), bk43 S l0 l1 l2 l3 l4 l5 l6 → VM l b D cy 11 2 46 0 0 (pI Q) p e s m args below meth c S 0 0 43 [(0, .ref l0), (1, .int l1), (2, .int l2), (3, .int l3), (4, .int l4), (5, .int l5), (6, .int l6)] []) (S : hp) (l0 : Nat) (l1 : Int32) (l2 : Int32) (l3 : Int32) (l6 : Int32) (l7 : Int32), wB_X12_most_194 bk43 Q S l0 l1 l2 l3 l6 l7 → VM l b D cy 11 2 46 0 0 (pI Q) p e s m args below meth c S 0 0 194 [(0, .ref l0), (1, .int l1), (2, .int l2), (3, .int l3), (6, .int l6), (7, .int l7)] [] := by
    intro bk43 hbk43 S l0 l1 l2 l3 l6 l7 h
    unfold wB_X12_most_194 at h
    refine v_iload X 4 dX12_most_194 rfl ?_
    refine v_istore X (lv' := [(4, .int l6), (0, .ref l0), (1, .int l1), (2, .int l2), (3, .int l3), (6, .int l6), (7, .int l7)]) dX12_most_196 (by decide) rfl ?_
    refine v_iload X 6 dX12_most_198 rfl ?_
    refine v_istore X (lv' := [(5, .int l7), (4, .int l6), (0, .ref l0), (1, .int l1), (2, .int l2), (3, .int l3), (6, .int l6), (7, .int l7)]) dX12_most_200 (by decide) rfl ?_
    refine v_lv (lv' := [(0, .ref l0), (1, .int l1), (2, .int l2), (3, .int l3), (4, .int l6), (5, .int l7), (6, .int l6)]) [2, 3, 4, 5, 1, 0, 6] rfl ?_
    exact j202 bk43 hbk43 _ _ _ _ _ _ _ _ h
  have j160 : ∀ (bk43 : hp → Nat → Int32 → Int32 → Int32 → Int32 → Int32 → Int32 → Prop) (hbk43 : ∀ (S : hp) (l0 : Nat) (l1 : Int32) (l2 : Int32) (l3 : Int32) (l4 : Int32) (l5 : Int32) (l6 : Int32), bk43 S l0 l1 l2 l3 l4 l5 l6 → VM l b D cy 11 2 46 0 0 (pI Q) p e s m args below meth c S 0 0 43 [(0, .ref l0), (1, .int l1), (2, .int l2), (3, .int l3), (4, .int l4), (5, .int l5), (6, .int l6)] []) (bk63 : hp → Nat → Int32 → Int32 → Int32 → Int32 → Int32 → Int32 → Int32 → Int32 → Int32 → Prop) (hbk63 : ∀ (S : hp) (l0 : Nat) (l1 : Int32) (l2 : Int32) (l3 : Int32) (l4 : Int32) (l5 : Int32) (l6 : Int32) (l7 : Int32) (l8 : Int32) (l9 : Int32), bk63 S l0 l1 l2 l3 l4 l5 l6 l7 l8 l9 → VM l b D cy 11 2 46 0 0 (pI Q) p e s m args below meth c S 0 0 63 [(0, .ref l0), (1, .int l1), (2, .int l2), (3, .int l3), (4, .int l4), (5, .int l5), (6, .int l6), (7, .int l7), (8, .int l8), (9, .int l9)] []) (S : hp) (l0 : Nat) (l1 : Int32) (l2 : Int32) (l3 : Int32) (l4 : Int32) (l5 : Int32) (l6 : Int32) (l8 : Int32) (l9 : Int32) (k0 : Int32) (k1 : Int32), wB_X12_most_160 bk43 bk63 Q S l0 l1 l2 l3 l4 l5 l6 l8 l9 k0 k1 → VM l b D cy 11 2 46 0 0 (pI Q) p e s m args below meth c S 0 0 160 [(0, .ref l0), (1, .int l1), (2, .int l2), (3, .int l3), (4, .int l4), (5, .int l5), (6, .int l6), (8, .int l8), (9, .int l9)] [.int k0, .int k1] := by
    intro bk43 hbk43 bk63 hbk63 S l0 l1 l2 l3 l4 l5 l6 l8 l9 k0 k1 h
    unfold wB_X12_most_160 at h
    refine v_iadd X dX12_most_160 ?_
    refine v_nm (fun v34 hv34 => ?_)
    replace h := h v34 hv34
    refine v_istore X (lv' := [(7, .int v34), (0, .ref l0), (1, .int l1), (2, .int l2), (3, .int l3), (4, .int l4), (5, .int l5), (6, .int l6), (8, .int l8), (9, .int l9)]) dX12_most_161 (by decide) rfl ?_
    obtain ⟨v35, hv35⟩ : ∃ y : Int32, y = l9 + (1 : Int32) := ⟨_, rfl⟩
    replace h := h v35 hv35
    refine v_iinc X (j := 9) (v := v35) (lv' := [(9, .int v35), (7, .int v34), (0, .ref l0), (1, .int l1), (2, .int l2), (3, .int l3), (4, .int l4), (5, .int l5), (6, .int l6), (8, .int l8)]) dX12_most_163 rfl (by rw [hv35] <;> rfl) (by decide) rfl ?_
    refine v_goto X (tgt := 63) dX12_most_166 (by decide) ?_
    refine v_lv (lv' := [(0, .ref l0), (1, .int l1), (2, .int l2), (3, .int l3), (4, .int l4), (5, .int l5), (6, .int l6), (7, .int v34), (8, .int l8), (9, .int v35)]) [2, 3, 4, 5, 6, 7, 8, 1, 9, 0] rfl ?_
    exact hbk63 _ _ _ _ _ _ _ _ _ _ _ h
  have j140 : ∀ (bk43 : hp → Nat → Int32 → Int32 → Int32 → Int32 → Int32 → Int32 → Prop) (hbk43 : ∀ (S : hp) (l0 : Nat) (l1 : Int32) (l2 : Int32) (l3 : Int32) (l4 : Int32) (l5 : Int32) (l6 : Int32), bk43 S l0 l1 l2 l3 l4 l5 l6 → VM l b D cy 11 2 46 0 0 (pI Q) p e s m args below meth c S 0 0 43 [(0, .ref l0), (1, .int l1), (2, .int l2), (3, .int l3), (4, .int l4), (5, .int l5), (6, .int l6)] []) (bk63 : hp → Nat → Int32 → Int32 → Int32 → Int32 → Int32 → Int32 → Int32 → Int32 → Int32 → Prop) (hbk63 : ∀ (S : hp) (l0 : Nat) (l1 : Int32) (l2 : Int32) (l3 : Int32) (l4 : Int32) (l5 : Int32) (l6 : Int32) (l7 : Int32) (l8 : Int32) (l9 : Int32), bk63 S l0 l1 l2 l3 l4 l5 l6 l7 l8 l9 → VM l b D cy 11 2 46 0 0 (pI Q) p e s m args below meth c S 0 0 63 [(0, .ref l0), (1, .int l1), (2, .int l2), (3, .int l3), (4, .int l4), (5, .int l5), (6, .int l6), (7, .int l7), (8, .int l8), (9, .int l9)] []) (S : hp) (l0 : Nat) (l1 : Int32) (l2 : Int32) (l3 : Int32) (l4 : Int32) (l5 : Int32) (l6 : Int32) (l7 : Int32) (l9 : Int32) (l10 : Int32) (k0 : Int32), wB_X12_most_140 bk43 bk63 Q S l0 l1 l2 l3 l4 l5 l6 l7 l9 l10 k0 → VM l b D cy 11 2 46 0 0 (pI Q) p e s m args below meth c S 0 0 140 [(0, .ref l0), (1, .int l1), (2, .int l2), (3, .int l3), (4, .int l4), (5, .int l5), (6, .int l6), (7, .int l7), (9, .int l9), (10, .int l10)] [.int k0] := by
    intro bk43 hbk43 bk63 hbk63 S l0 l1 l2 l3 l4 l5 l6 l7 l9 l10 k0 h
    unfold wB_X12_most_140 at h
    refine v_istore X (lv' := [(8, .int k0), (0, .ref l0), (1, .int l1), (2, .int l2), (3, .int l3), (4, .int l4), (5, .int l5), (6, .int l6), (7, .int l7), (9, .int l9), (10, .int l10)]) dX12_most_140 (by decide) rfl ?_
    refine v_iload X 8 dX12_most_142 rfl ?_
    refine v_iload X 10 dX12_most_144 rfl ?_
    refine v_if_eq X (tgt := 159) dX12_most_146 (by decide) (fun c33 => ?_) (fun c33 => ?_)
    · replace h := h.1 c33
      refine v_iconst X (v := 0) dX12_most_159 (by decide) ?_
      refine v_lv (lv' := [(0, .ref l0), (1, .int l1), (2, .int l2), (3, .int l3), (4, .int l4), (5, .int l5), (6, .int l6), (8, .int k0), (9, .int l9)]) [1, 2, 3, 4, 5, 6, 7, 0, 9] rfl ?_
      exact j160 bk43 hbk43 bk63 hbk63 _ _ _ _ _ _ _ _ _ _ _ _ h
    · replace h := h.2 c33
      refine v_aload_n X 1 dX12_most_149 rfl rfl ?_
      refine v_iload X 9 dX12_most_150 rfl ?_
      refine v_iconst X (v := 5) dX12_most_152 (by decide) ?_
      obtain ⟨hk37, h⟩ := h
      refine v_callV X (av := [.int l9, .int (5 : Int32)]) (T := TX12) (N := 26) (s_X12_lineOf l b D cy h) hk37 (by decide) rfl wd1184 wd1186 wd40 wd62 k_X12_lineOf dn_X12_lineOf rfl ⟨Nat.le_of_ble_eq_true rfl, Nat.le_of_ble_eq_true rfl⟩ (Nat.le_of_ble_eq_true rfl) ⟨Nat.le_of_ble_eq_true rfl, Nat.le_of_ble_eq_true rfl⟩ dX12_most_153 rfl (kI (fun r38 S36 h => ?_))
      refine v_goto X (tgt := 160) dX12_most_156 (by decide) ?_
      refine v_lv (lv' := [(0, .ref l0), (1, .int l1), (2, .int l2), (3, .int l3), (4, .int l4), (5, .int l5), (6, .int l6), (8, .int k0), (9, .int l9)]) [1, 2, 3, 4, 5, 6, 7, 0, 9] rfl ?_
      exact j160 bk43 hbk43 bk63 hbk63 _ _ _ _ _ _ _ _ _ _ _ _ h
  have j135 : ∀ (bk43 : hp → Nat → Int32 → Int32 → Int32 → Int32 → Int32 → Int32 → Prop) (hbk43 : ∀ (S : hp) (l0 : Nat) (l1 : Int32) (l2 : Int32) (l3 : Int32) (l4 : Int32) (l5 : Int32) (l6 : Int32), bk43 S l0 l1 l2 l3 l4 l5 l6 → VM l b D cy 11 2 46 0 0 (pI Q) p e s m args below meth c S 0 0 43 [(0, .ref l0), (1, .int l1), (2, .int l2), (3, .int l3), (4, .int l4), (5, .int l5), (6, .int l6)] []) (bk63 : hp → Nat → Int32 → Int32 → Int32 → Int32 → Int32 → Int32 → Int32 → Int32 → Int32 → Prop) (hbk63 : ∀ (S : hp) (l0 : Nat) (l1 : Int32) (l2 : Int32) (l3 : Int32) (l4 : Int32) (l5 : Int32) (l6 : Int32) (l7 : Int32) (l8 : Int32) (l9 : Int32), bk63 S l0 l1 l2 l3 l4 l5 l6 l7 l8 l9 → VM l b D cy 11 2 46 0 0 (pI Q) p e s m args below meth c S 0 0 63 [(0, .ref l0), (1, .int l1), (2, .int l2), (3, .int l3), (4, .int l4), (5, .int l5), (6, .int l6), (7, .int l7), (8, .int l8), (9, .int l9)] []) (S : hp) (l0 : Nat) (l1 : Int32) (l2 : Int32) (l3 : Int32) (l4 : Int32) (l5 : Int32) (l6 : Int32) (l7 : Int32) (l9 : Int32) (l10 : Int32), wB_X12_most_135 bk43 bk63 Q S l0 l1 l2 l3 l4 l5 l6 l7 l9 l10 → VM l b D cy 11 2 46 0 0 (pI Q) p e s m args below meth c S 0 0 135 [(0, .ref l0), (1, .int l1), (2, .int l2), (3, .int l3), (4, .int l4), (5, .int l5), (6, .int l6), (7, .int l7), (9, .int l9), (10, .int l10)] [] := by
    intro bk43 hbk43 bk63 hbk63 S l0 l1 l2 l3 l4 l5 l6 l7 l9 l10 h
    unfold wB_X12_most_135 at h
    refine v_iconst X (v := 1) dX12_most_135 (by decide) ?_
    refine v_goto X (tgt := 140) dX12_most_136 (by decide) ?_
    exact j140 bk43 hbk43 bk63 hbk63 _ _ _ _ _ _ _ _ _ _ _ _ h
  have j123 : ∀ (bk43 : hp → Nat → Int32 → Int32 → Int32 → Int32 → Int32 → Int32 → Prop) (hbk43 : ∀ (S : hp) (l0 : Nat) (l1 : Int32) (l2 : Int32) (l3 : Int32) (l4 : Int32) (l5 : Int32) (l6 : Int32), bk43 S l0 l1 l2 l3 l4 l5 l6 → VM l b D cy 11 2 46 0 0 (pI Q) p e s m args below meth c S 0 0 43 [(0, .ref l0), (1, .int l1), (2, .int l2), (3, .int l3), (4, .int l4), (5, .int l5), (6, .int l6)] []) (bk63 : hp → Nat → Int32 → Int32 → Int32 → Int32 → Int32 → Int32 → Int32 → Int32 → Int32 → Prop) (hbk63 : ∀ (S : hp) (l0 : Nat) (l1 : Int32) (l2 : Int32) (l3 : Int32) (l4 : Int32) (l5 : Int32) (l6 : Int32) (l7 : Int32) (l8 : Int32) (l9 : Int32), bk63 S l0 l1 l2 l3 l4 l5 l6 l7 l8 l9 → VM l b D cy 11 2 46 0 0 (pI Q) p e s m args below meth c S 0 0 63 [(0, .ref l0), (1, .int l1), (2, .int l2), (3, .int l3), (4, .int l4), (5, .int l5), (6, .int l6), (7, .int l7), (8, .int l8), (9, .int l9)] []) (S : hp) (l0 : Nat) (l1 : Int32) (l2 : Int32) (l3 : Int32) (l4 : Int32) (l5 : Int32) (l6 : Int32) (l7 : Int32) (l8 : Int32) (l9 : Int32) (k0 : Int32), wB_X12_most_123 bk43 bk63 Q S l0 l1 l2 l3 l4 l5 l6 l7 l8 l9 k0 → VM l b D cy 11 2 46 0 0 (pI Q) p e s m args below meth c S 0 0 123 [(0, .ref l0), (1, .int l1), (2, .int l2), (3, .int l3), (4, .int l4), (5, .int l5), (6, .int l6), (7, .int l7), (8, .int l8), (9, .int l9)] [.int k0] := by
    intro bk43 hbk43 bk63 hbk63 S l0 l1 l2 l3 l4 l5 l6 l7 l8 l9 k0 h
    unfold wB_X12_most_123 at h
    refine v_istore X (lv' := [(10, .int k0), (0, .ref l0), (1, .int l1), (2, .int l2), (3, .int l3), (4, .int l4), (5, .int l5), (6, .int l6), (7, .int l7), (8, .int l8), (9, .int l9)]) dX12_most_123 (by decide) rfl ?_
    refine v_iload X 9 dX12_most_125 rfl ?_
    refine v_if_ne X (tgt := 135) dX12_most_127 (by decide) (fun c32 => ?_) (fun c32 => ?_)
    · replace h := h.1 c32
      refine v_lv (lv' := [(0, .ref l0), (1, .int l1), (2, .int l2), (3, .int l3), (4, .int l4), (5, .int l5), (6, .int l6), (7, .int l7), (9, .int l9), (10, .int k0)]) [1, 2, 3, 4, 5, 6, 7, 8, 10, 0] rfl ?_
      exact j135 bk43 hbk43 bk63 hbk63 _ _ _ _ _ _ _ _ _ _ _ h
    · replace h := h.2 c32
      refine v_iload X 0 dX12_most_130 rfl ?_
      refine v_if_eq X (tgt := 139) dX12_most_132 (by decide) (fun c39 => ?_) (fun c39 => ?_)
      · replace h := h.1 c39
        refine v_iconst X (v := 0) dX12_most_139 (by decide) ?_
        refine v_lv (lv' := [(0, .ref l0), (1, .int l1), (2, .int l2), (3, .int l3), (4, .int l4), (5, .int l5), (6, .int l6), (7, .int l7), (9, .int l9), (10, .int k0)]) [1, 2, 3, 4, 5, 6, 7, 8, 10, 0] rfl ?_
        exact j140 bk43 hbk43 bk63 hbk63 _ _ _ _ _ _ _ _ _ _ _ _ h
      · replace h := h.2 c39
        refine v_lv (lv' := [(0, .ref l0), (1, .int l1), (2, .int l2), (3, .int l3), (4, .int l4), (5, .int l5), (6, .int l6), (7, .int l7), (9, .int l9), (10, .int k0)]) [1, 2, 3, 4, 5, 6, 7, 8, 10, 0] rfl ?_
        exact j135 bk43 hbk43 bk63 hbk63 _ _ _ _ _ _ _ _ _ _ _ h
  have j122 : ∀ (bk43 : hp → Nat → Int32 → Int32 → Int32 → Int32 → Int32 → Int32 → Prop) (hbk43 : ∀ (S : hp) (l0 : Nat) (l1 : Int32) (l2 : Int32) (l3 : Int32) (l4 : Int32) (l5 : Int32) (l6 : Int32), bk43 S l0 l1 l2 l3 l4 l5 l6 → VM l b D cy 11 2 46 0 0 (pI Q) p e s m args below meth c S 0 0 43 [(0, .ref l0), (1, .int l1), (2, .int l2), (3, .int l3), (4, .int l4), (5, .int l5), (6, .int l6)] []) (bk63 : hp → Nat → Int32 → Int32 → Int32 → Int32 → Int32 → Int32 → Int32 → Int32 → Int32 → Prop) (hbk63 : ∀ (S : hp) (l0 : Nat) (l1 : Int32) (l2 : Int32) (l3 : Int32) (l4 : Int32) (l5 : Int32) (l6 : Int32) (l7 : Int32) (l8 : Int32) (l9 : Int32), bk63 S l0 l1 l2 l3 l4 l5 l6 l7 l8 l9 → VM l b D cy 11 2 46 0 0 (pI Q) p e s m args below meth c S 0 0 63 [(0, .ref l0), (1, .int l1), (2, .int l2), (3, .int l3), (4, .int l4), (5, .int l5), (6, .int l6), (7, .int l7), (8, .int l8), (9, .int l9)] []) (S : hp) (l0 : Nat) (l1 : Int32) (l2 : Int32) (l3 : Int32) (l4 : Int32) (l5 : Int32) (l6 : Int32) (l7 : Int32) (l8 : Int32) (l9 : Int32), wB_X12_most_122 bk43 bk63 Q S l0 l1 l2 l3 l4 l5 l6 l7 l8 l9 → VM l b D cy 11 2 46 0 0 (pI Q) p e s m args below meth c S 0 0 122 [(0, .ref l0), (1, .int l1), (2, .int l2), (3, .int l3), (4, .int l4), (5, .int l5), (6, .int l6), (7, .int l7), (8, .int l8), (9, .int l9)] [] := by
    intro bk43 hbk43 bk63 hbk63 S l0 l1 l2 l3 l4 l5 l6 l7 l8 l9 h
    unfold wB_X12_most_122 at h
    refine v_iconst X (v := 0) dX12_most_122 (by decide) ?_
    exact j123 bk43 hbk43 bk63 hbk63 _ _ _ _ _ _ _ _ _ _ _ _ h
  have j63 : ∀ (bk43 : hp → Nat → Int32 → Int32 → Int32 → Int32 → Int32 → Int32 → Prop) (hbk43 : ∀ (S : hp) (l0 : Nat) (l1 : Int32) (l2 : Int32) (l3 : Int32) (l4 : Int32) (l5 : Int32) (l6 : Int32), bk43 S l0 l1 l2 l3 l4 l5 l6 → VM l b D cy 11 2 46 0 0 (pI Q) p e s m args below meth c S 0 0 43 [(0, .ref l0), (1, .int l1), (2, .int l2), (3, .int l3), (4, .int l4), (5, .int l5), (6, .int l6)] []) (bk63 : hp → Nat → Int32 → Int32 → Int32 → Int32 → Int32 → Int32 → Int32 → Int32 → Int32 → Prop) (hbk63 : ∀ (S : hp) (l0 : Nat) (l1 : Int32) (l2 : Int32) (l3 : Int32) (l4 : Int32) (l5 : Int32) (l6 : Int32) (l7 : Int32) (l8 : Int32) (l9 : Int32), bk63 S l0 l1 l2 l3 l4 l5 l6 l7 l8 l9 → VM l b D cy 11 2 46 0 0 (pI Q) p e s m args below meth c S 0 0 63 [(0, .ref l0), (1, .int l1), (2, .int l2), (3, .int l3), (4, .int l4), (5, .int l5), (6, .int l6), (7, .int l7), (8, .int l8), (9, .int l9)] []) (S : hp) (l0 : Nat) (l1 : Int32) (l2 : Int32) (l3 : Int32) (l4 : Int32) (l5 : Int32) (l6 : Int32) (l7 : Int32) (l8 : Int32) (l9 : Int32), wB_X12_most_63 bk43 bk63 Q S l0 l1 l2 l3 l4 l5 l6 l7 l8 l9 → VM l b D cy 11 2 46 0 0 (pI Q) p e s m args below meth c S 0 0 63 [(0, .ref l0), (1, .int l1), (2, .int l2), (3, .int l3), (4, .int l4), (5, .int l5), (6, .int l6), (7, .int l7), (8, .int l8), (9, .int l9)] [] := by
    intro bk43 hbk43 bk63 hbk63 S l0 l1 l2 l3 l4 l5 l6 l7 l8 l9 h
    unfold wB_X12_most_63 at h
    refine v_iload X 9 dX12_most_63 rfl ?_
    refine v_aload_n X 0 dX12_most_65 rfl rfl ?_
    obtain ⟨hk20, h⟩ := h
    obtain ⟨r21, hr21, h⟩ := h
    refine v_getR X (T := TX12) (N := 26) (k := 5) hk20 (by decide) rfl (by decide) inX12 wd944 rfl dX12_most_66 hr21 ?_
    refine v_iconst X (v := 4) dX12_most_69 (by decide) ?_
    obtain ⟨hk22, h⟩ := h
    obtain ⟨hi23, h⟩ := h
    refine v_iald X hk22 hi23 dX12_most_70 ?_
    refine v_icmp_ge X (tgt := 169) dX12_most_71 (by decide) (fun c24 => ?_) (fun c24 => ?_)
    · replace h := h.1 c24
      refine v_iload X 8 dX12_most_169 rfl ?_
      refine v_if_eq X (tgt := 202) dX12_most_171 (by decide) (fun c25 => ?_) (fun c25 => ?_)
      · replace h := h.1 c25
        refine v_lv (lv' := [(0, .ref l0), (1, .int l1), (2, .int l2), (3, .int l3), (4, .int l4), (5, .int l5), (6, .int l6)]) [0, 1, 2, 3, 4, 5, 6] rfl ?_
        exact j202 bk43 hbk43 _ _ _ _ _ _ _ _ h
      · replace h := h.2 c25
        refine v_iload X 4 dX12_most_174 rfl ?_
        refine v_ldc X wd1070 dX12_most_176 ?_
        refine v_icmp_eq X (tgt := 194) dX12_most_178 (by decide) (fun c27 => ?_) (fun c27 => ?_)
        · replace h := h.1 c27
          refine v_lv (lv' := [(0, .ref l0), (1, .int l1), (2, .int l2), (3, .int l3), (6, .int l6), (7, .int l7)]) [0, 1, 2, 3, 6, 7] rfl ?_
          exact j194 bk43 hbk43 _ _ _ _ _ _ _ h
        · replace h := h.2 c27
          refine v_iload X 7 dX12_most_181 rfl ?_
          refine v_iload X 7 dX12_most_183 rfl ?_
          refine v_imul X dX12_most_185 ?_
          refine v_iload X 5 dX12_most_186 rfl ?_
          refine v_iload X 5 dX12_most_188 rfl ?_
          refine v_imul X dX12_most_190 ?_
          refine v_icmp_le X (tgt := 202) dX12_most_191 (by decide) (fun c28 => ?_) (fun c28 => ?_)
          · replace h := h.1 c28
            refine v_lv (lv' := [(0, .ref l0), (1, .int l1), (2, .int l2), (3, .int l3), (4, .int l4), (5, .int l5), (6, .int l6)]) [0, 1, 2, 3, 4, 5, 6] rfl ?_
            exact j202 bk43 hbk43 _ _ _ _ _ _ _ _ h
          · replace h := h.2 c28
            refine v_lv (lv' := [(0, .ref l0), (1, .int l1), (2, .int l2), (3, .int l3), (6, .int l6), (7, .int l7)]) [0, 1, 2, 3, 6, 7] rfl ?_
            exact j194 bk43 hbk43 _ _ _ _ _ _ _ h
    · replace h := h.2 c24
      refine v_aload_n X 0 dX12_most_74 rfl rfl ?_
      refine v_iload X 9 dX12_most_75 rfl ?_
      refine v_iconst X (v := 0) dX12_most_77 (by decide) ?_
      refine v_callV X (av := [.int l9, .int (0 : Int32)]) (T := TX12) (N := 26) (s_X12_lineOf l b D cy h) hk20 (by decide) rfl wd1184 wd1186 wd40 wd62 k_X12_lineOf dn_X12_lineOf rfl ⟨Nat.le_of_ble_eq_true rfl, Nat.le_of_ble_eq_true rfl⟩ (Nat.le_of_ble_eq_true rfl) ⟨Nat.le_of_ble_eq_true rfl, Nat.le_of_ble_eq_true rfl⟩ dX12_most_78 rfl (kI (fun r30 S29 h => ?_))
      refine v_if_ne X (tgt := 122) dX12_most_81 (by decide) (fun c31 => ?_) (fun c31 => ?_)
      · replace h := h.1 c31
        exact j122 bk43 hbk43 bk63 hbk63 _ _ _ _ _ _ _ _ _ _ _ h
      · replace h := h.2 c31
        refine v_aload_n X 0 dX12_most_84 rfl rfl ?_
        refine v_iload X 9 dX12_most_85 rfl ?_
        refine v_iconst X (v := 1) dX12_most_87 (by decide) ?_
        obtain ⟨hk41, h⟩ := h
        refine v_callV X (av := [.int l9, .int (1 : Int32)]) (T := TX12) (N := 26) (s_X12_lineOf l b D cy h) hk41 (by decide) rfl wd1184 wd1186 wd40 wd62 k_X12_lineOf dn_X12_lineOf rfl ⟨Nat.le_of_ble_eq_true rfl, Nat.le_of_ble_eq_true rfl⟩ (Nat.le_of_ble_eq_true rfl) ⟨Nat.le_of_ble_eq_true rfl, Nat.le_of_ble_eq_true rfl⟩ dX12_most_88 rfl (kI (fun r42 S40 h => ?_))
        refine v_iload X 6 dX12_most_91 rfl ?_
        refine v_icmp_ne X (tgt := 122) dX12_most_93 (by decide) (fun c43 => ?_) (fun c43 => ?_)
        · replace h := h.1 c43
          exact j122 bk43 hbk43 bk63 hbk63 _ _ _ _ _ _ _ _ _ _ _ h
        · replace h := h.2 c43
          refine v_aload_n X 0 dX12_most_96 rfl rfl ?_
          refine v_iload X 9 dX12_most_97 rfl ?_
          refine v_iconst X (v := 2) dX12_most_99 (by decide) ?_
          obtain ⟨hk45, h⟩ := h
          refine v_callV X (av := [.int l9, .int (2 : Int32)]) (T := TX12) (N := 26) (s_X12_lineOf l b D cy h) hk45 (by decide) rfl wd1184 wd1186 wd40 wd62 k_X12_lineOf dn_X12_lineOf rfl ⟨Nat.le_of_ble_eq_true rfl, Nat.le_of_ble_eq_true rfl⟩ (Nat.le_of_ble_eq_true rfl) ⟨Nat.le_of_ble_eq_true rfl, Nat.le_of_ble_eq_true rfl⟩ dX12_most_100 rfl (kI (fun r46 S44 h => ?_))
          refine v_iload_n X 1 dX12_most_103 rfl rfl ?_
          refine v_icmp_ne X (tgt := 122) dX12_most_104 (by decide) (fun c47 => ?_) (fun c47 => ?_)
          · replace h := h.1 c47
            exact j122 bk43 hbk43 bk63 hbk63 _ _ _ _ _ _ _ _ _ _ _ h
          · replace h := h.2 c47
            refine v_aload_n X 0 dX12_most_107 rfl rfl ?_
            refine v_iload X 9 dX12_most_108 rfl ?_
            refine v_iconst X (v := 3) dX12_most_110 (by decide) ?_
            obtain ⟨hk49, h⟩ := h
            refine v_callV X (av := [.int l9, .int (3 : Int32)]) (T := TX12) (N := 26) (s_X12_lineOf l b D cy h) hk49 (by decide) rfl wd1184 wd1186 wd40 wd62 k_X12_lineOf dn_X12_lineOf rfl ⟨Nat.le_of_ble_eq_true rfl, Nat.le_of_ble_eq_true rfl⟩ (Nat.le_of_ble_eq_true rfl) ⟨Nat.le_of_ble_eq_true rfl, Nat.le_of_ble_eq_true rfl⟩ dX12_most_111 rfl (kI (fun r50 S48 h => ?_))
            refine v_iload_n X 2 dX12_most_114 rfl rfl ?_
            refine v_icmp_ne X (tgt := 122) dX12_most_115 (by decide) (fun c51 => ?_) (fun c51 => ?_)
            · replace h := h.1 c51
              exact j122 bk43 hbk43 bk63 hbk63 _ _ _ _ _ _ _ _ _ _ _ h
            · replace h := h.2 c51
              refine v_iconst X (v := 1) dX12_most_118 (by decide) ?_
              refine v_goto X (tgt := 123) dX12_most_119 (by decide) ?_
              exact j123 bk43 hbk43 bk63 hbk63 _ _ _ _ _ _ _ _ _ _ _ _ h
  have l63 : ∀ (bk43 : hp → Nat → Int32 → Int32 → Int32 → Int32 → Int32 → Int32 → Prop) (hbk43 : ∀ (S : hp) (l0 : Nat) (l1 : Int32) (l2 : Int32) (l3 : Int32) (l4 : Int32) (l5 : Int32) (l6 : Int32), bk43 S l0 l1 l2 l3 l4 l5 l6 → VM l b D cy 11 2 46 0 0 (pI Q) p e s m args below meth c S 0 0 43 [(0, .ref l0), (1, .int l1), (2, .int l2), (3, .int l3), (4, .int l4), (5, .int l5), (6, .int l6)] []) (n : Nat) (S : hp) (l0 : Nat) (l1 : Int32) (l2 : Int32) (l3 : Int32) (l4 : Int32) (l5 : Int32) (l6 : Int32) (l7 : Int32) (l8 : Int32) (l9 : Int32), wl_X12_most_63 bk43 Q n S l0 l1 l2 l3 l4 l5 l6 l7 l8 l9 → VM l b D cy 11 2 46 0 0 (pI Q) p e s m args below meth c S 0 0 63 [(0, .ref l0), (1, .int l1), (2, .int l2), (3, .int l3), (4, .int l4), (5, .int l5), (6, .int l6), (7, .int l7), (8, .int l8), (9, .int l9)] [] := by
    intro bk43 hbk43 n
    induction n with
    | zero => intro S l0 l1 l2 l3 l4 l5 l6 l7 l8 l9 h; exact h.elim
    | succ n ih => intro S l0 l1 l2 l3 l4 l5 l6 l7 l8 l9 h; exact j63 bk43 hbk43 (wl_X12_most_63 bk43 Q n) ih S l0 l1 l2 l3 l4 l5 l6 l7 l8 l9 h
  have j43 : ∀ (bk43 : hp → Nat → Int32 → Int32 → Int32 → Int32 → Int32 → Int32 → Prop) (hbk43 : ∀ (S : hp) (l0 : Nat) (l1 : Int32) (l2 : Int32) (l3 : Int32) (l4 : Int32) (l5 : Int32) (l6 : Int32), bk43 S l0 l1 l2 l3 l4 l5 l6 → VM l b D cy 11 2 46 0 0 (pI Q) p e s m args below meth c S 0 0 43 [(0, .ref l0), (1, .int l1), (2, .int l2), (3, .int l3), (4, .int l4), (5, .int l5), (6, .int l6)] []) (S : hp) (l0 : Nat) (l1 : Int32) (l2 : Int32) (l3 : Int32) (l4 : Int32) (l5 : Int32) (l6 : Int32), wB_X12_most_43 bk43 Q S l0 l1 l2 l3 l4 l5 l6 → VM l b D cy 11 2 46 0 0 (pI Q) p e s m args below meth c S 0 0 43 [(0, .ref l0), (1, .int l1), (2, .int l2), (3, .int l3), (4, .int l4), (5, .int l5), (6, .int l6)] [] := by
    intro bk43 hbk43 S l0 l1 l2 l3 l4 l5 l6 h
    unfold wB_X12_most_43 at h
    refine v_iload X 6 dX12_most_43 rfl ?_
    refine v_aload_n X 0 dX12_most_45 rfl rfl ?_
    obtain ⟨hk13, h⟩ := h
    obtain ⟨r14, hr14, h⟩ := h
    refine v_getR X (T := TX12) (N := 26) (k := 5) hk13 (by decide) rfl (by decide) inX12 wd944 rfl dX12_most_46 hr14 ?_
    refine v_iconst X (v := 3) dX12_most_49 (by decide) ?_
    obtain ⟨hk15, h⟩ := h
    obtain ⟨hi16, h⟩ := h
    refine v_iald X hk15 hi16 dX12_most_50 ?_
    refine v_icmp_ge X (tgt := 208) dX12_most_51 (by decide) (fun c17 => ?_) (fun c17 => ?_)
    · replace h := h.1 c17
      refine v_iload X 4 dX12_most_208 rfl ?_
      refine v_ldc X wd1070 dX12_most_210 ?_
      refine v_icmp_eq X (tgt := 219) dX12_most_212 (by decide) (fun c18 => ?_) (fun c18 => ?_)
      · replace h := h.1 c18
        refine v_lv (lv' := [(4, .int l4)]) [4] rfl ?_
        exact j219 _ _ h
      · replace h := h.2 c18
        refine v_iload_n X 3 dX12_most_215 rfl rfl ?_
        refine v_if_ne X (tgt := 224) dX12_most_216 (by decide) (fun c19 => ?_) (fun c19 => ?_)
        · replace h := h.1 c19
          refine v_iload X 5 dX12_most_224 rfl ?_
          exact v_iret X hr hlk ⟨_, rfl, h⟩ dX12_most_226
        · replace h := h.2 c19
          refine v_lv (lv' := [(4, .int l4)]) [4] rfl ?_
          exact j219 _ _ h
    · replace h := h.2 c17
      refine v_iconst X (v := 0) dX12_most_54 (by decide) ?_
      refine v_istore X (lv' := [(7, .int (0 : Int32)), (0, .ref l0), (1, .int l1), (2, .int l2), (3, .int l3), (4, .int l4), (5, .int l5), (6, .int l6)]) dX12_most_55 (by decide) rfl ?_
      refine v_iconst X (v := 0) dX12_most_57 (by decide) ?_
      refine v_istore X (lv' := [(8, .int (0 : Int32)), (7, .int (0 : Int32)), (0, .ref l0), (1, .int l1), (2, .int l2), (3, .int l3), (4, .int l4), (5, .int l5), (6, .int l6)]) dX12_most_58 (by decide) rfl ?_
      refine v_iconst X (v := 0) dX12_most_60 (by decide) ?_
      refine v_istore X (lv' := [(9, .int (0 : Int32)), (8, .int (0 : Int32)), (7, .int (0 : Int32)), (0, .ref l0), (1, .int l1), (2, .int l2), (3, .int l3), (4, .int l4), (5, .int l5), (6, .int l6)]) dX12_most_61 (by decide) rfl ?_
      refine v_lv (lv' := [(0, .ref l0), (1, .int l1), (2, .int l2), (3, .int l3), (4, .int l4), (5, .int l5), (6, .int l6), (7, .int (0 : Int32)), (8, .int (0 : Int32)), (9, .int (0 : Int32))]) [3, 4, 5, 6, 7, 8, 9, 2, 1, 0] rfl ?_
      obtain ⟨n, h⟩ := h
      exact l63 bk43 hbk43 n _ _ _ _ _ _ _ _ _ _ _ h
  have l43 : ∀  (n : Nat) (S : hp) (l0 : Nat) (l1 : Int32) (l2 : Int32) (l3 : Int32) (l4 : Int32) (l5 : Int32) (l6 : Int32), wl_X12_most_43 Q n S l0 l1 l2 l3 l4 l5 l6 → VM l b D cy 11 2 46 0 0 (pI Q) p e s m args below meth c S 0 0 43 [(0, .ref l0), (1, .int l1), (2, .int l2), (3, .int l3), (4, .int l4), (5, .int l5), (6, .int l6)] [] := by
    intro  n
    induction n with
    | zero => intro S l0 l1 l2 l3 l4 l5 l6 h; exact h.elim
    | succ n ih => intro S l0 l1 l2 l3 l4 l5 l6 h; exact j43 (wl_X12_most_43 Q n) ih S l0 l1 l2 l3 l4 l5 l6 h
  unfold wp_X12_most at h
  show VM l b D cy 11 2 46 0 0 (pI Q) p e s m args below meth c S 0 0 0 [(0, .ref a0), (1, .int x1), (2, .int x2), (3, .int x3)] []
  refine v_aload_n X 0 dX12_most_0 rfl rfl ?_
  refine v_iconst X (v := 0) dX12_most_1 (by decide) ?_
  obtain ⟨hk1, h⟩ := h
  refine v_putI X (T := TX12) (N := 26) (k := 0) hk1 (by decide) rfl (by decide) inX12 wd939 tyX12 tyX12_ok nmX12 rfl rfl rfl rfl dX12_most_2 ?_
  refine v_nmS (fun S2 eS2 => ?_)
  replace h := h S2 eS2
  have hk3 : hK S2 a0 = 11 := by rw [eS2]; exact hk1
  refine v_aload_n X 0 dX12_most_5 rfl rfl ?_
  refine v_iload_n X 1 dX12_most_6 rfl rfl ?_
  refine v_callV X (av := [.int x1]) (T := TX12) (N := 26) (s_X12_isDummy l b D cy h) hk3 (by decide) rfl wd1119 wd1121 wd32 wd62 k_X12_isDummy dn_X12_isDummy rfl ⟨Nat.le_of_ble_eq_true rfl, Nat.le_of_ble_eq_true rfl⟩ (Nat.le_of_ble_eq_true rfl) ⟨Nat.le_of_ble_eq_true rfl, Nat.le_of_ble_eq_true rfl⟩ dX12_most_7 rfl (kI (fun r5 S4 h => ?_))
  refine v_if_eq X (tgt := 30) dX12_most_10 (by decide) (fun c6 => ?_) (fun c6 => ?_)
  · replace h := h.1 c6
    refine v_ldc X wd1030 dX12_most_30 ?_
    exact v_iret X hr hlk ⟨_, rfl, h⟩ dX12_most_32
  · replace h := h.2 c6
    refine v_iload_n X 2 dX12_most_13 rfl rfl ?_
    refine v_callS X (av := [.int x2]) (s_X12_isPlace l b D cy h) wd1123 wd1124 wd62 k_X12_isPlace dn_X12_isPlace rfl ⟨Nat.le_of_ble_eq_true rfl, Nat.le_of_ble_eq_true rfl⟩ (Nat.le_of_ble_eq_true rfl) ⟨Nat.le_of_ble_eq_true rfl, Nat.le_of_ble_eq_true rfl⟩ dX12_most_14 rfl (kI (fun r8 S7 h => ?_))
    refine v_if_eq X (tgt := 30) dX12_most_17 (by decide) (fun c9 => ?_) (fun c9 => ?_)
    · replace h := h.1 c9
      refine v_ldc X wd1030 dX12_most_30 ?_
      exact v_iret X hr hlk ⟨_, rfl, h⟩ dX12_most_32
    · replace h := h.2 c9
      refine v_iload_n X 3 dX12_most_20 rfl rfl ?_
      refine v_i2l X dX12_most_21 ?_
      refine v_lconst X (v := 0) dX12_most_22 (by decide) ?_
      refine v_lconst X (v := 1) dX12_most_23 (by decide) ?_
      refine v_callS X (av := [.long (x3).toInt64, .long (0 : Int64), .long (1 : Int64)]) (s_X12_in l b D cy h) wd1026 wd1027 wd62 k_X12_in dn_X12_in rfl ⟨Nat.le_of_ble_eq_true rfl, Nat.le_of_ble_eq_true rfl⟩ (Nat.le_of_ble_eq_true rfl) ⟨Nat.le_of_ble_eq_true rfl, Nat.le_of_ble_eq_true rfl⟩ dX12_most_24 rfl (kI (fun r11 S10 h => ?_))
      refine v_if_ne X (tgt := 33) dX12_most_27 (by decide) (fun c12 => ?_) (fun c12 => ?_)
      · replace h := h.1 c12
        refine v_ldc X wd1070 dX12_most_33 ?_
        refine v_istore X (lv' := [(4, .int (-1000000 : Int32)), (0, .ref a0), (1, .int x1), (2, .int x2), (3, .int x3)]) dX12_most_35 (by decide) rfl ?_
        refine v_iconst X (v := 0) dX12_most_37 (by decide) ?_
        refine v_istore X (lv' := [(5, .int (0 : Int32)), (4, .int (-1000000 : Int32)), (0, .ref a0), (1, .int x1), (2, .int x2), (3, .int x3)]) dX12_most_38 (by decide) rfl ?_
        refine v_iconst X (v := 0) dX12_most_40 (by decide) ?_
        refine v_istore X (lv' := [(6, .int (0 : Int32)), (5, .int (0 : Int32)), (4, .int (-1000000 : Int32)), (0, .ref a0), (1, .int x1), (2, .int x2), (3, .int x3)]) dX12_most_41 (by decide) rfl ?_
        refine v_lv (lv' := [(0, .ref a0), (1, .int x1), (2, .int x2), (3, .int x3), (4, .int (-1000000 : Int32)), (5, .int (0 : Int32)), (6, .int (0 : Int32))]) [3, 4, 5, 6, 2, 1, 0] rfl ?_
        obtain ⟨n, h⟩ := h
        exact l43 n _ _ _ _ _ _ _ _ h
      · replace h := h.2 c12
        refine v_ldc X wd1030 dX12_most_30 ?_
        exact v_iret X hr hlk ⟨_, rfl, h⟩ dX12_most_32
