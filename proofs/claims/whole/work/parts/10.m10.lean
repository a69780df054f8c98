def wB_X12_failed_44 (Q : Int32 → hp → Prop) (S : hp) (l0 : Nat) (k0 : Int32) (k1 : Nat) : Prop :=
  hK S k1 = 11 ∧ ∀ S8 : hp, S8 = setI S k1 17 k0 → hK S8 l0 = 11 ∧ (((hI S8 l0 15) ≤ 0 → Q (0 : Int32) S8) ∧ (¬ (hI S8 l0 15) ≤ 0 → Q (1 : Int32) S8))
def wB_X12_failed_20 (Q : Int32 → hp → Prop) (S : hp) (l0 : Nat) : Prop :=
  hK S l0 = 11 ∧ ∀ S4 : hp, S4 = setI S l0 10 (0 : Int32) → (((hI S4 l0 15) ≤ 0 → wB_X12_failed_44 Q S4 l0 ((hI S4 l0 17)) l0) ∧ (¬ (hI S4 l0 15) ≤ 0 → wB_X12_failed_44 Q S4 l0 ((hI S4 l0 15)) l0))
def wp_X12_failed (Q : Int32 → hp → Prop) (S : hp) (a0 : Nat) : Prop :=
  hK S a0 = 11 ∧ ((¬ (hI S a0 15) = 0 → wB_X12_failed_20 Q S a0) ∧ ((hI S a0 15) = 0 → (((hI S a0 13) = (1 : Int32) → wB_X12_failed_20 Q S a0) ∧ (¬ (hI S a0 13) = (1 : Int32) → wp_X12_bad (fun S13 => wB_X12_failed_20 Q S13 a0) S a0 (1 : Int32)))))
theorem k_X12_failed : Cond.code yX12_failed cX12_failed 1 (some .boolean) ∈ gtb := mg 1109 (by decide +kernel) (by decide +kernel)
theorem dn_X12_failed : yX12_failed.cls ≠ "java/lang/invoke/MethodHandle" ∧ yX12_failed.cls ≠ "java/lang/invoke/VarHandle" ∧ (parseMethodDescriptor yX12_failed.desc).map (fun d => d.parameters.length) = some 0 := by decide +kernel
set_option maxRecDepth 100000 in
set_option maxHeartbeats 4000000 in
theorem s_X12_failed (l : Launch) (b : Nat) (D : va_G) (cy : Nat → ClassId) {Q : Int32 → hp → Prop} {S : hp} {a0 : Nat} (h : wp_X12_failed Q S a0) : MT l yX12_failed cX12_failed 1 (some .boolean) 1 21 0 0 b D cy S [.ref a0] (pI Q) := by
  refine MT.of (by decide +kernel) (Nat.le_of_ble_eq_true rfl) ?_
  intro p e s m args below meth c X hr hlk hnm
  have j44 : ∀  (S : hp) (l0 : Nat) (k0 : Int32) (k1 : Nat), wB_X12_failed_44 Q S l0 k0 k1 → VM l b D cy 1 1 21 0 0 (pI Q) p e s m args below meth c S 0 0 44 [(0, .ref l0)] [.int k0, .ref k1] := by
    intro  S l0 k0 k1 h
    unfold wB_X12_failed_44 at h
    obtain ⟨hk7, h⟩ := h
    refine v_putI X (T := TX12) (N := 26) (k := 17) hk7 (by decide) rfl (by decide) inX12 wd956 tyX12 tyX12_ok nmX12 rfl rfl rfl rfl dX12_failed_44 ?_
    refine v_nmS (fun S8 eS8 => ?_)
    replace h := h S8 eS8
    have hk9 : hK S8 k1 = 11 := by rw [eS8]; exact hk7
    refine v_aload_n X 0 dX12_failed_47 rfl rfl ?_
    obtain ⟨hk10, h⟩ := h
    refine v_getI X (T := TX12) (N := 26) (k := 15) hk10 (by decide) rfl (by decide) inX12 wd954 rfl dX12_failed_48 ?_
    refine v_if_le X (tgt := 58) dX12_failed_51 (by decide) (fun c11 => ?_) (fun c11 => ?_)
    · replace h := h.1 c11
      refine v_iconst X (v := 0) dX12_failed_58 (by decide) ?_
      exact v_zret X hr (by decide) hlk ⟨_, rfl, h⟩ dX12_failed_59
    · replace h := h.2 c11
      refine v_iconst X (v := 1) dX12_failed_54 (by decide) ?_
      refine v_goto X (tgt := 59) dX12_failed_55 (by decide) ?_
      exact v_zret X hr (by decide) hlk ⟨_, rfl, h⟩ dX12_failed_59
  have j20 : ∀  (S : hp) (l0 : Nat), wB_X12_failed_20 Q S l0 → VM l b D cy 1 1 21 0 0 (pI Q) p e s m args below meth c S 0 0 20 [(0, .ref l0)] [] := by
    intro  S l0 h
    unfold wB_X12_failed_20 at h
    refine v_aload_n X 0 dX12_failed_20 rfl rfl ?_
    refine v_iconst X (v := 0) dX12_failed_21 (by decide) ?_
    obtain ⟨hk3, h⟩ := h
    refine v_putI X (T := TX12) (N := 26) (k := 10) hk3 (by decide) rfl (by decide) inX12 wd949 tyX12 tyX12_ok nmX12 rfl rfl rfl rfl dX12_failed_22 ?_
    refine v_nmS (fun S4 eS4 => ?_)
    replace h := h S4 eS4
    have hk5 : hK S4 l0 = 11 := by rw [eS4]; exact hk3
    refine v_aload_n X 0 dX12_failed_25 rfl rfl ?_
    refine v_aload_n X 0 dX12_failed_26 rfl rfl ?_
    refine v_getI X (T := TX12) (N := 26) (k := 15) hk5 (by decide) rfl (by decide) inX12 wd954 rfl dX12_failed_27 ?_
    refine v_if_le X (tgt := 40) dX12_failed_30 (by decide) (fun c6 => ?_) (fun c6 => ?_)
    · replace h := h.1 c6
      refine v_aload_n X 0 dX12_failed_40 rfl rfl ?_
      refine v_getI X (T := TX12) (N := 26) (k := 17) hk5 (by decide) rfl (by decide) inX12 wd956 rfl dX12_failed_41 ?_
      exact j44 _ _ _ _ h
    · replace h := h.2 c6
      refine v_aload_n X 0 dX12_failed_33 rfl rfl ?_
      refine v_getI X (T := TX12) (N := 26) (k := 15) hk5 (by decide) rfl (by decide) inX12 wd954 rfl dX12_failed_34 ?_
      refine v_goto X (tgt := 44) dX12_failed_37 (by decide) ?_
      exact j44 _ _ _ _ h
  unfold wp_X12_failed at h
  show VM l b D cy 1 1 21 0 0 (pI Q) p e s m args below meth c S 0 0 0 [(0, .ref a0)] []
  refine v_aload_n X 0 dX12_failed_0 rfl rfl ?_
  obtain ⟨hk1, h⟩ := h
  refine v_getI X (T := TX12) (N := 26) (k := 15) hk1 (by decide) rfl (by decide) inX12 wd954 rfl dX12_failed_1 ?_
  refine v_if_ne X (tgt := 20) dX12_failed_4 (by decide) (fun c2 => ?_) (fun c2 => ?_)
  · replace h := h.1 c2
    exact j20 _ _ h
  · replace h := h.2 c2
    refine v_aload_n X 0 dX12_failed_7 rfl rfl ?_
    refine v_getI X (T := TX12) (N := 26) (k := 13) hk1 (by decide) rfl (by decide) inX12 wd952 rfl dX12_failed_8 ?_
    refine v_iconst X (v := 1) dX12_failed_11 (by decide) ?_
    refine v_icmp_eq X (tgt := 20) dX12_failed_12 (by decide) (fun c12 => ?_) (fun c12 => ?_)
    · replace h := h.1 c12
      exact j20 _ _ h
    · replace h := h.2 c12
      refine v_aload_n X 0 dX12_failed_15 rfl rfl ?_
      refine v_iconst X (v := 1) dX12_failed_16 (by decide) ?_
      refine v_callV X (av := [.int (1 : Int32)]) (T := TX12) (N := 26) (s_X12_bad l b D cy h) hk1 (by decide) rfl wd1083 wd1085 wd25 wd62 k_X12_bad dn_X12_bad rfl ⟨Nat.le_of_ble_eq_true rfl, Nat.le_of_ble_eq_true rfl⟩ (Nat.le_of_ble_eq_true rfl) ⟨Nat.le_of_ble_eq_true rfl, Nat.le_of_ble_eq_true rfl⟩ dX12_failed_17 rfl (kV (fun S13 h => ?_))
      exact j20 _ _ h
def wp_X12_fault (Q : Int32 → hp → Prop) (S : hp) (a0 : Nat) : Prop :=
  hK S a0 = 11 ∧ ∀ S2 : hp, S2 = setI S a0 0 (0 : Int32) → Q (hI S2 a0 17) S2
theorem k_X12_fault : Cond.code yX12_fault cX12_fault 1 (some .int) ∈ gtb := mg 1057 (by decide +kernel) (by decide +kernel)
theorem dn_X12_fault : yX12_fault.cls ≠ "java/lang/invoke/MethodHandle" ∧ yX12_fault.cls ≠ "java/lang/invoke/VarHandle" ∧ (parseMethodDescriptor yX12_fault.desc).map (fun d => d.parameters.length) = some 0 := by decide +kernel
set_option maxRecDepth 100000 in
set_option maxHeartbeats 4000000 in
theorem s_X12_fault (l : Launch) (b : Nat) (D : va_G) (cy : Nat → ClassId) {Q : Int32 → hp → Prop} {S : hp} {a0 : Nat} (h : wp_X12_fault Q S a0) : MT l yX12_fault cX12_fault 1 (some .int) 0 0 0 0 b D cy S [.ref a0] (pI Q) := by
  refine MT.of (by decide +kernel) (Nat.le_of_ble_eq_true rfl) ?_
  intro p e s m args below meth c X hr hlk hnm
  unfold wp_X12_fault at h
  show VM l b D cy 1 0 0 0 0 (pI Q) p e s m args below meth c S 0 0 0 [(0, .ref a0)] []
  refine v_aload_n X 0 dX12_fault_0 rfl rfl ?_
  refine v_iconst X (v := 0) dX12_fault_1 (by decide) ?_
  obtain ⟨hk1, h⟩ := h
  refine v_putI X (T := TX12) (N := 26) (k := 0) hk1 (by decide) rfl (by decide) inX12 wd939 tyX12 tyX12_ok nmX12 rfl rfl rfl rfl dX12_fault_2 ?_
  refine v_nmS (fun S2 eS2 => ?_)
  replace h := h S2 eS2
  have hk3 : hK S2 a0 = 11 := by rw [eS2]; exact hk1
  refine v_aload_n X 0 dX12_fault_5 rfl rfl ?_
  refine v_getI X (T := TX12) (N := 26) (k := 17) hk3 (by decide) rfl (by decide) inX12 wd956 rfl dX12_fault_6 ?_
  exact v_iret X hr hlk ⟨_, rfl, h⟩ dX12_fault_9
def wp_X12_kindBy (Q : Int32 → hp → Prop) (S : hp) (x0 : Int32) : Prop :=
  ((¬ x0 = (118 : Int32) → ((¬ x0 = (107 : Int32) → ((¬ x0 = (114 : Int32) → ((¬ x0 = (103 : Int32) → ((¬ x0 = (115 : Int32) → Q (-1000000 : Int32) S) ∧ (x0 = (115 : Int32) → Q (5 : Int32) S))) ∧ (x0 = (103 : Int32) → Q (4 : Int32) S))) ∧ (x0 = (114 : Int32) → Q (3 : Int32) S))) ∧ (x0 = (107 : Int32) → Q (2 : Int32) S))) ∧ (x0 = (118 : Int32) → Q (1 : Int32) S))
theorem k_X12_kindBy : Cond.code yX12_kindBy cX12_kindBy 1 (some .int) ∈ gtb := mg 1101 (by decide +kernel) (by decide +kernel)
theorem dn_X12_kindBy : yX12_kindBy.cls ≠ "java/lang/invoke/MethodHandle" ∧ yX12_kindBy.cls ≠ "java/lang/invoke/VarHandle" ∧ (parseMethodDescriptor yX12_kindBy.desc).map (fun d => d.parameters.length) = some 1 := by decide +kernel
set_option maxRecDepth 100000 in
set_option maxHeartbeats 4000000 in
theorem s_X12_kindBy (l : Launch) (b : Nat) (D : va_G) (cy : Nat → ClassId) {Q : Int32 → hp → Prop} {S : hp} {x0 : Int32} (h : wp_X12_kindBy Q S x0) : MT l yX12_kindBy cX12_kindBy 1 (some .int) 0 0 0 0 b D cy S [.int x0] (pI Q) := by
  refine MT.of (by decide +kernel) (Nat.le_of_ble_eq_true rfl) ?_
  intro p e s m args below meth c X hr hlk hnm
  unfold wp_X12_kindBy at h
  show VM l b D cy 1 0 0 0 0 (pI Q) p e s m args below meth c S 0 0 0 [(0, .int x0)] []
  refine v_iload_n X 0 dX12_kindBy_0 rfl rfl ?_
  refine v_bipush X (v := 118) dX12_kindBy_1 (by decide) ?_
  refine v_icmp_ne X (tgt := 10) dX12_kindBy_3 (by decide) (fun c1 => ?_) (fun c1 => ?_)
  · replace h := h.1 c1
    refine v_iload_n X 0 dX12_kindBy_10 rfl rfl ?_
    refine v_bipush X (v := 107) dX12_kindBy_11 (by decide) ?_
    refine v_icmp_ne X (tgt := 20) dX12_kindBy_13 (by decide) (fun c2 => ?_) (fun c2 => ?_)
    · replace h := h.1 c2
      refine v_iload_n X 0 dX12_kindBy_20 rfl rfl ?_
      refine v_bipush X (v := 114) dX12_kindBy_21 (by decide) ?_
      refine v_icmp_ne X (tgt := 30) dX12_kindBy_23 (by decide) (fun c3 => ?_) (fun c3 => ?_)
      · replace h := h.1 c3
        refine v_iload_n X 0 dX12_kindBy_30 rfl rfl ?_
        refine v_bipush X (v := 103) dX12_kindBy_31 (by decide) ?_
        refine v_icmp_ne X (tgt := 40) dX12_kindBy_33 (by decide) (fun c4 => ?_) (fun c4 => ?_)
        · replace h := h.1 c4
          refine v_iload_n X 0 dX12_kindBy_40 rfl rfl ?_
          refine v_bipush X (v := 115) dX12_kindBy_41 (by decide) ?_
          refine v_icmp_ne X (tgt := 50) dX12_kindBy_43 (by decide) (fun c5 => ?_) (fun c5 => ?_)
          · replace h := h.1 c5
            refine v_ldc X wd1070 dX12_kindBy_50 ?_
            exact v_iret X hr hlk ⟨_, rfl, h⟩ dX12_kindBy_52
          · replace h := h.2 c5
            refine v_iconst X (v := 5) dX12_kindBy_46 (by decide) ?_
            refine v_goto X (tgt := 52) dX12_kindBy_47 (by decide) ?_
            exact v_iret X hr hlk ⟨_, rfl, h⟩ dX12_kindBy_52
        · replace h := h.2 c4
          refine v_iconst X (v := 4) dX12_kindBy_36 (by decide) ?_
          refine v_goto X (tgt := 52) dX12_kindBy_37 (by decide) ?_
          exact v_iret X hr hlk ⟨_, rfl, h⟩ dX12_kindBy_52
      · replace h := h.2 c3
        refine v_iconst X (v := 3) dX12_kindBy_26 (by decide) ?_
        refine v_goto X (tgt := 52) dX12_kindBy_27 (by decide) ?_
        exact v_iret X hr hlk ⟨_, rfl, h⟩ dX12_kindBy_52
    · replace h := h.2 c2
      refine v_iconst X (v := 2) dX12_kindBy_16 (by decide) ?_
      refine v_goto X (tgt := 52) dX12_kindBy_17 (by decide) ?_
      exact v_iret X hr hlk ⟨_, rfl, h⟩ dX12_kindBy_52
  · replace h := h.2 c1
    refine v_iconst X (v := 1) dX12_kindBy_6 (by decide) ?_
    refine v_goto X (tgt := 52) dX12_kindBy_7 (by decide) ?_
    exact v_iret X hr hlk ⟨_, rfl, h⟩ dX12_kindBy_52
def wB_X12_readDummy_98 (bk72 : hp → Nat → Int32 → Int32 → Int32 → Int32 → Prop) (Q : hp → Prop) (S : hp) (l0 : Nat) (l1 : Int32) (l2 : Int32) (l3 : Int32) (l4 : Int32) (k0 : Int32) : Prop :=
  hK S l0 = 11 ∧ ∃ r38 : Nat, hR S l0 6 = some r38 ∧ hK S r38 = 12 ∧ vp_in (2 : Int32) (hN S r38) ∧ vp_in (((5 : Int32) + ((3 : Int32) * (hI S r38 ((2 : Int32)).toNatClampNeg))) + l4) (hN S r38) ∧ ∀ S42 : hp, S42 = setI S r38 ((((5 : Int32) + ((3 : Int32) * (hI S r38 ((2 : Int32)).toNatClampNeg))) + l4)).toNatClampNeg k0 → vp_in (((17 : Int32) + ((3 : Int32) * (hI S42 r38 ((2 : Int32)).toNatClampNeg))) + l4) (hN S42 r38) ∧ ∀ S49 : hp, S49 = setI S42 r38 ((((17 : Int32) + ((3 : Int32) * (hI S42 r38 ((2 : Int32)).toNatClampNeg))) + l4)).toNatClampNeg k0 → vp_in (((29 : Int32) + ((3 : Int32) * (hI S49 r38 ((2 : Int32)).toNatClampNeg))) + l4) (hN S49 r38) ∧ ∀ S57 : hp, S57 = setI S49 r38 ((((29 : Int32) + ((3 : Int32) * (hI S49 r38 ((2 : Int32)).toNatClampNeg))) + l4)).toNatClampNeg k0 → ∀ v65 : Int32, v65 = l4 + (1 : Int32) → bk72 S57 l0 l1 l2 l3 v65
def wB_X12_readDummy_72 (bk72 : hp → Nat → Int32 → Int32 → Int32 → Int32 → Prop) (Q : hp → Prop) (S : hp) (l0 : Nat) (l1 : Int32) (l2 : Int32) (l3 : Int32) (l4 : Int32) : Prop :=
  (((3 : Int32) ≤ l4 → hK S l0 = 11 ∧ ∃ r27 : Nat, hR S l0 6 = some r27 ∧ hK S r27 = 12 ∧ vp_in (2 : Int32) (hN S r27) ∧ ∀ S30 : hp, S30 = setI S r27 ((2 : Int32)).toNatClampNeg ((hI S r27 ((2 : Int32)).toNatClampNeg) + (1 : Int32)) → Q S30) ∧ (¬ (3 : Int32) ≤ l4 → ((¬ l4 = 0 → ((¬ l4 = (1 : Int32) → wB_X12_readDummy_98 bk72 Q S l0 l1 l2 l3 l4 l3) ∧ (l4 = (1 : Int32) → wB_X12_readDummy_98 bk72 Q S l0 l1 l2 l3 l4 l2))) ∧ (l4 = 0 → wB_X12_readDummy_98 bk72 Q S l0 l1 l2 l3 l4 l1))))
def wl_X12_readDummy_72 (Q : hp → Prop) : Nat → hp → Nat → Int32 → Int32 → Int32 → Int32 → Prop
  | 0 => fun _ _ _ _ _ _ => False
  | n + 1 => wB_X12_readDummy_72 (wl_X12_readDummy_72 Q n) Q
def wB_X12_readDummy_15 (Q : hp → Prop) (S : hp) (l0 : Nat) : Prop :=
  hK S l0 = 11 ∧ wp_X12_must (fun S6 => hK S6 l0 = 11 ∧ wp_X12_number (fun r10 S8 => hK S8 l0 = 11 ∧ wp_X12_mustSign (fun S11 => hK S11 l0 = 11 ∧ wp_X12_number (fun r15 S13 => hK S13 l0 = 11 ∧ wp_X12_mustSign (fun S16 => hK S16 l0 = 11 ∧ wp_X12_number (fun r20 S18 => hK S18 l0 = 11 ∧ wp_X12_mustSign (fun S21 => hK S21 l0 = 11 ∧ ((¬ (hI S21 l0 15) = 0 → Q S21) ∧ ((hI S21 l0 15) = 0 → ∃ n : Nat, wl_X12_readDummy_72 Q n S21 l0 r10 r15 r20 (0 : Int32)))) S18 l0 (59 : Int32)) S16 l0 (0 : Int32) (99 : Int32)) S13 l0 (44 : Int32)) S11 l0 (0 : Int32) (99 : Int32)) S8 l0 (44 : Int32)) S6 l0 (0 : Int32) (99 : Int32)) S l0 (1 : Int32)
def wp_X12_readDummy (Q : hp → Prop) (S : hp) (a0 : Nat) : Prop :=
  hK S a0 = 11 ∧ ∃ r2 : Nat, hR S a0 6 = some r2 ∧ hK S r2 = 12 ∧ vp_in (2 : Int32) (hN S r2) ∧ ((¬ (hI S r2 ((2 : Int32)).toNatClampNeg) = (4 : Int32) → wB_X12_readDummy_15 Q S a0) ∧ ((hI S r2 ((2 : Int32)).toNatClampNeg) = (4 : Int32) → wp_X12_bad (fun S66 => wB_X12_readDummy_15 Q S66 a0) S a0 (3 : Int32)))
theorem k_X12_readDummy : Cond.code yX12_readDummy cX12_readDummy 6 none ∈ gtb := mg 1098 (by decide +kernel) (by decide +kernel)
theorem dn_X12_readDummy : yX12_readDummy.cls ≠ "java/lang/invoke/MethodHandle" ∧ yX12_readDummy.cls ≠ "java/lang/invoke/VarHandle" ∧ (parseMethodDescriptor yX12_readDummy.desc).map (fun d => d.parameters.length) = some 0 := by decide +kernel
set_option maxRecDepth 100000 in
set_option maxHeartbeats 4000000 in
theorem s_X12_readDummy (l : Launch) (b : Nat) (D : va_G) (cy : Nat → ClassId) {Q : hp → Prop} {S : hp} {a0 : Nat} (h : wp_X12_readDummy Q S a0) : MT l yX12_readDummy cX12_readDummy 6 none 4 89 0 0 b D cy S [.ref a0] (pV Q) := by
  refine MT.of (by decide +kernel) (Nat.le_of_ble_eq_true rfl) ?_
  intro p e s m args below meth c X hr hlk hnm
  have j98 : ∀ (bk72 : hp → Nat → Int32 → Int32 → Int32 → Int32 → Prop) (hbk72 : ∀ (S : hp) (l0 : Nat) (l1 : Int32) (l2 : Int32) (l3 : Int32) (l4 : Int32), bk72 S l0 l1 l2 l3 l4 → VM l b D cy 6 4 89 0 0 (pV Q) p e s m args below meth c S 0 0 72 [(0, .ref l0), (1, .int l1), (2, .int l2), (3, .int l3), (4, .int l4)] []) (S : hp) (l0 : Nat) (l1 : Int32) (l2 : Int32) (l3 : Int32) (l4 : Int32) (k0 : Int32), wB_X12_readDummy_98 bk72 Q S l0 l1 l2 l3 l4 k0 → VM l b D cy 6 4 89 0 0 (pV Q) p e s m args below meth c S 0 0 98 [(0, .ref l0), (1, .int l1), (2, .int l2), (3, .int l3), (4, .int l4)] [.int k0] := by
    intro bk72 hbk72 S l0 l1 l2 l3 l4 k0 h
    unfold wB_X12_readDummy_98 at h
    refine v_istore X (lv' := [(5, .int k0), (0, .ref l0), (1, .int l1), (2, .int l2), (3, .int l3), (4, .int l4)]) dX12_readDummy_98 (by decide) rfl ?_
    refine v_aload_n X 1 dX12_readDummy_100 rfl rfl ?_
    obtain ⟨hk37, h⟩ := h
    obtain ⟨r38, hr38, h⟩ := h
    refine v_getR X (T := TX12) (N := 26) (k := 6) hk37 (by decide) rfl (by decide) inX12 wd945 rfl dX12_readDummy_101 hr38 ?_
    refine v_iconst X (v := 5) dX12_readDummy_104 (by decide) ?_
    refine v_iconst X (v := 3) dX12_readDummy_105 (by decide) ?_
    refine v_aload_n X 1 dX12_readDummy_106 rfl rfl ?_
    refine v_getR X (T := TX12) (N := 26) (k := 6) hk37 (by decide) rfl (by decide) inX12 wd945 rfl dX12_readDummy_107 hr38 ?_
    refine v_iconst X (v := 2) dX12_readDummy_110 (by decide) ?_
    obtain ⟨hk39, h⟩ := h
    obtain ⟨hi40, h⟩ := h
    refine v_iald X hk39 hi40 dX12_readDummy_111 ?_
    refine v_imul X dX12_readDummy_112 ?_
    refine v_iadd X dX12_readDummy_113 ?_
    refine v_iload X 5 dX12_readDummy_114 rfl ?_
    refine v_iadd X dX12_readDummy_116 ?_
    refine v_iload X 0 dX12_readDummy_117 rfl ?_
    obtain ⟨hi41, h⟩ := h
    refine v_iast X hk39 hi41 dX12_readDummy_119 ?_
    refine v_nmS (fun S42 eS42 => ?_)
    replace h := h S42 eS42
    have hk43 : hK S42 l0 = 11 := by rw [eS42]; exact hk37
    have hk44 : hK S42 r38 = 12 := by rw [eS42]; exact hk39
    have hi45 : vp_in (2 : Int32) (hN S42 r38) := by rw [eS42]; exact hi40
    have hi46 : vp_in (((5 : Int32) + ((3 : Int32) * (hI S r38 ((2 : Int32)).toNatClampNeg))) + l4) (hN S42 r38) := by rw [eS42]; exact hi41
    have hr47 : hR S42 l0 6 = some r38 := by rw [eS42]; exact hr38
    refine v_aload_n X 1 dX12_readDummy_120 rfl rfl ?_
    refine v_getR X (T := TX12) (N := 26) (k := 6) hk43 (by decide) rfl (by decide) inX12 wd945 rfl dX12_readDummy_121 hr47 ?_
    refine v_bipush X (v := 17) dX12_readDummy_124 (by decide) ?_
    refine v_iconst X (v := 3) dX12_readDummy_126 (by decide) ?_
    refine v_aload_n X 1 dX12_readDummy_127 rfl rfl ?_
    refine v_getR X (T := TX12) (N := 26) (k := 6) hk43 (by decide) rfl (by decide) inX12 wd945 rfl dX12_readDummy_128 hr47 ?_
    refine v_iconst X (v := 2) dX12_readDummy_131 (by decide) ?_
    refine v_iald X hk44 hi45 dX12_readDummy_132 ?_
    refine v_imul X dX12_readDummy_133 ?_
    refine v_iadd X dX12_readDummy_134 ?_
    refine v_iload X 5 dX12_readDummy_135 rfl ?_
    refine v_iadd X dX12_readDummy_137 ?_
    refine v_iload X 0 dX12_readDummy_138 rfl ?_
    obtain ⟨hi48, h⟩ := h
    refine v_iast X hk44 hi48 dX12_readDummy_140 ?_
    refine v_nmS (fun S49 eS49 => ?_)
    replace h := h S49 eS49
    have hk50 : hK S49 l0 = 11 := by rw [eS49]; exact hk43
    have hk51 : hK S49 r38 = 12 := by rw [eS49]; exact hk44
    have hi52 : vp_in (2 : Int32) (hN S49 r38) := by rw [eS49]; exact hi45
    have hi53 : vp_in (((5 : Int32) + ((3 : Int32) * (hI S r38 ((2 : Int32)).toNatClampNeg))) + l4) (hN S49 r38) := by rw [eS49]; exact hi46
    have hi54 : vp_in (((17 : Int32) + ((3 : Int32) * (hI S42 r38 ((2 : Int32)).toNatClampNeg))) + l4) (hN S49 r38) := by rw [eS49]; exact hi48
    have hr55 : hR S49 l0 6 = some r38 := by rw [eS49]; exact hr47
    refine v_aload_n X 1 dX12_readDummy_141 rfl rfl ?_
    refine v_getR X (T := TX12) (N := 26) (k := 6) hk50 (by decide) rfl (by decide) inX12 wd945 rfl dX12_readDummy_142 hr55 ?_
    refine v_bipush X (v := 29) dX12_readDummy_145 (by decide) ?_
    refine v_iconst X (v := 3) dX12_readDummy_147 (by decide) ?_
    refine v_aload_n X 1 dX12_readDummy_148 rfl rfl ?_
    refine v_getR X (T := TX12) (N := 26) (k := 6) hk50 (by decide) rfl (by decide) inX12 wd945 rfl dX12_readDummy_149 hr55 ?_
    refine v_iconst X (v := 2) dX12_readDummy_152 (by decide) ?_
    refine v_iald X hk51 hi52 dX12_readDummy_153 ?_
    refine v_imul X dX12_readDummy_154 ?_
    refine v_iadd X dX12_readDummy_155 ?_
    refine v_iload X 5 dX12_readDummy_156 rfl ?_
    refine v_iadd X dX12_readDummy_158 ?_
    refine v_iload X 0 dX12_readDummy_159 rfl ?_
    obtain ⟨hi56, h⟩ := h
    refine v_iast X hk51 hi56 dX12_readDummy_161 ?_
    refine v_nmS (fun S57 eS57 => ?_)
    replace h := h S57 eS57
    have hk58 : hK S57 l0 = 11 := by rw [eS57]; exact hk50
    have hk59 : hK S57 r38 = 12 := by rw [eS57]; exact hk51
    have hi60 : vp_in (2 : Int32) (hN S57 r38) := by rw [eS57]; exact hi52
    have hi61 : vp_in (((5 : Int32) + ((3 : Int32) * (hI S r38 ((2 : Int32)).toNatClampNeg))) + l4) (hN S57 r38) := by rw [eS57]; exact hi53
    have hi62 : vp_in (((17 : Int32) + ((3 : Int32) * (hI S42 r38 ((2 : Int32)).toNatClampNeg))) + l4) (hN S57 r38) := by rw [eS57]; exact hi54
    have hi63 : vp_in (((29 : Int32) + ((3 : Int32) * (hI S49 r38 ((2 : Int32)).toNatClampNeg))) + l4) (hN S57 r38) := by rw [eS57]; exact hi56
    have hr64 : hR S57 l0 6 = some r38 := by rw [eS57]; exact hr55
    obtain ⟨v65, hv65⟩ : ∃ y : Int32, y = l4 + (1 : Int32) := ⟨_, rfl⟩
    replace h := h v65 hv65
    refine v_iinc X (j := 5) (v := v65) (lv' := [(4, .int v65), (5, .int k0), (0, .ref l0), (1, .int l1), (2, .int l2), (3, .int l3)]) dX12_readDummy_162 rfl (by rw [hv65] <;> rfl) (by decide) rfl ?_
    refine v_goto X (tgt := 72) dX12_readDummy_165 (by decide) ?_
    refine v_lv (lv' := [(0, .ref l0), (1, .int l1), (2, .int l2), (3, .int l3), (4, .int v65)]) [2, 3, 4, 5, 0] rfl ?_
    exact hbk72 _ _ _ _ _ _ h
  have j72 : ∀ (bk72 : hp → Nat → Int32 → Int32 → Int32 → Int32 → Prop) (hbk72 : ∀ (S : hp) (l0 : Nat) (l1 : Int32) (l2 : Int32) (l3 : Int32) (l4 : Int32), bk72 S l0 l1 l2 l3 l4 → VM l b D cy 6 4 89 0 0 (pV Q) p e s m args below meth c S 0 0 72 [(0, .ref l0), (1, .int l1), (2, .int l2), (3, .int l3), (4, .int l4)] []) (S : hp) (l0 : Nat) (l1 : Int32) (l2 : Int32) (l3 : Int32) (l4 : Int32), wB_X12_readDummy_72 bk72 Q S l0 l1 l2 l3 l4 → VM l b D cy 6 4 89 0 0 (pV Q) p e s m args below meth c S 0 0 72 [(0, .ref l0), (1, .int l1), (2, .int l2), (3, .int l3), (4, .int l4)] [] := by
    intro bk72 hbk72 S l0 l1 l2 l3 l4 h
    unfold wB_X12_readDummy_72 at h
    refine v_iload X 4 dX12_readDummy_72 rfl ?_
    refine v_iconst X (v := 3) dX12_readDummy_74 (by decide) ?_
    refine v_icmp_ge X (tgt := 168) dX12_readDummy_75 (by decide) (fun c25 => ?_) (fun c25 => ?_)
    · replace h := h.1 c25
      refine v_aload_n X 0 dX12_readDummy_168 rfl rfl ?_
      obtain ⟨hk26, h⟩ := h
      obtain ⟨r27, hr27, h⟩ := h
      refine v_getR X (T := TX12) (N := 26) (k := 6) hk26 (by decide) rfl (by decide) inX12 wd945 rfl dX12_readDummy_169 hr27 ?_
      refine v_iconst X (v := 2) dX12_readDummy_172 (by decide) ?_
      refine v_dup2 X dX12_readDummy_173 rfl rfl ?_
      obtain ⟨hk28, h⟩ := h
      obtain ⟨hi29, h⟩ := h
      refine v_iald X hk28 hi29 dX12_readDummy_174 ?_
      refine v_iconst X (v := 1) dX12_readDummy_175 (by decide) ?_
      refine v_iadd X dX12_readDummy_176 ?_
      refine v_iast X hk28 hi29 dX12_readDummy_177 ?_
      refine v_nmS (fun S30 eS30 => ?_)
      replace h := h S30 eS30
      have hk31 : hK S30 l0 = 11 := by rw [eS30]; exact hk26
      have hk32 : hK S30 r27 = 12 := by rw [eS30]; exact hk28
      have hi33 : vp_in (2 : Int32) (hN S30 r27) := by rw [eS30]; exact hi29
      have hr34 : hR S30 l0 6 = some r27 := by rw [eS30]; exact hr27
      exact v_vret X hr hlk ⟨rfl, h⟩ dX12_readDummy_178
    · replace h := h.2 c25
      refine v_iload X 4 dX12_readDummy_78 rfl ?_
      refine v_if_ne X (tgt := 87) dX12_readDummy_80 (by decide) (fun c35 => ?_) (fun c35 => ?_)
      · replace h := h.1 c35
        refine v_iload X 4 dX12_readDummy_87 rfl ?_
        refine v_iconst X (v := 1) dX12_readDummy_89 (by decide) ?_
        refine v_icmp_ne X (tgt := 97) dX12_readDummy_90 (by decide) (fun c36 => ?_) (fun c36 => ?_)
        · replace h := h.1 c36
          refine v_iload_n X 3 dX12_readDummy_97 rfl rfl ?_
          exact j98 bk72 hbk72 _ _ _ _ _ _ _ h
        · replace h := h.2 c36
          refine v_iload_n X 2 dX12_readDummy_93 rfl rfl ?_
          refine v_goto X (tgt := 98) dX12_readDummy_94 (by decide) ?_
          exact j98 bk72 hbk72 _ _ _ _ _ _ _ h
      · replace h := h.2 c35
        refine v_iload_n X 1 dX12_readDummy_83 rfl rfl ?_
        refine v_goto X (tgt := 98) dX12_readDummy_84 (by decide) ?_
        exact j98 bk72 hbk72 _ _ _ _ _ _ _ h
  have l72 : ∀  (n : Nat) (S : hp) (l0 : Nat) (l1 : Int32) (l2 : Int32) (l3 : Int32) (l4 : Int32), wl_X12_readDummy_72 Q n S l0 l1 l2 l3 l4 → VM l b D cy 6 4 89 0 0 (pV Q) p e s m args below meth c S 0 0 72 [(0, .ref l0), (1, .int l1), (2, .int l2), (3, .int l3), (4, .int l4)] [] := by
    intro  n
    induction n with
    | zero => intro S l0 l1 l2 l3 l4 h; exact h.elim
    | succ n ih => intro S l0 l1 l2 l3 l4 h; exact j72 (wl_X12_readDummy_72 Q n) ih S l0 l1 l2 l3 l4 h
  have j15 : ∀  (S : hp) (l0 : Nat), wB_X12_readDummy_15 Q S l0 → VM l b D cy 6 4 89 0 0 (pV Q) p e s m args below meth c S 0 0 15 [(0, .ref l0)] [] := by
    intro  S l0 h
    unfold wB_X12_readDummy_15 at h
    refine v_aload_n X 0 dX12_readDummy_15 rfl rfl ?_
    refine v_iconst X (v := 1) dX12_readDummy_16 (by decide) ?_
    obtain ⟨hk7, h⟩ := h
    refine v_callV X (av := [.int (1 : Int32)]) (T := TX12) (N := 26) (s_X12_must l b D cy h) hk7 (by decide) rfl wd1079 wd1081 wd24 wd62 k_X12_must dn_X12_must rfl ⟨Nat.le_of_ble_eq_true rfl, Nat.le_of_ble_eq_true rfl⟩ (Nat.le_of_ble_eq_true rfl) ⟨Nat.le_of_ble_eq_true rfl, Nat.le_of_ble_eq_true rfl⟩ dX12_readDummy_17 rfl (kV (fun S6 h => ?_))
    refine v_aload_n X 0 dX12_readDummy_20 rfl rfl ?_
    refine v_iconst X (v := 0) dX12_readDummy_21 (by decide) ?_
    refine v_bipush X (v := 99) dX12_readDummy_22 (by decide) ?_
    obtain ⟨hk9, h⟩ := h
    refine v_callV X (av := [.int (0 : Int32), .int (99 : Int32)]) (T := TX12) (N := 26) (s_X12_number l b D cy h) hk9 (by decide) rfl wd1087 wd1089 wd26 wd62 k_X12_number dn_X12_number rfl ⟨Nat.le_of_ble_eq_true rfl, Nat.le_of_ble_eq_true rfl⟩ (Nat.le_of_ble_eq_true rfl) ⟨Nat.le_of_ble_eq_true rfl, Nat.le_of_ble_eq_true rfl⟩ dX12_readDummy_24 rfl (kI (fun r10 S8 h => ?_))
    refine v_istore_n X (lv' := [(1, .int r10), (0, .ref l0)]) dX12_readDummy_27 rfl (by decide) rfl ?_
    refine v_aload_n X 1 dX12_readDummy_28 rfl rfl ?_
    refine v_bipush X (v := 44) dX12_readDummy_29 (by decide) ?_
    obtain ⟨hk12, h⟩ := h
    refine v_callV X (av := [.int (44 : Int32)]) (T := TX12) (N := 26) (s_X12_mustSign l b D cy h) hk12 (by decide) rfl wd1091 wd1093 wd27 wd62 k_X12_mustSign dn_X12_mustSign rfl ⟨Nat.le_of_ble_eq_true rfl, Nat.le_of_ble_eq_true rfl⟩ (Nat.le_of_ble_eq_true rfl) ⟨Nat.le_of_ble_eq_true rfl, Nat.le_of_ble_eq_true rfl⟩ dX12_readDummy_31 rfl (kV (fun S11 h => ?_))
    refine v_aload_n X 1 dX12_readDummy_34 rfl rfl ?_
    refine v_iconst X (v := 0) dX12_readDummy_35 (by decide) ?_
    refine v_bipush X (v := 99) dX12_readDummy_36 (by decide) ?_
    obtain ⟨hk14, h⟩ := h
    refine v_callV X (av := [.int (0 : Int32), .int (99 : Int32)]) (T := TX12) (N := 26) (s_X12_number l b D cy h) hk14 (by decide) rfl wd1087 wd1089 wd26 wd62 k_X12_number dn_X12_number rfl ⟨Nat.le_of_ble_eq_true rfl, Nat.le_of_ble_eq_true rfl⟩ (Nat.le_of_ble_eq_true rfl) ⟨Nat.le_of_ble_eq_true rfl, Nat.le_of_ble_eq_true rfl⟩ dX12_readDummy_38 rfl (kI (fun r15 S13 h => ?_))
    refine v_istore_n X (lv' := [(2, .int r15), (1, .int r10), (0, .ref l0)]) dX12_readDummy_41 rfl (by decide) rfl ?_
    refine v_aload_n X 2 dX12_readDummy_42 rfl rfl ?_
    refine v_bipush X (v := 44) dX12_readDummy_43 (by decide) ?_
    obtain ⟨hk17, h⟩ := h
    refine v_callV X (av := [.int (44 : Int32)]) (T := TX12) (N := 26) (s_X12_mustSign l b D cy h) hk17 (by decide) rfl wd1091 wd1093 wd27 wd62 k_X12_mustSign dn_X12_mustSign rfl ⟨Nat.le_of_ble_eq_true rfl, Nat.le_of_ble_eq_true rfl⟩ (Nat.le_of_ble_eq_true rfl) ⟨Nat.le_of_ble_eq_true rfl, Nat.le_of_ble_eq_true rfl⟩ dX12_readDummy_45 rfl (kV (fun S16 h => ?_))
    refine v_aload_n X 2 dX12_readDummy_48 rfl rfl ?_
    refine v_iconst X (v := 0) dX12_readDummy_49 (by decide) ?_
    refine v_bipush X (v := 99) dX12_readDummy_50 (by decide) ?_
    obtain ⟨hk19, h⟩ := h
    refine v_callV X (av := [.int (0 : Int32), .int (99 : Int32)]) (T := TX12) (N := 26) (s_X12_number l b D cy h) hk19 (by decide) rfl wd1087 wd1089 wd26 wd62 k_X12_number dn_X12_number rfl ⟨Nat.le_of_ble_eq_true rfl, Nat.le_of_ble_eq_true rfl⟩ (Nat.le_of_ble_eq_true rfl) ⟨Nat.le_of_ble_eq_true rfl, Nat.le_of_ble_eq_true rfl⟩ dX12_readDummy_52 rfl (kI (fun r20 S18 h => ?_))
    refine v_istore_n X (lv' := [(3, .int r20), (2, .int r15), (1, .int r10), (0, .ref l0)]) dX12_readDummy_55 rfl (by decide) rfl ?_
    refine v_aload_n X 3 dX12_readDummy_56 rfl rfl ?_
    refine v_bipush X (v := 59) dX12_readDummy_57 (by decide) ?_
    obtain ⟨hk22, h⟩ := h
    refine v_callV X (av := [.int (59 : Int32)]) (T := TX12) (N := 26) (s_X12_mustSign l b D cy h) hk22 (by decide) rfl wd1091 wd1093 wd27 wd62 k_X12_mustSign dn_X12_mustSign rfl ⟨Nat.le_of_ble_eq_true rfl, Nat.le_of_ble_eq_true rfl⟩ (Nat.le_of_ble_eq_true rfl) ⟨Nat.le_of_ble_eq_true rfl, Nat.le_of_ble_eq_true rfl⟩ dX12_readDummy_59 rfl (kV (fun S21 h => ?_))
    refine v_aload_n X 3 dX12_readDummy_62 rfl rfl ?_
    obtain ⟨hk23, h⟩ := h
    refine v_getI X (T := TX12) (N := 26) (k := 15) hk23 (by decide) rfl (by decide) inX12 wd954 rfl dX12_readDummy_63 ?_
    refine v_if_ne X (tgt := 178) dX12_readDummy_66 (by decide) (fun c24 => ?_) (fun c24 => ?_)
    · replace h := h.1 c24
      exact v_vret X hr hlk ⟨rfl, h⟩ dX12_readDummy_178
    · replace h := h.2 c24
      refine v_iconst X (v := 0) dX12_readDummy_69 (by decide) ?_
      refine v_istore X (lv' := [(4, .int (0 : Int32)), (3, .int r20), (2, .int r15), (1, .int r10), (0, .ref l0)]) dX12_readDummy_70 (by decide) rfl ?_
      refine v_lv (lv' := [(0, .ref l0), (1, .int r10), (2, .int r15), (3, .int r20), (4, .int (0 : Int32))]) [4, 3, 2, 1, 0] rfl ?_
      obtain ⟨n, h⟩ := h
      exact l72 n _ _ _ _ _ _ h
  unfold wp_X12_readDummy at h
  show VM l b D cy 6 4 89 0 0 (pV Q) p e s m args below meth c S 0 0 0 [(0, .ref a0)] []
  refine v_aload_n X 0 dX12_readDummy_0 rfl rfl ?_
  obtain ⟨hk1, h⟩ := h
  obtain ⟨r2, hr2, h⟩ := h
  refine v_getR X (T := TX12) (N := 26) (k := 6) hk1 (by decide) rfl (by decide) inX12 wd945 rfl dX12_readDummy_1 hr2 ?_
  refine v_iconst X (v := 2) dX12_readDummy_4 (by decide) ?_
  obtain ⟨hk3, h⟩ := h
  obtain ⟨hi4, h⟩ := h
  refine v_iald X hk3 hi4 dX12_readDummy_5 ?_
  refine v_iconst X (v := 4) dX12_readDummy_6 (by decide) ?_
  refine v_icmp_ne X (tgt := 15) dX12_readDummy_7 (by decide) (fun c5 => ?_) (fun c5 => ?_)
  · replace h := h.1 c5
    exact j15 _ _ h
  · replace h := h.2 c5
    refine v_aload_n X 0 dX12_readDummy_10 rfl rfl ?_
    refine v_iconst X (v := 3) dX12_readDummy_11 (by decide) ?_
    refine v_callV X (av := [.int (3 : Int32)]) (T := TX12) (N := 26) (s_X12_bad l b D cy h) hk1 (by decide) rfl wd1083 wd1085 wd25 wd62 k_X12_bad dn_X12_bad rfl ⟨Nat.le_of_ble_eq_true rfl, Nat.le_of_ble_eq_true rfl⟩ (Nat.le_of_ble_eq_true rfl) ⟨Nat.le_of_ble_eq_true rfl, Nat.le_of_ble_eq_true rfl⟩ dX12_readDummy_12 rfl (kV (fun S66 h => ?_))
    exact j15 _ _ h
def wB_X12_readMouth_23 (Q : hp → Prop) (S : hp) (l0 : Nat) (l1 : Int32) : Prop :=
  hK S l0 = 11 ∧ wp_X12_must (fun S9 => hK S9 l0 = 11 ∧ wp_X12_number (fun r13 S11 => hK S11 l0 = 11 ∧ wp_X12_mustSign (fun S14 => hK S14 l0 = 11 ∧ ((¬ (hI S14 l0 15) = 0 → Q S14) ∧ ((hI S14 l0 15) = 0 → ∃ r18 : Nat, hR S14 l0 6 = some r18 ∧ hK S14 r18 = 12 ∧ vp_in (3 : Int32) (hN S14 r18) ∧ vp_in ((41 : Int32) + ((2 : Int32) * (hI S14 r18 ((3 : Int32)).toNatClampNeg))) (hN S14 r18) ∧ ∀ S22 : hp, S22 = setI S14 r18 (((41 : Int32) + ((2 : Int32) * (hI S14 r18 ((3 : Int32)).toNatClampNeg)))).toNatClampNeg l1 → vp_in (((41 : Int32) + ((2 : Int32) * (hI S22 r18 ((3 : Int32)).toNatClampNeg))) + (1 : Int32)) (hN S22 r18) ∧ ∀ S29 : hp, S29 = setI S22 r18 ((((41 : Int32) + ((2 : Int32) * (hI S22 r18 ((3 : Int32)).toNatClampNeg))) + (1 : Int32))).toNatClampNeg r13 → ∀ S36 : hp, S36 = setI S29 r18 ((3 : Int32)).toNatClampNeg ((hI S29 r18 ((3 : Int32)).toNatClampNeg) + (1 : Int32)) → Q S36))) S11 l0 (59 : Int32)) S9 l0 (0 : Int32) (99 : Int32)) S l0 (1 : Int32)
def wp_X12_readMouth (Q : hp → Prop) (S : hp) (a0 : Nat) : Prop :=
  hK S a0 = 11 ∧ wp_X12_kindBy (fun r3 S2 => hK S2 a0 = 11 ∧ ∃ r5 : Nat, hR S2 a0 6 = some r5 ∧ hK S2 r5 = 12 ∧ vp_in (3 : Int32) (hN S2 r5) ∧ ((¬ (hI S2 r5 ((3 : Int32)).toNatClampNeg) = (5 : Int32) → wB_X12_readMouth_23 Q S2 a0 r3) ∧ ((hI S2 r5 ((3 : Int32)).toNatClampNeg) = (5 : Int32) → wp_X12_bad (fun S43 => wB_X12_readMouth_23 Q S43 a0 r3) S2 a0 (3 : Int32)))) S ((hI S a0 14))
theorem k_X12_readMouth : Cond.code yX12_readMouth cX12_readMouth 3 none ∈ gtb := mg 1105 (by decide +kernel) (by decide +kernel)
theorem dn_X12_readMouth : yX12_readMouth.cls ≠ "java/lang/invoke/MethodHandle" ∧ yX12_readMouth.cls ≠ "java/lang/invoke/VarHandle" ∧ (parseMethodDescriptor yX12_readMouth.desc).map (fun d => d.parameters.length) = some 0 := by decide +kernel
set_option maxRecDepth 100000 in
set_option maxHeartbeats 4000000 in
theorem s_X12_readMouth (l : Launch) (b : Nat) (D : va_G) (cy : Nat → ClassId) {Q : hp → Prop} {S : hp} {a0 : Nat} (h : wp_X12_readMouth Q S a0) : MT l yX12_readMouth cX12_readMouth 3 none 4 89 0 0 b D cy S [.ref a0] (pV Q) := by
  refine MT.of (by decide +kernel) (Nat.le_of_ble_eq_true rfl) ?_
  intro p e s m args below meth c X hr hlk hnm
  have j23 : ∀  (S : hp) (l0 : Nat) (l1 : Int32), wB_X12_readMouth_23 Q S l0 l1 → VM l b D cy 3 4 89 0 0 (pV Q) p e s m args below meth c S 0 0 23 [(0, .ref l0), (1, .int l1)] [] := by
    intro  S l0 l1 h
    unfold wB_X12_readMouth_23 at h
    refine v_aload_n X 0 dX12_readMouth_23 rfl rfl ?_
    refine v_iconst X (v := 1) dX12_readMouth_24 (by decide) ?_
    obtain ⟨hk10, h⟩ := h
    refine v_callV X (av := [.int (1 : Int32)]) (T := TX12) (N := 26) (s_X12_must l b D cy h) hk10 (by decide) rfl wd1079 wd1081 wd24 wd62 k_X12_must dn_X12_must rfl ⟨Nat.le_of_ble_eq_true rfl, Nat.le_of_ble_eq_true rfl⟩ (Nat.le_of_ble_eq_true rfl) ⟨Nat.le_of_ble_eq_true rfl, Nat.le_of_ble_eq_true rfl⟩ dX12_readMouth_25 rfl (kV (fun S9 h => ?_))
    refine v_aload_n X 0 dX12_readMouth_28 rfl rfl ?_
    refine v_iconst X (v := 0) dX12_readMouth_29 (by decide) ?_
    refine v_bipush X (v := 99) dX12_readMouth_30 (by decide) ?_
    obtain ⟨hk12, h⟩ := h
    refine v_callV X (av := [.int (0 : Int32), .int (99 : Int32)]) (T := TX12) (N := 26) (s_X12_number l b D cy h) hk12 (by decide) rfl wd1087 wd1089 wd26 wd62 k_X12_number dn_X12_number rfl ⟨Nat.le_of_ble_eq_true rfl, Nat.le_of_ble_eq_true rfl⟩ (Nat.le_of_ble_eq_true rfl) ⟨Nat.le_of_ble_eq_true rfl, Nat.le_of_ble_eq_true rfl⟩ dX12_readMouth_32 rfl (kI (fun r13 S11 h => ?_))
    refine v_istore_n X (lv' := [(2, .int r13), (0, .ref l0), (1, .int l1)]) dX12_readMouth_35 rfl (by decide) rfl ?_
    refine v_aload_n X 1 dX12_readMouth_36 rfl rfl ?_
    refine v_bipush X (v := 59) dX12_readMouth_37 (by decide) ?_
    obtain ⟨hk15, h⟩ := h
    refine v_callV X (av := [.int (59 : Int32)]) (T := TX12) (N := 26) (s_X12_mustSign l b D cy h) hk15 (by decide) rfl wd1091 wd1093 wd27 wd62 k_X12_mustSign dn_X12_mustSign rfl ⟨Nat.le_of_ble_eq_true rfl, Nat.le_of_ble_eq_true rfl⟩ (Nat.le_of_ble_eq_true rfl) ⟨Nat.le_of_ble_eq_true rfl, Nat.le_of_ble_eq_true rfl⟩ dX12_readMouth_39 rfl (kV (fun S14 h => ?_))
    refine v_aload_n X 1 dX12_readMouth_42 rfl rfl ?_
    obtain ⟨hk16, h⟩ := h
    refine v_getI X (T := TX12) (N := 26) (k := 15) hk16 (by decide) rfl (by decide) inX12 wd954 rfl dX12_readMouth_43 ?_
    refine v_if_ne X (tgt := 95) dX12_readMouth_46 (by decide) (fun c17 => ?_) (fun c17 => ?_)
    · replace h := h.1 c17
      exact v_vret X hr hlk ⟨rfl, h⟩ dX12_readMouth_95
    · replace h := h.2 c17
      refine v_aload_n X 1 dX12_readMouth_49 rfl rfl ?_
      obtain ⟨r18, hr18, h⟩ := h
      refine v_getR X (T := TX12) (N := 26) (k := 6) hk16 (by decide) rfl (by decide) inX12 wd945 rfl dX12_readMouth_50 hr18 ?_
      refine v_bipush X (v := 41) dX12_readMouth_53 (by decide) ?_
      refine v_iconst X (v := 2) dX12_readMouth_55 (by decide) ?_
      refine v_aload_n X 1 dX12_readMouth_56 rfl rfl ?_
      refine v_getR X (T := TX12) (N := 26) (k := 6) hk16 (by decide) rfl (by decide) inX12 wd945 rfl dX12_readMouth_57 hr18 ?_
      refine v_iconst X (v := 3) dX12_readMouth_60 (by decide) ?_
      obtain ⟨hk19, h⟩ := h
      obtain ⟨hi20, h⟩ := h
      refine v_iald X hk19 hi20 dX12_readMouth_61 ?_
      refine v_imul X dX12_readMouth_62 ?_
      refine v_iadd X dX12_readMouth_63 ?_
      refine v_iload_n X 2 dX12_readMouth_64 rfl rfl ?_
      obtain ⟨hi21, h⟩ := h
      refine v_iast X hk19 hi21 dX12_readMouth_65 ?_
      refine v_nmS (fun S22 eS22 => ?_)
      replace h := h S22 eS22
      have hk23 : hK S22 l0 = 11 := by rw [eS22]; exact hk16
      have hk24 : hK S22 r18 = 12 := by rw [eS22]; exact hk19
      have hi25 : vp_in (3 : Int32) (hN S22 r18) := by rw [eS22]; exact hi20
      have hi26 : vp_in ((41 : Int32) + ((2 : Int32) * (hI S14 r18 ((3 : Int32)).toNatClampNeg))) (hN S22 r18) := by rw [eS22]; exact hi21
      have hr27 : hR S22 l0 6 = some r18 := by rw [eS22]; exact hr18
      refine v_aload_n X 1 dX12_readMouth_66 rfl rfl ?_
      refine v_getR X (T := TX12) (N := 26) (k := 6) hk23 (by decide) rfl (by decide) inX12 wd945 rfl dX12_readMouth_67 hr27 ?_
      refine v_bipush X (v := 41) dX12_readMouth_70 (by decide) ?_
      refine v_iconst X (v := 2) dX12_readMouth_72 (by decide) ?_
      refine v_aload_n X 1 dX12_readMouth_73 rfl rfl ?_
      refine v_getR X (T := TX12) (N := 26) (k := 6) hk23 (by decide) rfl (by decide) inX12 wd945 rfl dX12_readMouth_74 hr27 ?_
      refine v_iconst X (v := 3) dX12_readMouth_77 (by decide) ?_
      refine v_iald X hk24 hi25 dX12_readMouth_78 ?_
      refine v_imul X dX12_readMouth_79 ?_
      refine v_iadd X dX12_readMouth_80 ?_
      refine v_iconst X (v := 1) dX12_readMouth_81 (by decide) ?_
      refine v_iadd X dX12_readMouth_82 ?_
      refine v_iload_n X 0 dX12_readMouth_83 rfl rfl ?_
      obtain ⟨hi28, h⟩ := h
      refine v_iast X hk24 hi28 dX12_readMouth_84 ?_
      refine v_nmS (fun S29 eS29 => ?_)
      replace h := h S29 eS29
      have hk30 : hK S29 l0 = 11 := by rw [eS29]; exact hk23
      have hk31 : hK S29 r18 = 12 := by rw [eS29]; exact hk24
      have hi32 : vp_in (3 : Int32) (hN S29 r18) := by rw [eS29]; exact hi25
      have hi33 : vp_in ((41 : Int32) + ((2 : Int32) * (hI S14 r18 ((3 : Int32)).toNatClampNeg))) (hN S29 r18) := by rw [eS29]; exact hi26
      have hi34 : vp_in (((41 : Int32) + ((2 : Int32) * (hI S22 r18 ((3 : Int32)).toNatClampNeg))) + (1 : Int32)) (hN S29 r18) := by rw [eS29]; exact hi28
      have hr35 : hR S29 l0 6 = some r18 := by rw [eS29]; exact hr27
      refine v_aload_n X 1 dX12_readMouth_85 rfl rfl ?_
      refine v_getR X (T := TX12) (N := 26) (k := 6) hk30 (by decide) rfl (by decide) inX12 wd945 rfl dX12_readMouth_86 hr35 ?_
      refine v_iconst X (v := 3) dX12_readMouth_89 (by decide) ?_
      refine v_dup2 X dX12_readMouth_90 rfl rfl ?_
      refine v_iald X hk31 hi32 dX12_readMouth_91 ?_
      refine v_iconst X (v := 1) dX12_readMouth_92 (by decide) ?_
      refine v_iadd X dX12_readMouth_93 ?_
      refine v_iast X hk31 hi32 dX12_readMouth_94 ?_
      refine v_nmS (fun S36 eS36 => ?_)
      replace h := h S36 eS36
      have hk37 : hK S36 l0 = 11 := by rw [eS36]; exact hk30
      have hk38 : hK S36 r18 = 12 := by rw [eS36]; exact hk31
      have hi39 : vp_in (3 : Int32) (hN S36 r18) := by rw [eS36]; exact hi32
      have hi40 : vp_in ((41 : Int32) + ((2 : Int32) * (hI S14 r18 ((3 : Int32)).toNatClampNeg))) (hN S36 r18) := by rw [eS36]; exact hi33
      have hi41 : vp_in (((41 : Int32) + ((2 : Int32) * (hI S22 r18 ((3 : Int32)).toNatClampNeg))) + (1 : Int32)) (hN S36 r18) := by rw [eS36]; exact hi34
      have hr42 : hR S36 l0 6 = some r18 := by rw [eS36]; exact hr35
      exact v_vret X hr hlk ⟨rfl, h⟩ dX12_readMouth_95
  unfold wp_X12_readMouth at h
  show VM l b D cy 3 4 89 0 0 (pV Q) p e s m args below meth c S 0 0 0 [(0, .ref a0)] []
  refine v_aload_n X 0 dX12_readMouth_0 rfl rfl ?_
  obtain ⟨hk1, h⟩ := h
  refine v_getI X (T := TX12) (N := 26) (k := 14) hk1 (by decide) rfl (by decide) inX12 wd953 rfl dX12_readMouth_1 ?_
  refine v_callS X (av := [.int (hI S a0 14)]) (s_X12_kindBy l b D cy h) wd1099 wd1100 wd62 k_X12_kindBy dn_X12_kindBy rfl ⟨Nat.le_of_ble_eq_true rfl, Nat.le_of_ble_eq_true rfl⟩ (Nat.le_of_ble_eq_true rfl) ⟨Nat.le_of_ble_eq_true rfl, Nat.le_of_ble_eq_true rfl⟩ dX12_readMouth_4 rfl (kI (fun r3 S2 h => ?_))
  refine v_istore_n X (lv' := [(1, .int r3), (0, .ref a0)]) dX12_readMouth_7 rfl (by decide) rfl ?_
  refine v_aload_n X 1 dX12_readMouth_8 rfl rfl ?_
  obtain ⟨hk4, h⟩ := h
  obtain ⟨r5, hr5, h⟩ := h
  refine v_getR X (T := TX12) (N := 26) (k := 6) hk4 (by decide) rfl (by decide) inX12 wd945 rfl dX12_readMouth_9 hr5 ?_
  refine v_iconst X (v := 3) dX12_readMouth_12 (by decide) ?_
  obtain ⟨hk6, h⟩ := h
  obtain ⟨hi7, h⟩ := h
  refine v_iald X hk6 hi7 dX12_readMouth_13 ?_
  refine v_iconst X (v := 5) dX12_readMouth_14 (by decide) ?_
  refine v_icmp_ne X (tgt := 23) dX12_readMouth_15 (by decide) (fun c8 => ?_) (fun c8 => ?_)
  · replace h := h.1 c8
    refine v_lv (lv' := [(0, .ref a0), (1, .int r3)]) [1, 0] rfl ?_
    exact j23 _ _ _ h
  · replace h := h.2 c8
    refine v_aload_n X 1 dX12_readMouth_18 rfl rfl ?_
    refine v_iconst X (v := 3) dX12_readMouth_19 (by decide) ?_
    refine v_callV X (av := [.int (3 : Int32)]) (T := TX12) (N := 26) (s_X12_bad l b D cy h) hk4 (by decide) rfl wd1083 wd1085 wd25 wd62 k_X12_bad dn_X12_bad rfl ⟨Nat.le_of_ble_eq_true rfl, Nat.le_of_ble_eq_true rfl⟩ (Nat.le_of_ble_eq_true rfl) ⟨Nat.le_of_ble_eq_true rfl, Nat.le_of_ble_eq_true rfl⟩ dX12_readMouth_20 rfl (kV (fun S43 h => ?_))
    refine v_lv (lv' := [(0, .ref a0), (1, .int r3)]) [1, 0] rfl ?_
    exact j23 _ _ _ h
def wB_X12_street_139 (bk139 : hp → Nat → Int32 → Prop) (Q : Int32 → hp → Prop) (S : hp) (l0 : Nat) (l1 : Int32) : Prop :=
  (((147 : Int32) ≤ l1 → hK S l0 = 11 ∧ ∃ r45 : Nat, hR S l0 5 = some r45 ∧ hK S r45 = 12 ∧ vp_in (2 : Int32) (hN S r45) ∧ Q (hI S r45 ((2 : Int32)).toNatClampNeg) S) ∧ (¬ (147 : Int32) ≤ l1 → hK S l0 = 11 ∧ ∃ r49 : Nat, hR S l0 5 = some r49 ∧ ∃ r50 : Nat, hR S l0 6 = some r50 ∧ hK S r50 = 12 ∧ vp_in l1 (hN S r50) ∧ hK S r49 = 12 ∧ vp_in l1 (hN S r49) ∧ ∀ S55 : hp, S55 = setI S r49 (l1).toNatClampNeg (hI S r50 (l1).toNatClampNeg) → ∀ v63 : Int32, v63 = l1 + (1 : Int32) → bk139 S55 l0 v63))
def wl_X12_street_139 (Q : Int32 → hp → Prop) : Nat → hp → Nat → Int32 → Prop
  | 0 => fun _ _ _ => False
  | n + 1 => wB_X12_street_139 (wl_X12_street_139 Q n) Q
def wB_X12_street_117 (Q : Int32 → hp → Prop) (S : hp) (l0 : Nat) : Prop :=
  hK S l0 = 11 ∧ wp_X12_failed (fun r38 S36 => ((r38 = 0 → hK S36 l0 = 11 ∧ ∀ S41 : hp, S41 = setI S36 l0 8 (0 : Int32) → ∃ n : Nat, wl_X12_street_139 Q n S41 l0 (0 : Int32)) ∧ (¬ r38 = 0 → hK S36 l0 = 11 ∧ Q ((-1000100 : Int32) - (hI S36 l0 16)) S36))) S l0
def wB_X12_street_83 (bk83 : hp → Nat → Prop) (Q : Int32 → hp → Prop) (S : hp) (l0 : Nat) : Prop :=
  hK S l0 = 11 ∧ ((¬ (hI S l0 15) = 0 → wB_X12_street_117 Q S l0) ∧ ((hI S l0 15) = 0 → ((¬ (hI S l0 13) = (2 : Int32) → wB_X12_street_117 Q S l0) ∧ ((hI S l0 13) = (2 : Int32) → wp_X12_kindBy (fun r67 S66 => ((r67 = (-1000000 : Int32) → wB_X12_street_117 Q S66 l0) ∧ (¬ r67 = (-1000000 : Int32) → hK S66 l0 = 11 ∧ wp_X12_readMouth (fun S69 => bk83 S69 l0) S66 l0))) S ((hI S l0 14))))))
def wl_X12_street_83 (Q : Int32 → hp → Prop) : Nat → hp → Nat → Prop
  | 0 => fun _ _ => False
  | n + 1 => wB_X12_street_83 (wl_X12_street_83 Q n) Q
def wB_X12_street_67 (bk67 : hp → Nat → Prop) (Q : Int32 → hp → Prop) (S : hp) (l0 : Nat) : Prop :=
  hK S l0 = 11 ∧ wp_X12_isLetter (fun r32 S30 => ((r32 = 0 → ∃ n : Nat, wl_X12_street_83 Q n S30 l0) ∧ (¬ r32 = 0 → hK S30 l0 = 11 ∧ wp_X12_readDummy (fun S71 => bk67 S71 l0) S30 l0))) S l0 (100 : Int32)
def wl_X12_street_67 (Q : Int32 → hp → Prop) : Nat → hp → Nat → Prop
  | 0 => fun _ _ => False
  | n + 1 => wB_X12_street_67 (wl_X12_street_67 Q n) Q
def wB_X12_street_11 (bk11 : hp → Nat → Int32 → Prop) (Q : Int32 → hp → Prop) (S : hp) (l0 : Nat) (l1 : Int32) : Prop :=
  (((147 : Int32) ≤ l1 → hK S l0 = 11 ∧ ∃ r7 : Nat, hR S l0 6 = some r7 ∧ hK S r7 = 12 ∧ vp_in (0 : Int32) (hN S r7) ∧ ∀ S10 : hp, S10 = setI S r7 ((0 : Int32)).toNatClampNeg (1 : Int32) → wp_X12_isLetter (fun r16 S15 => hK S15 l0 = 11 ∧ wp_X12_must (fun S17 => hK S17 l0 = 11 ∧ ∃ r20 : Nat, hR S17 l0 6 = some r20 ∧ wp_X12_number (fun r22 S21 => hK S21 r20 = 12 ∧ vp_in (1 : Int32) (hN S21 r20) ∧ ∀ S25 : hp, S25 = setI S21 r20 ((1 : Int32)).toNatClampNeg r22 → hK S25 l0 = 11 ∧ wp_X12_mustSign (fun S28 => ∃ n : Nat, wl_X12_street_67 Q n S28 l0) S25 l0 (59 : Int32)) S17 l0 (2 : Int32) (20 : Int32)) S15 l0 r16) S10 l0 (119 : Int32)) ∧ (¬ (147 : Int32) ≤ l1 → hK S l0 = 11 ∧ ∃ r74 : Nat, hR S l0 6 = some r74 ∧ hK S r74 = 12 ∧ vp_in l1 (hN S r74) ∧ ∀ S77 : hp, S77 = setI S r74 (l1).toNatClampNeg (0 : Int32) → ∀ v82 : Int32, v82 = l1 + (1 : Int32) → bk11 S77 l0 v82))
def wl_X12_street_11 (Q : Int32 → hp → Prop) : Nat → hp → Nat → Int32 → Prop
  | 0 => fun _ _ _ => False
  | n + 1 => wB_X12_street_11 (wl_X12_street_11 Q n) Q
def wp_X12_street (Q : Int32 → hp → Prop) (S : hp) (a0 : Nat) : Prop :=
  hK S a0 = 11 ∧ ∀ S2 : hp, S2 = setI S a0 0 (0 : Int32) → wp_X12_begin (fun S4 => ∃ n : Nat, wl_X12_street_11 Q n S4 a0 (0 : Int32)) S2 a0
theorem k_X12_street : Cond.code yX12_street cX12_street 2 (some .int) ∈ gtb := mg 1061 (by decide +kernel) (by decide +kernel)
theorem dn_X12_street : yX12_street.cls ≠ "java/lang/invoke/MethodHandle" ∧ yX12_street.cls ≠ "java/lang/invoke/VarHandle" ∧ (parseMethodDescriptor yX12_street.desc).map (fun d => d.parameters.length) = some 0 := by decide +kernel
set_option maxRecDepth 100000 in
set_option maxHeartbeats 4000000 in
theorem s_X12_street (l : Launch) (b : Nat) (D : va_G) (cy : Nat → ClassId) {Q : Int32 → hp → Prop} {S : hp} {a0 : Nat} (h : wp_X12_street Q S a0) : MT l yX12_street cX12_street 2 (some .int) 5 114 0 0 b D cy S [.ref a0] (pI Q) := by
  refine MT.of (by decide +kernel) (Nat.le_of_ble_eq_true rfl) ?_
  intro p e s m args below meth c X hr hlk hnm
  have j139 : ∀ (bk139 : hp → Nat → Int32 → Prop) (hbk139 : ∀ (S : hp) (l0 : Nat) (l1 : Int32), bk139 S l0 l1 → VM l b D cy 2 5 114 0 0 (pI Q) p e s m args below meth c S 0 0 139 [(0, .ref l0), (1, .int l1)] []) (S : hp) (l0 : Nat) (l1 : Int32), wB_X12_street_139 bk139 Q S l0 l1 → VM l b D cy 2 5 114 0 0 (pI Q) p e s m args below meth c S 0 0 139 [(0, .ref l0), (1, .int l1)] [] := by
    intro bk139 hbk139 S l0 l1 h
    unfold wB_X12_street_139 at h
    refine v_iload_n X 1 dX12_street_139 rfl rfl ?_
    refine v_sipush X (v := 147) dX12_street_140 (by decide) ?_
    refine v_icmp_ge X (tgt := 164) dX12_street_143 (by decide) (fun c43 => ?_) (fun c43 => ?_)
    · replace h := h.1 c43
      refine v_aload_n X 0 dX12_street_164 rfl rfl ?_
      obtain ⟨hk44, h⟩ := h
      obtain ⟨r45, hr45, h⟩ := h
      refine v_getR X (T := TX12) (N := 26) (k := 5) hk44 (by decide) rfl (by decide) inX12 wd944 rfl dX12_street_165 hr45 ?_
      refine v_iconst X (v := 2) dX12_street_168 (by decide) ?_
      obtain ⟨hk46, h⟩ := h
      obtain ⟨hi47, h⟩ := h
      refine v_iald X hk46 hi47 dX12_street_169 ?_
      exact v_iret X hr hlk ⟨_, rfl, h⟩ dX12_street_170
    · replace h := h.2 c43
      refine v_aload_n X 0 dX12_street_146 rfl rfl ?_
      obtain ⟨hk48, h⟩ := h
      obtain ⟨r49, hr49, h⟩ := h
      refine v_getR X (T := TX12) (N := 26) (k := 5) hk48 (by decide) rfl (by decide) inX12 wd944 rfl dX12_street_147 hr49 ?_
      refine v_iload_n X 1 dX12_street_150 rfl rfl ?_
      refine v_aload_n X 0 dX12_street_151 rfl rfl ?_
      obtain ⟨r50, hr50, h⟩ := h
      refine v_getR X (T := TX12) (N := 26) (k := 6) hk48 (by decide) rfl (by decide) inX12 wd945 rfl dX12_street_152 hr50 ?_
      refine v_iload_n X 1 dX12_street_155 rfl rfl ?_
      obtain ⟨hk51, h⟩ := h
      obtain ⟨hi52, h⟩ := h
      refine v_iald X hk51 hi52 dX12_street_156 ?_
      obtain ⟨hk53, h⟩ := h
      obtain ⟨hi54, h⟩ := h
      refine v_iast X hk53 hi54 dX12_street_157 ?_
      refine v_nmS (fun S55 eS55 => ?_)
      replace h := h S55 eS55
      have hk56 : hK S55 l0 = 11 := by rw [eS55]; exact hk48
      have hk57 : hK S55 r50 = 12 := by rw [eS55]; exact hk51
      have hk58 : hK S55 r49 = 12 := by rw [eS55]; exact hk53
      have hi59 : vp_in l1 (hN S55 r50) := by rw [eS55]; exact hi52
      have hi60 : vp_in l1 (hN S55 r49) := by rw [eS55]; exact hi54
      have hr61 : hR S55 l0 5 = some r49 := by rw [eS55]; exact hr49
      have hr62 : hR S55 l0 6 = some r50 := by rw [eS55]; exact hr50
      obtain ⟨v63, hv63⟩ : ∃ y : Int32, y = l1 + (1 : Int32) := ⟨_, rfl⟩
      replace h := h v63 hv63
      refine v_iinc X (j := 1) (v := v63) (lv' := [(1, .int v63), (0, .ref l0)]) dX12_street_158 rfl (by rw [hv63] <;> rfl) (by decide) rfl ?_
      refine v_goto X (tgt := 139) dX12_street_161 (by decide) ?_
      refine v_lv (lv' := [(0, .ref l0), (1, .int v63)]) [1, 0] rfl ?_
      exact hbk139 _ _ _ h
  have l139 : ∀  (n : Nat) (S : hp) (l0 : Nat) (l1 : Int32), wl_X12_street_139 Q n S l0 l1 → VM l b D cy 2 5 114 0 0 (pI Q) p e s m args below meth c S 0 0 139 [(0, .ref l0), (1, .int l1)] [] := by
    intro  n
    induction n with
    | zero => intro S l0 l1 h; exact h.elim
    | succ n ih => intro S l0 l1 h; exact j139 (wl_X12_street_139 Q n) ih S l0 l1 h
  have j117 : ∀  (S : hp) (l0 : Nat), wB_X12_street_117 Q S l0 → VM l b D cy 2 5 114 0 0 (pI Q) p e s m args below meth c S 0 0 117 [(0, .ref l0)] [] := by
    intro  S l0 h
    unfold wB_X12_street_117 at h
    refine v_aload_n X 0 dX12_street_117 rfl rfl ?_
    obtain ⟨hk37, h⟩ := h
    refine v_callV X (av := []) (T := TX12) (N := 26) (s_X12_failed l b D cy h) hk37 (by decide) rfl wd1106 wd1108 wd30 wd62 k_X12_failed dn_X12_failed rfl ⟨Nat.le_of_ble_eq_true rfl, Nat.le_of_ble_eq_true rfl⟩ (Nat.le_of_ble_eq_true rfl) ⟨Nat.le_of_ble_eq_true rfl, Nat.le_of_ble_eq_true rfl⟩ dX12_street_118 rfl (kI (fun r38 S36 h => ?_))
    refine v_if_eq X (tgt := 132) dX12_street_121 (by decide) (fun c39 => ?_) (fun c39 => ?_)
    · replace h := h.1 c39
      refine v_aload_n X 0 dX12_street_132 rfl rfl ?_
      refine v_iconst X (v := 0) dX12_street_133 (by decide) ?_
      obtain ⟨hk40, h⟩ := h
      refine v_putI X (T := TX12) (N := 26) (k := 8) hk40 (by decide) rfl (by decide) inX12 wd947 tyX12 tyX12_ok nmX12 rfl rfl rfl rfl dX12_street_134 ?_
      refine v_nmS (fun S41 eS41 => ?_)
      replace h := h S41 eS41
      have hk42 : hK S41 l0 = 11 := by rw [eS41]; exact hk40
      refine v_iconst X (v := 0) dX12_street_137 (by decide) ?_
      refine v_istore_n X (lv' := [(1, .int (0 : Int32)), (0, .ref l0)]) dX12_street_138 rfl (by decide) rfl ?_
      refine v_lv (lv' := [(0, .ref l0), (1, .int (0 : Int32))]) [1, 0] rfl ?_
      obtain ⟨n, h⟩ := h
      exact l139 n _ _ _ h
    · replace h := h.2 c39
      refine v_ldc X wd1110 dX12_street_124 ?_
      refine v_aload_n X 0 dX12_street_126 rfl rfl ?_
      obtain ⟨hk64, h⟩ := h
      refine v_getI X (T := TX12) (N := 26) (k := 16) hk64 (by decide) rfl (by decide) inX12 wd955 rfl dX12_street_127 ?_
      refine v_isub X dX12_street_130 ?_
      exact v_iret X hr hlk ⟨_, rfl, h⟩ dX12_street_131
  have j83 : ∀ (bk83 : hp → Nat → Prop) (hbk83 : ∀ (S : hp) (l0 : Nat), bk83 S l0 → VM l b D cy 2 5 114 0 0 (pI Q) p e s m args below meth c S 0 0 83 [(0, .ref l0)] []) (S : hp) (l0 : Nat), wB_X12_street_83 bk83 Q S l0 → VM l b D cy 2 5 114 0 0 (pI Q) p e s m args below meth c S 0 0 83 [(0, .ref l0)] [] := by
    intro bk83 hbk83 S l0 h
    unfold wB_X12_street_83 at h
    refine v_aload_n X 0 dX12_street_83 rfl rfl ?_
    obtain ⟨hk34, h⟩ := h
    refine v_getI X (T := TX12) (N := 26) (k := 15) hk34 (by decide) rfl (by decide) inX12 wd954 rfl dX12_street_84 ?_
    refine v_if_ne X (tgt := 117) dX12_street_87 (by decide) (fun c35 => ?_) (fun c35 => ?_)
    · replace h := h.1 c35
      exact j117 _ _ h
    · replace h := h.2 c35
      refine v_aload_n X 0 dX12_street_90 rfl rfl ?_
      refine v_getI X (T := TX12) (N := 26) (k := 13) hk34 (by decide) rfl (by decide) inX12 wd952 rfl dX12_street_91 ?_
      refine v_iconst X (v := 2) dX12_street_94 (by decide) ?_
      refine v_icmp_ne X (tgt := 117) dX12_street_95 (by decide) (fun c65 => ?_) (fun c65 => ?_)
      · replace h := h.1 c65
        exact j117 _ _ h
      · replace h := h.2 c65
        refine v_aload_n X 0 dX12_street_98 rfl rfl ?_
        refine v_getI X (T := TX12) (N := 26) (k := 14) hk34 (by decide) rfl (by decide) inX12 wd953 rfl dX12_street_99 ?_
        refine v_callS X (av := [.int (hI S l0 14)]) (s_X12_kindBy l b D cy h) wd1099 wd1100 wd62 k_X12_kindBy dn_X12_kindBy rfl ⟨Nat.le_of_ble_eq_true rfl, Nat.le_of_ble_eq_true rfl⟩ (Nat.le_of_ble_eq_true rfl) ⟨Nat.le_of_ble_eq_true rfl, Nat.le_of_ble_eq_true rfl⟩ dX12_street_102 rfl (kI (fun r67 S66 h => ?_))
        refine v_ldc X wd1070 dX12_street_105 ?_
        refine v_icmp_eq X (tgt := 117) dX12_street_107 (by decide) (fun c68 => ?_) (fun c68 => ?_)
        · replace h := h.1 c68
          exact j117 _ _ h
        · replace h := h.2 c68
          refine v_aload_n X 0 dX12_street_110 rfl rfl ?_
          obtain ⟨hk70, h⟩ := h
          refine v_callV X (av := []) (T := TX12) (N := 26) (s_X12_readMouth l b D cy h) hk70 (by decide) rfl wd1102 wd1104 wd29 wd62 k_X12_readMouth dn_X12_readMouth rfl ⟨Nat.le_of_ble_eq_true rfl, Nat.le_of_ble_eq_true rfl⟩ (Nat.le_of_ble_eq_true rfl) ⟨Nat.le_of_ble_eq_true rfl, Nat.le_of_ble_eq_true rfl⟩ dX12_street_111 rfl (kV (fun S69 h => ?_))
          refine v_goto X (tgt := 83) dX12_street_114 (by decide) ?_
          exact hbk83 _ _ h
  have l83 : ∀  (n : Nat) (S : hp) (l0 : Nat), wl_X12_street_83 Q n S l0 → VM l b D cy 2 5 114 0 0 (pI Q) p e s m args below meth c S 0 0 83 [(0, .ref l0)] [] := by
    intro  n
    induction n with
    | zero => intro S l0 h; exact h.elim
    | succ n ih => intro S l0 h; exact j83 (wl_X12_street_83 Q n) ih S l0 h
  have j67 : ∀ (bk67 : hp → Nat → Prop) (hbk67 : ∀ (S : hp) (l0 : Nat), bk67 S l0 → VM l b D cy 2 5 114 0 0 (pI Q) p e s m args below meth c S 0 0 67 [(0, .ref l0)] []) (S : hp) (l0 : Nat), wB_X12_street_67 bk67 Q S l0 → VM l b D cy 2 5 114 0 0 (pI Q) p e s m args below meth c S 0 0 67 [(0, .ref l0)] [] := by
    intro bk67 hbk67 S l0 h
    unfold wB_X12_street_67 at h
    refine v_aload_n X 0 dX12_street_67 rfl rfl ?_
    refine v_bipush X (v := 100) dX12_street_68 (by decide) ?_
    obtain ⟨hk31, h⟩ := h
    refine v_callV X (av := [.int (100 : Int32)]) (T := TX12) (N := 26) (s_X12_isLetter l b D cy h) hk31 (by decide) rfl wd1075 wd1077 wd23 wd62 k_X12_isLetter dn_X12_isLetter rfl ⟨Nat.le_of_ble_eq_true rfl, Nat.le_of_ble_eq_true rfl⟩ (Nat.le_of_ble_eq_true rfl) ⟨Nat.le_of_ble_eq_true rfl, Nat.le_of_ble_eq_true rfl⟩ dX12_street_70 rfl (kI (fun r32 S30 h => ?_))
    refine v_if_eq X (tgt := 83) dX12_street_73 (by decide) (fun c33 => ?_) (fun c33 => ?_)
    · replace h := h.1 c33
      obtain ⟨n, h⟩ := h
      exact l83 n _ _ h
    · replace h := h.2 c33
      refine v_aload_n X 0 dX12_street_76 rfl rfl ?_
      obtain ⟨hk72, h⟩ := h
      refine v_callV X (av := []) (T := TX12) (N := 26) (s_X12_readDummy l b D cy h) hk72 (by decide) rfl wd1095 wd1097 wd28 wd62 k_X12_readDummy dn_X12_readDummy rfl ⟨Nat.le_of_ble_eq_true rfl, Nat.le_of_ble_eq_true rfl⟩ (Nat.le_of_ble_eq_true rfl) ⟨Nat.le_of_ble_eq_true rfl, Nat.le_of_ble_eq_true rfl⟩ dX12_street_77 rfl (kV (fun S71 h => ?_))
      refine v_goto X (tgt := 67) dX12_street_80 (by decide) ?_
      exact hbk67 _ _ h
  have l67 : ∀  (n : Nat) (S : hp) (l0 : Nat), wl_X12_street_67 Q n S l0 → VM l b D cy 2 5 114 0 0 (pI Q) p e s m args below meth c S 0 0 67 [(0, .ref l0)] [] := by
    intro  n
    induction n with
    | zero => intro S l0 h; exact h.elim
    | succ n ih => intro S l0 h; exact j67 (wl_X12_street_67 Q n) ih S l0 h
  have j11 : ∀ (bk11 : hp → Nat → Int32 → Prop) (hbk11 : ∀ (S : hp) (l0 : Nat) (l1 : Int32), bk11 S l0 l1 → VM l b D cy 2 5 114 0 0 (pI Q) p e s m args below meth c S 0 0 11 [(0, .ref l0), (1, .int l1)] []) (S : hp) (l0 : Nat) (l1 : Int32), wB_X12_street_11 bk11 Q S l0 l1 → VM l b D cy 2 5 114 0 0 (pI Q) p e s m args below meth c S 0 0 11 [(0, .ref l0), (1, .int l1)] [] := by
    intro bk11 hbk11 S l0 l1 h
    unfold wB_X12_street_11 at h
    refine v_iload_n X 1 dX12_street_11 rfl rfl ?_
    refine v_sipush X (v := 147) dX12_street_12 (by decide) ?_
    refine v_icmp_ge X (tgt := 31) dX12_street_15 (by decide) (fun c5 => ?_) (fun c5 => ?_)
    · replace h := h.1 c5
      refine v_aload_n X 0 dX12_street_31 rfl rfl ?_
      obtain ⟨hk6, h⟩ := h
      obtain ⟨r7, hr7, h⟩ := h
      refine v_getR X (T := TX12) (N := 26) (k := 6) hk6 (by decide) rfl (by decide) inX12 wd945 rfl dX12_street_32 hr7 ?_
      refine v_iconst X (v := 0) dX12_street_35 (by decide) ?_
      refine v_iconst X (v := 1) dX12_street_36 (by decide) ?_
      obtain ⟨hk8, h⟩ := h
      obtain ⟨hi9, h⟩ := h
      refine v_iast X hk8 hi9 dX12_street_37 ?_
      refine v_nmS (fun S10 eS10 => ?_)
      replace h := h S10 eS10
      have hk11 : hK S10 l0 = 11 := by rw [eS10]; exact hk6
      have hk12 : hK S10 r7 = 12 := by rw [eS10]; exact hk8
      have hi13 : vp_in (0 : Int32) (hN S10 r7) := by rw [eS10]; exact hi9
      have hr14 : hR S10 l0 6 = some r7 := by rw [eS10]; exact hr7
      refine v_aload_n X 0 dX12_street_38 rfl rfl ?_
      refine v_aload_n X 0 dX12_street_39 rfl rfl ?_
      refine v_bipush X (v := 119) dX12_street_40 (by decide) ?_
      refine v_callV X (av := [.int (119 : Int32)]) (T := TX12) (N := 26) (s_X12_isLetter l b D cy h) hk11 (by decide) rfl wd1075 wd1077 wd23 wd62 k_X12_isLetter dn_X12_isLetter rfl ⟨Nat.le_of_ble_eq_true rfl, Nat.le_of_ble_eq_true rfl⟩ (Nat.le_of_ble_eq_true rfl) ⟨Nat.le_of_ble_eq_true rfl, Nat.le_of_ble_eq_true rfl⟩ dX12_street_42 rfl (kI (fun r16 S15 h => ?_))
      obtain ⟨hk18, h⟩ := h
      refine v_callV X (av := [.int r16]) (T := TX12) (N := 26) (s_X12_must l b D cy h) hk18 (by decide) rfl wd1079 wd1081 wd24 wd62 k_X12_must dn_X12_must rfl ⟨Nat.le_of_ble_eq_true rfl, Nat.le_of_ble_eq_true rfl⟩ (Nat.le_of_ble_eq_true rfl) ⟨Nat.le_of_ble_eq_true rfl, Nat.le_of_ble_eq_true rfl⟩ dX12_street_45 rfl (kV (fun S17 h => ?_))
      refine v_aload_n X 0 dX12_street_48 rfl rfl ?_
      obtain ⟨hk19, h⟩ := h
      obtain ⟨r20, hr20, h⟩ := h
      refine v_getR X (T := TX12) (N := 26) (k := 6) hk19 (by decide) rfl (by decide) inX12 wd945 rfl dX12_street_49 hr20 ?_
      refine v_iconst X (v := 1) dX12_street_52 (by decide) ?_
      refine v_aload_n X 0 dX12_street_53 rfl rfl ?_
      refine v_iconst X (v := 2) dX12_street_54 (by decide) ?_
      refine v_bipush X (v := 20) dX12_street_55 (by decide) ?_
      refine v_callV X (av := [.int (2 : Int32), .int (20 : Int32)]) (T := TX12) (N := 26) (s_X12_number l b D cy h) hk19 (by decide) rfl wd1087 wd1089 wd26 wd62 k_X12_number dn_X12_number rfl ⟨Nat.le_of_ble_eq_true rfl, Nat.le_of_ble_eq_true rfl⟩ (Nat.le_of_ble_eq_true rfl) ⟨Nat.le_of_ble_eq_true rfl, Nat.le_of_ble_eq_true rfl⟩ dX12_street_57 rfl (kI (fun r22 S21 h => ?_))
      obtain ⟨hk23, h⟩ := h
      obtain ⟨hi24, h⟩ := h
      refine v_iast X hk23 hi24 dX12_street_60 ?_
      refine v_nmS (fun S25 eS25 => ?_)
      replace h := h S25 eS25
      have hk26 : hK S25 r20 = 12 := by rw [eS25]; exact hk23
      have hi27 : vp_in (1 : Int32) (hN S25 r20) := by rw [eS25]; exact hi24
      refine v_aload_n X 0 dX12_street_61 rfl rfl ?_
      refine v_bipush X (v := 59) dX12_street_62 (by decide) ?_
      obtain ⟨hk29, h⟩ := h
      refine v_callV X (av := [.int (59 : Int32)]) (T := TX12) (N := 26) (s_X12_mustSign l b D cy h) hk29 (by decide) rfl wd1091 wd1093 wd27 wd62 k_X12_mustSign dn_X12_mustSign rfl ⟨Nat.le_of_ble_eq_true rfl, Nat.le_of_ble_eq_true rfl⟩ (Nat.le_of_ble_eq_true rfl) ⟨Nat.le_of_ble_eq_true rfl, Nat.le_of_ble_eq_true rfl⟩ dX12_street_64 rfl (kV (fun S28 h => ?_))
      refine v_lv (lv' := [(0, .ref l0)]) [0] rfl ?_
      obtain ⟨n, h⟩ := h
      exact l67 n _ _ h
    · replace h := h.2 c5
      refine v_aload_n X 0 dX12_street_18 rfl rfl ?_
      obtain ⟨hk73, h⟩ := h
      obtain ⟨r74, hr74, h⟩ := h
      refine v_getR X (T := TX12) (N := 26) (k := 6) hk73 (by decide) rfl (by decide) inX12 wd945 rfl dX12_street_19 hr74 ?_
      refine v_iload_n X 1 dX12_street_22 rfl rfl ?_
      refine v_iconst X (v := 0) dX12_street_23 (by decide) ?_
      obtain ⟨hk75, h⟩ := h
      obtain ⟨hi76, h⟩ := h
      refine v_iast X hk75 hi76 dX12_street_24 ?_
      refine v_nmS (fun S77 eS77 => ?_)
      replace h := h S77 eS77
      have hk78 : hK S77 l0 = 11 := by rw [eS77]; exact hk73
      have hk79 : hK S77 r74 = 12 := by rw [eS77]; exact hk75
      have hi80 : vp_in l1 (hN S77 r74) := by rw [eS77]; exact hi76
      have hr81 : hR S77 l0 6 = some r74 := by rw [eS77]; exact hr74
      obtain ⟨v82, hv82⟩ : ∃ y : Int32, y = l1 + (1 : Int32) := ⟨_, rfl⟩
      replace h := h v82 hv82
      refine v_iinc X (j := 1) (v := v82) (lv' := [(1, .int v82), (0, .ref l0)]) dX12_street_25 rfl (by rw [hv82] <;> rfl) (by decide) rfl ?_
      refine v_goto X (tgt := 11) dX12_street_28 (by decide) ?_
      refine v_lv (lv' := [(0, .ref l0), (1, .int v82)]) [1, 0] rfl ?_
      exact hbk11 _ _ _ h
  have l11 : ∀  (n : Nat) (S : hp) (l0 : Nat) (l1 : Int32), wl_X12_street_11 Q n S l0 l1 → VM l b D cy 2 5 114 0 0 (pI Q) p e s m args below meth c S 0 0 11 [(0, .ref l0), (1, .int l1)] [] := by
    intro  n
    induction n with
    | zero => intro S l0 l1 h; exact h.elim
    | succ n ih => intro S l0 l1 h; exact j11 (wl_X12_street_11 Q n) ih S l0 l1 h
  unfold wp_X12_street at h
  show VM l b D cy 2 5 114 0 0 (pI Q) p e s m args below meth c S 0 0 0 [(0, .ref a0)] []
  refine v_aload_n X 0 dX12_street_0 rfl rfl ?_
  refine v_iconst X (v := 0) dX12_street_1 (by decide) ?_
  obtain ⟨hk1, h⟩ := h
  refine v_putI X (T := TX12) (N := 26) (k := 0) hk1 (by decide) rfl (by decide) inX12 wd939 tyX12 tyX12_ok nmX12 rfl rfl rfl rfl dX12_street_2 ?_
  refine v_nmS (fun S2 eS2 => ?_)
  replace h := h S2 eS2
  have hk3 : hK S2 a0 = 11 := by rw [eS2]; exact hk1
  refine v_aload_n X 0 dX12_street_5 rfl rfl ?_
  refine v_callV X (av := []) (T := TX12) (N := 26) (s_X12_begin l b D cy h) hk3 (by decide) rfl wd1062 wd1064 wd21 wd62 k_X12_begin dn_X12_begin rfl ⟨Nat.le_of_ble_eq_true rfl, Nat.le_of_ble_eq_true rfl⟩ (Nat.le_of_ble_eq_true rfl) ⟨Nat.le_of_ble_eq_true rfl, Nat.le_of_ble_eq_true rfl⟩ dX12_street_6 rfl (kV (fun S4 h => ?_))
  refine v_iconst X (v := 0) dX12_street_9 (by decide) ?_
  refine v_istore_n X (lv' := [(1, .int (0 : Int32)), (0, .ref a0)]) dX12_street_10 rfl (by decide) rfl ?_
  refine v_lv (lv' := [(0, .ref a0), (1, .int (0 : Int32))]) [1, 0] rfl ?_
  obtain ⟨n, h⟩ := h
  exact l11 n _ _ _ h
def wp_X12_isThere (Q : Int32 → hp → Prop) (S : hp) (a0 : Nat) : Prop :=
  hK S a0 = 11 ∧ ∃ r2 : Nat, hR S a0 5 = some r2 ∧ hK S r2 = 12 ∧ vp_in (0 : Int32) (hN S r2) ∧ ((¬ (hI S r2 ((0 : Int32)).toNatClampNeg) = (1 : Int32) → Q (0 : Int32) S) ∧ ((hI S r2 ((0 : Int32)).toNatClampNeg) = (1 : Int32) → Q (1 : Int32) S))
theorem k_X12_isThere : Cond.code yX12_isThere cX12_isThere 1 (some .boolean) ∈ gtb := mg 1153 (by decide +kernel) (by decide +kernel)
theorem dn_X12_isThere : yX12_isThere.cls ≠ "java/lang/invoke/MethodHandle" ∧ yX12_isThere.cls ≠ "java/lang/invoke/VarHandle" ∧ (parseMethodDescriptor yX12_isThere.desc).map (fun d => d.parameters.length) = some 0 := by decide +kernel
set_option maxRecDepth 100000 in
set_option maxHeartbeats 4000000 in
theorem s_X12_isThere (l : Launch) (b : Nat) (D : va_G) (cy : Nat → ClassId) {Q : Int32 → hp → Prop} {S : hp} {a0 : Nat} (h : wp_X12_isThere Q S a0) : MT l yX12_isThere cX12_isThere 1 (some .boolean) 0 0 0 0 b D cy S [.ref a0] (pI Q) := by
  refine MT.of (by decide +kernel) (Nat.le_of_ble_eq_true rfl) ?_
  intro p e s m args below meth c X hr hlk hnm
  unfold wp_X12_isThere at h
  show VM l b D cy 1 0 0 0 0 (pI Q) p e s m args below meth c S 0 0 0 [(0, .ref a0)] []
  refine v_aload_n X 0 dX12_isThere_0 rfl rfl ?_
  obtain ⟨hk1, h⟩ := h
  obtain ⟨r2, hr2, h⟩ := h
  refine v_getR X (T := TX12) (N := 26) (k := 5) hk1 (by decide) rfl (by decide) inX12 wd944 rfl dX12_isThere_1 hr2 ?_
  refine v_iconst X (v := 0) dX12_isThere_4 (by decide) ?_
  obtain ⟨hk3, h⟩ := h
  obtain ⟨hi4, h⟩ := h
  refine v_iald X hk3 hi4 dX12_isThere_5 ?_
  refine v_iconst X (v := 1) dX12_isThere_6 (by decide) ?_
  refine v_icmp_ne X (tgt := 14) dX12_isThere_7 (by decide) (fun c5 => ?_) (fun c5 => ?_)
  · replace h := h.1 c5
    refine v_iconst X (v := 0) dX12_isThere_14 (by decide) ?_
    exact v_zret X hr (by decide) hlk ⟨_, rfl, h⟩ dX12_isThere_15
  · replace h := h.2 c5
    refine v_iconst X (v := 1) dX12_isThere_10 (by decide) ?_
    refine v_goto X (tgt := 15) dX12_isThere_11 (by decide) ?_
    exact v_zret X hr (by decide) hlk ⟨_, rfl, h⟩ dX12_isThere_15
def wp_X12_isDummy (Q : Int32 → hp → Prop) (S : hp) (a0 : Nat) (x1 : Int32) : Prop :=
  hK S a0 = 11 ∧ ∃ r2 : Nat, hR S a0 5 = some r2 ∧ hK S r2 = 12 ∧ vp_in (2 : Int32) (hN S r2) ∧ wp_X12_in (fun r6 S5 => isZ r6 ∧ Q r6 S5) S ((x1).toInt64) ((0 : Int64)) ((((hI S r2 ((2 : Int32)).toNatClampNeg) - (1 : Int32))).toInt64)
theorem k_X12_isDummy : Cond.code yX12_isDummy cX12_isDummy 2 (some .boolean) ∈ gtb := mg 1122 (by decide +kernel) (by decide +kernel)
theorem dn_X12_isDummy : yX12_isDummy.cls ≠ "java/lang/invoke/MethodHandle" ∧ yX12_isDummy.cls ≠ "java/lang/invoke/VarHandle" ∧ (parseMethodDescriptor yX12_isDummy.desc).map (fun d => d.parameters.length) = some 1 := by decide +kernel
set_option maxRecDepth 100000 in
set_option maxHeartbeats 4000000 in
theorem s_X12_isDummy (l : Launch) (b : Nat) (D : va_G) (cy : Nat → ClassId) {Q : Int32 → hp → Prop} {S : hp} {a0 : Nat} {x1 : Int32} (h : wp_X12_isDummy Q S a0 x1) : MT l yX12_isDummy cX12_isDummy 2 (some .boolean) 1 25 0 0 b D cy S [.ref a0, .int x1] (pI Q) := by
  refine MT.of (by decide +kernel) (Nat.le_of_ble_eq_true rfl) ?_
  intro p e s m args below meth c X hr hlk hnm
  unfold wp_X12_isDummy at h
  show VM l b D cy 2 1 25 0 0 (pI Q) p e s m args below meth c S 0 0 0 [(0, .ref a0), (1, .int x1)] []
  refine v_iload_n X 1 dX12_isDummy_0 rfl rfl ?_
  refine v_i2l X dX12_isDummy_1 ?_
  refine v_lconst X (v := 0) dX12_isDummy_2 (by decide) ?_
  refine v_aload_n X 0 dX12_isDummy_3 rfl rfl ?_
  obtain ⟨hk1, h⟩ := h
  obtain ⟨r2, hr2, h⟩ := h
  refine v_getR X (T := TX12) (N := 26) (k := 5) hk1 (by decide) rfl (by decide) inX12 wd944 rfl dX12_isDummy_4 hr2 ?_
  refine v_iconst X (v := 2) dX12_isDummy_7 (by decide) ?_
  obtain ⟨hk3, h⟩ := h
  obtain ⟨hi4, h⟩ := h
  refine v_iald X hk3 hi4 dX12_isDummy_8 ?_
  refine v_iconst X (v := 1) dX12_isDummy_9 (by decide) ?_
  refine v_isub X dX12_isDummy_10 ?_
  refine v_i2l X dX12_isDummy_11 ?_
  refine v_callS X (av := [.long (x1).toInt64, .long (0 : Int64), .long (((hI S r2 ((2 : Int32)).toNatClampNeg) - (1 : Int32))).toInt64]) (s_X12_in l b D cy h) wd1026 wd1027 wd62 k_X12_in dn_X12_in rfl ⟨Nat.le_of_ble_eq_true rfl, Nat.le_of_ble_eq_true rfl⟩ (Nat.le_of_ble_eq_true rfl) ⟨Nat.le_of_ble_eq_true rfl, Nat.le_of_ble_eq_true rfl⟩ dX12_isDummy_12 rfl (kI (fun r6 S5 h => ?_))
  obtain ⟨hz7, h⟩ := h
  exact v_zret X hr hz7 hlk ⟨_, rfl, h⟩ dX12_isDummy_15
def wp_X12_isPlace (Q : Int32 → hp → Prop) (S : hp) (x0 : Int32) : Prop :=
  wp_X12_in (fun r2 S1 => isZ r2 ∧ Q r2 S1) S ((x0).toInt64) ((0 : Int64)) ((2 : Int64))
theorem k_X12_isPlace : Cond.code yX12_isPlace cX12_isPlace 1 (some .boolean) ∈ gtb := mg 1125 (by decide +kernel) (by decide +kernel)
theorem dn_X12_isPlace : yX12_isPlace.cls ≠ "java/lang/invoke/MethodHandle" ∧ yX12_isPlace.cls ≠ "java/lang/invoke/VarHandle" ∧ (parseMethodDescriptor yX12_isPlace.desc).map (fun d => d.parameters.length) = some 1 := by decide +kernel
set_option maxRecDepth 100000 in
set_option maxHeartbeats 4000000 in
theorem s_X12_isPlace (l : Launch) (b : Nat) (D : va_G) (cy : Nat → ClassId) {Q : Int32 → hp → Prop} {S : hp} {x0 : Int32} (h : wp_X12_isPlace Q S x0) : MT l yX12_isPlace cX12_isPlace 1 (some .boolean) 1 25 0 0 b D cy S [.int x0] (pI Q) := by
  refine MT.of (by decide +kernel) (Nat.le_of_ble_eq_true rfl) ?_
  intro p e s m args below meth c X hr hlk hnm
  unfold wp_X12_isPlace at h
  show VM l b D cy 1 1 25 0 0 (pI Q) p e s m args below meth c S 0 0 0 [(0, .int x0)] []
  refine v_iload_n X 0 dX12_isPlace_0 rfl rfl ?_
  refine v_i2l X dX12_isPlace_1 ?_
  refine v_lconst X (v := 0) dX12_isPlace_2 (by decide) ?_
  refine v_ldc2 X wd1029 dX12_isPlace_3 ?_
  refine v_callS X (av := [.long (x0).toInt64, .long (0 : Int64), .long (2 : Int64)]) (s_X12_in l b D cy h) wd1026 wd1027 wd62 k_X12_in dn_X12_in rfl ⟨Nat.le_of_ble_eq_true rfl, Nat.le_of_ble_eq_true rfl⟩ (Nat.le_of_ble_eq_true rfl) ⟨Nat.le_of_ble_eq_true rfl, Nat.le_of_ble_eq_true rfl⟩ dX12_isPlace_6 rfl (kI (fun r2 S1 h => ?_))
  obtain ⟨hz3, h⟩ := h
  exact v_zret X hr hz3 hlk ⟨_, rfl, h⟩ dX12_isPlace_9
def wp_X12_isMouth (Q : Int32 → hp → Prop) (S : hp) (a0 : Nat) (x1 : Int32) : Prop :=
  hK S a0 = 11 ∧ ∃ r2 : Nat, hR S a0 5 = some r2 ∧ hK S r2 = 12 ∧ vp_in (3 : Int32) (hN S r2) ∧ wp_X12_in (fun r6 S5 => isZ r6 ∧ Q r6 S5) S ((x1).toInt64) ((0 : Int64)) ((((hI S r2 ((3 : Int32)).toNatClampNeg) - (1 : Int32))).toInt64)
theorem k_X12_isMouth : Cond.code yX12_isMouth cX12_isMouth 2 (some .boolean) ∈ gtb := mg 1118 (by decide +kernel) (by decide +kernel)
theorem dn_X12_isMouth : yX12_isMouth.cls ≠ "java/lang/invoke/MethodHandle" ∧ yX12_isMouth.cls ≠ "java/lang/invoke/VarHandle" ∧ (parseMethodDescriptor yX12_isMouth.desc).map (fun d => d.parameters.length) = some 1 := by decide +kernel
set_option maxRecDepth 100000 in
set_option maxHeartbeats 4000000 in
theorem s_X12_isMouth (l : Launch) (b : Nat) (D : va_G) (cy : Nat → ClassId) {Q : Int32 → hp → Prop} {S : hp} {a0 : Nat} {x1 : Int32} (h : wp_X12_isMouth Q S a0 x1) : MT l yX12_isMouth cX12_isMouth 2 (some .boolean) 1 25 0 0 b D cy S [.ref a0, .int x1] (pI Q) := by
  refine MT.of (by decide +kernel) (Nat.le_of_ble_eq_true rfl) ?_
  intro p e s m args below meth c X hr hlk hnm
  unfold wp_X12_isMouth at h
  show VM l b D cy 2 1 25 0 0 (pI Q) p e s m args below meth c S 0 0 0 [(0, .ref a0), (1, .int x1)] []
  refine v_iload_n X 1 dX12_isMouth_0 rfl rfl ?_
  refine v_i2l X dX12_isMouth_1 ?_
  refine v_lconst X (v := 0) dX12_isMouth_2 (by decide) ?_
  refine v_aload_n X 0 dX12_isMouth_3 rfl rfl ?_
  obtain ⟨hk1, h⟩ := h
  obtain ⟨r2, hr2, h⟩ := h
  refine v_getR X (T := TX12) (N := 26) (k := 5) hk1 (by decide) rfl (by decide) inX12 wd944 rfl dX12_isMouth_4 hr2 ?_
  refine v_iconst X (v := 3) dX12_isMouth_7 (by decide) ?_
  obtain ⟨hk3, h⟩ := h
  obtain ⟨hi4, h⟩ := h
  refine v_iald X hk3 hi4 dX12_isMouth_8 ?_
  refine v_iconst X (v := 1) dX12_isMouth_9 (by decide) ?_
  refine v_isub X dX12_isMouth_10 ?_
  refine v_i2l X dX12_isMouth_11 ?_
  refine v_callS X (av := [.long (x1).toInt64, .long (0 : Int64), .long (((hI S r2 ((3 : Int32)).toNatClampNeg) - (1 : Int32))).toInt64]) (s_X12_in l b D cy h) wd1026 wd1027 wd62 k_X12_in dn_X12_in rfl ⟨Nat.le_of_ble_eq_true rfl, Nat.le_of_ble_eq_true rfl⟩ (Nat.le_of_ble_eq_true rfl) ⟨Nat.le_of_ble_eq_true rfl, Nat.le_of_ble_eq_true rfl⟩ dX12_isMouth_12 rfl (kI (fun r6 S5 h => ?_))
  obtain ⟨hz7, h⟩ := h
  exact v_zret X hr hz7 hlk ⟨_, rfl, h⟩ dX12_isMouth_15
def wp_X12_kindOf (Q : Int32 → hp → Prop) (S : hp) (a0 : Nat) (x1 : Int32) : Prop :=
  hK S a0 = 11 ∧ ∃ r2 : Nat, hR S a0 5 = some r2 ∧ hK S r2 = 12 ∧ vp_in ((41 : Int32) + ((2 : Int32) * x1)) (hN S r2) ∧ Q (hI S r2 (((41 : Int32) + ((2 : Int32) * x1))).toNatClampNeg) S
theorem k_X12_kindOf : Cond.code yX12_kindOf cX12_kindOf 2 (some .int) ∈ gtb := mg 1135 (by decide +kernel) (by decide +kernel)
theorem dn_X12_kindOf : yX12_kindOf.cls ≠ "java/lang/invoke/MethodHandle" ∧ yX12_kindOf.cls ≠ "java/lang/invoke/VarHandle" ∧ (parseMethodDescriptor yX12_kindOf.desc).map (fun d => d.parameters.length) = some 1 := by decide +kernel
set_option maxRecDepth 100000 in
set_option maxHeartbeats 4000000 in
theorem s_X12_kindOf (l : Launch) (b : Nat) (D : va_G) (cy : Nat → ClassId) {Q : Int32 → hp → Prop} {S : hp} {a0 : Nat} {x1 : Int32} (h : wp_X12_kindOf Q S a0 x1) : MT l yX12_kindOf cX12_kindOf 2 (some .int) 0 0 0 0 b D cy S [.ref a0, .int x1] (pI Q) := by
  refine MT.of (by decide +kernel) (Nat.le_of_ble_eq_true rfl) ?_
  intro p e s m args below meth c X hr hlk hnm
  unfold wp_X12_kindOf at h
  show VM l b D cy 2 0 0 0 0 (pI Q) p e s m args below meth c S 0 0 0 [(0, .ref a0), (1, .int x1)] []
  refine v_aload_n X 0 dX12_kindOf_0 rfl rfl ?_
  obtain ⟨hk1, h⟩ := h
  obtain ⟨r2, hr2, h⟩ := h
  refine v_getR X (T := TX12) (N := 26) (k := 5) hk1 (by decide) rfl (by decide) inX12 wd944 rfl dX12_kindOf_1 hr2 ?_
  refine v_bipush X (v := 41) dX12_kindOf_4 (by decide) ?_
  refine v_iconst X (v := 2) dX12_kindOf_6 (by decide) ?_
  refine v_iload_n X 1 dX12_kindOf_7 rfl rfl ?_
  refine v_imul X dX12_kindOf_8 ?_
  refine v_iadd X dX12_kindOf_9 ?_
  obtain ⟨hk3, h⟩ := h
  obtain ⟨hi4, h⟩ := h
  refine v_iald X hk3 hi4 dX12_kindOf_10 ?_
  exact v_iret X hr hlk ⟨_, rfl, h⟩ dX12_kindOf_11
def wp_X12_bribeOf (Q : Int32 → hp → Prop) (S : hp) (a0 : Nat) (x1 : Int32) : Prop :=
  hK S a0 = 11 ∧ ∃ r2 : Nat, hR S a0 5 = some r2 ∧ hK S r2 = 12 ∧ vp_in (((41 : Int32) + ((2 : Int32) * x1)) + (1 : Int32)) (hN S r2) ∧ Q (hI S r2 ((((41 : Int32) + ((2 : Int32) * x1)) + (1 : Int32))).toNatClampNeg) S
theorem k_X12_bribeOf : Cond.code yX12_bribeOf cX12_bribeOf 2 (some .int) ∈ gtb := mg 1238 (by decide +kernel) (by decide +kernel)
theorem dn_X12_bribeOf : yX12_bribeOf.cls ≠ "java/lang/invoke/MethodHandle" ∧ yX12_bribeOf.cls ≠ "java/lang/invoke/VarHandle" ∧ (parseMethodDescriptor yX12_bribeOf.desc).map (fun d => d.parameters.length) = some 1 := by decide +kernel
set_option maxRecDepth 100000 in
set_option maxHeartbeats 4000000 in
theorem s_X12_bribeOf (l : Launch) (b : Nat) (D : va_G) (cy : Nat → ClassId) {Q : Int32 → hp → Prop} {S : hp} {a0 : Nat} {x1 : Int32} (h : wp_X12_bribeOf Q S a0 x1) : MT l yX12_bribeOf cX12_bribeOf 2 (some .int) 0 0 0 0 b D cy S [.ref a0, .int x1] (pI Q) := by
  refine MT.of (by decide +kernel) (Nat.le_of_ble_eq_true rfl) ?_
  intro p e s m args below meth c X hr hlk hnm
  unfold wp_X12_bribeOf at h
  show VM l b D cy 2 0 0 0 0 (pI Q) p e s m args below meth c S 0 0 0 [(0, .ref a0), (1, .int x1)] []
  refine v_aload_n X 0 dX12_bribeOf_0 rfl rfl ?_
  obtain ⟨hk1, h⟩ := h
  obtain ⟨r2, hr2, h⟩ := h
  refine v_getR X (T := TX12) (N := 26) (k := 5) hk1 (by decide) rfl (by decide) inX12 wd944 rfl dX12_bribeOf_1 hr2 ?_
  refine v_bipush X (v := 41) dX12_bribeOf_4 (by decide) ?_
  refine v_iconst X (v := 2) dX12_bribeOf_6 (by decide) ?_
  refine v_iload_n X 1 dX12_bribeOf_7 rfl rfl ?_
  refine v_imul X dX12_bribeOf_8 ?_
  refine v_iadd X dX12_bribeOf_9 ?_
  refine v_iconst X (v := 1) dX12_bribeOf_10 (by decide) ?_
  refine v_iadd X dX12_bribeOf_11 ?_
  obtain ⟨hk3, h⟩ := h
  obtain ⟨hi4, h⟩ := h
  refine v_iald X hk3 hi4 dX12_bribeOf_12 ?_
  exact v_iret X hr hlk ⟨_, rfl, h⟩ dX12_bribeOf_13
def wp_X12_padsOf (Q : Int32 → hp → Prop) (S : hp) (a0 : Nat) (x1 : Int32) (x2 : Int32) : Prop :=
  hK S a0 = 11 ∧ wp_X12_kindOf (fun r3 S1 => ((r3 = (2 : Int32) → ((x2 ≤ 0 → Q x2 S1) ∧ (¬ x2 ≤ 0 → Q ((2 : Int32) * x2) S1))) ∧ (r3 = (3 : Int32) → Q (-x2) S1) ∧ (r3 = (4 : Int32) → Q (x2 / (2 : Int32)) S1) ∧ (r3 = (5 : Int32) → Q (-(x2 / (2 : Int32))) S1) ∧ (¬ r3 = (2 : Int32) → ¬ r3 = (3 : Int32) → ¬ r3 = (4 : Int32) → ¬ r3 = (5 : Int32) → Q x2 S1))) S a0 x1
theorem k_X12_padsOf : Cond.code yX12_padsOf cX12_padsOf 3 (some .int) ∈ gtb := mg 1131 (by decide +kernel) (by decide +kernel)
theorem dn_X12_padsOf : yX12_padsOf.cls ≠ "java/lang/invoke/MethodHandle" ∧ yX12_padsOf.cls ≠ "java/lang/invoke/VarHandle" ∧ (parseMethodDescriptor yX12_padsOf.desc).map (fun d => d.parameters.length) = some 2 := by decide +kernel
set_option maxRecDepth 100000 in
set_option maxHeartbeats 4000000 in
theorem s_X12_padsOf (l : Launch) (b : Nat) (D : va_G) (cy : Nat → ClassId) {Q : Int32 → hp → Prop} {S : hp} {a0 : Nat} {x1 : Int32} {x2 : Int32} (h : wp_X12_padsOf Q S a0 x1 x2) : MT l yX12_padsOf cX12_padsOf 3 (some .int) 1 21 0 0 b D cy S [.ref a0, .int x1, .int x2] (pI Q) := by
  refine MT.of (by decide +kernel) (Nat.le_of_ble_eq_true rfl) ?_
  intro p e s m args below meth c X hr hlk hnm
  unfold wp_X12_padsOf at h
  show VM l b D cy 3 1 21 0 0 (pI Q) p e s m args below meth c S 0 0 0 [(0, .ref a0), (1, .int x1), (2, .int x2)] []
  refine v_aload_n X 0 dX12_padsOf_0 rfl rfl ?_
  refine v_iload_n X 1 dX12_padsOf_1 rfl rfl ?_
  obtain ⟨hk2, h⟩ := h
  refine v_callV X (av := [.int x1]) (T := TX12) (N := 26) (s_X12_kindOf l b D cy h) hk2 (by decide) rfl wd1132 wd1134 wd34 wd62 k_X12_kindOf dn_X12_kindOf rfl ⟨Nat.le_of_ble_eq_true rfl, Nat.le_of_ble_eq_true rfl⟩ (Nat.le_of_ble_eq_true rfl) ⟨Nat.le_of_ble_eq_true rfl, Nat.le_of_ble_eq_true rfl⟩ dX12_padsOf_2 rfl (kI (fun r3 S1 h => ?_))
  by_cases c5 : r3 = (2 : Int32)
  · replace h := h.1 c5
    refine v_tabIn X (off := 31) (tgt := 36) (2 : Int32) c5 dX12_padsOf_5 (by decide) (by decide) (by decide) (by decide) ?_
    refine v_iload_n X 2 dX12_padsOf_36 rfl rfl ?_
    refine v_if_le X (tgt := 46) dX12_padsOf_37 (by decide) (fun c4 => ?_) (fun c4 => ?_)
    · replace h := h.1 c4
      refine v_iload_n X 2 dX12_padsOf_46 rfl rfl ?_
      exact v_iret X hr hlk ⟨_, rfl, h⟩ dX12_padsOf_47
    · replace h := h.2 c4
      refine v_iconst X (v := 2) dX12_padsOf_40 (by decide) ?_
      refine v_iload_n X 2 dX12_padsOf_41 rfl rfl ?_
      refine v_imul X dX12_padsOf_42 ?_
      refine v_goto X (tgt := 47) dX12_padsOf_43 (by decide) ?_
      exact v_iret X hr hlk ⟨_, rfl, h⟩ dX12_padsOf_47
  by_cases c6 : r3 = (3 : Int32)
  · replace h := h.2.1 c6
    refine v_tabIn X (off := 43) (tgt := 48) (3 : Int32) c6 dX12_padsOf_5 (by decide) (by decide) (by decide) (by decide) ?_
    refine v_iload_n X 2 dX12_padsOf_48 rfl rfl ?_
    refine v_ineg X dX12_padsOf_49 ?_
    exact v_iret X hr hlk ⟨_, rfl, h⟩ dX12_padsOf_50
  by_cases c7 : r3 = (4 : Int32)
  · replace h := h.2.2.1 c7
    refine v_tabIn X (off := 46) (tgt := 51) (4 : Int32) c7 dX12_padsOf_5 (by decide) (by decide) (by decide) (by decide) ?_
    refine v_iload_n X 2 dX12_padsOf_51 rfl rfl ?_
    refine v_iconst X (v := 2) dX12_padsOf_52 (by decide) ?_
    refine v_idiv X dX12_padsOf_53 (by decide) ?_
    exact v_iret X hr hlk ⟨_, rfl, h⟩ dX12_padsOf_54
  by_cases c8 : r3 = (5 : Int32)
  · replace h := h.2.2.2.1 c8
    refine v_tabIn X (off := 50) (tgt := 55) (5 : Int32) c8 dX12_padsOf_5 (by decide) (by decide) (by decide) (by decide) ?_
    refine v_iload_n X 2 dX12_padsOf_55 rfl rfl ?_
    refine v_iconst X (v := 2) dX12_padsOf_56 (by decide) ?_
    refine v_idiv X dX12_padsOf_57 (by decide) ?_
    refine v_ineg X dX12_padsOf_58 ?_
    exact v_iret X hr hlk ⟨_, rfl, h⟩ dX12_padsOf_59
  replace h := h.2.2.2.2 c5 c6 c7 c8
  refine v_tabOut X (tgt := 60) dX12_padsOf_5 (by have zc5 := ne_ti (2 : Int32) 2 rfl c5; have zc6 := ne_ti (3 : Int32) 3 rfl c6; have zc7 := ne_ti (4 : Int32) 4 rfl c7; have zc8 := ne_ti (5 : Int32) 5 rfl c8; omega) (by decide) ?_
  refine v_iload_n X 2 dX12_padsOf_60 rfl rfl ?_
  exact v_iret X hr hlk ⟨_, rfl, h⟩ dX12_padsOf_61
def wB_X12_keep_52 (bk52 : hp → Nat → Int32 → Prop) (Q : hp → Prop) (S : hp) (l0 : Nat) (l1 : Int32) : Prop :=
  (((147 : Int32) ≤ l1 → hK S l0 = 11 ∧ ∀ S5 : hp, S5 = setI S l0 8 ((hI S l0 8) + (1 : Int32)) → Q S5) ∧ (¬ (147 : Int32) ≤ l1 → hK S l0 = 11 ∧ ∃ r8 : Nat, hR S l0 7 = some r8 ∧ ∃ r9 : Nat, hR S l0 5 = some r9 ∧ hK S r9 = 12 ∧ vp_in l1 (hN S r9) ∧ hK S r8 = 12 ∧ vp_in (((147 : Int32) * (hI S l0 8)) + l1) (hN S r8) ∧ ∀ S14 : hp, S14 = setI S r8 ((((147 : Int32) * (hI S l0 8)) + l1)).toNatClampNeg (hI S r9 (l1).toNatClampNeg) → ∀ v22 : Int32, v22 = l1 + (1 : Int32) → bk52 S14 l0 v22))
def wl_X12_keep_52 (Q : hp → Prop) : Nat → hp → Nat → Int32 → Prop
  | 0 => fun _ _ _ => False
  | n + 1 => wB_X12_keep_52 (wl_X12_keep_52 Q n) Q
def wB_X12_keep_50 (Q : hp → Prop) (S : hp) (l0 : Nat) : Prop :=
  ∃ n : Nat, wl_X12_keep_52 Q n S l0 (0 : Int32)
def wB_X12_keep_11 (bk11 : hp → Nat → Int32 → Prop) (Q : hp → Prop) (S : hp) (l0 : Nat) (l1 : Int32) : Prop :=
  (((3381 : Int32) ≤ l1 → hK S l0 = 11 ∧ ∀ S25 : hp, S25 = setI S l0 8 ((hI S l0 8) - (1 : Int32)) → wB_X12_keep_50 Q S25 l0) ∧ (¬ (3381 : Int32) ≤ l1 → hK S l0 = 11 ∧ ∃ r28 : Nat, hR S l0 7 = some r28 ∧ hK S r28 = 12 ∧ vp_in (l1 + (147 : Int32)) (hN S r28) ∧ vp_in l1 (hN S r28) ∧ ∀ S32 : hp, S32 = setI S r28 (l1).toNatClampNeg (hI S r28 ((l1 + (147 : Int32))).toNatClampNeg) → ∀ v38 : Int32, v38 = l1 + (1 : Int32) → bk11 S32 l0 v38))
def wl_X12_keep_11 (Q : hp → Prop) : Nat → hp → Nat → Int32 → Prop
  | 0 => fun _ _ _ => False
  | n + 1 => wB_X12_keep_11 (wl_X12_keep_11 Q n) Q
def wp_X12_keep (Q : hp → Prop) (S : hp) (a0 : Nat) : Prop :=
  hK S a0 = 11 ∧ ((¬ (hI S a0 8) = (24 : Int32) → wB_X12_keep_50 Q S a0) ∧ ((hI S a0 8) = (24 : Int32) → ∃ n : Nat, wl_X12_keep_11 Q n S a0 (0 : Int32)))
theorem k_X12_keep : Cond.code yX12_keep cX12_keep 2 none ∈ gtb := mg 1141 (by decide +kernel) (by decide +kernel)
theorem dn_X12_keep : yX12_keep.cls ≠ "java/lang/invoke/MethodHandle" ∧ yX12_keep.cls ≠ "java/lang/invoke/VarHandle" ∧ (parseMethodDescriptor yX12_keep.desc).map (fun d => d.parameters.length) = some 0 := by decide +kernel
set_option maxRecDepth 100000 in
set_option maxHeartbeats 4000000 in
theorem s_X12_keep (l : Launch) (b : Nat) (D : va_G) (cy : Nat → ClassId) {Q : hp → Prop} {S : hp} {a0 : Nat} (h : wp_X12_keep Q S a0) : MT l yX12_keep cX12_keep 2 none 0 0 0 0 b D cy S [.ref a0] (pV Q) := by
  refine MT.of (by decide +kernel) (Nat.le_of_ble_eq_true rfl) ?_
  intro p e s m args below meth c X hr hlk hnm
  have j52 : ∀ (bk52 : hp → Nat → Int32 → Prop) (hbk52 : ∀ (S : hp) (l0 : Nat) (l1 : Int32), bk52 S l0 l1 → VM l b D cy 2 0 0 0 0 (pV Q) p e s m args below meth c S 0 0 52 [(0, .ref l0), (1, .int l1)] []) (S : hp) (l0 : Nat) (l1 : Int32), wB_X12_keep_52 bk52 Q S l0 l1 → VM l b D cy 2 0 0 0 0 (pV Q) p e s m args below meth c S 0 0 52 [(0, .ref l0), (1, .int l1)] [] := by
    intro bk52 hbk52 S l0 l1 h
    unfold wB_X12_keep_52 at h
    refine v_iload_n X 1 dX12_keep_52 rfl rfl ?_
    refine v_sipush X (v := 147) dX12_keep_53 (by decide) ?_
    refine v_icmp_ge X (tgt := 86) dX12_keep_56 (by decide) (fun c3 => ?_) (fun c3 => ?_)
    · replace h := h.1 c3
      refine v_aload_n X 0 dX12_keep_86 rfl rfl ?_
      refine v_dup X dX12_keep_87 rfl ?_
      obtain ⟨hk4, h⟩ := h
      refine v_getI X (T := TX12) (N := 26) (k := 8) hk4 (by decide) rfl (by decide) inX12 wd947 rfl dX12_keep_88 ?_
      refine v_iconst X (v := 1) dX12_keep_91 (by decide) ?_
      refine v_iadd X dX12_keep_92 ?_
      refine v_putI X (T := TX12) (N := 26) (k := 8) hk4 (by decide) rfl (by decide) inX12 wd947 tyX12 tyX12_ok nmX12 rfl rfl rfl rfl dX12_keep_93 ?_
      refine v_nmS (fun S5 eS5 => ?_)
      replace h := h S5 eS5
      have hk6 : hK S5 l0 = 11 := by rw [eS5]; exact hk4
      exact v_vret X hr hlk ⟨rfl, h⟩ dX12_keep_96
    · replace h := h.2 c3
      refine v_aload_n X 0 dX12_keep_59 rfl rfl ?_
      obtain ⟨hk7, h⟩ := h
      obtain ⟨r8, hr8, h⟩ := h
      refine v_getR X (T := TX12) (N := 26) (k := 7) hk7 (by decide) rfl (by decide) inX12 wd946 rfl dX12_keep_60 hr8 ?_
      refine v_sipush X (v := 147) dX12_keep_63 (by decide) ?_
      refine v_aload_n X 0 dX12_keep_66 rfl rfl ?_
      refine v_getI X (T := TX12) (N := 26) (k := 8) hk7 (by decide) rfl (by decide) inX12 wd947 rfl dX12_keep_67 ?_
      refine v_imul X dX12_keep_70 ?_
      refine v_iload_n X 1 dX12_keep_71 rfl rfl ?_
      refine v_iadd X dX12_keep_72 ?_
      refine v_aload_n X 0 dX12_keep_73 rfl rfl ?_
      obtain ⟨r9, hr9, h⟩ := h
      refine v_getR X (T := TX12) (N := 26) (k := 5) hk7 (by decide) rfl (by decide) inX12 wd944 rfl dX12_keep_74 hr9 ?_
      refine v_iload_n X 1 dX12_keep_77 rfl rfl ?_
      obtain ⟨hk10, h⟩ := h
      obtain ⟨hi11, h⟩ := h
      refine v_iald X hk10 hi11 dX12_keep_78 ?_
      obtain ⟨hk12, h⟩ := h
      obtain ⟨hi13, h⟩ := h
      refine v_iast X hk12 hi13 dX12_keep_79 ?_
      refine v_nmS (fun S14 eS14 => ?_)
      replace h := h S14 eS14
      have hk15 : hK S14 l0 = 11 := by rw [eS14]; exact hk7
      have hk16 : hK S14 r9 = 12 := by rw [eS14]; exact hk10
      have hk17 : hK S14 r8 = 12 := by rw [eS14]; exact hk12
      have hi18 : vp_in l1 (hN S14 r9) := by rw [eS14]; exact hi11
      have hi19 : vp_in (((147 : Int32) * (hI S l0 8)) + l1) (hN S14 r8) := by rw [eS14]; exact hi13
      have hr20 : hR S14 l0 7 = some r8 := by rw [eS14]; exact hr8
      have hr21 : hR S14 l0 5 = some r9 := by rw [eS14]; exact hr9
      obtain ⟨v22, hv22⟩ : ∃ y : Int32, y = l1 + (1 : Int32) := ⟨_, rfl⟩
      replace h := h v22 hv22
      refine v_iinc X (j := 1) (v := v22) (lv' := [(1, .int v22), (0, .ref l0)]) dX12_keep_80 rfl (by rw [hv22] <;> rfl) (by decide) rfl ?_
      refine v_goto X (tgt := 52) dX12_keep_83 (by decide) ?_
      refine v_lv (lv' := [(0, .ref l0), (1, .int v22)]) [1, 0] rfl ?_
      exact hbk52 _ _ _ h
  have l52 : ∀  (n : Nat) (S : hp) (l0 : Nat) (l1 : Int32), wl_X12_keep_52 Q n S l0 l1 → VM l b D cy 2 0 0 0 0 (pV Q) p e s m args below meth c S 0 0 52 [(0, .ref l0), (1, .int l1)] [] := by
    intro  n
    induction n with
    | zero => intro S l0 l1 h; exact h.elim
    | succ n ih => intro S l0 l1 h; exact j52 (wl_X12_keep_52 Q n) ih S l0 l1 h
  have j50 : ∀  (S : hp) (l0 : Nat), wB_X12_keep_50 Q S l0 → VM l b D cy 2 0 0 0 0 (pV Q) p e s m args below meth c S 0 0 50 [(0, .ref l0)] [] := by
    intro  S l0 h
    unfold wB_X12_keep_50 at h
    refine v_iconst X (v := 0) dX12_keep_50 (by decide) ?_
    refine v_istore_n X (lv' := [(1, .int (0 : Int32)), (0, .ref l0)]) dX12_keep_51 rfl (by decide) rfl ?_
    refine v_lv (lv' := [(0, .ref l0), (1, .int (0 : Int32))]) [1, 0] rfl ?_
    obtain ⟨n, h⟩ := h
    exact l52 n _ _ _ h
  have j11 : ∀ (bk11 : hp → Nat → Int32 → Prop) (hbk11 : ∀ (S : hp) (l0 : Nat) (l1 : Int32), bk11 S l0 l1 → VM l b D cy 2 0 0 0 0 (pV Q) p e s m args below meth c S 0 0 11 [(0, .ref l0), (1, .int l1)] []) (S : hp) (l0 : Nat) (l1 : Int32), wB_X12_keep_11 bk11 Q S l0 l1 → VM l b D cy 2 0 0 0 0 (pV Q) p e s m args below meth c S 0 0 11 [(0, .ref l0), (1, .int l1)] [] := by
    intro bk11 hbk11 S l0 l1 h
    unfold wB_X12_keep_11 at h
    refine v_iload_n X 1 dX12_keep_11 rfl rfl ?_
    refine v_sipush X (v := 3381) dX12_keep_12 (by decide) ?_
    refine v_icmp_ge X (tgt := 40) dX12_keep_15 (by decide) (fun c23 => ?_) (fun c23 => ?_)
    · replace h := h.1 c23
      refine v_aload_n X 0 dX12_keep_40 rfl rfl ?_
      refine v_dup X dX12_keep_41 rfl ?_
      obtain ⟨hk24, h⟩ := h
      refine v_getI X (T := TX12) (N := 26) (k := 8) hk24 (by decide) rfl (by decide) inX12 wd947 rfl dX12_keep_42 ?_
      refine v_iconst X (v := 1) dX12_keep_45 (by decide) ?_
      refine v_isub X dX12_keep_46 ?_
      refine v_putI X (T := TX12) (N := 26) (k := 8) hk24 (by decide) rfl (by decide) inX12 wd947 tyX12 tyX12_ok nmX12 rfl rfl rfl rfl dX12_keep_47 ?_
      refine v_nmS (fun S25 eS25 => ?_)
      replace h := h S25 eS25
      have hk26 : hK S25 l0 = 11 := by rw [eS25]; exact hk24
      refine v_lv (lv' := [(0, .ref l0)]) [0] rfl ?_
      exact j50 _ _ h
    · replace h := h.2 c23
      refine v_aload_n X 0 dX12_keep_18 rfl rfl ?_
      obtain ⟨hk27, h⟩ := h
      obtain ⟨r28, hr28, h⟩ := h
      refine v_getR X (T := TX12) (N := 26) (k := 7) hk27 (by decide) rfl (by decide) inX12 wd946 rfl dX12_keep_19 hr28 ?_
      refine v_iload_n X 1 dX12_keep_22 rfl rfl ?_
      refine v_aload_n X 0 dX12_keep_23 rfl rfl ?_
      refine v_getR X (T := TX12) (N := 26) (k := 7) hk27 (by decide) rfl (by decide) inX12 wd946 rfl dX12_keep_24 hr28 ?_
      refine v_iload_n X 1 dX12_keep_27 rfl rfl ?_
      refine v_sipush X (v := 147) dX12_keep_28 (by decide) ?_
      refine v_iadd X dX12_keep_31 ?_
      obtain ⟨hk29, h⟩ := h
      obtain ⟨hi30, h⟩ := h
      refine v_iald X hk29 hi30 dX12_keep_32 ?_
      obtain ⟨hi31, h⟩ := h
      refine v_iast X hk29 hi31 dX12_keep_33 ?_
      refine v_nmS (fun S32 eS32 => ?_)
      replace h := h S32 eS32
      have hk33 : hK S32 l0 = 11 := by rw [eS32]; exact hk27
      have hk34 : hK S32 r28 = 12 := by rw [eS32]; exact hk29
      have hi35 : vp_in (l1 + (147 : Int32)) (hN S32 r28) := by rw [eS32]; exact hi30
      have hi36 : vp_in l1 (hN S32 r28) := by rw [eS32]; exact hi31
      have hr37 : hR S32 l0 7 = some r28 := by rw [eS32]; exact hr28
      obtain ⟨v38, hv38⟩ : ∃ y : Int32, y = l1 + (1 : Int32) := ⟨_, rfl⟩
      replace h := h v38 hv38
      refine v_iinc X (j := 1) (v := v38) (lv' := [(1, .int v38), (0, .ref l0)]) dX12_keep_34 rfl (by rw [hv38] <;> rfl) (by decide) rfl ?_
      refine v_goto X (tgt := 11) dX12_keep_37 (by decide) ?_
      refine v_lv (lv' := [(0, .ref l0), (1, .int v38)]) [1, 0] rfl ?_
      exact hbk11 _ _ _ h
  have l11 : ∀  (n : Nat) (S : hp) (l0 : Nat) (l1 : Int32), wl_X12_keep_11 Q n S l0 l1 → VM l b D cy 2 0 0 0 0 (pV Q) p e s m args below meth c S 0 0 11 [(0, .ref l0), (1, .int l1)] [] := by
    intro  n
    induction n with
    | zero => intro S l0 l1 h; exact h.elim
    | succ n ih => intro S l0 l1 h; exact j11 (wl_X12_keep_11 Q n) ih S l0 l1 h
  unfold wp_X12_keep at h
  show VM l b D cy 2 0 0 0 0 (pV Q) p e s m args below meth c S 0 0 0 [(0, .ref a0)] []
  refine v_aload_n X 0 dX12_keep_0 rfl rfl ?_
  obtain ⟨hk1, h⟩ := h
  refine v_getI X (T := TX12) (N := 26) (k := 8) hk1 (by decide) rfl (by decide) inX12 wd947 rfl dX12_keep_1 ?_
  refine v_bipush X (v := 24) dX12_keep_4 (by decide) ?_
  refine v_icmp_ne X (tgt := 50) dX12_keep_6 (by decide) (fun c2 => ?_) (fun c2 => ?_)
  · replace h := h.1 c2
    exact j50 _ _ h
  · replace h := h.2 c2
    refine v_iconst X (v := 0) dX12_keep_9 (by decide) ?_
    refine v_istore_n X (lv' := [(1, .int (0 : Int32)), (0, .ref a0)]) dX12_keep_10 rfl (by decide) rfl ?_
    refine v_lv (lv' := [(0, .ref a0), (1, .int (0 : Int32))]) [1, 0] rfl ?_
    obtain ⟨n, h⟩ := h
    exact l11 n _ _ _ h
def wp_X12_lineOf (Q : Int32 → hp → Prop) (S : hp) (a0 : Nat) (x1 : Int32) (x2 : Int32) : Prop :=
  hK S a0 = 11 ∧ ∃ r2 : Nat, hR S a0 5 = some r2 ∧ hK S r2 = 12 ∧ vp_in (((51 : Int32) + ((6 : Int32) * x1)) + x2) (hN S r2) ∧ Q (hI S r2 ((((51 : Int32) + ((6 : Int32) * x1)) + x2)).toNatClampNeg) S
theorem k_X12_lineOf : Cond.code yX12_lineOf cX12_lineOf 3 (some .int) ∈ gtb := mg 1187 (by decide +kernel) (by decide +kernel)
theorem dn_X12_lineOf : yX12_lineOf.cls ≠ "java/lang/invoke/MethodHandle" ∧ yX12_lineOf.cls ≠ "java/lang/invoke/VarHandle" ∧ (parseMethodDescriptor yX12_lineOf.desc).map (fun d => d.parameters.length) = some 2 := by decide +kernel
set_option maxRecDepth 100000 in
set_option maxHeartbeats 4000000 in
theorem s_X12_lineOf (l : Launch) (b : Nat) (D : va_G) (cy : Nat → ClassId) {Q : Int32 → hp → Prop} {S : hp} {a0 : Nat} {x1 : Int32} {x2 : Int32} (h : wp_X12_lineOf Q S a0 x1 x2) : MT l yX12_lineOf cX12_lineOf 3 (some .int) 0 0 0 0 b D cy S [.ref a0, .int x1, .int x2] (pI Q) := by
  refine MT.of (by decide +kernel) (Nat.le_of_ble_eq_true rfl) ?_
  intro p e s m args below meth c X hr hlk hnm
  unfold wp_X12_lineOf at h
  show VM l b D cy 3 0 0 0 0 (pI Q) p e s m args below meth c S 0 0 0 [(0, .ref a0), (1, .int x1), (2, .int x2)] []
  refine v_aload_n X 0 dX12_lineOf_0 rfl rfl ?_
  obtain ⟨hk1, h⟩ := h
  obtain ⟨r2, hr2, h⟩ := h
  refine v_getR X (T := TX12) (N := 26) (k := 5) hk1 (by decide) rfl (by decide) inX12 wd944 rfl dX12_lineOf_1 hr2 ?_
  refine v_bipush X (v := 51) dX12_lineOf_4 (by decide) ?_
  refine v_bipush X (v := 6) dX12_lineOf_6 (by decide) ?_
  refine v_iload_n X 1 dX12_lineOf_8 rfl rfl ?_
  refine v_imul X dX12_lineOf_9 ?_
  refine v_iadd X dX12_lineOf_10 ?_
  refine v_iload_n X 2 dX12_lineOf_11 rfl rfl ?_
  refine v_iadd X dX12_lineOf_12 ?_
  obtain ⟨hk3, h⟩ := h
  obtain ⟨hi4, h⟩ := h
  refine v_iald X hk3 hi4 dX12_lineOf_13 ?_
  exact v_iret X hr hlk ⟨_, rfl, h⟩ dX12_lineOf_14
