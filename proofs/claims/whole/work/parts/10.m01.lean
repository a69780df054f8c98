def wp_X9_comes (Q : Int32 → hp → Prop) (S : hp) (a0 : Nat) (x1 : Int32) : Prop :=
  hK S a0 = 8 ∧ (((hI S a0 1) ≤ (hI S a0 4) → Q (0 : Int32) S) ∧ (¬ (hI S a0 1) ≤ (hI S a0 4) → ∃ r3 : Nat, hR S a0 0 = some r3 ∧ hK S r3 = 12 ∧ vp_in (hI S a0 4) (hN S r3) ∧ ((¬ (hI S r3 ((hI S a0 4)).toNatClampNeg) = x1 → Q (0 : Int32) S) ∧ ((hI S r3 ((hI S a0 4)).toNatClampNeg) = x1 → Q (1 : Int32) S))))
theorem k_X9_comes : Cond.code yX9_comes cX9_comes 2 (some .boolean) ∈ gtb := mg 362 (by decide +kernel) (by decide +kernel)
theorem dn_X9_comes : yX9_comes.cls ≠ "java/lang/invoke/MethodHandle" ∧ yX9_comes.cls ≠ "java/lang/invoke/VarHandle" ∧ (parseMethodDescriptor yX9_comes.desc).map (fun d => d.parameters.length) = some 1 := by decide +kernel
set_option maxRecDepth 100000 in
set_option maxHeartbeats 4000000 in
theorem s_X9_comes (l : Launch) (b : Nat) (D : va_G) (cy : Nat → ClassId) {Q : Int32 → hp → Prop} {S : hp} {a0 : Nat} {x1 : Int32} (h : wp_X9_comes Q S a0 x1) : MT l yX9_comes cX9_comes 2 (some .boolean) 0 0 0 0 b D cy S [.ref a0, .int x1] (pI Q) := by
  refine MT.of (by decide +kernel) (Nat.le_of_ble_eq_true rfl) ?_
  intro p e s m args below meth c X hr hlk hnm
  unfold wp_X9_comes at h
  show VM l b D cy 2 0 0 0 0 (pI Q) p e s m args below meth c S 0 0 0 [(0, .ref a0), (1, .int x1)] []
  refine v_aload_n X 0 dX9_comes_0 rfl rfl ?_
  obtain ⟨hk1, h⟩ := h
  refine v_getI X (T := TX9) (N := 6) (k := 4) hk1 (by decide) rfl (by decide) inX9 wd117 rfl dX9_comes_1 ?_
  refine v_aload_n X 0 dX9_comes_4 rfl rfl ?_
  refine v_getI X (T := TX9) (N := 6) (k := 1) hk1 (by decide) rfl (by decide) inX9 wd111 rfl dX9_comes_5 ?_
  refine v_icmp_ge X (tgt := 28) dX9_comes_8 (by decide) (fun c2 => ?_) (fun c2 => ?_)
  · replace h := h.1 c2
    refine v_iconst X (v := 0) dX9_comes_28 (by decide) ?_
    exact v_zret X hr (by decide) hlk ⟨_, rfl, h⟩ dX9_comes_29
  · replace h := h.2 c2
    refine v_aload_n X 0 dX9_comes_11 rfl rfl ?_
    obtain ⟨r3, hr3, h⟩ := h
    refine v_getR X (T := TX9) (N := 6) (k := 0) hk1 (by decide) rfl (by decide) inX9 wd110 rfl dX9_comes_12 hr3 ?_
    refine v_aload_n X 0 dX9_comes_15 rfl rfl ?_
    refine v_getI X (T := TX9) (N := 6) (k := 4) hk1 (by decide) rfl (by decide) inX9 wd117 rfl dX9_comes_16 ?_
    obtain ⟨hk4, h⟩ := h
    obtain ⟨hi5, h⟩ := h
    refine v_iald X hk4 hi5 dX9_comes_19 ?_
    refine v_iload_n X 1 dX9_comes_20 rfl rfl ?_
    refine v_icmp_ne X (tgt := 28) dX9_comes_21 (by decide) (fun c6 => ?_) (fun c6 => ?_)
    · replace h := h.1 c6
      refine v_iconst X (v := 0) dX9_comes_28 (by decide) ?_
      exact v_zret X hr (by decide) hlk ⟨_, rfl, h⟩ dX9_comes_29
    · replace h := h.2 c6
      refine v_iconst X (v := 1) dX9_comes_24 (by decide) ?_
      refine v_goto X (tgt := 29) dX9_comes_25 (by decide) ?_
      exact v_zret X hr (by decide) hlk ⟨_, rfl, h⟩ dX9_comes_29
def wp_X9_isFault (Q : Int32 → hp → Prop) (S : hp) (a0 : Nat) (x1 : Int32) : Prop :=
  hK S a0 = 8 ∧ ∀ S2 : hp, S2 = setI S a0 2 x1 → ∀ S4 : hp, S4 = setI S2 a0 3 (hI S2 a0 4) → Q (0 : Int32) S4
theorem k_X9_isFault : Cond.code yX9_isFault cX9_isFault 2 (some .boolean) ∈ gtb := mg 366 (by decide +kernel) (by decide +kernel)
theorem dn_X9_isFault : yX9_isFault.cls ≠ "java/lang/invoke/MethodHandle" ∧ yX9_isFault.cls ≠ "java/lang/invoke/VarHandle" ∧ (parseMethodDescriptor yX9_isFault.desc).map (fun d => d.parameters.length) = some 1 := by decide +kernel
set_option maxRecDepth 100000 in
set_option maxHeartbeats 4000000 in
theorem s_X9_isFault (l : Launch) (b : Nat) (D : va_G) (cy : Nat → ClassId) {Q : Int32 → hp → Prop} {S : hp} {a0 : Nat} {x1 : Int32} (h : wp_X9_isFault Q S a0 x1) : MT l yX9_isFault cX9_isFault 2 (some .boolean) 0 0 0 0 b D cy S [.ref a0, .int x1] (pI Q) := by
  refine MT.of (by decide +kernel) (Nat.le_of_ble_eq_true rfl) ?_
  intro p e s m args below meth c X hr hlk hnm
  unfold wp_X9_isFault at h
  show VM l b D cy 2 0 0 0 0 (pI Q) p e s m args below meth c S 0 0 0 [(0, .ref a0), (1, .int x1)] []
  refine v_aload_n X 0 dX9_isFault_0 rfl rfl ?_
  refine v_iload_n X 1 dX9_isFault_1 rfl rfl ?_
  obtain ⟨hk1, h⟩ := h
  refine v_putI X (T := TX9) (N := 6) (k := 2) hk1 (by decide) rfl (by decide) inX9 wd114 tyX9 tyX9_ok nmX9 rfl rfl rfl rfl dX9_isFault_2 ?_
  refine v_nmS (fun S2 eS2 => ?_)
  replace h := h S2 eS2
  have hk3 : hK S2 a0 = 8 := by rw [eS2]; exact hk1
  refine v_aload_n X 0 dX9_isFault_5 rfl rfl ?_
  refine v_aload_n X 0 dX9_isFault_6 rfl rfl ?_
  refine v_getI X (T := TX9) (N := 6) (k := 4) hk3 (by decide) rfl (by decide) inX9 wd117 rfl dX9_isFault_7 ?_
  refine v_putI X (T := TX9) (N := 6) (k := 3) hk3 (by decide) rfl (by decide) inX9 wd116 tyX9 tyX9_ok nmX9 rfl rfl rfl rfl dX9_isFault_10 ?_
  refine v_nmS (fun S4 eS4 => ?_)
  replace h := h S4 eS4
  have hk5 : hK S4 a0 = 8 := by rw [eS4]; exact hk3
  refine v_iconst X (v := 0) dX9_isFault_13 (by decide) ?_
  exact v_zret X hr (by decide) hlk ⟨_, rfl, h⟩ dX9_isFault_14
def wp_X9_readByte (Q : Int32 → hp → Prop) (S : hp) (a0 : Nat) (x1 : Int32) : Prop :=
  hK S a0 = 8 ∧ wp_X9_comes (fun r3 S1 => ((¬ r3 = 0 → hK S1 a0 = 8 ∧ ∀ S6 : hp, S6 = setI S1 a0 4 ((hI S1 a0 4) + (1 : Int32)) → Q (1 : Int32) S6) ∧ (r3 = 0 → hK S1 a0 = 8 ∧ wp_X9_isFault (fun r10 S8 => isZ r10 ∧ Q r10 S8) S1 a0 (1 : Int32)))) S a0 x1
theorem k_X9_readByte : Cond.code yX9_readByte cX9_readByte 2 (some .boolean) ∈ gtb := mg 358 (by decide +kernel) (by decide +kernel)
theorem dn_X9_readByte : yX9_readByte.cls ≠ "java/lang/invoke/MethodHandle" ∧ yX9_readByte.cls ≠ "java/lang/invoke/VarHandle" ∧ (parseMethodDescriptor yX9_readByte.desc).map (fun d => d.parameters.length) = some 1 := by decide +kernel
set_option maxRecDepth 100000 in
set_option maxHeartbeats 4000000 in
theorem s_X9_readByte (l : Launch) (b : Nat) (D : va_G) (cy : Nat → ClassId) {Q : Int32 → hp → Prop} {S : hp} {a0 : Nat} {x1 : Int32} (h : wp_X9_readByte Q S a0 x1) : MT l yX9_readByte cX9_readByte 2 (some .boolean) 1 21 0 0 b D cy S [.ref a0, .int x1] (pI Q) := by
  refine MT.of (by decide +kernel) (Nat.le_of_ble_eq_true rfl) ?_
  intro p e s m args below meth c X hr hlk hnm
  unfold wp_X9_readByte at h
  show VM l b D cy 2 1 21 0 0 (pI Q) p e s m args below meth c S 0 0 0 [(0, .ref a0), (1, .int x1)] []
  refine v_aload_n X 0 dX9_readByte_0 rfl rfl ?_
  refine v_iload_n X 1 dX9_readByte_1 rfl rfl ?_
  obtain ⟨hk2, h⟩ := h
  refine v_callV X (av := [.int x1]) (T := TX9) (N := 6) (s_X9_comes l b D cy h) hk2 (by decide) rfl wd359 wd361 wd5 wd58 k_X9_comes dn_X9_comes rfl ⟨Nat.le_of_ble_eq_true rfl, Nat.le_of_ble_eq_true rfl⟩ (Nat.le_of_ble_eq_true rfl) ⟨Nat.le_of_ble_eq_true rfl, Nat.le_of_ble_eq_true rfl⟩ dX9_readByte_2 rfl (kI (fun r3 S1 h => ?_))
  refine v_if_ne X (tgt := 14) dX9_readByte_5 (by decide) (fun c4 => ?_) (fun c4 => ?_)
  · replace h := h.1 c4
    refine v_aload_n X 0 dX9_readByte_14 rfl rfl ?_
    refine v_dup X dX9_readByte_15 rfl ?_
    obtain ⟨hk5, h⟩ := h
    refine v_getI X (T := TX9) (N := 6) (k := 4) hk5 (by decide) rfl (by decide) inX9 wd117 rfl dX9_readByte_16 ?_
    refine v_iconst X (v := 1) dX9_readByte_19 (by decide) ?_
    refine v_iadd X dX9_readByte_20 ?_
    refine v_putI X (T := TX9) (N := 6) (k := 4) hk5 (by decide) rfl (by decide) inX9 wd117 tyX9 tyX9_ok nmX9 rfl rfl rfl rfl dX9_readByte_21 ?_
    refine v_nmS (fun S6 eS6 => ?_)
    replace h := h S6 eS6
    have hk7 : hK S6 a0 = 8 := by rw [eS6]; exact hk5
    refine v_iconst X (v := 1) dX9_readByte_24 (by decide) ?_
    exact v_zret X hr (by decide) hlk ⟨_, rfl, h⟩ dX9_readByte_25
  · replace h := h.2 c4
    refine v_aload_n X 0 dX9_readByte_8 rfl rfl ?_
    refine v_iconst X (v := 1) dX9_readByte_9 (by decide) ?_
    obtain ⟨hk9, h⟩ := h
    refine v_callV X (av := [.int (1 : Int32)]) (T := TX9) (N := 6) (s_X9_isFault l b D cy h) hk9 (by decide) rfl wd363 wd365 wd6 wd58 k_X9_isFault dn_X9_isFault rfl ⟨Nat.le_of_ble_eq_true rfl, Nat.le_of_ble_eq_true rfl⟩ (Nat.le_of_ble_eq_true rfl) ⟨Nat.le_of_ble_eq_true rfl, Nat.le_of_ble_eq_true rfl⟩ dX9_readByte_10 rfl (kI (fun r10 S8 h => ?_))
    obtain ⟨hz11, h⟩ := h
    exact v_zret X hr hz11 hlk ⟨_, rfl, h⟩ dX9_readByte_13
def wp_X9_isFigure (Q : Int32 → hp → Prop) (S : hp) (a0 : Nat) (x1 : Int32) : Prop :=
  hK S a0 = 8 ∧ (((hI S a0 1) ≤ x1 → Q (0 : Int32) S) ∧ (¬ (hI S a0 1) ≤ x1 → ∃ r3 : Nat, hR S a0 0 = some r3 ∧ hK S r3 = 12 ∧ vp_in x1 (hN S r3) ∧ (((hI S r3 (x1).toNatClampNeg) < (48 : Int32) → Q (0 : Int32) S) ∧ (¬ (hI S r3 (x1).toNatClampNeg) < (48 : Int32) → (((57 : Int32) < (hI S r3 (x1).toNatClampNeg) → Q (0 : Int32) S) ∧ (¬ (57 : Int32) < (hI S r3 (x1).toNatClampNeg) → Q (1 : Int32) S))))))
theorem k_X9_isFigure : Cond.code yX9_isFigure cX9_isFigure 2 (some .boolean) ∈ gtb := mg 374 (by decide +kernel) (by decide +kernel)
theorem dn_X9_isFigure : yX9_isFigure.cls ≠ "java/lang/invoke/MethodHandle" ∧ yX9_isFigure.cls ≠ "java/lang/invoke/VarHandle" ∧ (parseMethodDescriptor yX9_isFigure.desc).map (fun d => d.parameters.length) = some 1 := by decide +kernel
set_option maxRecDepth 100000 in
set_option maxHeartbeats 4000000 in
theorem s_X9_isFigure (l : Launch) (b : Nat) (D : va_G) (cy : Nat → ClassId) {Q : Int32 → hp → Prop} {S : hp} {a0 : Nat} {x1 : Int32} (h : wp_X9_isFigure Q S a0 x1) : MT l yX9_isFigure cX9_isFigure 2 (some .boolean) 0 0 0 0 b D cy S [.ref a0, .int x1] (pI Q) := by
  refine MT.of (by decide +kernel) (Nat.le_of_ble_eq_true rfl) ?_
  intro p e s m args below meth c X hr hlk hnm
  unfold wp_X9_isFigure at h
  show VM l b D cy 2 0 0 0 0 (pI Q) p e s m args below meth c S 0 0 0 [(0, .ref a0), (1, .int x1)] []
  refine v_iload_n X 1 dX9_isFigure_0 rfl rfl ?_
  refine v_aload_n X 0 dX9_isFigure_1 rfl rfl ?_
  obtain ⟨hk1, h⟩ := h
  refine v_getI X (T := TX9) (N := 6) (k := 1) hk1 (by decide) rfl (by decide) inX9 wd111 rfl dX9_isFigure_2 ?_
  refine v_icmp_ge X (tgt := 34) dX9_isFigure_5 (by decide) (fun c2 => ?_) (fun c2 => ?_)
  · replace h := h.1 c2
    refine v_iconst X (v := 0) dX9_isFigure_34 (by decide) ?_
    exact v_zret X hr (by decide) hlk ⟨_, rfl, h⟩ dX9_isFigure_35
  · replace h := h.2 c2
    refine v_aload_n X 0 dX9_isFigure_8 rfl rfl ?_
    obtain ⟨r3, hr3, h⟩ := h
    refine v_getR X (T := TX9) (N := 6) (k := 0) hk1 (by decide) rfl (by decide) inX9 wd110 rfl dX9_isFigure_9 hr3 ?_
    refine v_iload_n X 1 dX9_isFigure_12 rfl rfl ?_
    obtain ⟨hk4, h⟩ := h
    obtain ⟨hi5, h⟩ := h
    refine v_iald X hk4 hi5 dX9_isFigure_13 ?_
    refine v_bipush X (v := 48) dX9_isFigure_14 (by decide) ?_
    refine v_icmp_lt X (tgt := 34) dX9_isFigure_16 (by decide) (fun c6 => ?_) (fun c6 => ?_)
    · replace h := h.1 c6
      refine v_iconst X (v := 0) dX9_isFigure_34 (by decide) ?_
      exact v_zret X hr (by decide) hlk ⟨_, rfl, h⟩ dX9_isFigure_35
    · replace h := h.2 c6
      refine v_aload_n X 0 dX9_isFigure_19 rfl rfl ?_
      refine v_getR X (T := TX9) (N := 6) (k := 0) hk1 (by decide) rfl (by decide) inX9 wd110 rfl dX9_isFigure_20 hr3 ?_
      refine v_iload_n X 1 dX9_isFigure_23 rfl rfl ?_
      refine v_iald X hk4 hi5 dX9_isFigure_24 ?_
      refine v_bipush X (v := 57) dX9_isFigure_25 (by decide) ?_
      refine v_icmp_gt X (tgt := 34) dX9_isFigure_27 (by decide) (fun c7 => ?_) (fun c7 => ?_)
      · replace h := h.1 c7
        refine v_iconst X (v := 0) dX9_isFigure_34 (by decide) ?_
        exact v_zret X hr (by decide) hlk ⟨_, rfl, h⟩ dX9_isFigure_35
      · replace h := h.2 c7
        refine v_iconst X (v := 1) dX9_isFigure_30 (by decide) ?_
        refine v_goto X (tgt := 35) dX9_isFigure_31 (by decide) ?_
        exact v_zret X hr (by decide) hlk ⟨_, rfl, h⟩ dX9_isFigure_35
def wB_X9_readNumber_66 (Q : Int32 → hp → Prop) (S : hp) (l0 : Nat) : Prop :=
  hK S l0 = 8 ∧ wp_X9_isFault (fun r8 S6 => isZ r8 ∧ Q r8 S6) S l0 (1 : Int32)
def wB_X9_readNumber_88 (Q : Int32 → hp → Prop) (S : hp) (l0 : Nat) : Prop :=
  hK S l0 = 8 ∧ wp_X9_isFault (fun r15 S13 => isZ r15 ∧ Q r15 S13) S l0 (2 : Int32)
def wB_X9_readNumber_57 (Q : Int32 → hp → Prop) (S : hp) (l0 : Nat) (l1 : Int32) (l2 : Int32) (l3 : Int32) : Prop :=
  ((l3 = 0 → wB_X9_readNumber_66 Q S l0) ∧ (¬ l3 = 0 → ((l3 ≤ (2 : Int32) → hK S l0 = 8 ∧ (((hI S l0 5) < l1 → wB_X9_readNumber_88 Q S l0) ∧ (¬ (hI S l0 5) < l1 → (((hI S l0 5) ≤ l2 → ∀ S18 : hp, S18 = setI S l0 4 ((hI S l0 4) + l3) → Q (1 : Int32) S18) ∧ (¬ (hI S l0 5) ≤ l2 → wB_X9_readNumber_88 Q S l0))))) ∧ (¬ l3 ≤ (2 : Int32) → wB_X9_readNumber_66 Q S l0))))
def wB_X9_readNumber_7 (bk7 : hp → Nat → Int32 → Int32 → Int32 → Prop) (Q : Int32 → hp → Prop) (S : hp) (l0 : Nat) (l1 : Int32) (l2 : Int32) (l3 : Int32) : Prop :=
  (((2 : Int32) < l3 → wB_X9_readNumber_57 Q S l0 l1 l2 l3) ∧ (¬ (2 : Int32) < l3 → hK S l0 = 8 ∧ wp_X9_isFigure (fun r22 S21 => ((r22 = 0 → wB_X9_readNumber_57 Q S21 l0 l1 l2 l3) ∧ (¬ r22 = 0 → hK S21 l0 = 8 ∧ ∃ r25 : Nat, hR S21 l0 0 = some r25 ∧ hK S21 r25 = 12 ∧ vp_in ((hI S21 l0 4) + l3) (hN S21 r25) ∧ ∀ S28 : hp, S28 = setI S21 l0 5 ((((10 : Int32) * (hI S21 l0 5)) + (hI S21 r25 (((hI S21 l0 4) + l3)).toNatClampNeg)) - (48 : Int32)) → ∀ v33 : Int32, v33 = l3 + (1 : Int32) → bk7 S28 l0 l1 l2 v33))) S l0 (((hI S l0 4) + l3))))
def wl_X9_readNumber_7 (Q : Int32 → hp → Prop) : Nat → hp → Nat → Int32 → Int32 → Int32 → Prop
  | 0 => fun _ _ _ _ _ => False
  | n + 1 => wB_X9_readNumber_7 (wl_X9_readNumber_7 Q n) Q
def wp_X9_readNumber (Q : Int32 → hp → Prop) (S : hp) (a0 : Nat) (x1 : Int32) (x2 : Int32) : Prop :=
  hK S a0 = 8 ∧ ∀ S2 : hp, S2 = setI S a0 5 (0 : Int32) → ∃ n : Nat, wl_X9_readNumber_7 Q n S2 a0 x1 x2 (0 : Int32)
theorem k_X9_readNumber : Cond.code yX9_readNumber cX9_readNumber 4 (some .boolean) ∈ gtb := mg 370 (by decide +kernel) (by decide +kernel)
theorem dn_X9_readNumber : yX9_readNumber.cls ≠ "java/lang/invoke/MethodHandle" ∧ yX9_readNumber.cls ≠ "java/lang/invoke/VarHandle" ∧ (parseMethodDescriptor yX9_readNumber.desc).map (fun d => d.parameters.length) = some 2 := by decide +kernel
set_option maxRecDepth 100000 in
set_option maxHeartbeats 4000000 in
theorem s_X9_readNumber (l : Launch) (b : Nat) (D : va_G) (cy : Nat → ClassId) {Q : Int32 → hp → Prop} {S : hp} {a0 : Nat} {x1 : Int32} {x2 : Int32} (h : wp_X9_readNumber Q S a0 x1 x2) : MT l yX9_readNumber cX9_readNumber 4 (some .boolean) 1 21 0 0 b D cy S [.ref a0, .int x1, .int x2] (pI Q) := by
  refine MT.of (by decide +kernel) (Nat.le_of_ble_eq_true rfl) ?_
  intro p e s m args below meth c X hr hlk hnm
  have j66 : ∀  (S : hp) (l0 : Nat), wB_X9_readNumber_66 Q S l0 → VM l b D cy 4 1 21 0 0 (pI Q) p e s m args below meth c S 0 0 66 [(0, .ref l0)] [] := by
    intro  S l0 h
    unfold wB_X9_readNumber_66 at h
    refine v_aload_n X 0 dX9_readNumber_66 rfl rfl ?_
    refine v_iconst X (v := 1) dX9_readNumber_67 (by decide) ?_
    obtain ⟨hk7, h⟩ := h
    refine v_callV X (av := [.int (1 : Int32)]) (T := TX9) (N := 6) (s_X9_isFault l b D cy h) hk7 (by decide) rfl wd363 wd365 wd6 wd58 k_X9_isFault dn_X9_isFault rfl ⟨Nat.le_of_ble_eq_true rfl, Nat.le_of_ble_eq_true rfl⟩ (Nat.le_of_ble_eq_true rfl) ⟨Nat.le_of_ble_eq_true rfl, Nat.le_of_ble_eq_true rfl⟩ dX9_readNumber_68 rfl (kI (fun r8 S6 h => ?_))
    obtain ⟨hz9, h⟩ := h
    exact v_zret X hr hz9 hlk ⟨_, rfl, h⟩ dX9_readNumber_71
  have j88 : ∀  (S : hp) (l0 : Nat), wB_X9_readNumber_88 Q S l0 → VM l b D cy 4 1 21 0 0 (pI Q) p e s m args below meth c S 0 0 88 [(0, .ref l0)] [] := by
    intro  S l0 h
    unfold wB_X9_readNumber_88 at h
    refine v_aload_n X 0 dX9_readNumber_88 rfl rfl ?_
    refine v_iconst X (v := 2) dX9_readNumber_89 (by decide) ?_
    obtain ⟨hk14, h⟩ := h
    refine v_callV X (av := [.int (2 : Int32)]) (T := TX9) (N := 6) (s_X9_isFault l b D cy h) hk14 (by decide) rfl wd363 wd365 wd6 wd58 k_X9_isFault dn_X9_isFault rfl ⟨Nat.le_of_ble_eq_true rfl, Nat.le_of_ble_eq_true rfl⟩ (Nat.le_of_ble_eq_true rfl) ⟨Nat.le_of_ble_eq_true rfl, Nat.le_of_ble_eq_true rfl⟩ dX9_readNumber_90 rfl (kI (fun r15 S13 h => ?_))
    obtain ⟨hz16, h⟩ := h
    exact v_zret X hr hz16 hlk ⟨_, rfl, h⟩ dX9_readNumber_93
  have j57 : ∀  (S : hp) (l0 : Nat) (l1 : Int32) (l2 : Int32) (l3 : Int32), wB_X9_readNumber_57 Q S l0 l1 l2 l3 → VM l b D cy 4 1 21 0 0 (pI Q) p e s m args below meth c S 0 0 57 [(0, .ref l0), (1, .int l1), (2, .int l2), (3, .int l3)] [] := by
    intro  S l0 l1 l2 l3 h
    unfold wB_X9_readNumber_57 at h
    refine v_iload_n X 3 dX9_readNumber_57 rfl rfl ?_
    refine v_if_eq X (tgt := 66) dX9_readNumber_58 (by decide) (fun c5 => ?_) (fun c5 => ?_)
    · replace h := h.1 c5
      refine v_lv (lv' := [(0, .ref l0)]) [0] rfl ?_
      exact j66 _ _ h
    · replace h := h.2 c5
      refine v_iload_n X 3 dX9_readNumber_61 rfl rfl ?_
      refine v_iconst X (v := 2) dX9_readNumber_62 (by decide) ?_
      refine v_icmp_le X (tgt := 72) dX9_readNumber_63 (by decide) (fun c10 => ?_) (fun c10 => ?_)
      · replace h := h.1 c10
        refine v_aload_n X 0 dX9_readNumber_72 rfl rfl ?_
        obtain ⟨hk11, h⟩ := h
        refine v_getI X (T := TX9) (N := 6) (k := 5) hk11 (by decide) rfl (by decide) inX9 wd118 rfl dX9_readNumber_73 ?_
        refine v_iload_n X 1 dX9_readNumber_76 rfl rfl ?_
        refine v_icmp_lt X (tgt := 88) dX9_readNumber_77 (by decide) (fun c12 => ?_) (fun c12 => ?_)
        · replace h := h.1 c12
          refine v_lv (lv' := [(0, .ref l0)]) [0] rfl ?_
          exact j88 _ _ h
        · replace h := h.2 c12
          refine v_aload_n X 0 dX9_readNumber_80 rfl rfl ?_
          refine v_getI X (T := TX9) (N := 6) (k := 5) hk11 (by decide) rfl (by decide) inX9 wd118 rfl dX9_readNumber_81 ?_
          refine v_iload_n X 2 dX9_readNumber_84 rfl rfl ?_
          refine v_icmp_le X (tgt := 94) dX9_readNumber_85 (by decide) (fun c17 => ?_) (fun c17 => ?_)
          · replace h := h.1 c17
            refine v_aload_n X 0 dX9_readNumber_94 rfl rfl ?_
            refine v_dup X dX9_readNumber_95 rfl ?_
            refine v_getI X (T := TX9) (N := 6) (k := 4) hk11 (by decide) rfl (by decide) inX9 wd117 rfl dX9_readNumber_96 ?_
            refine v_iload_n X 3 dX9_readNumber_99 rfl rfl ?_
            refine v_iadd X dX9_readNumber_100 ?_
            refine v_putI X (T := TX9) (N := 6) (k := 4) hk11 (by decide) rfl (by decide) inX9 wd117 tyX9 tyX9_ok nmX9 rfl rfl rfl rfl dX9_readNumber_101 ?_
            refine v_nmS (fun S18 eS18 => ?_)
            replace h := h S18 eS18
            have hk19 : hK S18 l0 = 8 := by rw [eS18]; exact hk11
            refine v_iconst X (v := 1) dX9_readNumber_104 (by decide) ?_
            exact v_zret X hr (by decide) hlk ⟨_, rfl, h⟩ dX9_readNumber_105
          · replace h := h.2 c17
            refine v_lv (lv' := [(0, .ref l0)]) [0] rfl ?_
            exact j88 _ _ h
      · replace h := h.2 c10
        refine v_lv (lv' := [(0, .ref l0)]) [0] rfl ?_
        exact j66 _ _ h
  have j7 : ∀ (bk7 : hp → Nat → Int32 → Int32 → Int32 → Prop) (hbk7 : ∀ (S : hp) (l0 : Nat) (l1 : Int32) (l2 : Int32) (l3 : Int32), bk7 S l0 l1 l2 l3 → VM l b D cy 4 1 21 0 0 (pI Q) p e s m args below meth c S 0 0 7 [(0, .ref l0), (1, .int l1), (2, .int l2), (3, .int l3)] []) (S : hp) (l0 : Nat) (l1 : Int32) (l2 : Int32) (l3 : Int32), wB_X9_readNumber_7 bk7 Q S l0 l1 l2 l3 → VM l b D cy 4 1 21 0 0 (pI Q) p e s m args below meth c S 0 0 7 [(0, .ref l0), (1, .int l1), (2, .int l2), (3, .int l3)] [] := by
    intro bk7 hbk7 S l0 l1 l2 l3 h
    unfold wB_X9_readNumber_7 at h
    refine v_iload_n X 3 dX9_readNumber_7 rfl rfl ?_
    refine v_iconst X (v := 2) dX9_readNumber_8 (by decide) ?_
    refine v_icmp_gt X (tgt := 57) dX9_readNumber_9 (by decide) (fun c4 => ?_) (fun c4 => ?_)
    · replace h := h.1 c4
      exact j57 _ _ _ _ _ h
    · replace h := h.2 c4
      refine v_aload_n X 0 dX9_readNumber_12 rfl rfl ?_
      refine v_aload_n X 0 dX9_readNumber_13 rfl rfl ?_
      obtain ⟨hk20, h⟩ := h
      refine v_getI X (T := TX9) (N := 6) (k := 4) hk20 (by decide) rfl (by decide) inX9 wd117 rfl dX9_readNumber_14 ?_
      refine v_iload_n X 3 dX9_readNumber_17 rfl rfl ?_
      refine v_iadd X dX9_readNumber_18 ?_
      refine v_callV X (av := [.int ((hI S l0 4) + l3)]) (T := TX9) (N := 6) (s_X9_isFigure l b D cy h) hk20 (by decide) rfl wd371 wd373 wd8 wd58 k_X9_isFigure dn_X9_isFigure rfl ⟨Nat.le_of_ble_eq_true rfl, Nat.le_of_ble_eq_true rfl⟩ (Nat.le_of_ble_eq_true rfl) ⟨Nat.le_of_ble_eq_true rfl, Nat.le_of_ble_eq_true rfl⟩ dX9_readNumber_19 rfl (kI (fun r22 S21 h => ?_))
      refine v_if_eq X (tgt := 57) dX9_readNumber_22 (by decide) (fun c23 => ?_) (fun c23 => ?_)
      · replace h := h.1 c23
        exact j57 _ _ _ _ _ h
      · replace h := h.2 c23
        refine v_aload_n X 0 dX9_readNumber_25 rfl rfl ?_
        refine v_bipush X (v := 10) dX9_readNumber_26 (by decide) ?_
        refine v_aload_n X 0 dX9_readNumber_28 rfl rfl ?_
        obtain ⟨hk24, h⟩ := h
        refine v_getI X (T := TX9) (N := 6) (k := 5) hk24 (by decide) rfl (by decide) inX9 wd118 rfl dX9_readNumber_29 ?_
        refine v_imul X dX9_readNumber_32 ?_
        refine v_aload_n X 0 dX9_readNumber_33 rfl rfl ?_
        obtain ⟨r25, hr25, h⟩ := h
        refine v_getR X (T := TX9) (N := 6) (k := 0) hk24 (by decide) rfl (by decide) inX9 wd110 rfl dX9_readNumber_34 hr25 ?_
        refine v_aload_n X 0 dX9_readNumber_37 rfl rfl ?_
        refine v_getI X (T := TX9) (N := 6) (k := 4) hk24 (by decide) rfl (by decide) inX9 wd117 rfl dX9_readNumber_38 ?_
        refine v_iload_n X 3 dX9_readNumber_41 rfl rfl ?_
        refine v_iadd X dX9_readNumber_42 ?_
        obtain ⟨hk26, h⟩ := h
        obtain ⟨hi27, h⟩ := h
        refine v_iald X hk26 hi27 dX9_readNumber_43 ?_
        refine v_iadd X dX9_readNumber_44 ?_
        refine v_bipush X (v := 48) dX9_readNumber_45 (by decide) ?_
        refine v_isub X dX9_readNumber_47 ?_
        refine v_putI X (T := TX9) (N := 6) (k := 5) hk24 (by decide) rfl (by decide) inX9 wd118 tyX9 tyX9_ok nmX9 rfl rfl rfl rfl dX9_readNumber_48 ?_
        refine v_nmS (fun S28 eS28 => ?_)
        replace h := h S28 eS28
        have hk29 : hK S28 l0 = 8 := by rw [eS28]; exact hk24
        have hk30 : hK S28 r25 = 12 := by rw [eS28]; exact hk26
        have hi31 : vp_in ((hI S21 l0 4) + l3) (hN S28 r25) := by rw [eS28]; exact hi27
        have hr32 : hR S28 l0 0 = some r25 := by rw [eS28]; exact hr25
        obtain ⟨v33, hv33⟩ : ∃ y : Int32, y = l3 + (1 : Int32) := ⟨_, rfl⟩
        replace h := h v33 hv33
        refine v_iinc X (j := 3) (v := v33) (lv' := [(3, .int v33), (0, .ref l0), (1, .int l1), (2, .int l2)]) dX9_readNumber_51 rfl (by rw [hv33] <;> rfl) (by decide) rfl ?_
        refine v_goto X (tgt := 7) dX9_readNumber_54 (by decide) ?_
        refine v_lv (lv' := [(0, .ref l0), (1, .int l1), (2, .int l2), (3, .int v33)]) [1, 2, 3, 0] rfl ?_
        exact hbk7 _ _ _ _ _ h
  have l7 : ∀  (n : Nat) (S : hp) (l0 : Nat) (l1 : Int32) (l2 : Int32) (l3 : Int32), wl_X9_readNumber_7 Q n S l0 l1 l2 l3 → VM l b D cy 4 1 21 0 0 (pI Q) p e s m args below meth c S 0 0 7 [(0, .ref l0), (1, .int l1), (2, .int l2), (3, .int l3)] [] := by
    intro  n
    induction n with
    | zero => intro S l0 l1 l2 l3 h; exact h.elim
    | succ n ih => intro S l0 l1 l2 l3 h; exact j7 (wl_X9_readNumber_7 Q n) ih S l0 l1 l2 l3 h
  unfold wp_X9_readNumber at h
  show VM l b D cy 4 1 21 0 0 (pI Q) p e s m args below meth c S 0 0 0 [(0, .ref a0), (1, .int x1), (2, .int x2)] []
  refine v_iconst X (v := 0) dX9_readNumber_0 (by decide) ?_
  refine v_istore_n X (lv' := [(3, .int (0 : Int32)), (0, .ref a0), (1, .int x1), (2, .int x2)]) dX9_readNumber_1 rfl (by decide) rfl ?_
  refine v_aload_n X 1 dX9_readNumber_2 rfl rfl ?_
  refine v_iconst X (v := 0) dX9_readNumber_3 (by decide) ?_
  obtain ⟨hk1, h⟩ := h
  refine v_putI X (T := TX9) (N := 6) (k := 5) hk1 (by decide) rfl (by decide) inX9 wd118 tyX9 tyX9_ok nmX9 rfl rfl rfl rfl dX9_readNumber_4 ?_
  refine v_nmS (fun S2 eS2 => ?_)
  replace h := h S2 eS2
  have hk3 : hK S2 a0 = 8 := by rw [eS2]; exact hk1
  refine v_lv (lv' := [(0, .ref a0), (1, .int x1), (2, .int x2), (3, .int (0 : Int32))]) [1, 2, 3, 0] rfl ?_
  obtain ⟨n, h⟩ := h
  exact l7 n _ _ _ _ _ h
def wp_X9_readLaw (Q : Int32 → hp → Prop) (S : hp) (a0 : Nat) (a1 : Nat) : Prop :=
  hK S a0 = 8 ∧ wp_X9_readByte (fun r3 S1 => ((r3 = 0 → Q (0 : Int32) S1) ∧ (¬ r3 = 0 → hK S1 a0 = 8 ∧ wp_X9_readNumber (fun r7 S5 => ((r7 = 0 → Q (0 : Int32) S5) ∧ (¬ r7 = 0 → hK S5 a0 = 8 ∧ wp_X9_readByte (fun r11 S9 => ((¬ r11 = 0 → hK S9 a0 = 8 ∧ hK S9 a1 = 7 ∧ ∀ S15 : hp, S15 = setI S9 a1 6 (hI S9 a0 5) → Q (1 : Int32) S15) ∧ (r11 = 0 → Q (0 : Int32) S9))) S5 a0 (59 : Int32)))) S1 a0 (2 : Int32) (20 : Int32)))) S a0 (119 : Int32)
theorem k_X9_readLaw : Cond.code yX9_readLaw cX9_readLaw 2 (some .boolean) ∈ gtb := mg 354 (by decide +kernel) (by decide +kernel)
theorem dn_X9_readLaw : yX9_readLaw.cls ≠ "java/lang/invoke/MethodHandle" ∧ yX9_readLaw.cls ≠ "java/lang/invoke/VarHandle" ∧ (parseMethodDescriptor yX9_readLaw.desc).map (fun d => d.parameters.length) = some 1 := by decide +kernel
set_option maxRecDepth 100000 in
set_option maxHeartbeats 4000000 in
theorem s_X9_readLaw (l : Launch) (b : Nat) (D : va_G) (cy : Nat → ClassId) {Q : Int32 → hp → Prop} {S : hp} {a0 : Nat} {a1 : Nat} (h : wp_X9_readLaw Q S a0 a1) : MT l yX9_readLaw cX9_readLaw 2 (some .boolean) 2 44 0 0 b D cy S [.ref a0, .ref a1] (pI Q) := by
  refine MT.of (by decide +kernel) (Nat.le_of_ble_eq_true rfl) ?_
  intro p e s m args below meth c X hr hlk hnm
  unfold wp_X9_readLaw at h
  show VM l b D cy 2 2 44 0 0 (pI Q) p e s m args below meth c S 0 0 0 [(0, .ref a0), (1, .ref a1)] []
  refine v_aload_n X 0 dX9_readLaw_0 rfl rfl ?_
  refine v_bipush X (v := 119) dX9_readLaw_1 (by decide) ?_
  obtain ⟨hk2, h⟩ := h
  refine v_callV X (av := [.int (119 : Int32)]) (T := TX9) (N := 6) (s_X9_readByte l b D cy h) hk2 (by decide) rfl wd355 wd357 wd4 wd58 k_X9_readByte dn_X9_readByte rfl ⟨Nat.le_of_ble_eq_true rfl, Nat.le_of_ble_eq_true rfl⟩ (Nat.le_of_ble_eq_true rfl) ⟨Nat.le_of_ble_eq_true rfl, Nat.le_of_ble_eq_true rfl⟩ dX9_readLaw_3 rfl (kI (fun r3 S1 h => ?_))
  refine v_if_eq X (tgt := 28) dX9_readLaw_6 (by decide) (fun c4 => ?_) (fun c4 => ?_)
  · replace h := h.1 c4
    refine v_iconst X (v := 0) dX9_readLaw_28 (by decide) ?_
    exact v_zret X hr (by decide) hlk ⟨_, rfl, h⟩ dX9_readLaw_29
  · replace h := h.2 c4
    refine v_aload_n X 0 dX9_readLaw_9 rfl rfl ?_
    refine v_iconst X (v := 2) dX9_readLaw_10 (by decide) ?_
    refine v_bipush X (v := 20) dX9_readLaw_11 (by decide) ?_
    obtain ⟨hk6, h⟩ := h
    refine v_callV X (av := [.int (2 : Int32), .int (20 : Int32)]) (T := TX9) (N := 6) (s_X9_readNumber l b D cy h) hk6 (by decide) rfl wd367 wd369 wd7 wd58 k_X9_readNumber dn_X9_readNumber rfl ⟨Nat.le_of_ble_eq_true rfl, Nat.le_of_ble_eq_true rfl⟩ (Nat.le_of_ble_eq_true rfl) ⟨Nat.le_of_ble_eq_true rfl, Nat.le_of_ble_eq_true rfl⟩ dX9_readLaw_13 rfl (kI (fun r7 S5 h => ?_))
    refine v_if_eq X (tgt := 28) dX9_readLaw_16 (by decide) (fun c8 => ?_) (fun c8 => ?_)
    · replace h := h.1 c8
      refine v_iconst X (v := 0) dX9_readLaw_28 (by decide) ?_
      exact v_zret X hr (by decide) hlk ⟨_, rfl, h⟩ dX9_readLaw_29
    · replace h := h.2 c8
      refine v_aload_n X 0 dX9_readLaw_19 rfl rfl ?_
      refine v_bipush X (v := 59) dX9_readLaw_20 (by decide) ?_
      obtain ⟨hk10, h⟩ := h
      refine v_callV X (av := [.int (59 : Int32)]) (T := TX9) (N := 6) (s_X9_readByte l b D cy h) hk10 (by decide) rfl wd355 wd357 wd4 wd58 k_X9_readByte dn_X9_readByte rfl ⟨Nat.le_of_ble_eq_true rfl, Nat.le_of_ble_eq_true rfl⟩ (Nat.le_of_ble_eq_true rfl) ⟨Nat.le_of_ble_eq_true rfl, Nat.le_of_ble_eq_true rfl⟩ dX9_readLaw_22 rfl (kI (fun r11 S9 h => ?_))
      refine v_if_ne X (tgt := 30) dX9_readLaw_25 (by decide) (fun c12 => ?_) (fun c12 => ?_)
      · replace h := h.1 c12
        refine v_aload_n X 1 dX9_readLaw_30 rfl rfl ?_
        refine v_aload_n X 0 dX9_readLaw_31 rfl rfl ?_
        obtain ⟨hk13, h⟩ := h
        refine v_getI X (T := TX9) (N := 6) (k := 5) hk13 (by decide) rfl (by decide) inX9 wd118 rfl dX9_readLaw_32 ?_
        obtain ⟨hk14, h⟩ := h
        refine v_putI X (T := TX8) (N := 10) (k := 6) hk14 (by decide) rfl (by decide) inX8 wd152 tyX8 tyX8_ok nmX8 rfl rfl rfl rfl dX9_readLaw_35 ?_
        refine v_nmS (fun S15 eS15 => ?_)
        replace h := h S15 eS15
        have hk16 : hK S15 a0 = 8 := by rw [eS15]; exact hk13
        have hk17 : hK S15 a1 = 7 := by rw [eS15]; exact hk14
        refine v_iconst X (v := 1) dX9_readLaw_38 (by decide) ?_
        exact v_zret X hr (by decide) hlk ⟨_, rfl, h⟩ dX9_readLaw_39
      · replace h := h.2 c12
        refine v_iconst X (v := 0) dX9_readLaw_28 (by decide) ?_
        exact v_zret X hr (by decide) hlk ⟨_, rfl, h⟩ dX9_readLaw_29
def wp_X8_at (Q : Int32 → hp → Prop) (S : hp) (x0 : Int32) (x1 : Int32) : Prop :=
  Q (((3 : Int32) * x0) + x1) S
theorem k_X8_at : Cond.code yX8_at cX8_at 2 (some .int) ∈ gtb := mg 385 (by decide +kernel) (by decide +kernel)
theorem dn_X8_at : yX8_at.cls ≠ "java/lang/invoke/MethodHandle" ∧ yX8_at.cls ≠ "java/lang/invoke/VarHandle" ∧ (parseMethodDescriptor yX8_at.desc).map (fun d => d.parameters.length) = some 2 := by decide +kernel
set_option maxRecDepth 100000 in
set_option maxHeartbeats 4000000 in
theorem s_X8_at (l : Launch) (b : Nat) (D : va_G) (cy : Nat → ClassId) {Q : Int32 → hp → Prop} {S : hp} {x0 : Int32} {x1 : Int32} (h : wp_X8_at Q S x0 x1) : MT l yX8_at cX8_at 2 (some .int) 0 0 0 0 b D cy S [.int x0, .int x1] (pI Q) := by
  refine MT.of (by decide +kernel) (Nat.le_of_ble_eq_true rfl) ?_
  intro p e s m args below meth c X hr hlk hnm
  unfold wp_X8_at at h
  show VM l b D cy 2 0 0 0 0 (pI Q) p e s m args below meth c S 0 0 0 [(0, .int x0), (1, .int x1)] []
  refine v_iconst X (v := 3) dX8_at_0 (by decide) ?_
  refine v_iload_n X 0 dX8_at_1 rfl rfl ?_
  refine v_imul X dX8_at_2 ?_
  refine v_iload_n X 1 dX8_at_3 rfl rfl ?_
  refine v_iadd X dX8_at_4 ?_
  exact v_iret X hr hlk ⟨_, rfl, h⟩ dX8_at_5
def wp_X8_make (Q : hp → Prop) (S : hp) (a0 : Nat) (x1 : Int32) (x2 : Int32) : Prop :=
  hK S a0 = 7 ∧ ∃ r2 : Nat, hR S a0 0 = some r2 ∧ hK S r2 = 12 ∧ vp_in x1 (hN S r2) ∧ ∀ S5 : hp, S5 = setI S r2 (x1).toNatClampNeg x2 → ∃ r10 : Nat, hR S5 a0 1 = some r10 ∧ hK S5 r10 = 12 ∧ vp_in x1 (hN S5 r10) ∧ ∀ S13 : hp, S13 = setI S5 r10 (x1).toNatClampNeg x2 → ∃ r21 : Nat, hR S13 a0 2 = some r21 ∧ hK S13 r21 = 12 ∧ vp_in x1 (hN S13 r21) ∧ ∀ S24 : hp, S24 = setI S13 r21 (x1).toNatClampNeg x2 → Q S24
theorem k_X8_make : Cond.code yX8_make cX8_make 3 none ∈ gtb := mg 389 (by decide +kernel) (by decide +kernel)
theorem dn_X8_make : yX8_make.cls ≠ "java/lang/invoke/MethodHandle" ∧ yX8_make.cls ≠ "java/lang/invoke/VarHandle" ∧ (parseMethodDescriptor yX8_make.desc).map (fun d => d.parameters.length) = some 2 := by decide +kernel
set_option maxRecDepth 100000 in
set_option maxHeartbeats 4000000 in
theorem s_X8_make (l : Launch) (b : Nat) (D : va_G) (cy : Nat → ClassId) {Q : hp → Prop} {S : hp} {a0 : Nat} {x1 : Int32} {x2 : Int32} (h : wp_X8_make Q S a0 x1 x2) : MT l yX8_make cX8_make 3 none 0 0 0 0 b D cy S [.ref a0, .int x1, .int x2] (pV Q) := by
  refine MT.of (by decide +kernel) (Nat.le_of_ble_eq_true rfl) ?_
  intro p e s m args below meth c X hr hlk hnm
  unfold wp_X8_make at h
  show VM l b D cy 3 0 0 0 0 (pV Q) p e s m args below meth c S 0 0 0 [(0, .ref a0), (1, .int x1), (2, .int x2)] []
  refine v_aload_n X 0 dX8_make_0 rfl rfl ?_
  obtain ⟨hk1, h⟩ := h
  obtain ⟨r2, hr2, h⟩ := h
  refine v_getR X (T := TX8) (N := 10) (k := 0) hk1 (by decide) rfl (by decide) inX8 wd140 rfl dX8_make_1 hr2 ?_
  refine v_iload_n X 1 dX8_make_4 rfl rfl ?_
  refine v_iload_n X 2 dX8_make_5 rfl rfl ?_
  obtain ⟨hk3, h⟩ := h
  obtain ⟨hi4, h⟩ := h
  refine v_iast X hk3 hi4 dX8_make_6 ?_
  refine v_nmS (fun S5 eS5 => ?_)
  replace h := h S5 eS5
  have hk6 : hK S5 a0 = 7 := by rw [eS5]; exact hk1
  have hk7 : hK S5 r2 = 12 := by rw [eS5]; exact hk3
  have hi8 : vp_in x1 (hN S5 r2) := by rw [eS5]; exact hi4
  have hr9 : hR S5 a0 0 = some r2 := by rw [eS5]; exact hr2
  refine v_aload_n X 0 dX8_make_7 rfl rfl ?_
  obtain ⟨r10, hr10, h⟩ := h
  refine v_getR X (T := TX8) (N := 10) (k := 1) hk6 (by decide) rfl (by decide) inX8 wd143 rfl dX8_make_8 hr10 ?_
  refine v_iload_n X 1 dX8_make_11 rfl rfl ?_
  refine v_iload_n X 2 dX8_make_12 rfl rfl ?_
  obtain ⟨hk11, h⟩ := h
  obtain ⟨hi12, h⟩ := h
  refine v_iast X hk11 hi12 dX8_make_13 ?_
  refine v_nmS (fun S13 eS13 => ?_)
  replace h := h S13 eS13
  have hk14 : hK S13 a0 = 7 := by rw [eS13]; exact hk6
  have hk15 : hK S13 r2 = 12 := by rw [eS13]; exact hk7
  have hk16 : hK S13 r10 = 12 := by rw [eS13]; exact hk11
  have hi17 : vp_in x1 (hN S13 r2) := by rw [eS13]; exact hi8
  have hi18 : vp_in x1 (hN S13 r10) := by rw [eS13]; exact hi12
  have hr19 : hR S13 a0 0 = some r2 := by rw [eS13]; exact hr9
  have hr20 : hR S13 a0 1 = some r10 := by rw [eS13]; exact hr10
  refine v_aload_n X 0 dX8_make_14 rfl rfl ?_
  obtain ⟨r21, hr21, h⟩ := h
  refine v_getR X (T := TX8) (N := 10) (k := 2) hk14 (by decide) rfl (by decide) inX8 wd145 rfl dX8_make_15 hr21 ?_
  refine v_iload_n X 1 dX8_make_18 rfl rfl ?_
  refine v_iload_n X 2 dX8_make_19 rfl rfl ?_
  obtain ⟨hk22, h⟩ := h
  obtain ⟨hi23, h⟩ := h
  refine v_iast X hk22 hi23 dX8_make_20 ?_
  refine v_nmS (fun S24 eS24 => ?_)
  replace h := h S24 eS24
  have hk25 : hK S24 a0 = 7 := by rw [eS24]; exact hk14
  have hk26 : hK S24 r2 = 12 := by rw [eS24]; exact hk15
  have hk27 : hK S24 r10 = 12 := by rw [eS24]; exact hk16
  have hk28 : hK S24 r21 = 12 := by rw [eS24]; exact hk22
  have hi29 : vp_in x1 (hN S24 r2) := by rw [eS24]; exact hi17
  have hi30 : vp_in x1 (hN S24 r10) := by rw [eS24]; exact hi18
  have hi31 : vp_in x1 (hN S24 r21) := by rw [eS24]; exact hi23
  have hr32 : hR S24 a0 0 = some r2 := by rw [eS24]; exact hr19
  have hr33 : hR S24 a0 1 = some r10 := by rw [eS24]; exact hr20
  have hr34 : hR S24 a0 2 = some r21 := by rw [eS24]; exact hr21
  exact v_vret X hr hlk ⟨rfl, h⟩ dX8_make_21
def wB_X9_readInches_19 (bk2 : hp → Nat → Nat → Int32 → Int32 → Prop) (Q : Int32 → hp → Prop) (S : hp) (l0 : Nat) (l1 : Nat) (l2 : Int32) (l3 : Int32) (k0 : Int32) : Prop :=
  hK S l0 = 8 ∧ wp_X9_readNumber (fun r5 S3 => ((r5 = 0 → Q (0 : Int32) S3) ∧ (¬ r5 = 0 → hK S3 l0 = 8 ∧ wp_X9_readByte (fun r9 S7 => ((¬ r9 = 0 → wp_X8_at (fun r12 S11 => hK S11 l0 = 8 ∧ hK S11 l1 = 7 ∧ wp_X8_make (fun S14 => ∀ v16 : Int32, v16 = l3 + (1 : Int32) → bk2 S14 l0 l1 l2 v16) S11 l1 r12 ((hI S11 l0 5))) S7 l2 l3) ∧ (r9 = 0 → Q (0 : Int32) S7))) S3 l0 k0))) S l0 (0 : Int32) (99 : Int32)
def wB_X9_readInches_2 (bk2 : hp → Nat → Nat → Int32 → Int32 → Prop) (Q : Int32 → hp → Prop) (S : hp) (l0 : Nat) (l1 : Nat) (l2 : Int32) (l3 : Int32) : Prop :=
  (((3 : Int32) ≤ l3 → Q (1 : Int32) S) ∧ (¬ (3 : Int32) ≤ l3 → ((¬ l3 = (2 : Int32) → wB_X9_readInches_19 bk2 Q S l0 l1 l2 l3 (44 : Int32)) ∧ (l3 = (2 : Int32) → wB_X9_readInches_19 bk2 Q S l0 l1 l2 l3 (59 : Int32)))))
def wl_X9_readInches_2 (Q : Int32 → hp → Prop) : Nat → hp → Nat → Nat → Int32 → Int32 → Prop
  | 0 => fun _ _ _ _ _ => False
  | n + 1 => wB_X9_readInches_2 (wl_X9_readInches_2 Q n) Q
def wp_X9_readInches (Q : Int32 → hp → Prop) (S : hp) (a0 : Nat) (a1 : Nat) (x2 : Int32) : Prop :=
  ∃ n : Nat, wl_X9_readInches_2 Q n S a0 a1 x2 (0 : Int32)
theorem k_X9_readInches : Cond.code yX9_readInches cX9_readInches 5 (some .boolean) ∈ gtb := mg 382 (by decide +kernel) (by decide +kernel)
theorem dn_X9_readInches : yX9_readInches.cls ≠ "java/lang/invoke/MethodHandle" ∧ yX9_readInches.cls ≠ "java/lang/invoke/VarHandle" ∧ (parseMethodDescriptor yX9_readInches.desc).map (fun d => d.parameters.length) = some 2 := by decide +kernel
set_option maxRecDepth 100000 in
set_option maxHeartbeats 4000000 in
theorem s_X9_readInches (l : Launch) (b : Nat) (D : va_G) (cy : Nat → ClassId) {Q : Int32 → hp → Prop} {S : hp} {a0 : Nat} {a1 : Nat} {x2 : Int32} (h : wp_X9_readInches Q S a0 a1 x2) : MT l yX9_readInches cX9_readInches 5 (some .boolean) 2 44 0 0 b D cy S [.ref a0, .ref a1, .int x2] (pI Q) := by
  refine MT.of (by decide +kernel) (Nat.le_of_ble_eq_true rfl) ?_
  intro p e s m args below meth c X hr hlk hnm
  have j19 : ∀ (bk2 : hp → Nat → Nat → Int32 → Int32 → Prop) (hbk2 : ∀ (S : hp) (l0 : Nat) (l1 : Nat) (l2 : Int32) (l3 : Int32), bk2 S l0 l1 l2 l3 → VM l b D cy 5 2 44 0 0 (pI Q) p e s m args below meth c S 0 0 2 [(0, .ref l0), (1, .ref l1), (2, .int l2), (3, .int l3)] []) (S : hp) (l0 : Nat) (l1 : Nat) (l2 : Int32) (l3 : Int32) (k0 : Int32), wB_X9_readInches_19 bk2 Q S l0 l1 l2 l3 k0 → VM l b D cy 5 2 44 0 0 (pI Q) p e s m args below meth c S 0 0 19 [(0, .ref l0), (1, .ref l1), (2, .int l2), (3, .int l3)] [.int k0] := by
    intro bk2 hbk2 S l0 l1 l2 l3 k0 h
    unfold wB_X9_readInches_19 at h
    refine v_istore X (lv' := [(4, .int k0), (0, .ref l0), (1, .ref l1), (2, .int l2), (3, .int l3)]) dX9_readInches_19 (by decide) rfl ?_
    refine v_aload_n X 1 dX9_readInches_21 rfl rfl ?_
    refine v_iconst X (v := 0) dX9_readInches_22 (by decide) ?_
    refine v_bipush X (v := 99) dX9_readInches_23 (by decide) ?_
    obtain ⟨hk4, h⟩ := h
    refine v_callV X (av := [.int (0 : Int32), .int (99 : Int32)]) (T := TX9) (N := 6) (s_X9_readNumber l b D cy h) hk4 (by decide) rfl wd367 wd369 wd7 wd58 k_X9_readNumber dn_X9_readNumber rfl ⟨Nat.le_of_ble_eq_true rfl, Nat.le_of_ble_eq_true rfl⟩ (Nat.le_of_ble_eq_true rfl) ⟨Nat.le_of_ble_eq_true rfl, Nat.le_of_ble_eq_true rfl⟩ dX9_readInches_25 rfl (kI (fun r5 S3 h => ?_))
    refine v_if_eq X (tgt := 40) dX9_readInches_28 (by decide) (fun c6 => ?_) (fun c6 => ?_)
    · replace h := h.1 c6
      refine v_iconst X (v := 0) dX9_readInches_40 (by decide) ?_
      exact v_zret X hr (by decide) hlk ⟨_, rfl, h⟩ dX9_readInches_41
    · replace h := h.2 c6
      refine v_aload_n X 1 dX9_readInches_31 rfl rfl ?_
      refine v_iload X 0 dX9_readInches_32 rfl ?_
      obtain ⟨hk8, h⟩ := h
      refine v_callV X (av := [.int k0]) (T := TX9) (N := 6) (s_X9_readByte l b D cy h) hk8 (by decide) rfl wd355 wd357 wd4 wd58 k_X9_readByte dn_X9_readByte rfl ⟨Nat.le_of_ble_eq_true rfl, Nat.le_of_ble_eq_true rfl⟩ (Nat.le_of_ble_eq_true rfl) ⟨Nat.le_of_ble_eq_true rfl, Nat.le_of_ble_eq_true rfl⟩ dX9_readInches_34 rfl (kI (fun r9 S7 h => ?_))
      refine v_if_ne X (tgt := 42) dX9_readInches_37 (by decide) (fun c10 => ?_) (fun c10 => ?_)
      · replace h := h.1 c10
        refine v_aload_n X 2 dX9_readInches_42 rfl rfl ?_
        refine v_iload_n X 3 dX9_readInches_43 rfl rfl ?_
        refine v_iload_n X 4 dX9_readInches_44 rfl rfl ?_
        refine v_callS X (av := [.int l2, .int l3]) (s_X8_at l b D cy h) wd383 wd384 wd59 k_X8_at dn_X8_at rfl ⟨Nat.le_of_ble_eq_true rfl, Nat.le_of_ble_eq_true rfl⟩ (Nat.le_of_ble_eq_true rfl) ⟨Nat.le_of_ble_eq_true rfl, Nat.le_of_ble_eq_true rfl⟩ dX9_readInches_45 rfl (kI (fun r12 S11 h => ?_))
        refine v_aload_n X 1 dX9_readInches_48 rfl rfl ?_
        obtain ⟨hk13, h⟩ := h
        refine v_getI X (T := TX9) (N := 6) (k := 5) hk13 (by decide) rfl (by decide) inX9 wd118 rfl dX9_readInches_49 ?_
        obtain ⟨hk15, h⟩ := h
        refine v_callV X (av := [.int r12, .int (hI S11 l0 5)]) (T := TX8) (N := 10) (s_X8_make l b D cy h) hk15 (by decide) rfl wd386 wd387 wd388 wd59 k_X8_make dn_X8_make rfl ⟨Nat.le_of_ble_eq_true rfl, Nat.le_of_ble_eq_true rfl⟩ (Nat.le_of_ble_eq_true rfl) ⟨Nat.le_of_ble_eq_true rfl, Nat.le_of_ble_eq_true rfl⟩ dX9_readInches_52 rfl (kV (fun S14 h => ?_))
        obtain ⟨v16, hv16⟩ : ∃ y : Int32, y = l3 + (1 : Int32) := ⟨_, rfl⟩
        replace h := h v16 hv16
        refine v_iinc X (j := 4) (v := v16) (lv' := [(3, .int v16), (4, .int k0), (0, .ref l0), (1, .ref l1), (2, .int l2)]) dX9_readInches_55 rfl (by rw [hv16] <;> rfl) (by decide) rfl ?_
        refine v_goto X (tgt := 2) dX9_readInches_58 (by decide) ?_
        refine v_lv (lv' := [(0, .ref l0), (1, .ref l1), (2, .int l2), (3, .int v16)]) [2, 3, 4, 0] rfl ?_
        exact hbk2 _ _ _ _ _ h
      · replace h := h.2 c10
        refine v_iconst X (v := 0) dX9_readInches_40 (by decide) ?_
        exact v_zret X hr (by decide) hlk ⟨_, rfl, h⟩ dX9_readInches_41
  have j2 : ∀ (bk2 : hp → Nat → Nat → Int32 → Int32 → Prop) (hbk2 : ∀ (S : hp) (l0 : Nat) (l1 : Nat) (l2 : Int32) (l3 : Int32), bk2 S l0 l1 l2 l3 → VM l b D cy 5 2 44 0 0 (pI Q) p e s m args below meth c S 0 0 2 [(0, .ref l0), (1, .ref l1), (2, .int l2), (3, .int l3)] []) (S : hp) (l0 : Nat) (l1 : Nat) (l2 : Int32) (l3 : Int32), wB_X9_readInches_2 bk2 Q S l0 l1 l2 l3 → VM l b D cy 5 2 44 0 0 (pI Q) p e s m args below meth c S 0 0 2 [(0, .ref l0), (1, .ref l1), (2, .int l2), (3, .int l3)] [] := by
    intro bk2 hbk2 S l0 l1 l2 l3 h
    unfold wB_X9_readInches_2 at h
    refine v_iload_n X 3 dX9_readInches_2 rfl rfl ?_
    refine v_iconst X (v := 3) dX9_readInches_3 (by decide) ?_
    refine v_icmp_ge X (tgt := 61) dX9_readInches_4 (by decide) (fun c1 => ?_) (fun c1 => ?_)
    · replace h := h.1 c1
      refine v_iconst X (v := 1) dX9_readInches_61 (by decide) ?_
      exact v_zret X hr (by decide) hlk ⟨_, rfl, h⟩ dX9_readInches_62
    · replace h := h.2 c1
      refine v_iload_n X 3 dX9_readInches_7 rfl rfl ?_
      refine v_iconst X (v := 2) dX9_readInches_8 (by decide) ?_
      refine v_icmp_ne X (tgt := 17) dX9_readInches_9 (by decide) (fun c2 => ?_) (fun c2 => ?_)
      · replace h := h.1 c2
        refine v_bipush X (v := 44) dX9_readInches_17 (by decide) ?_
        exact j19 bk2 hbk2 _ _ _ _ _ _ h
      · replace h := h.2 c2
        refine v_bipush X (v := 59) dX9_readInches_12 (by decide) ?_
        refine v_goto X (tgt := 19) dX9_readInches_14 (by decide) ?_
        exact j19 bk2 hbk2 _ _ _ _ _ _ h
  have l2 : ∀  (n : Nat) (S : hp) (l0 : Nat) (l1 : Nat) (l2 : Int32) (l3 : Int32), wl_X9_readInches_2 Q n S l0 l1 l2 l3 → VM l b D cy 5 2 44 0 0 (pI Q) p e s m args below meth c S 0 0 2 [(0, .ref l0), (1, .ref l1), (2, .int l2), (3, .int l3)] [] := by
    intro  n
    induction n with
    | zero => intro S l0 l1 l2 l3 h; exact h.elim
    | succ n ih => intro S l0 l1 l2 l3 h; exact j2 (wl_X9_readInches_2 Q n) ih S l0 l1 l2 l3 h
  unfold wp_X9_readInches at h
  show VM l b D cy 5 2 44 0 0 (pI Q) p e s m args below meth c S 0 0 0 [(0, .ref a0), (1, .ref a1), (2, .int x2)] []
  refine v_iconst X (v := 0) dX9_readInches_0 (by decide) ?_
  refine v_istore_n X (lv' := [(3, .int (0 : Int32)), (0, .ref a0), (1, .ref a1), (2, .int x2)]) dX9_readInches_1 rfl (by decide) rfl ?_
  refine v_lv (lv' := [(0, .ref a0), (1, .ref a1), (2, .int x2), (3, .int (0 : Int32))]) [1, 2, 3, 0] rfl ?_
  obtain ⟨n, h⟩ := h
  exact l2 n _ _ _ _ _ h
def wB_X9_readDummies_2 (bk2 : hp → Nat → Nat → Int32 → Prop) (Q : Int32 → hp → Prop) (S : hp) (l0 : Nat) (l1 : Nat) (l2 : Int32) : Prop :=
  (((4 : Int32) < l2 → Q (1 : Int32) S) ∧ (¬ (4 : Int32) < l2 → hK S l0 = 8 ∧ wp_X9_comes (fun r4 S2 => ((r4 = 0 → Q (1 : Int32) S2) ∧ (¬ r4 = 0 → ((¬ l2 = (4 : Int32) → hK S2 l0 = 8 ∧ ∀ S8 : hp, S8 = setI S2 l0 4 ((hI S2 l0 4) + (1 : Int32)) → wp_X9_readInches (fun r11 S10 => ((¬ r11 = 0 → hK S10 l1 = 7 ∧ ∀ S14 : hp, S14 = setI S10 l1 7 (l2 + (1 : Int32)) → ∀ v16 : Int32, v16 = l2 + (1 : Int32) → bk2 S14 l0 l1 v16) ∧ (r11 = 0 → Q (0 : Int32) S10))) S8 l0 l1 l2) ∧ (l2 = (4 : Int32) → hK S2 l0 = 8 ∧ wp_X9_isFault (fun r19 S17 => isZ r19 ∧ Q r19 S17) S2 l0 (3 : Int32)))))) S l0 (100 : Int32)))
def wl_X9_readDummies_2 (Q : Int32 → hp → Prop) : Nat → hp → Nat → Nat → Int32 → Prop
  | 0 => fun _ _ _ _ => False
  | n + 1 => wB_X9_readDummies_2 (wl_X9_readDummies_2 Q n) Q
def wp_X9_readDummies (Q : Int32 → hp → Prop) (S : hp) (a0 : Nat) (a1 : Nat) : Prop :=
  ∃ n : Nat, wl_X9_readDummies_2 Q n S a0 a1 (0 : Int32)
theorem k_X9_readDummies : Cond.code yX9_readDummies cX9_readDummies 3 (some .boolean) ∈ gtb := mg 378 (by decide +kernel) (by decide +kernel)
theorem dn_X9_readDummies : yX9_readDummies.cls ≠ "java/lang/invoke/MethodHandle" ∧ yX9_readDummies.cls ≠ "java/lang/invoke/VarHandle" ∧ (parseMethodDescriptor yX9_readDummies.desc).map (fun d => d.parameters.length) = some 1 := by decide +kernel
set_option maxRecDepth 100000 in
set_option maxHeartbeats 4000000 in
theorem s_X9_readDummies (l : Launch) (b : Nat) (D : va_G) (cy : Nat → ClassId) {Q : Int32 → hp → Prop} {S : hp} {a0 : Nat} {a1 : Nat} (h : wp_X9_readDummies Q S a0 a1) : MT l yX9_readDummies cX9_readDummies 3 (some .boolean) 3 68 0 0 b D cy S [.ref a0, .ref a1] (pI Q) := by
  refine MT.of (by decide +kernel) (Nat.le_of_ble_eq_true rfl) ?_
  intro p e s m args below meth c X hr hlk hnm
  have j2 : ∀ (bk2 : hp → Nat → Nat → Int32 → Prop) (hbk2 : ∀ (S : hp) (l0 : Nat) (l1 : Nat) (l2 : Int32), bk2 S l0 l1 l2 → VM l b D cy 3 3 68 0 0 (pI Q) p e s m args below meth c S 0 0 2 [(0, .ref l0), (1, .ref l1), (2, .int l2)] []) (S : hp) (l0 : Nat) (l1 : Nat) (l2 : Int32), wB_X9_readDummies_2 bk2 Q S l0 l1 l2 → VM l b D cy 3 3 68 0 0 (pI Q) p e s m args below meth c S 0 0 2 [(0, .ref l0), (1, .ref l1), (2, .int l2)] [] := by
    intro bk2 hbk2 S l0 l1 l2 h
    unfold wB_X9_readDummies_2 at h
    refine v_iload_n X 2 dX9_readDummies_2 rfl rfl ?_
    refine v_iconst X (v := 4) dX9_readDummies_3 (by decide) ?_
    refine v_icmp_gt X (tgt := 61) dX9_readDummies_4 (by decide) (fun c1 => ?_) (fun c1 => ?_)
    · replace h := h.1 c1
      refine v_iconst X (v := 1) dX9_readDummies_61 (by decide) ?_
      exact v_zret X hr (by decide) hlk ⟨_, rfl, h⟩ dX9_readDummies_62
    · replace h := h.2 c1
      refine v_aload_n X 0 dX9_readDummies_7 rfl rfl ?_
      refine v_bipush X (v := 100) dX9_readDummies_8 (by decide) ?_
      obtain ⟨hk3, h⟩ := h
      refine v_callV X (av := [.int (100 : Int32)]) (T := TX9) (N := 6) (s_X9_comes l b D cy h) hk3 (by decide) rfl wd359 wd361 wd5 wd58 k_X9_comes dn_X9_comes rfl ⟨Nat.le_of_ble_eq_true rfl, Nat.le_of_ble_eq_true rfl⟩ (Nat.le_of_ble_eq_true rfl) ⟨Nat.le_of_ble_eq_true rfl, Nat.le_of_ble_eq_true rfl⟩ dX9_readDummies_10 rfl (kI (fun r4 S2 h => ?_))
      refine v_if_eq X (tgt := 61) dX9_readDummies_13 (by decide) (fun c5 => ?_) (fun c5 => ?_)
      · replace h := h.1 c5
        refine v_iconst X (v := 1) dX9_readDummies_61 (by decide) ?_
        exact v_zret X hr (by decide) hlk ⟨_, rfl, h⟩ dX9_readDummies_62
      · replace h := h.2 c5
        refine v_iload_n X 2 dX9_readDummies_16 rfl rfl ?_
        refine v_iconst X (v := 4) dX9_readDummies_17 (by decide) ?_
        refine v_icmp_ne X (tgt := 27) dX9_readDummies_18 (by decide) (fun c6 => ?_) (fun c6 => ?_)
        · replace h := h.1 c6
          refine v_aload_n X 0 dX9_readDummies_27 rfl rfl ?_
          refine v_dup X dX9_readDummies_28 rfl ?_
          obtain ⟨hk7, h⟩ := h
          refine v_getI X (T := TX9) (N := 6) (k := 4) hk7 (by decide) rfl (by decide) inX9 wd117 rfl dX9_readDummies_29 ?_
          refine v_iconst X (v := 1) dX9_readDummies_32 (by decide) ?_
          refine v_iadd X dX9_readDummies_33 ?_
          refine v_putI X (T := TX9) (N := 6) (k := 4) hk7 (by decide) rfl (by decide) inX9 wd117 tyX9 tyX9_ok nmX9 rfl rfl rfl rfl dX9_readDummies_34 ?_
          refine v_nmS (fun S8 eS8 => ?_)
          replace h := h S8 eS8
          have hk9 : hK S8 l0 = 8 := by rw [eS8]; exact hk7
          refine v_aload_n X 0 dX9_readDummies_37 rfl rfl ?_
          refine v_aload_n X 1 dX9_readDummies_38 rfl rfl ?_
          refine v_iload_n X 2 dX9_readDummies_39 rfl rfl ?_
          refine v_callV X (av := [.ref l1, .int l2]) (T := TX9) (N := 6) (s_X9_readInches l b D cy h) hk9 (by decide) rfl wd379 wd381 wd10 wd58 k_X9_readInches dn_X9_readInches rfl ⟨Nat.le_of_ble_eq_true rfl, Nat.le_of_ble_eq_true rfl⟩ (Nat.le_of_ble_eq_true rfl) ⟨Nat.le_of_ble_eq_true rfl, Nat.le_of_ble_eq_true rfl⟩ dX9_readDummies_40 rfl (kI (fun r11 S10 h => ?_))
          refine v_if_ne X (tgt := 48) dX9_readDummies_43 (by decide) (fun c12 => ?_) (fun c12 => ?_)
          · replace h := h.1 c12
            refine v_aload_n X 1 dX9_readDummies_48 rfl rfl ?_
            refine v_iload_n X 2 dX9_readDummies_49 rfl rfl ?_
            refine v_iconst X (v := 1) dX9_readDummies_50 (by decide) ?_
            refine v_iadd X dX9_readDummies_51 ?_
            obtain ⟨hk13, h⟩ := h
            refine v_putI X (T := TX8) (N := 10) (k := 7) hk13 (by decide) rfl (by decide) inX8 wd154 tyX8 tyX8_ok nmX8 rfl rfl rfl rfl dX9_readDummies_52 ?_
            refine v_nmS (fun S14 eS14 => ?_)
            replace h := h S14 eS14
            have hk15 : hK S14 l1 = 7 := by rw [eS14]; exact hk13
            obtain ⟨v16, hv16⟩ : ∃ y : Int32, y = l2 + (1 : Int32) := ⟨_, rfl⟩
            replace h := h v16 hv16
            refine v_iinc X (j := 2) (v := v16) (lv' := [(2, .int v16), (0, .ref l0), (1, .ref l1)]) dX9_readDummies_55 rfl (by rw [hv16] <;> rfl) (by decide) rfl ?_
            refine v_goto X (tgt := 2) dX9_readDummies_58 (by decide) ?_
            refine v_lv (lv' := [(0, .ref l0), (1, .ref l1), (2, .int v16)]) [1, 2, 0] rfl ?_
            exact hbk2 _ _ _ _ h
          · replace h := h.2 c12
            refine v_iconst X (v := 0) dX9_readDummies_46 (by decide) ?_
            exact v_zret X hr (by decide) hlk ⟨_, rfl, h⟩ dX9_readDummies_47
        · replace h := h.2 c6
          refine v_aload_n X 0 dX9_readDummies_21 rfl rfl ?_
          refine v_iconst X (v := 3) dX9_readDummies_22 (by decide) ?_
          obtain ⟨hk18, h⟩ := h
          refine v_callV X (av := [.int (3 : Int32)]) (T := TX9) (N := 6) (s_X9_isFault l b D cy h) hk18 (by decide) rfl wd363 wd365 wd6 wd58 k_X9_isFault dn_X9_isFault rfl ⟨Nat.le_of_ble_eq_true rfl, Nat.le_of_ble_eq_true rfl⟩ (Nat.le_of_ble_eq_true rfl) ⟨Nat.le_of_ble_eq_true rfl, Nat.le_of_ble_eq_true rfl⟩ dX9_readDummies_23 rfl (kI (fun r19 S17 h => ?_))
          obtain ⟨hz20, h⟩ := h
          exact v_zret X hr hz20 hlk ⟨_, rfl, h⟩ dX9_readDummies_26
  have l2 : ∀  (n : Nat) (S : hp) (l0 : Nat) (l1 : Nat) (l2 : Int32), wl_X9_readDummies_2 Q n S l0 l1 l2 → VM l b D cy 3 3 68 0 0 (pI Q) p e s m args below meth c S 0 0 2 [(0, .ref l0), (1, .ref l1), (2, .int l2)] [] := by
    intro  n
    induction n with
    | zero => intro S l0 l1 l2 h; exact h.elim
    | succ n ih => intro S l0 l1 l2 h; exact j2 (wl_X9_readDummies_2 Q n) ih S l0 l1 l2 h
  unfold wp_X9_readDummies at h
  show VM l b D cy 3 3 68 0 0 (pI Q) p e s m args below meth c S 0 0 0 [(0, .ref a0), (1, .ref a1)] []
  refine v_iconst X (v := 0) dX9_readDummies_0 (by decide) ?_
  refine v_istore_n X (lv' := [(2, .int (0 : Int32)), (0, .ref a0), (1, .ref a1)]) dX9_readDummies_1 rfl (by decide) rfl ?_
  refine v_lv (lv' := [(0, .ref a0), (1, .ref a1), (2, .int (0 : Int32))]) [1, 2, 0] rfl ?_
  obtain ⟨n, h⟩ := h
  exact l2 n _ _ _ _ h
def wp_X9_kindOf (Q : Int32 → hp → Prop) (S : hp) (x0 : Int32) : Prop :=
  ((x0 = (103 : Int32) → Q (4 : Int32) S) ∧ (x0 = (107 : Int32) → Q (2 : Int32) S) ∧ (x0 = (114 : Int32) → Q (3 : Int32) S) ∧ (x0 = (115 : Int32) → Q (5 : Int32) S) ∧ (x0 = (118 : Int32) → Q (1 : Int32) S) ∧ (¬ x0 = (103 : Int32) → ¬ x0 = (107 : Int32) → ¬ x0 = (114 : Int32) → ¬ x0 = (115 : Int32) → ¬ x0 = (118 : Int32) → Q (-1000000 : Int32) S))
theorem k_X9_kindOf : Cond.code yX9_kindOf cX9_kindOf 1 (some .int) ∈ gtb := mg 396 (by decide +kernel) (by decide +kernel)
theorem dn_X9_kindOf : yX9_kindOf.cls ≠ "java/lang/invoke/MethodHandle" ∧ yX9_kindOf.cls ≠ "java/lang/invoke/VarHandle" ∧ (parseMethodDescriptor yX9_kindOf.desc).map (fun d => d.parameters.length) = some 1 := by decide +kernel
set_option maxRecDepth 100000 in
set_option maxHeartbeats 4000000 in
theorem s_X9_kindOf (l : Launch) (b : Nat) (D : va_G) (cy : Nat → ClassId) {Q : Int32 → hp → Prop} {S : hp} {x0 : Int32} (h : wp_X9_kindOf Q S x0) : MT l yX9_kindOf cX9_kindOf 1 (some .int) 0 0 0 0 b D cy S [.int x0] (pI Q) := by
  refine MT.of (by decide +kernel) (Nat.le_of_ble_eq_true rfl) ?_
  intro p e s m args below meth c X hr hlk hnm
  unfold wp_X9_kindOf at h
  show VM l b D cy 1 0 0 0 0 (pI Q) p e s m args below meth c S 0 0 0 [(0, .int x0)] []
  refine v_iload_n X 0 dX9_kindOf_0 rfl rfl ?_
  by_cases c1 : x0 = (103 : Int32)
  · replace h := h.1 c1
    refine v_look X (tgt := 58) dX9_kindOf_1 (by decide) (by rw [c1] <;> rfl) (by decide) ?_
    refine v_iconst X (v := 4) dX9_kindOf_58 (by decide) ?_
    exact v_iret X hr hlk ⟨_, rfl, h⟩ dX9_kindOf_59
  by_cases c2 : x0 = (107 : Int32)
  · replace h := h.2.1 c2
    refine v_look X (tgt := 54) dX9_kindOf_1 (by decide) (by rw [c2] <;> rfl) (by decide) ?_
    refine v_iconst X (v := 2) dX9_kindOf_54 (by decide) ?_
    exact v_iret X hr hlk ⟨_, rfl, h⟩ dX9_kindOf_55
  by_cases c3 : x0 = (114 : Int32)
  · replace h := h.2.2.1 c3
    refine v_look X (tgt := 56) dX9_kindOf_1 (by decide) (by rw [c3] <;> rfl) (by decide) ?_
    refine v_iconst X (v := 3) dX9_kindOf_56 (by decide) ?_
    exact v_iret X hr hlk ⟨_, rfl, h⟩ dX9_kindOf_57
  by_cases c4 : x0 = (115 : Int32)
  · replace h := h.2.2.2.1 c4
    refine v_look X (tgt := 60) dX9_kindOf_1 (by decide) (by rw [c4] <;> rfl) (by decide) ?_
    refine v_iconst X (v := 5) dX9_kindOf_60 (by decide) ?_
    exact v_iret X hr hlk ⟨_, rfl, h⟩ dX9_kindOf_61
  by_cases c5 : x0 = (118 : Int32)
  · replace h := h.2.2.2.2.1 c5
    refine v_look X (tgt := 52) dX9_kindOf_1 (by decide) (by rw [c5] <;> rfl) (by decide) ?_
    refine v_iconst X (v := 1) dX9_kindOf_52 (by decide) ?_
    exact v_iret X hr hlk ⟨_, rfl, h⟩ dX9_kindOf_53
  replace h := h.2.2.2.2.2 c1 c2 c3 c4 c5
  refine v_look X (off := 61) (tgt := 62) dX9_kindOf_1 (by decide) ((lv_osw c1 rfl).trans ((lv_osw c2 rfl).trans ((lv_osw c3 rfl).trans ((lv_osw c4 rfl).trans ((lv_osw c5 rfl).trans rfl))))) (by decide) ?_
  refine v_ldc X wd397 dX9_kindOf_62 ?_
  exact v_iret X hr hlk ⟨_, rfl, h⟩ dX9_kindOf_64
def wp_X4_init (Q : hp → Prop) (S : hp) (a0 : Nat) (x1 : Int32) (x2 : Int32) : Prop :=
  isM (hK S a0) ∧ ∀ S2 : hp, S2 = setI S a0 0 x1 → ∀ S4 : hp, S4 = setI S2 a0 1 x2 → Q S4
theorem k_X4_init : Cond.code yX4_init cX4_init 3 none ∈ gtb := mg 415 (by decide +kernel) (by decide +kernel)
theorem dn_X4_init : yX4_init.cls ≠ "java/lang/invoke/MethodHandle" ∧ yX4_init.cls ≠ "java/lang/invoke/VarHandle" ∧ (parseMethodDescriptor yX4_init.desc).map (fun d => d.parameters.length) = some 2 := by decide +kernel
set_option maxRecDepth 100000 in
set_option maxHeartbeats 4000000 in
theorem s_X4_init (l : Launch) (b : Nat) (D : va_G) (cy : Nat → ClassId) {Q : hp → Prop} {S : hp} {a0 : Nat} {x1 : Int32} {x2 : Int32} (h : wp_X4_init Q S a0 x1 x2) : MT l yX4_init cX4_init 3 none 1 20 0 0 b D cy S [.ref a0, .int x1, .int x2] (pV Q) := by
  refine MT.of (by decide +kernel) (Nat.le_of_ble_eq_true rfl) ?_
  intro p e s m args below meth c X hr hlk hnm
  unfold wp_X4_init at h
  show VM l b D cy 3 1 20 0 0 (pV Q) p e s m args below meth c S 0 0 0 [(0, .ref a0), (1, .int x1), (2, .int x2)] []
  refine v_aload_n X 0 dX4_init_0 rfl rfl ?_
  refine v_objInit X wd416 wd79 wd80 dX4_init_1 (Nat.le_of_ble_eq_true rfl) (Nat.le_of_ble_eq_true rfl) ?_
  refine v_aload_n X 0 dX4_init_4 rfl rfl ?_
  refine v_iload_n X 1 dX4_init_5 rfl rfl ?_
  obtain ⟨hk1, h⟩ := h
  refine v_putM X (k := 0) hk1 (by decide) hnm rfl wd417 dX4_init_6 ?_
  refine v_nmS (fun S2 eS2 => ?_)
  replace h := h S2 eS2
  have hk3 : isM (hK S2 a0) := by rw [eS2]; exact hk1
  refine v_aload_n X 0 dX4_init_9 rfl rfl ?_
  refine v_iload_n X 2 dX4_init_10 rfl rfl ?_
  refine v_putM X (k := 1) hk3 (by decide) hnm rfl wd420 dX4_init_11 ?_
  refine v_nmS (fun S4 eS4 => ?_)
  replace h := h S4 eS4
  have hk5 : isM (hK S4 a0) := by rw [eS4]; exact hk3
  exact v_vret X hr hlk ⟨rfl, h⟩ dX4_init_14
def wp_X10_init (Q : hp → Prop) (S : hp) (a0 : Nat) (x1 : Int32) (x2 : Int32) : Prop :=
  wp_X4_init (fun S1 => Q S1) S a0 x1 x2
theorem k_X10_init : Cond.code yX10_init cX10_init 3 none ∈ gtb := mg 412 (by decide +kernel) (by decide +kernel)
theorem dn_X10_init : yX10_init.cls ≠ "java/lang/invoke/MethodHandle" ∧ yX10_init.cls ≠ "java/lang/invoke/VarHandle" ∧ (parseMethodDescriptor yX10_init.desc).map (fun d => d.parameters.length) = some 2 := by decide +kernel
set_option maxRecDepth 100000 in
set_option maxHeartbeats 4000000 in
theorem s_X10_init (l : Launch) (b : Nat) (D : va_G) (cy : Nat → ClassId) {Q : hp → Prop} {S : hp} {a0 : Nat} {x1 : Int32} {x2 : Int32} (h : wp_X10_init Q S a0 x1 x2) : MT l yX10_init cX10_init 3 none 2 42 0 0 b D cy S [.ref a0, .int x1, .int x2] (pV Q) := by
  refine MT.of (by decide +kernel) (Nat.le_of_ble_eq_true rfl) ?_
  intro p e s m args below meth c X hr hlk hnm
  unfold wp_X10_init at h
  show VM l b D cy 3 2 42 0 0 (pV Q) p e s m args below meth c S 0 0 0 [(0, .ref a0), (1, .int x1), (2, .int x2)] []
  refine v_aload_n X 0 dX10_init_0 rfl rfl ?_
  refine v_iload_n X 1 dX10_init_1 rfl rfl ?_
  refine v_iload_n X 2 dX10_init_2 rfl rfl ?_
  refine v_callI X (ret := none) (av := [.int x1, .int x2]) (s_X4_init l b D cy h) wd413 wd414 wd65 k_X4_init rfl dn_X4_init rfl ⟨Nat.le_of_ble_eq_true rfl, Nat.le_of_ble_eq_true rfl⟩ (Nat.le_of_ble_eq_true rfl) ⟨Nat.le_of_ble_eq_true rfl, Nat.le_of_ble_eq_true rfl⟩ dX10_init_3 rfl (kV (fun S1 h => ?_))
  exact v_vret X hr hlk ⟨rfl, h⟩ dX10_init_6
def wp_X1_init (Q : hp → Prop) (S : hp) (a0 : Nat) (x1 : Int32) (x2 : Int32) : Prop :=
  wp_X10_init (fun S1 => Q S1) S a0 x1 x2
theorem k_X1_init : Cond.code yX1_init cX1_init 3 none ∈ gtb := mg 409 (by decide +kernel) (by decide +kernel)
theorem dn_X1_init : yX1_init.cls ≠ "java/lang/invoke/MethodHandle" ∧ yX1_init.cls ≠ "java/lang/invoke/VarHandle" ∧ (parseMethodDescriptor yX1_init.desc).map (fun d => d.parameters.length) = some 2 := by decide +kernel
set_option maxRecDepth 100000 in
set_option maxHeartbeats 4000000 in
theorem s_X1_init (l : Launch) (b : Nat) (D : va_G) (cy : Nat → ClassId) {Q : hp → Prop} {S : hp} {a0 : Nat} {x1 : Int32} {x2 : Int32} (h : wp_X1_init Q S a0 x1 x2) : MT l yX1_init cX1_init 3 none 3 64 0 0 b D cy S [.ref a0, .int x1, .int x2] (pV Q) := by
  refine MT.of (by decide +kernel) (Nat.le_of_ble_eq_true rfl) ?_
  intro p e s m args below meth c X hr hlk hnm
  unfold wp_X1_init at h
  show VM l b D cy 3 3 64 0 0 (pV Q) p e s m args below meth c S 0 0 0 [(0, .ref a0), (1, .int x1), (2, .int x2)] []
  refine v_aload_n X 0 dX1_init_0 rfl rfl ?_
  refine v_iload_n X 1 dX1_init_1 rfl rfl ?_
  refine v_iload_n X 2 dX1_init_2 rfl rfl ?_
  refine v_callI X (ret := none) (av := [.int x1, .int x2]) (s_X10_init l b D cy h) wd410 wd411 wd66 k_X10_init rfl dn_X10_init rfl ⟨Nat.le_of_ble_eq_true rfl, Nat.le_of_ble_eq_true rfl⟩ (Nat.le_of_ble_eq_true rfl) ⟨Nat.le_of_ble_eq_true rfl, Nat.le_of_ble_eq_true rfl⟩ dX1_init_3 rfl (kV (fun S1 h => ?_))
  exact v_vret X hr hlk ⟨rfl, h⟩ dX1_init_6
def wp_X5_init (Q : hp → Prop) (S : hp) (a0 : Nat) (x1 : Int32) (x2 : Int32) : Prop :=
  wp_X10_init (fun S1 => Q S1) S a0 x1 x2
theorem k_X5_init : Cond.code yX5_init cX5_init 3 none ∈ gtb := mg 431 (by decide +kernel) (by decide +kernel)
theorem dn_X5_init : yX5_init.cls ≠ "java/lang/invoke/MethodHandle" ∧ yX5_init.cls ≠ "java/lang/invoke/VarHandle" ∧ (parseMethodDescriptor yX5_init.desc).map (fun d => d.parameters.length) = some 2 := by decide +kernel
set_option maxRecDepth 100000 in
set_option maxHeartbeats 4000000 in
theorem s_X5_init (l : Launch) (b : Nat) (D : va_G) (cy : Nat → ClassId) {Q : hp → Prop} {S : hp} {a0 : Nat} {x1 : Int32} {x2 : Int32} (h : wp_X5_init Q S a0 x1 x2) : MT l yX5_init cX5_init 3 none 3 64 0 0 b D cy S [.ref a0, .int x1, .int x2] (pV Q) := by
  refine MT.of (by decide +kernel) (Nat.le_of_ble_eq_true rfl) ?_
  intro p e s m args below meth c X hr hlk hnm
  unfold wp_X5_init at h
  show VM l b D cy 3 3 64 0 0 (pV Q) p e s m args below meth c S 0 0 0 [(0, .ref a0), (1, .int x1), (2, .int x2)] []
  refine v_aload_n X 0 dX5_init_0 rfl rfl ?_
  refine v_iload_n X 1 dX5_init_1 rfl rfl ?_
  refine v_iload_n X 2 dX5_init_2 rfl rfl ?_
  refine v_callI X (ret := none) (av := [.int x1, .int x2]) (s_X10_init l b D cy h) wd432 wd411 wd66 k_X10_init rfl dn_X10_init rfl ⟨Nat.le_of_ble_eq_true rfl, Nat.le_of_ble_eq_true rfl⟩ (Nat.le_of_ble_eq_true rfl) ⟨Nat.le_of_ble_eq_true rfl, Nat.le_of_ble_eq_true rfl⟩ dX5_init_3 rfl (kV (fun S1 h => ?_))
  exact v_vret X hr hlk ⟨rfl, h⟩ dX5_init_6
def wp_X3_init (Q : hp → Prop) (S : hp) (a0 : Nat) (x1 : Int32) (x2 : Int32) : Prop :=
  wp_X4_init (fun S1 => Q S1) S a0 x1 x2
theorem k_X3_init : Cond.code yX3_init cX3_init 3 none ∈ gtb := mg 440 (by decide +kernel) (by decide +kernel)
theorem dn_X3_init : yX3_init.cls ≠ "java/lang/invoke/MethodHandle" ∧ yX3_init.cls ≠ "java/lang/invoke/VarHandle" ∧ (parseMethodDescriptor yX3_init.desc).map (fun d => d.parameters.length) = some 2 := by decide +kernel
set_option maxRecDepth 100000 in
set_option maxHeartbeats 4000000 in
theorem s_X3_init (l : Launch) (b : Nat) (D : va_G) (cy : Nat → ClassId) {Q : hp → Prop} {S : hp} {a0 : Nat} {x1 : Int32} {x2 : Int32} (h : wp_X3_init Q S a0 x1 x2) : MT l yX3_init cX3_init 3 none 2 42 0 0 b D cy S [.ref a0, .int x1, .int x2] (pV Q) := by
  refine MT.of (by decide +kernel) (Nat.le_of_ble_eq_true rfl) ?_
  intro p e s m args below meth c X hr hlk hnm
  unfold wp_X3_init at h
  show VM l b D cy 3 2 42 0 0 (pV Q) p e s m args below meth c S 0 0 0 [(0, .ref a0), (1, .int x1), (2, .int x2)] []
  refine v_aload_n X 0 dX3_init_0 rfl rfl ?_
  refine v_iload_n X 1 dX3_init_1 rfl rfl ?_
  refine v_iload_n X 2 dX3_init_2 rfl rfl ?_
  refine v_callI X (ret := none) (av := [.int x1, .int x2]) (s_X4_init l b D cy h) wd441 wd414 wd65 k_X4_init rfl dn_X4_init rfl ⟨Nat.le_of_ble_eq_true rfl, Nat.le_of_ble_eq_true rfl⟩ (Nat.le_of_ble_eq_true rfl) ⟨Nat.le_of_ble_eq_true rfl, Nat.le_of_ble_eq_true rfl⟩ dX3_init_3 rfl (kV (fun S1 h => ?_))
  exact v_vret X hr hlk ⟨rfl, h⟩ dX3_init_6
def wp_X7_init (Q : hp → Prop) (S : hp) (a0 : Nat) (x1 : Int32) (x2 : Int32) : Prop :=
  wp_X3_init (fun S1 => Q S1) S a0 x1 x2
theorem k_X7_init : Cond.code yX7_init cX7_init 3 none ∈ gtb := mg 449 (by decide +kernel) (by decide +kernel)
theorem dn_X7_init : yX7_init.cls ≠ "java/lang/invoke/MethodHandle" ∧ yX7_init.cls ≠ "java/lang/invoke/VarHandle" ∧ (parseMethodDescriptor yX7_init.desc).map (fun d => d.parameters.length) = some 2 := by decide +kernel
set_option maxRecDepth 100000 in
set_option maxHeartbeats 4000000 in
theorem s_X7_init (l : Launch) (b : Nat) (D : va_G) (cy : Nat → ClassId) {Q : hp → Prop} {S : hp} {a0 : Nat} {x1 : Int32} {x2 : Int32} (h : wp_X7_init Q S a0 x1 x2) : MT l yX7_init cX7_init 3 none 3 64 0 0 b D cy S [.ref a0, .int x1, .int x2] (pV Q) := by
  refine MT.of (by decide +kernel) (Nat.le_of_ble_eq_true rfl) ?_
  intro p e s m args below meth c X hr hlk hnm
  unfold wp_X7_init at h
  show VM l b D cy 3 3 64 0 0 (pV Q) p e s m args below meth c S 0 0 0 [(0, .ref a0), (1, .int x1), (2, .int x2)] []
  refine v_aload_n X 0 dX7_init_0 rfl rfl ?_
  refine v_iload_n X 1 dX7_init_1 rfl rfl ?_
  refine v_iload_n X 2 dX7_init_2 rfl rfl ?_
  refine v_callI X (ret := none) (av := [.int x1, .int x2]) (s_X3_init l b D cy h) wd450 wd439 wd69 k_X3_init rfl dn_X3_init rfl ⟨Nat.le_of_ble_eq_true rfl, Nat.le_of_ble_eq_true rfl⟩ (Nat.le_of_ble_eq_true rfl) ⟨Nat.le_of_ble_eq_true rfl, Nat.le_of_ble_eq_true rfl⟩ dX7_init_3 rfl (kV (fun S1 h => ?_))
  exact v_vret X hr hlk ⟨rfl, h⟩ dX7_init_6
def wp_X8_newMouth (Q : Nat → hp → Prop) (S : hp) (x0 : Int32) (x1 : Int32) (x2 : Int32) : Prop :=
  ((x0 = (2 : Int32) → ∀ S1 : hp, S1 = newC S 1 0 → wp_X1_init (fun S3 => Q (hC S) S3) S1 ((hC S)) x1 x2) ∧ (x0 = (3 : Int32) → ∀ S5 : hp, S5 = newC S 4 0 → wp_X5_init (fun S7 => Q (hC S) S7) S5 ((hC S)) x1 x2) ∧ (x0 = (4 : Int32) → ∀ S9 : hp, S9 = newC S 3 0 → wp_X3_init (fun S11 => Q (hC S) S11) S9 ((hC S)) x1 x2) ∧ (x0 = (5 : Int32) → ∀ S13 : hp, S13 = newC S 6 0 → wp_X7_init (fun S15 => Q (hC S) S15) S13 ((hC S)) x1 x2) ∧ (¬ x0 = (2 : Int32) → ¬ x0 = (3 : Int32) → ¬ x0 = (4 : Int32) → ¬ x0 = (5 : Int32) → ∀ S17 : hp, S17 = newC S 9 0 → wp_X10_init (fun S19 => Q (hC S) S19) S17 ((hC S)) x1 x2))
theorem k_X8_newMouth : Cond.code yX8_newMouth cX8_newMouth 3 (some (.object "DummyInches$Mouth")) ∈ gtb := mg 404 (by decide +kernel) (by decide +kernel)
theorem dn_X8_newMouth : yX8_newMouth.cls ≠ "java/lang/invoke/MethodHandle" ∧ yX8_newMouth.cls ≠ "java/lang/invoke/VarHandle" ∧ (parseMethodDescriptor yX8_newMouth.desc).map (fun d => d.parameters.length) = some 3 := by decide +kernel
set_option maxRecDepth 100000 in
set_option maxHeartbeats 4000000 in
theorem s_X8_newMouth (l : Launch) (b : Nat) (D : va_G) (cy : Nat → ClassId) {Q : Nat → hp → Prop} {S : hp} {x0 : Int32} {x1 : Int32} {x2 : Int32} (h : wp_X8_newMouth Q S x0 x1 x2) : MT l yX8_newMouth cX8_newMouth 3 (some (.object "DummyInches$Mouth")) 4 86 1 2 b D cy S [.int x0, .int x1, .int x2] (pA Q) := by
  refine MT.of (by decide +kernel) (Nat.le_of_ble_eq_true rfl) ?_
  intro p e s m args below meth c X hr hlk hnm
  unfold wp_X8_newMouth at h
  show VM l b D cy 3 4 86 1 2 (pA Q) p e s m args below meth c S 0 0 0 [(0, .int x0), (1, .int x1), (2, .int x2)] []
  refine v_iload_n X 0 dX8_newMouth_0 rfl rfl ?_
  by_cases c4 : x0 = (2 : Int32)
  · replace h := h.1 c4
    refine v_tabIn X (off := 31) (tgt := 32) (2 : Int32) c4 dX8_newMouth_1 (by decide) (by decide) (by decide) (by decide) ?_
    refine v_new X (T := TX1) (N := 2) (ci := 1) rfl (by decide) inX1 tyX1 tyX1_ok wd405 wd406 wd67 dfX1 (Nat.le_of_ble_eq_true rfl) (Nat.le_of_ble_eq_true rfl) dX8_newMouth_32 ?_
    refine v_nmS (fun S1 eS1 => ?_)
    replace h := h S1 eS1
    have hk2 : hK S1 (hC S) = 1 := by rw [eS1, hK_newC, if_pos rfl]
    refine v_dup X dX8_newMouth_35 rfl ?_
    refine v_iload_n X 1 dX8_newMouth_36 rfl rfl ?_
    refine v_iload_n X 2 dX8_newMouth_37 rfl rfl ?_
    refine v_callI X (ret := none) (av := [.int x1, .int x2]) (s_X1_init l b D cy h) wd407 wd408 wd67 k_X1_init rfl dn_X1_init rfl ⟨Nat.le_of_ble_eq_true rfl, Nat.le_of_ble_eq_true rfl⟩ (Nat.le_of_ble_eq_true rfl) ⟨Nat.le_of_ble_eq_true rfl, Nat.le_of_ble_eq_true rfl⟩ dX8_newMouth_38 rfl (kV (fun S3 h => ?_))
    exact v_aret X hr hlk ⟨_, rfl, h⟩ dX8_newMouth_41
  by_cases c8 : x0 = (3 : Int32)
  · replace h := h.2.1 c8
    refine v_tabIn X (off := 41) (tgt := 42) (3 : Int32) c8 dX8_newMouth_1 (by decide) (by decide) (by decide) (by decide) ?_
    refine v_new X (T := TX5) (N := 2) (ci := 4) rfl (by decide) inX5 tyX5 tyX5_ok wd427 wd428 wd68 dfX5 (Nat.le_of_ble_eq_true rfl) (Nat.le_of_ble_eq_true rfl) dX8_newMouth_42 ?_
    refine v_nmS (fun S5 eS5 => ?_)
    replace h := h S5 eS5
    have hk6 : hK S5 (hC S) = 4 := by rw [eS5, hK_newC, if_pos rfl]
    refine v_dup X dX8_newMouth_45 rfl ?_
    refine v_iload_n X 1 dX8_newMouth_46 rfl rfl ?_
    refine v_iload_n X 2 dX8_newMouth_47 rfl rfl ?_
    refine v_callI X (ret := none) (av := [.int x1, .int x2]) (s_X5_init l b D cy h) wd429 wd430 wd68 k_X5_init rfl dn_X5_init rfl ⟨Nat.le_of_ble_eq_true rfl, Nat.le_of_ble_eq_true rfl⟩ (Nat.le_of_ble_eq_true rfl) ⟨Nat.le_of_ble_eq_true rfl, Nat.le_of_ble_eq_true rfl⟩ dX8_newMouth_48 rfl (kV (fun S7 h => ?_))
    exact v_aret X hr hlk ⟨_, rfl, h⟩ dX8_newMouth_51
  by_cases c12 : x0 = (4 : Int32)
  · replace h := h.2.2.1 c12
    refine v_tabIn X (off := 51) (tgt := 52) (4 : Int32) c12 dX8_newMouth_1 (by decide) (by decide) (by decide) (by decide) ?_
    refine v_new X (T := TX3) (N := 2) (ci := 3) rfl (by decide) inX3 tyX3 tyX3_ok wd436 wd437 wd69 dfX3 (Nat.le_of_ble_eq_true rfl) (Nat.le_of_ble_eq_true rfl) dX8_newMouth_52 ?_
    refine v_nmS (fun S9 eS9 => ?_)
    replace h := h S9 eS9
    have hk10 : hK S9 (hC S) = 3 := by rw [eS9, hK_newC, if_pos rfl]
    refine v_dup X dX8_newMouth_55 rfl ?_
    refine v_iload_n X 1 dX8_newMouth_56 rfl rfl ?_
    refine v_iload_n X 2 dX8_newMouth_57 rfl rfl ?_
    refine v_callI X (ret := none) (av := [.int x1, .int x2]) (s_X3_init l b D cy h) wd438 wd439 wd69 k_X3_init rfl dn_X3_init rfl ⟨Nat.le_of_ble_eq_true rfl, Nat.le_of_ble_eq_true rfl⟩ (Nat.le_of_ble_eq_true rfl) ⟨Nat.le_of_ble_eq_true rfl, Nat.le_of_ble_eq_true rfl⟩ dX8_newMouth_58 rfl (kV (fun S11 h => ?_))
    exact v_aret X hr hlk ⟨_, rfl, h⟩ dX8_newMouth_61
  by_cases c16 : x0 = (5 : Int32)
  · replace h := h.2.2.2.1 c16
    refine v_tabIn X (off := 61) (tgt := 62) (5 : Int32) c16 dX8_newMouth_1 (by decide) (by decide) (by decide) (by decide) ?_
    refine v_new X (T := TX7) (N := 2) (ci := 6) rfl (by decide) inX7 tyX7 tyX7_ok wd445 wd446 wd70 dfX7 (Nat.le_of_ble_eq_true rfl) (Nat.le_of_ble_eq_true rfl) dX8_newMouth_62 ?_
    refine v_nmS (fun S13 eS13 => ?_)
    replace h := h S13 eS13
    have hk14 : hK S13 (hC S) = 6 := by rw [eS13, hK_newC, if_pos rfl]
    refine v_dup X dX8_newMouth_65 rfl ?_
    refine v_iload_n X 1 dX8_newMouth_66 rfl rfl ?_
    refine v_iload_n X 2 dX8_newMouth_67 rfl rfl ?_
    refine v_callI X (ret := none) (av := [.int x1, .int x2]) (s_X7_init l b D cy h) wd447 wd448 wd70 k_X7_init rfl dn_X7_init rfl ⟨Nat.le_of_ble_eq_true rfl, Nat.le_of_ble_eq_true rfl⟩ (Nat.le_of_ble_eq_true rfl) ⟨Nat.le_of_ble_eq_true rfl, Nat.le_of_ble_eq_true rfl⟩ dX8_newMouth_68 rfl (kV (fun S15 h => ?_))
    exact v_aret X hr hlk ⟨_, rfl, h⟩ dX8_newMouth_71
  replace h := h.2.2.2.2 c4 c8 c12 c16
  refine v_tabOut X (tgt := 72) dX8_newMouth_1 (by have zc4 := ne_ti (2 : Int32) 2 rfl c4; have zc8 := ne_ti (3 : Int32) 3 rfl c8; have zc12 := ne_ti (4 : Int32) 4 rfl c12; have zc16 := ne_ti (5 : Int32) 5 rfl c16; omega) (by decide) ?_
  refine v_new X (T := TX10) (N := 2) (ci := 9) rfl (by decide) inX10 tyX10 tyX10_ok wd454 wd455 wd66 dfX10 (Nat.le_of_ble_eq_true rfl) (Nat.le_of_ble_eq_true rfl) dX8_newMouth_72 ?_
  refine v_nmS (fun S17 eS17 => ?_)
  replace h := h S17 eS17
  have hk18 : hK S17 (hC S) = 9 := by rw [eS17, hK_newC, if_pos rfl]
  refine v_dup X dX8_newMouth_75 rfl ?_
  refine v_iload_n X 1 dX8_newMouth_76 rfl rfl ?_
  refine v_iload_n X 2 dX8_newMouth_77 rfl rfl ?_
  refine v_callI X (ret := none) (av := [.int x1, .int x2]) (s_X10_init l b D cy h) wd456 wd411 wd66 k_X10_init rfl dn_X10_init rfl ⟨Nat.le_of_ble_eq_true rfl, Nat.le_of_ble_eq_true rfl⟩ (Nat.le_of_ble_eq_true rfl) ⟨Nat.le_of_ble_eq_true rfl, Nat.le_of_ble_eq_true rfl⟩ dX8_newMouth_78 rfl (kV (fun S19 h => ?_))
  exact v_aret X hr hlk ⟨_, rfl, h⟩ dX8_newMouth_81
def wp_X8_addMouth (Q : hp → Prop) (S : hp) (a0 : Nat) (x1 : Int32) (x2 : Int32) : Prop :=
  hK S a0 = 7 ∧ ∃ r2 : Nat, hR S a0 3 = some r2 ∧ wp_X8_newMouth (fun r4 S3 => hK S3 r2 = 14 ∧ vp_in (hI S a0 8) (hN S3 r2) ∧ isM (hK S3 r4) ∧ ∀ S8 : hp, S8 = setR S3 r2 ((hI S a0 8)).toNatClampNeg (some r4) → hK S8 a0 = 7 ∧ ∀ S13 : hp, S13 = setI S8 a0 8 ((hI S8 a0 8) + (1 : Int32)) → Q S13) S x1 ((hI S a0 8)) x2
theorem k_X8_addMouth : Cond.code yX8_addMouth cX8_addMouth 3 none ∈ gtb := mg 401 (by decide +kernel) (by decide +kernel)
theorem dn_X8_addMouth : yX8_addMouth.cls ≠ "java/lang/invoke/MethodHandle" ∧ yX8_addMouth.cls ≠ "java/lang/invoke/VarHandle" ∧ (parseMethodDescriptor yX8_addMouth.desc).map (fun d => d.parameters.length) = some 2 := by decide +kernel
set_option maxRecDepth 100000 in
set_option maxHeartbeats 4000000 in
theorem s_X8_addMouth (l : Launch) (b : Nat) (D : va_G) (cy : Nat → ClassId) {Q : hp → Prop} {S : hp} {a0 : Nat} {x1 : Int32} {x2 : Int32} (h : wp_X8_addMouth Q S a0 x1 x2) : MT l yX8_addMouth cX8_addMouth 3 none 5 108 1 2 b D cy S [.ref a0, .int x1, .int x2] (pV Q) := by
  refine MT.of (by decide +kernel) (Nat.le_of_ble_eq_true rfl) ?_
  intro p e s m args below meth c X hr hlk hnm
  unfold wp_X8_addMouth at h
  show VM l b D cy 3 5 108 1 2 (pV Q) p e s m args below meth c S 0 0 0 [(0, .ref a0), (1, .int x1), (2, .int x2)] []
  refine v_aload_n X 0 dX8_addMouth_0 rfl rfl ?_
  obtain ⟨hk1, h⟩ := h
  obtain ⟨r2, hr2, h⟩ := h
  refine v_getR X (T := TX8) (N := 10) (k := 3) hk1 (by decide) rfl (by decide) inX8 wd147 rfl dX8_addMouth_1 hr2 ?_
  refine v_aload_n X 0 dX8_addMouth_4 rfl rfl ?_
  refine v_getI X (T := TX8) (N := 10) (k := 8) hk1 (by decide) rfl (by decide) inX8 wd158 rfl dX8_addMouth_5 ?_
  refine v_iload_n X 1 dX8_addMouth_8 rfl rfl ?_
  refine v_aload_n X 0 dX8_addMouth_9 rfl rfl ?_
  refine v_getI X (T := TX8) (N := 10) (k := 8) hk1 (by decide) rfl (by decide) inX8 wd158 rfl dX8_addMouth_10 ?_
  refine v_iload_n X 2 dX8_addMouth_13 rfl rfl ?_
  refine v_callS X (av := [.int x1, .int (hI S a0 8), .int x2]) (s_X8_newMouth l b D cy h) wd402 wd403 wd59 k_X8_newMouth dn_X8_newMouth rfl ⟨Nat.le_of_ble_eq_true rfl, Nat.le_of_ble_eq_true rfl⟩ (Nat.le_of_ble_eq_true rfl) ⟨Nat.le_of_ble_eq_true rfl, Nat.le_of_ble_eq_true rfl⟩ dX8_addMouth_14 rfl (kA (fun r4 S3 h => ?_))
  obtain ⟨hk5, h⟩ := h
  obtain ⟨hi6, h⟩ := h
  obtain ⟨hk7, h⟩ := h
  refine v_aastM X hk5 rfl hk7 hi6 dX8_addMouth_17 ?_
  refine v_nmS (fun S8 eS8 => ?_)
  replace h := h S8 eS8
  have hk9 : hK S8 r2 = 14 := by rw [eS8]; exact hk5
  have hk10 : isM (hK S8 r4) := by rw [eS8]; exact hk7
  have hi11 : vp_in (hI S a0 8) (hN S8 r2) := by rw [eS8]; exact hi6
  refine v_aload_n X 0 dX8_addMouth_18 rfl rfl ?_
  refine v_dup X dX8_addMouth_19 rfl ?_
  obtain ⟨hk12, h⟩ := h
  refine v_getI X (T := TX8) (N := 10) (k := 8) hk12 (by decide) rfl (by decide) inX8 wd158 rfl dX8_addMouth_20 ?_
  refine v_iconst X (v := 1) dX8_addMouth_23 (by decide) ?_
  refine v_iadd X dX8_addMouth_24 ?_
  refine v_putI X (T := TX8) (N := 10) (k := 8) hk12 (by decide) rfl (by decide) inX8 wd158 tyX8 tyX8_ok nmX8 rfl rfl rfl rfl dX8_addMouth_25 ?_
  refine v_nmS (fun S13 eS13 => ?_)
  replace h := h S13 eS13
  have hk14 : hK S13 r2 = 14 := by rw [eS13]; exact hk9
  have hk15 : isM (hK S13 r4) := by rw [eS13]; exact hk10
  have hk16 : hK S13 a0 = 7 := by rw [eS13]; exact hk12
  have hi17 : vp_in (hI S a0 8) (hN S13 r2) := by rw [eS13]; exact hi11
  exact v_vret X hr hlk ⟨rfl, h⟩ dX8_addMouth_28
def wB_X9_readMouths_2 (bk2 : hp → Nat → Nat → Int32 → Prop) (Q : Int32 → hp → Prop) (S : hp) (l0 : Nat) (l1 : Nat) (l2 : Int32) : Prop :=
  (((5 : Int32) < l2 → Q (1 : Int32) S) ∧ (¬ (5 : Int32) < l2 → hK S l0 = 8 ∧ (((hI S l0 1) ≤ (hI S l0 4) → Q (1 : Int32) S) ∧ (¬ (hI S l0 1) ≤ (hI S l0 4) → ∃ r4 : Nat, hR S l0 0 = some r4 ∧ hK S r4 = 12 ∧ vp_in (hI S l0 4) (hN S r4) ∧ wp_X9_kindOf (fun r8 S7 => ((¬ r8 = (-1000000 : Int32) → ((¬ l2 = (5 : Int32) → hK S7 l0 = 8 ∧ ∀ S12 : hp, S12 = setI S7 l0 4 ((hI S7 l0 4) + (1 : Int32)) → wp_X9_readNumber (fun r15 S14 => ((r15 = 0 → Q (0 : Int32) S14) ∧ (¬ r15 = 0 → hK S14 l0 = 8 ∧ wp_X9_readByte (fun r19 S17 => ((¬ r19 = 0 → hK S17 l0 = 8 ∧ hK S17 l1 = 7 ∧ wp_X8_addMouth (fun S22 => ∀ v24 : Int32, v24 = l2 + (1 : Int32) → bk2 S22 l0 l1 v24) S17 l1 r8 ((hI S17 l0 5))) ∧ (r19 = 0 → Q (0 : Int32) S17))) S14 l0 (59 : Int32)))) S12 l0 (0 : Int32) (99 : Int32)) ∧ (l2 = (5 : Int32) → hK S7 l0 = 8 ∧ wp_X9_isFault (fun r27 S25 => isZ r27 ∧ Q r27 S25) S7 l0 (3 : Int32)))) ∧ (r8 = (-1000000 : Int32) → hK S7 l0 = 8 ∧ wp_X9_isFault (fun r31 S29 => isZ r31 ∧ Q r31 S29) S7 l0 (1 : Int32)))) S ((hI S r4 ((hI S l0 4)).toNatClampNeg))))))
def wl_X9_readMouths_2 (Q : Int32 → hp → Prop) : Nat → hp → Nat → Nat → Int32 → Prop
  | 0 => fun _ _ _ _ => False
  | n + 1 => wB_X9_readMouths_2 (wl_X9_readMouths_2 Q n) Q
def wp_X9_readMouths (Q : Int32 → hp → Prop) (S : hp) (a0 : Nat) (a1 : Nat) : Prop :=
  wl_X9_readMouths_2 Q 6 S a0 a1 (0 : Int32)
theorem k_X9_readMouths : Cond.code yX9_readMouths cX9_readMouths 4 (some .boolean) ∈ gtb := mg 393 (by decide +kernel) (by decide +kernel)
theorem dn_X9_readMouths : yX9_readMouths.cls ≠ "java/lang/invoke/MethodHandle" ∧ yX9_readMouths.cls ≠ "java/lang/invoke/VarHandle" ∧ (parseMethodDescriptor yX9_readMouths.desc).map (fun d => d.parameters.length) = some 1 := by decide +kernel
set_option maxRecDepth 100000 in
set_option maxHeartbeats 4000000 in
theorem s_X9_readMouths (l : Launch) (b : Nat) (D : va_G) (cy : Nat → ClassId) {Q : Int32 → hp → Prop} {S : hp} {a0 : Nat} {a1 : Nat} (h : wp_X9_readMouths Q S a0 a1) : MT l yX9_readMouths cX9_readMouths 4 (some .boolean) 6 130 6 12 b D cy S [.ref a0, .ref a1] (pI Q) := by
  refine MT.of (by decide +kernel) (Nat.le_of_ble_eq_true rfl) ?_
  intro p e s m args below meth c X hr hlk hnm
  have j2 : ∀ (cl sl : Nat) (hcl : cl + 1 ≤ 6) (hsl : sl + 2 ≤ 12) (bk2 : hp → Nat → Nat → Int32 → Prop) (hbk2 : ∀ (S : hp) (l0 : Nat) (l1 : Nat) (l2 : Int32), bk2 S l0 l1 l2 → VM l b D cy 4 6 130 6 12 (pI Q) p e s m args below meth c S (cl + 1) (sl + 2) 2 [(0, .ref l0), (1, .ref l1), (2, .int l2)] []) (S : hp) (l0 : Nat) (l1 : Nat) (l2 : Int32), wB_X9_readMouths_2 bk2 Q S l0 l1 l2 → VM l b D cy 4 6 130 6 12 (pI Q) p e s m args below meth c S cl sl 2 [(0, .ref l0), (1, .ref l1), (2, .int l2)] [] := by
    intro cl sl hcl hsl bk2 hbk2 S l0 l1 l2 h
    unfold wB_X9_readMouths_2 at h
    refine v_iload_n X 2 dX9_readMouths_2 rfl rfl ?_
    refine v_iconst X (v := 5) dX9_readMouths_3 (by decide) ?_
    refine v_icmp_gt X (tgt := 100) dX9_readMouths_4 (by decide) (fun c1 => ?_) (fun c1 => ?_)
    · replace h := h.1 c1
      refine v_iconst X (v := 1) dX9_readMouths_100 (by decide) ?_
      refine v_widen (c2 := 6) (s2 := 12) (by (try dsimp only); omega) (by (try dsimp only); omega) ?_
      exact v_zret X hr (by decide) hlk ⟨_, rfl, h⟩ dX9_readMouths_101
    · replace h := h.2 c1
      refine v_aload_n X 0 dX9_readMouths_7 rfl rfl ?_
      obtain ⟨hk2, h⟩ := h
      refine v_getI X (T := TX9) (N := 6) (k := 4) hk2 (by decide) rfl (by decide) inX9 wd117 rfl dX9_readMouths_8 ?_
      refine v_aload_n X 0 dX9_readMouths_11 rfl rfl ?_
      refine v_getI X (T := TX9) (N := 6) (k := 1) hk2 (by decide) rfl (by decide) inX9 wd111 rfl dX9_readMouths_12 ?_
      refine v_icmp_ge X (tgt := 100) dX9_readMouths_15 (by decide) (fun c3 => ?_) (fun c3 => ?_)
      · replace h := h.1 c3
        refine v_iconst X (v := 1) dX9_readMouths_100 (by decide) ?_
        refine v_widen (c2 := 6) (s2 := 12) (by (try dsimp only); omega) (by (try dsimp only); omega) ?_
        exact v_zret X hr (by decide) hlk ⟨_, rfl, h⟩ dX9_readMouths_101
      · replace h := h.2 c3
        refine v_aload_n X 0 dX9_readMouths_18 rfl rfl ?_
        obtain ⟨r4, hr4, h⟩ := h
        refine v_getR X (T := TX9) (N := 6) (k := 0) hk2 (by decide) rfl (by decide) inX9 wd110 rfl dX9_readMouths_19 hr4 ?_
        refine v_aload_n X 0 dX9_readMouths_22 rfl rfl ?_
        refine v_getI X (T := TX9) (N := 6) (k := 4) hk2 (by decide) rfl (by decide) inX9 wd117 rfl dX9_readMouths_23 ?_
        obtain ⟨hk5, h⟩ := h
        obtain ⟨hi6, h⟩ := h
        refine v_iald X hk5 hi6 dX9_readMouths_26 ?_
        refine v_callS X (av := [.int (hI S r4 ((hI S l0 4)).toNatClampNeg)]) (s_X9_kindOf l b D cy h) wd394 wd395 wd58 k_X9_kindOf dn_X9_kindOf rfl ⟨Nat.le_of_ble_eq_true rfl, Nat.le_of_ble_eq_true rfl⟩ (Nat.le_of_ble_eq_true rfl) ⟨by (try dsimp only); omega, by (try dsimp only); omega⟩ dX9_readMouths_27 rfl (kI (fun r8 S7 h => ?_))
        refine v_istore_n X (lv' := [(3, .int r8), (0, .ref l0), (1, .ref l1), (2, .int l2)]) dX9_readMouths_30 rfl (by decide) rfl ?_
        refine v_iload_n X 0 dX9_readMouths_31 rfl rfl ?_
        refine v_ldc X wd397 dX9_readMouths_32 ?_
        refine v_icmp_ne X (tgt := 43) dX9_readMouths_34 (by decide) (fun c9 => ?_) (fun c9 => ?_)
        · replace h := h.1 c9
          refine v_iload_n X 3 dX9_readMouths_43 rfl rfl ?_
          refine v_iconst X (v := 5) dX9_readMouths_44 (by decide) ?_
          refine v_icmp_ne X (tgt := 54) dX9_readMouths_45 (by decide) (fun c10 => ?_) (fun c10 => ?_)
          · replace h := h.1 c10
            refine v_aload_n X 1 dX9_readMouths_54 rfl rfl ?_
            refine v_dup X dX9_readMouths_55 rfl ?_
            obtain ⟨hk11, h⟩ := h
            refine v_getI X (T := TX9) (N := 6) (k := 4) hk11 (by decide) rfl (by decide) inX9 wd117 rfl dX9_readMouths_56 ?_
            refine v_iconst X (v := 1) dX9_readMouths_59 (by decide) ?_
            refine v_iadd X dX9_readMouths_60 ?_
            refine v_putI X (T := TX9) (N := 6) (k := 4) hk11 (by decide) rfl (by decide) inX9 wd117 tyX9 tyX9_ok nmX9 rfl rfl rfl rfl dX9_readMouths_61 ?_
            refine v_nmS (fun S12 eS12 => ?_)
            replace h := h S12 eS12
            have hk13 : hK S12 l0 = 8 := by rw [eS12]; exact hk11
            refine v_aload_n X 1 dX9_readMouths_64 rfl rfl ?_
            refine v_iconst X (v := 0) dX9_readMouths_65 (by decide) ?_
            refine v_bipush X (v := 99) dX9_readMouths_66 (by decide) ?_
            refine v_callV X (av := [.int (0 : Int32), .int (99 : Int32)]) (T := TX9) (N := 6) (s_X9_readNumber l b D cy h) hk13 (by decide) rfl wd367 wd369 wd7 wd58 k_X9_readNumber dn_X9_readNumber rfl ⟨Nat.le_of_ble_eq_true rfl, Nat.le_of_ble_eq_true rfl⟩ (Nat.le_of_ble_eq_true rfl) ⟨by (try dsimp only); omega, by (try dsimp only); omega⟩ dX9_readMouths_68 rfl (kI (fun r15 S14 h => ?_))
            refine v_if_eq X (tgt := 83) dX9_readMouths_71 (by decide) (fun c16 => ?_) (fun c16 => ?_)
            · replace h := h.1 c16
              refine v_iconst X (v := 0) dX9_readMouths_83 (by decide) ?_
              refine v_widen (c2 := 6) (s2 := 12) (by (try dsimp only); omega) (by (try dsimp only); omega) ?_
              exact v_zret X hr (by decide) hlk ⟨_, rfl, h⟩ dX9_readMouths_84
            · replace h := h.2 c16
              refine v_aload_n X 1 dX9_readMouths_74 rfl rfl ?_
              refine v_bipush X (v := 59) dX9_readMouths_75 (by decide) ?_
              obtain ⟨hk18, h⟩ := h
              refine v_callV X (av := [.int (59 : Int32)]) (T := TX9) (N := 6) (s_X9_readByte l b D cy h) hk18 (by decide) rfl wd355 wd357 wd4 wd58 k_X9_readByte dn_X9_readByte rfl ⟨Nat.le_of_ble_eq_true rfl, Nat.le_of_ble_eq_true rfl⟩ (Nat.le_of_ble_eq_true rfl) ⟨by (try dsimp only); omega, by (try dsimp only); omega⟩ dX9_readMouths_77 rfl (kI (fun r19 S17 h => ?_))
              refine v_if_ne X (tgt := 85) dX9_readMouths_80 (by decide) (fun c20 => ?_) (fun c20 => ?_)
              · replace h := h.1 c20
                refine v_aload_n X 2 dX9_readMouths_85 rfl rfl ?_
                refine v_iload_n X 0 dX9_readMouths_86 rfl rfl ?_
                refine v_aload_n X 1 dX9_readMouths_87 rfl rfl ?_
                obtain ⟨hk21, h⟩ := h
                refine v_getI X (T := TX9) (N := 6) (k := 5) hk21 (by decide) rfl (by decide) inX9 wd118 rfl dX9_readMouths_88 ?_
                obtain ⟨hk23, h⟩ := h
                refine v_callV X (av := [.int r8, .int (hI S17 l0 5)]) (T := TX8) (N := 10) (s_X8_addMouth l b D cy h) hk23 (by decide) rfl wd398 wd399 wd400 wd59 k_X8_addMouth dn_X8_addMouth rfl ⟨Nat.le_of_ble_eq_true rfl, Nat.le_of_ble_eq_true rfl⟩ (Nat.le_of_ble_eq_true rfl) ⟨by (try dsimp only); omega, by (try dsimp only); omega⟩ dX9_readMouths_91 rfl (kV (fun S22 h => ?_))
                obtain ⟨v24, hv24⟩ : ∃ y : Int32, y = l2 + (1 : Int32) := ⟨_, rfl⟩
                replace h := h v24 hv24
                refine v_iinc X (j := 3) (v := v24) (lv' := [(2, .int v24), (3, .int r8), (0, .ref l0), (1, .ref l1)]) dX9_readMouths_94 rfl (by rw [hv24] <;> rfl) (by decide) rfl ?_
                refine v_goto X (tgt := 2) dX9_readMouths_97 (by decide) ?_
                refine v_lv (lv' := [(0, .ref l0), (1, .ref l1), (2, .int v24)]) [2, 3, 0] rfl ?_
                exact hbk2 _ _ _ _ h
              · replace h := h.2 c20
                refine v_iconst X (v := 0) dX9_readMouths_83 (by decide) ?_
                refine v_widen (c2 := 6) (s2 := 12) (by (try dsimp only); omega) (by (try dsimp only); omega) ?_
                exact v_zret X hr (by decide) hlk ⟨_, rfl, h⟩ dX9_readMouths_84
          · replace h := h.2 c10
            refine v_aload_n X 1 dX9_readMouths_48 rfl rfl ?_
            refine v_iconst X (v := 3) dX9_readMouths_49 (by decide) ?_
            obtain ⟨hk26, h⟩ := h
            refine v_callV X (av := [.int (3 : Int32)]) (T := TX9) (N := 6) (s_X9_isFault l b D cy h) hk26 (by decide) rfl wd363 wd365 wd6 wd58 k_X9_isFault dn_X9_isFault rfl ⟨Nat.le_of_ble_eq_true rfl, Nat.le_of_ble_eq_true rfl⟩ (Nat.le_of_ble_eq_true rfl) ⟨by (try dsimp only); omega, by (try dsimp only); omega⟩ dX9_readMouths_50 rfl (kI (fun r27 S25 h => ?_))
            refine v_widen (c2 := 6) (s2 := 12) (by (try dsimp only); omega) (by (try dsimp only); omega) ?_
            obtain ⟨hz28, h⟩ := h
            exact v_zret X hr hz28 hlk ⟨_, rfl, h⟩ dX9_readMouths_53
        · replace h := h.2 c9
          refine v_aload_n X 1 dX9_readMouths_37 rfl rfl ?_
          refine v_iconst X (v := 1) dX9_readMouths_38 (by decide) ?_
          obtain ⟨hk30, h⟩ := h
          refine v_callV X (av := [.int (1 : Int32)]) (T := TX9) (N := 6) (s_X9_isFault l b D cy h) hk30 (by decide) rfl wd363 wd365 wd6 wd58 k_X9_isFault dn_X9_isFault rfl ⟨Nat.le_of_ble_eq_true rfl, Nat.le_of_ble_eq_true rfl⟩ (Nat.le_of_ble_eq_true rfl) ⟨by (try dsimp only); omega, by (try dsimp only); omega⟩ dX9_readMouths_39 rfl (kI (fun r31 S29 h => ?_))
          refine v_widen (c2 := 6) (s2 := 12) (by (try dsimp only); omega) (by (try dsimp only); omega) ?_
          obtain ⟨hz32, h⟩ := h
          exact v_zret X hr hz32 hlk ⟨_, rfl, h⟩ dX9_readMouths_42
  have l2 : ∀  (n cl sl : Nat), cl + 1 * n ≤ 6 → sl + 2 * n ≤ 12 → ∀ (S : hp) (l0 : Nat) (l1 : Nat) (l2 : Int32), wl_X9_readMouths_2 Q n S l0 l1 l2 → VM l b D cy 4 6 130 6 12 (pI Q) p e s m args below meth c S cl sl 2 [(0, .ref l0), (1, .ref l1), (2, .int l2)] [] := by
    intro  n
    induction n with
    | zero => intro cl sl _ _ S l0 l1 l2 h; exact h.elim
    | succ n ih => intro cl sl hc1 hs1 S l0 l1 l2 h; exact j2 cl sl (by omega) (by omega) (wl_X9_readMouths_2 Q n) (fun S l0 l1 l2 h => ih (cl + 1) (sl + 2) (by omega) (by omega) S l0 l1 l2 h) S l0 l1 l2 h
  unfold wp_X9_readMouths at h
  show VM l b D cy 4 6 130 6 12 (pI Q) p e s m args below meth c S 0 0 0 [(0, .ref a0), (1, .ref a1)] []
  refine v_iconst X (v := 0) dX9_readMouths_0 (by decide) ?_
  refine v_istore_n X (lv' := [(2, .int (0 : Int32)), (0, .ref a0), (1, .ref a1)]) dX9_readMouths_1 rfl (by decide) rfl ?_
  refine v_lv (lv' := [(0, .ref a0), (1, .ref a1), (2, .int (0 : Int32))]) [1, 2, 0] rfl ?_
  exact l2 6 0 0 (by omega) (by omega) _ _ _ _ h
def wp_X9_readInto (Q : Int32 → hp → Prop) (S : hp) (a0 : Nat) (a1 : Nat) : Prop :=
  hK S a0 = 8 ∧ ∀ S2 : hp, S2 = setI S a0 4 (0 : Int32) → hK S2 a1 = 7 ∧ wp_X8_empty (fun S4 => hK S4 a0 = 8 ∧ wp_X9_readLaw (fun r8 S6 => ((r8 = 0 → Q (0 : Int32) S6) ∧ (¬ r8 = 0 → hK S6 a0 = 8 ∧ wp_X9_readDummies (fun r12 S10 => ((r12 = 0 → Q (0 : Int32) S10) ∧ (¬ r12 = 0 → hK S10 a0 = 8 ∧ wp_X9_readMouths (fun r16 S14 => ((r16 = 0 → Q (0 : Int32) S14) ∧ (¬ r16 = 0 → Q (1 : Int32) S14))) S10 a0 a1))) S6 a0 a1))) S4 a0 a1) S2 a1
theorem k_X9_readInto : Cond.code yX9_readInto cX9_readInto 2 (some .boolean) ∈ gtb := mg 346 (by decide +kernel) (by decide +kernel)
theorem dn_X9_readInto : yX9_readInto.cls ≠ "java/lang/invoke/MethodHandle" ∧ yX9_readInto.cls ≠ "java/lang/invoke/VarHandle" ∧ (parseMethodDescriptor yX9_readInto.desc).map (fun d => d.parameters.length) = some 1 := by decide +kernel
set_option maxRecDepth 100000 in
set_option maxHeartbeats 4000000 in
theorem s_X9_readInto (l : Launch) (b : Nat) (D : va_G) (cy : Nat → ClassId) {Q : Int32 → hp → Prop} {S : hp} {a0 : Nat} {a1 : Nat} (h : wp_X9_readInto Q S a0 a1) : MT l yX9_readInto cX9_readInto 2 (some .boolean) 7 153 6 12 b D cy S [.ref a0, .ref a1] (pI Q) := by
  refine MT.of (by decide +kernel) (Nat.le_of_ble_eq_true rfl) ?_
  intro p e s m args below meth c X hr hlk hnm
  unfold wp_X9_readInto at h
  show VM l b D cy 2 7 153 6 12 (pI Q) p e s m args below meth c S 0 0 0 [(0, .ref a0), (1, .ref a1)] []
  refine v_aload_n X 0 dX9_readInto_0 rfl rfl ?_
  refine v_iconst X (v := 0) dX9_readInto_1 (by decide) ?_
  obtain ⟨hk1, h⟩ := h
  refine v_putI X (T := TX9) (N := 6) (k := 4) hk1 (by decide) rfl (by decide) inX9 wd117 tyX9 tyX9_ok nmX9 rfl rfl rfl rfl dX9_readInto_2 ?_
  refine v_nmS (fun S2 eS2 => ?_)
  replace h := h S2 eS2
  have hk3 : hK S2 a0 = 8 := by rw [eS2]; exact hk1
  refine v_aload_n X 1 dX9_readInto_5 rfl rfl ?_
  obtain ⟨hk5, h⟩ := h
  refine v_callV X (av := []) (T := TX8) (N := 10) (s_X8_empty l b D cy h) hk5 (by decide) rfl wd347 wd348 wd349 wd59 k_X8_empty dn_X8_empty rfl ⟨Nat.le_of_ble_eq_true rfl, Nat.le_of_ble_eq_true rfl⟩ (Nat.le_of_ble_eq_true rfl) ⟨Nat.le_of_ble_eq_true rfl, Nat.le_of_ble_eq_true rfl⟩ dX9_readInto_6 rfl (kV (fun S4 h => ?_))
  refine v_aload_n X 0 dX9_readInto_9 rfl rfl ?_
  refine v_aload_n X 1 dX9_readInto_10 rfl rfl ?_
  obtain ⟨hk7, h⟩ := h
  refine v_callV X (av := [.ref a1]) (T := TX9) (N := 6) (s_X9_readLaw l b D cy h) hk7 (by decide) rfl wd351 wd353 wd3 wd58 k_X9_readLaw dn_X9_readLaw rfl ⟨Nat.le_of_ble_eq_true rfl, Nat.le_of_ble_eq_true rfl⟩ (Nat.le_of_ble_eq_true rfl) ⟨Nat.le_of_ble_eq_true rfl, Nat.le_of_ble_eq_true rfl⟩ dX9_readInto_11 rfl (kI (fun r8 S6 h => ?_))
  refine v_if_eq X (tgt := 37) dX9_readInto_14 (by decide) (fun c9 => ?_) (fun c9 => ?_)
  · replace h := h.1 c9
    refine v_iconst X (v := 0) dX9_readInto_37 (by decide) ?_
    refine v_widen (c2 := 6) (s2 := 12) (Nat.le_of_ble_eq_true rfl) (Nat.le_of_ble_eq_true rfl) ?_
    exact v_zret X hr (by decide) hlk ⟨_, rfl, h⟩ dX9_readInto_38
  · replace h := h.2 c9
    refine v_aload_n X 0 dX9_readInto_17 rfl rfl ?_
    refine v_aload_n X 1 dX9_readInto_18 rfl rfl ?_
    obtain ⟨hk11, h⟩ := h
    refine v_callV X (av := [.ref a1]) (T := TX9) (N := 6) (s_X9_readDummies l b D cy h) hk11 (by decide) rfl wd375 wd377 wd9 wd58 k_X9_readDummies dn_X9_readDummies rfl ⟨Nat.le_of_ble_eq_true rfl, Nat.le_of_ble_eq_true rfl⟩ (Nat.le_of_ble_eq_true rfl) ⟨Nat.le_of_ble_eq_true rfl, Nat.le_of_ble_eq_true rfl⟩ dX9_readInto_19 rfl (kI (fun r12 S10 h => ?_))
    refine v_if_eq X (tgt := 37) dX9_readInto_22 (by decide) (fun c13 => ?_) (fun c13 => ?_)
    · replace h := h.1 c13
      refine v_iconst X (v := 0) dX9_readInto_37 (by decide) ?_
      refine v_widen (c2 := 6) (s2 := 12) (Nat.le_of_ble_eq_true rfl) (Nat.le_of_ble_eq_true rfl) ?_
      exact v_zret X hr (by decide) hlk ⟨_, rfl, h⟩ dX9_readInto_38
    · replace h := h.2 c13
      refine v_aload_n X 0 dX9_readInto_25 rfl rfl ?_
      refine v_aload_n X 1 dX9_readInto_26 rfl rfl ?_
      obtain ⟨hk15, h⟩ := h
      refine v_callV X (av := [.ref a1]) (T := TX9) (N := 6) (s_X9_readMouths l b D cy h) hk15 (by decide) rfl wd390 wd392 wd11 wd58 k_X9_readMouths dn_X9_readMouths rfl ⟨Nat.le_of_ble_eq_true rfl, Nat.le_of_ble_eq_true rfl⟩ (Nat.le_of_ble_eq_true rfl) ⟨Nat.le_of_ble_eq_true rfl, Nat.le_of_ble_eq_true rfl⟩ dX9_readInto_27 rfl (kI (fun r16 S14 h => ?_))
      refine v_if_eq X (tgt := 37) dX9_readInto_30 (by decide) (fun c17 => ?_) (fun c17 => ?_)
      · replace h := h.1 c17
        refine v_iconst X (v := 0) dX9_readInto_37 (by decide) ?_
        exact v_zret X hr (by decide) hlk ⟨_, rfl, h⟩ dX9_readInto_38
      · replace h := h.2 c17
        refine v_iconst X (v := 1) dX9_readInto_33 (by decide) ?_
        refine v_goto X (tgt := 38) dX9_readInto_34 (by decide) ?_
        exact v_zret X hr (by decide) hlk ⟨_, rfl, h⟩ dX9_readInto_38
