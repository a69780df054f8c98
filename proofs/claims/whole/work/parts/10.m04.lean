def wp_X2_has (Q : Int32 → hp → Prop) (S : hp) (x0 : Int32) (x1 : Int32) : Prop :=
  ((¬ (((x0).toUInt32 >>> ((x1).toUInt32 &&& Int32.toUInt32 31)).toInt32 &&& (1 : Int32)) = (1 : Int32) → Q (0 : Int32) S) ∧ ((((x0).toUInt32 >>> ((x1).toUInt32 &&& Int32.toUInt32 31)).toInt32 &&& (1 : Int32)) = (1 : Int32) → Q (1 : Int32) S))
theorem k_X2_has : Cond.code yX2_has cX2_has 2 (some .boolean) ∈ gtb := mg 647 (by decide +kernel) (by decide +kernel)
theorem dn_X2_has : yX2_has.cls ≠ "java/lang/invoke/MethodHandle" ∧ yX2_has.cls ≠ "java/lang/invoke/VarHandle" ∧ (parseMethodDescriptor yX2_has.desc).map (fun d => d.parameters.length) = some 2 := by decide +kernel
set_option maxRecDepth 100000 in
set_option maxHeartbeats 4000000 in
theorem s_X2_has (l : Launch) (b : Nat) (D : va_G) (cy : Nat → ClassId) {Q : Int32 → hp → Prop} {S : hp} {x0 : Int32} {x1 : Int32} (h : wp_X2_has Q S x0 x1) : MT l yX2_has cX2_has 2 (some .boolean) 0 0 0 0 b D cy S [.int x0, .int x1] (pI Q) := by
  refine MT.of (by decide +kernel) (Nat.le_of_ble_eq_true rfl) ?_
  intro p e s m args below meth c X hr hlk hnm
  unfold wp_X2_has at h
  show VM l b D cy 2 0 0 0 0 (pI Q) p e s m args below meth c S 0 0 0 [(0, .int x0), (1, .int x1)] []
  refine v_iload_n X 0 dX2_has_0 rfl rfl ?_
  refine v_iload_n X 1 dX2_has_1 rfl rfl ?_
  refine v_iushr X dX2_has_2 ?_
  refine v_iconst X (v := 1) dX2_has_3 (by decide) ?_
  refine v_iand X dX2_has_4 ?_
  refine v_iconst X (v := 1) dX2_has_5 (by decide) ?_
  refine v_icmp_ne X (tgt := 13) dX2_has_6 (by decide) (fun c1 => ?_) (fun c1 => ?_)
  · replace h := h.1 c1
    refine v_iconst X (v := 0) dX2_has_13 (by decide) ?_
    exact v_zret X hr (by decide) hlk ⟨_, rfl, h⟩ dX2_has_14
  · replace h := h.2 c1
    refine v_iconst X (v := 1) dX2_has_9 (by decide) ?_
    refine v_goto X (tgt := 14) dX2_has_10 (by decide) ?_
    exact v_zret X hr (by decide) hlk ⟨_, rfl, h⟩ dX2_has_14
def wB_X2_slipOf_36 (bk5 : hp → Nat → Int32 → Int32 → Int32 → Int32 → Prop) (Q : Int32 → hp → Prop) (S : hp) (l0 : Nat) (l1 : Int32) (l2 : Int32) (l4 : Int32) (k0 : Int32) (k1 : Int32) : Prop :=
  ∀ v5 : Int32, v5 = (k1 + k0) → ∀ v6 : Int32, v6 = l4 + (1 : Int32) → bk5 S l0 l1 l2 v5 v6
def wB_X2_slipOf_5 (bk5 : hp → Nat → Int32 → Int32 → Int32 → Int32 → Prop) (Q : Int32 → hp → Prop) (S : hp) (l0 : Nat) (l1 : Int32) (l2 : Int32) (l3 : Int32) (l4 : Int32) : Prop :=
  (((5 : Int32) ≤ l4 → Q l3 S) ∧ (¬ (5 : Int32) ≤ l4 → wp_X2_has (fun r3 S2 => ((r3 = 0 → wB_X2_slipOf_36 bk5 Q S2 l0 l1 l2 l4 (0 : Int32) l3) ∧ (¬ r3 = 0 → hK S2 l0 = 2 ∧ ∃ r8 : Nat, hR S2 l0 0 = some r8 ∧ wp_X8_at (fun r10 S9 => hK S9 r8 = 12 ∧ vp_in r10 (hN S9 r8) ∧ wB_X2_slipOf_36 bk5 Q S9 l0 l1 l2 l4 ((hI S9 r8 (r10).toNatClampNeg)) l3) S2 l4 l2))) S l1 l4))
def wl_X2_slipOf_5 (Q : Int32 → hp → Prop) : Nat → hp → Nat → Int32 → Int32 → Int32 → Int32 → Prop
  | 0 => fun _ _ _ _ _ _ => False
  | n + 1 => wB_X2_slipOf_5 (wl_X2_slipOf_5 Q n) Q
def wp_X2_slipOf (Q : Int32 → hp → Prop) (S : hp) (a0 : Nat) (x1 : Int32) (x2 : Int32) : Prop :=
  ∃ n : Nat, wl_X2_slipOf_5 Q n S a0 x1 x2 (0 : Int32) (0 : Int32)
theorem k_X2_slipOf : Cond.code yX2_slipOf cX2_slipOf 5 (some .int) ∈ gtb := mg 644 (by decide +kernel) (by decide +kernel)
theorem dn_X2_slipOf : yX2_slipOf.cls ≠ "java/lang/invoke/MethodHandle" ∧ yX2_slipOf.cls ≠ "java/lang/invoke/VarHandle" ∧ (parseMethodDescriptor yX2_slipOf.desc).map (fun d => d.parameters.length) = some 2 := by decide +kernel
set_option maxRecDepth 100000 in
set_option maxHeartbeats 4000000 in
theorem s_X2_slipOf (l : Launch) (b : Nat) (D : va_G) (cy : Nat → ClassId) {Q : Int32 → hp → Prop} {S : hp} {a0 : Nat} {x1 : Int32} {x2 : Int32} (h : wp_X2_slipOf Q S a0 x1 x2) : MT l yX2_slipOf cX2_slipOf 5 (some .int) 1 21 0 0 b D cy S [.ref a0, .int x1, .int x2] (pI Q) := by
  refine MT.of (by decide +kernel) (Nat.le_of_ble_eq_true rfl) ?_
  intro p e s m args below meth c X hr hlk hnm
  have j36 : ∀ (bk5 : hp → Nat → Int32 → Int32 → Int32 → Int32 → Prop) (hbk5 : ∀ (S : hp) (l0 : Nat) (l1 : Int32) (l2 : Int32) (l3 : Int32) (l4 : Int32), bk5 S l0 l1 l2 l3 l4 → VM l b D cy 5 1 21 0 0 (pI Q) p e s m args below meth c S 0 0 5 [(0, .ref l0), (1, .int l1), (2, .int l2), (3, .int l3), (4, .int l4)] []) (S : hp) (l0 : Nat) (l1 : Int32) (l2 : Int32) (l4 : Int32) (k0 : Int32) (k1 : Int32), wB_X2_slipOf_36 bk5 Q S l0 l1 l2 l4 k0 k1 → VM l b D cy 5 1 21 0 0 (pI Q) p e s m args below meth c S 0 0 36 [(0, .ref l0), (1, .int l1), (2, .int l2), (4, .int l4)] [.int k0, .int k1] := by
    intro bk5 hbk5 S l0 l1 l2 l4 k0 k1 h
    unfold wB_X2_slipOf_36 at h
    refine v_iadd X dX2_slipOf_36 ?_
    refine v_nm (fun v5 hv5 => ?_)
    replace h := h v5 hv5
    refine v_istore_n X (lv' := [(3, .int v5), (0, .ref l0), (1, .int l1), (2, .int l2), (4, .int l4)]) dX2_slipOf_37 rfl (by decide) rfl ?_
    obtain ⟨v6, hv6⟩ : ∃ y : Int32, y = l4 + (1 : Int32) := ⟨_, rfl⟩
    replace h := h v6 hv6
    refine v_iinc X (j := 4) (v := v6) (lv' := [(4, .int v6), (3, .int v5), (0, .ref l0), (1, .int l1), (2, .int l2)]) dX2_slipOf_38 rfl (by rw [hv6] <;> rfl) (by decide) rfl ?_
    refine v_goto X (tgt := 5) dX2_slipOf_41 (by decide) ?_
    refine v_lv (lv' := [(0, .ref l0), (1, .int l1), (2, .int l2), (3, .int v5), (4, .int v6)]) [2, 3, 4, 1, 0] rfl ?_
    exact hbk5 _ _ _ _ _ _ h
  have j5 : ∀ (bk5 : hp → Nat → Int32 → Int32 → Int32 → Int32 → Prop) (hbk5 : ∀ (S : hp) (l0 : Nat) (l1 : Int32) (l2 : Int32) (l3 : Int32) (l4 : Int32), bk5 S l0 l1 l2 l3 l4 → VM l b D cy 5 1 21 0 0 (pI Q) p e s m args below meth c S 0 0 5 [(0, .ref l0), (1, .int l1), (2, .int l2), (3, .int l3), (4, .int l4)] []) (S : hp) (l0 : Nat) (l1 : Int32) (l2 : Int32) (l3 : Int32) (l4 : Int32), wB_X2_slipOf_5 bk5 Q S l0 l1 l2 l3 l4 → VM l b D cy 5 1 21 0 0 (pI Q) p e s m args below meth c S 0 0 5 [(0, .ref l0), (1, .int l1), (2, .int l2), (3, .int l3), (4, .int l4)] [] := by
    intro bk5 hbk5 S l0 l1 l2 l3 l4 h
    unfold wB_X2_slipOf_5 at h
    refine v_iload X 4 dX2_slipOf_5 rfl ?_
    refine v_iconst X (v := 5) dX2_slipOf_7 (by decide) ?_
    refine v_icmp_ge X (tgt := 44) dX2_slipOf_8 (by decide) (fun c1 => ?_) (fun c1 => ?_)
    · replace h := h.1 c1
      refine v_iload_n X 3 dX2_slipOf_44 rfl rfl ?_
      exact v_iret X hr hlk ⟨_, rfl, h⟩ dX2_slipOf_45
    · replace h := h.2 c1
      refine v_iload_n X 3 dX2_slipOf_11 rfl rfl ?_
      refine v_iload_n X 1 dX2_slipOf_12 rfl rfl ?_
      refine v_iload X 4 dX2_slipOf_13 rfl ?_
      refine v_callS X (av := [.int l1, .int l4]) (s_X2_has l b D cy h) wd645 wd646 wd60 k_X2_has dn_X2_has rfl ⟨Nat.le_of_ble_eq_true rfl, Nat.le_of_ble_eq_true rfl⟩ (Nat.le_of_ble_eq_true rfl) ⟨Nat.le_of_ble_eq_true rfl, Nat.le_of_ble_eq_true rfl⟩ dX2_slipOf_15 rfl (kI (fun r3 S2 h => ?_))
      refine v_if_eq X (tgt := 35) dX2_slipOf_18 (by decide) (fun c4 => ?_) (fun c4 => ?_)
      · replace h := h.1 c4
        refine v_iconst X (v := 0) dX2_slipOf_35 (by decide) ?_
        refine v_lv (lv' := [(0, .ref l0), (1, .int l1), (2, .int l2), (4, .int l4)]) [0, 1, 2, 4] rfl ?_
        exact j36 bk5 hbk5 _ _ _ _ _ _ _ h
      · replace h := h.2 c4
        refine v_aload_n X 0 dX2_slipOf_21 rfl rfl ?_
        obtain ⟨hk7, h⟩ := h
        obtain ⟨r8, hr8, h⟩ := h
        refine v_getR X (T := TX2) (N := 2) (k := 0) hk7 (by decide) rfl (by decide) inX2 wd190 rfl dX2_slipOf_22 hr8 ?_
        refine v_iload X 4 dX2_slipOf_25 rfl ?_
        refine v_iload_n X 2 dX2_slipOf_27 rfl rfl ?_
        refine v_callS X (av := [.int l4, .int l2]) (s_X8_at l b D cy h) wd640 wd384 wd59 k_X8_at dn_X8_at rfl ⟨Nat.le_of_ble_eq_true rfl, Nat.le_of_ble_eq_true rfl⟩ (Nat.le_of_ble_eq_true rfl) ⟨Nat.le_of_ble_eq_true rfl, Nat.le_of_ble_eq_true rfl⟩ dX2_slipOf_28 rfl (kI (fun r10 S9 h => ?_))
        obtain ⟨hk11, h⟩ := h
        obtain ⟨hi12, h⟩ := h
        refine v_iald X hk11 hi12 dX2_slipOf_31 ?_
        refine v_goto X (tgt := 36) dX2_slipOf_32 (by decide) ?_
        refine v_lv (lv' := [(0, .ref l0), (1, .int l1), (2, .int l2), (4, .int l4)]) [0, 1, 2, 4] rfl ?_
        exact j36 bk5 hbk5 _ _ _ _ _ _ _ h
  have l5 : ∀  (n : Nat) (S : hp) (l0 : Nat) (l1 : Int32) (l2 : Int32) (l3 : Int32) (l4 : Int32), wl_X2_slipOf_5 Q n S l0 l1 l2 l3 l4 → VM l b D cy 5 1 21 0 0 (pI Q) p e s m args below meth c S 0 0 5 [(0, .ref l0), (1, .int l1), (2, .int l2), (3, .int l3), (4, .int l4)] [] := by
    intro  n
    induction n with
    | zero => intro S l0 l1 l2 l3 l4 h; exact h.elim
    | succ n ih => intro S l0 l1 l2 l3 l4 h; exact j5 (wl_X2_slipOf_5 Q n) ih S l0 l1 l2 l3 l4 h
  unfold wp_X2_slipOf at h
  show VM l b D cy 5 1 21 0 0 (pI Q) p e s m args below meth c S 0 0 0 [(0, .ref a0), (1, .int x1), (2, .int x2)] []
  refine v_iconst X (v := 0) dX2_slipOf_0 (by decide) ?_
  refine v_istore_n X (lv' := [(3, .int (0 : Int32)), (0, .ref a0), (1, .int x1), (2, .int x2)]) dX2_slipOf_1 rfl (by decide) rfl ?_
  refine v_iconst X (v := 0) dX2_slipOf_2 (by decide) ?_
  refine v_istore X (lv' := [(4, .int (0 : Int32)), (3, .int (0 : Int32)), (0, .ref a0), (1, .int x1), (2, .int x2)]) dX2_slipOf_3 (by decide) rfl ?_
  refine v_lv (lv' := [(0, .ref a0), (1, .int x1), (2, .int x2), (3, .int (0 : Int32)), (4, .int (0 : Int32))]) [2, 3, 4, 1, 0] rfl ?_
  obtain ⟨n, h⟩ := h
  exact l5 n _ _ _ _ _ _ h
def wp_X6_item (Q : Int32 → hp → Prop) (S : hp) (a0 : Nat) (x1 : Int32) (x2 : Int32) : Prop :=
  hK S a0 = 5 ∧ ∃ r2 : Nat, hR S a0 0 = some r2 ∧ hK S r2 = 16 ∧ vp_in x1 (hN S r2) ∧ ∃ r5 : Nat, hR S r2 (x1).toNatClampNeg = some r5 ∧ hK S r5 = 12 ∧ vp_in x2 (hN S r5) ∧ Q (hI S r5 (x2).toNatClampNeg) S
theorem k_X6_item : Cond.code yX6_item cX6_item 3 (some .int) ∈ gtb := mg 651 (by decide +kernel) (by decide +kernel)
theorem dn_X6_item : yX6_item.cls ≠ "java/lang/invoke/MethodHandle" ∧ yX6_item.cls ≠ "java/lang/invoke/VarHandle" ∧ (parseMethodDescriptor yX6_item.desc).map (fun d => d.parameters.length) = some 2 := by decide +kernel
set_option maxRecDepth 100000 in
set_option maxHeartbeats 4000000 in
theorem s_X6_item (l : Launch) (b : Nat) (D : va_G) (cy : Nat → ClassId) {Q : Int32 → hp → Prop} {S : hp} {a0 : Nat} {x1 : Int32} {x2 : Int32} (h : wp_X6_item Q S a0 x1 x2) : MT l yX6_item cX6_item 3 (some .int) 0 0 0 0 b D cy S [.ref a0, .int x1, .int x2] (pI Q) := by
  refine MT.of (by decide +kernel) (Nat.le_of_ble_eq_true rfl) ?_
  intro p e s m args below meth c X hr hlk hnm
  unfold wp_X6_item at h
  show VM l b D cy 3 0 0 0 0 (pI Q) p e s m args below meth c S 0 0 0 [(0, .ref a0), (1, .int x1), (2, .int x2)] []
  refine v_aload_n X 0 dX6_item_0 rfl rfl ?_
  obtain ⟨hk1, h⟩ := h
  obtain ⟨r2, hr2, h⟩ := h
  refine v_getR X (T := TX6) (N := 4) (k := 0) hk1 (by decide) rfl (by decide) inX6 wd89 rfl dX6_item_1 hr2 ?_
  refine v_iload_n X 1 dX6_item_4 rfl rfl ?_
  obtain ⟨hk3, h⟩ := h
  obtain ⟨hi4, h⟩ := h
  obtain ⟨r5, hr5, h⟩ := h
  refine v_aald16 X hk3 hi4 dX6_item_5 (by rw [hr5] <;> rfl) ?_
  refine v_iload_n X 2 dX6_item_6 rfl rfl ?_
  obtain ⟨hk6, h⟩ := h
  obtain ⟨hi7, h⟩ := h
  refine v_iald X hk6 hi7 dX6_item_7 ?_
  exact v_iret X hr hlk ⟨_, rfl, h⟩ dX6_item_8
def wB_X2_fittingSets_90 (bk12 : hp → Nat → Nat → Nat → Int32 → Int32 → Int32 → Int32 → Prop) (Q : Int32 → hp → Prop) (S : hp) (l0 : Nat) (l1 : Nat) (l3 : Nat) (l4 : Int32) (l5 : Int32) (l7 : Int32) (k0 : Int32) (k1 : Int32) : Prop :=
  ∀ v7 : Int32, v7 = (k1 ||| k0) → ∀ v8 : Int32, v8 = l7 + (1 : Int32) → bk12 S l0 l1 l3 l4 l5 v7 v8
def wB_X2_fittingSets_67 (bk12 : hp → Nat → Nat → Nat → Int32 → Int32 → Int32 → Int32 → Prop) (bk29 : hp → Nat → Nat → Nat → Int32 → Int32 → Int32 → Int32 → Int32 → Int32 → Prop) (Q : Int32 → hp → Prop) (S : hp) (l0 : Nat) (l1 : Nat) (l3 : Nat) (l4 : Int32) (l5 : Int32) (l6 : Int32) (l7 : Int32) (l9 : Int32) (k0 : Int32) : Prop :=
  ∀ v10 : Int32, v10 = l9 + (1 : Int32) → bk29 S l0 l1 l3 l4 l5 l6 l7 k0 v10
def wB_X2_fittingSets_66 (bk12 : hp → Nat → Nat → Nat → Int32 → Int32 → Int32 → Int32 → Prop) (bk29 : hp → Nat → Nat → Nat → Int32 → Int32 → Int32 → Int32 → Int32 → Int32 → Prop) (Q : Int32 → hp → Prop) (S : hp) (l0 : Nat) (l1 : Nat) (l3 : Nat) (l4 : Int32) (l5 : Int32) (l6 : Int32) (l7 : Int32) (l9 : Int32) : Prop :=
  wB_X2_fittingSets_67 bk12 bk29 Q S l0 l1 l3 l4 l5 l6 l7 l9 (0 : Int32)
def wB_X2_fittingSets_29 (bk12 : hp → Nat → Nat → Nat → Int32 → Int32 → Int32 → Int32 → Prop) (bk29 : hp → Nat → Nat → Nat → Int32 → Int32 → Int32 → Int32 → Int32 → Int32 → Prop) (Q : Int32 → hp → Prop) (S : hp) (l0 : Nat) (l1 : Nat) (l3 : Nat) (l4 : Int32) (l5 : Int32) (l6 : Int32) (l7 : Int32) (l8 : Int32) (l9 : Int32) : Prop :=
  (((3 : Int32) ≤ l9 → ((l8 = 0 → wB_X2_fittingSets_90 bk12 Q S l0 l1 l3 l4 l5 l7 (0 : Int32) l6) ∧ (¬ l8 = 0 → wB_X2_fittingSets_90 bk12 Q S l0 l1 l3 l4 l5 l7 (((1 : Int32) <<< (l7 &&& 31))) l6))) ∧ (¬ (3 : Int32) ≤ l9 → ((l8 = 0 → wB_X2_fittingSets_66 bk12 bk29 Q S l0 l1 l3 l4 l5 l6 l7 l9) ∧ (¬ l8 = 0 → hK S l0 = 2 ∧ wp_X2_slipOf (fun r13 S11 => hK S11 l3 = 5 ∧ wp_X6_item (fun r16 S14 => ((¬ r13 = r16 → wB_X2_fittingSets_66 bk12 bk29 Q S14 l0 l1 l3 l4 l5 l6 l7 l9) ∧ (r13 = r16 → wB_X2_fittingSets_67 bk12 bk29 Q S14 l0 l1 l3 l4 l5 l6 l7 l9 (1 : Int32)))) S11 l3 l4 ((l5 + l9))) S l0 l7 l9))))
def wl_X2_fittingSets_29 (bk12 : hp → Nat → Nat → Nat → Int32 → Int32 → Int32 → Int32 → Prop) (Q : Int32 → hp → Prop) : Nat → hp → Nat → Nat → Nat → Int32 → Int32 → Int32 → Int32 → Int32 → Int32 → Prop
  | 0 => fun _ _ _ _ _ _ _ _ _ _ => False
  | n + 1 => wB_X2_fittingSets_29 bk12 (wl_X2_fittingSets_29 bk12 Q n) Q
def wB_X2_fittingSets_12 (bk12 : hp → Nat → Nat → Nat → Int32 → Int32 → Int32 → Int32 → Prop) (Q : Int32 → hp → Prop) (S : hp) (l0 : Nat) (l1 : Nat) (l3 : Nat) (l4 : Int32) (l5 : Int32) (l6 : Int32) (l7 : Int32) : Prop :=
  hK S l1 = 7 ∧ ((((1 : Int32) <<< ((hI S l1 8) &&& 31)) ≤ l7 → Q l6 S) ∧ (¬ ((1 : Int32) <<< ((hI S l1 8) &&& 31)) ≤ l7 → ∃ n : Nat, wl_X2_fittingSets_29 bk12 Q n S l0 l1 l3 l4 l5 l6 l7 (1 : Int32) (0 : Int32)))
def wl_X2_fittingSets_12 (Q : Int32 → hp → Prop) : Nat → hp → Nat → Nat → Nat → Int32 → Int32 → Int32 → Int32 → Prop
  | 0 => fun _ _ _ _ _ _ _ _ => False
  | n + 1 => wB_X2_fittingSets_12 (wl_X2_fittingSets_12 Q n) Q
def wp_X2_fittingSets (Q : Int32 → hp → Prop) (S : hp) (a0 : Nat) (a1 : Nat) (x2 : Int32) (a3 : Nat) (x4 : Int32) (x5 : Int32) : Prop :=
  hK S a0 = 2 ∧ wp_X2_addSlips (fun S1 => ∃ n : Nat, wl_X2_fittingSets_12 Q n S1 a0 a1 a3 x4 x5 (0 : Int32) (0 : Int32)) S a0 a1 x2
theorem k_X2_fittingSets : Cond.code yX2_fittingSets cX2_fittingSets 10 (some .int) ∈ gtb := mg 625 (by decide +kernel) (by decide +kernel)
theorem dn_X2_fittingSets : yX2_fittingSets.cls ≠ "java/lang/invoke/MethodHandle" ∧ yX2_fittingSets.cls ≠ "java/lang/invoke/VarHandle" ∧ (parseMethodDescriptor yX2_fittingSets.desc).map (fun d => d.parameters.length) = some 5 := by decide +kernel
set_option maxRecDepth 100000 in
set_option maxHeartbeats 4000000 in
theorem s_X2_fittingSets (l : Launch) (b : Nat) (D : va_G) (cy : Nat → ClassId) {Q : Int32 → hp → Prop} {S : hp} {a0 : Nat} {a1 : Nat} {x2 : Int32} {a3 : Nat} {x4 : Int32} {x5 : Int32} (h : wp_X2_fittingSets Q S a0 a1 x2 a3 x4 x5) : MT l yX2_fittingSets cX2_fittingSets 10 (some .int) 4 89 0 0 b D cy S [.ref a0, .ref a1, .int x2, .ref a3, .int x4, .int x5] (pI Q) := by
  refine MT.of (by decide +kernel) (Nat.le_of_ble_eq_true rfl) ?_
  intro p e s m args below meth c X hr hlk hnm
  have j90 : ∀ (bk12 : hp → Nat → Nat → Nat → Int32 → Int32 → Int32 → Int32 → Prop) (hbk12 : ∀ (S : hp) (l0 : Nat) (l1 : Nat) (l3 : Nat) (l4 : Int32) (l5 : Int32) (l6 : Int32) (l7 : Int32), bk12 S l0 l1 l3 l4 l5 l6 l7 → VM l b D cy 10 4 89 0 0 (pI Q) p e s m args below meth c S 0 0 12 [(0, .ref l0), (1, .ref l1), (3, .ref l3), (4, .int l4), (5, .int l5), (6, .int l6), (7, .int l7)] []) (S : hp) (l0 : Nat) (l1 : Nat) (l3 : Nat) (l4 : Int32) (l5 : Int32) (l7 : Int32) (k0 : Int32) (k1 : Int32), wB_X2_fittingSets_90 bk12 Q S l0 l1 l3 l4 l5 l7 k0 k1 → VM l b D cy 10 4 89 0 0 (pI Q) p e s m args below meth c S 0 0 90 [(0, .ref l0), (1, .ref l1), (3, .ref l3), (4, .int l4), (5, .int l5), (7, .int l7)] [.int k0, .int k1] := by
    intro bk12 hbk12 S l0 l1 l3 l4 l5 l7 k0 k1 h
    unfold wB_X2_fittingSets_90 at h
    refine v_ior X dX2_fittingSets_90 ?_
    refine v_nm (fun v7 hv7 => ?_)
    replace h := h v7 hv7
    refine v_istore X (lv' := [(6, .int v7), (0, .ref l0), (1, .ref l1), (3, .ref l3), (4, .int l4), (5, .int l5), (7, .int l7)]) dX2_fittingSets_91 (by decide) rfl ?_
    obtain ⟨v8, hv8⟩ : ∃ y : Int32, y = l7 + (1 : Int32) := ⟨_, rfl⟩
    replace h := h v8 hv8
    refine v_iinc X (j := 6) (v := v8) (lv' := [(7, .int v8), (6, .int v7), (0, .ref l0), (1, .ref l1), (3, .ref l3), (4, .int l4), (5, .int l5)]) dX2_fittingSets_93 rfl (by rw [hv8] <;> rfl) (by decide) rfl ?_
    refine v_goto X (tgt := 12) dX2_fittingSets_96 (by decide) ?_
    refine v_lv (lv' := [(0, .ref l0), (1, .ref l1), (3, .ref l3), (4, .int l4), (5, .int l5), (6, .int v7), (7, .int v8)]) [2, 3, 4, 5, 6, 1, 0] rfl ?_
    exact hbk12 _ _ _ _ _ _ _ _ h
  have j67 : ∀ (bk12 : hp → Nat → Nat → Nat → Int32 → Int32 → Int32 → Int32 → Prop) (hbk12 : ∀ (S : hp) (l0 : Nat) (l1 : Nat) (l3 : Nat) (l4 : Int32) (l5 : Int32) (l6 : Int32) (l7 : Int32), bk12 S l0 l1 l3 l4 l5 l6 l7 → VM l b D cy 10 4 89 0 0 (pI Q) p e s m args below meth c S 0 0 12 [(0, .ref l0), (1, .ref l1), (3, .ref l3), (4, .int l4), (5, .int l5), (6, .int l6), (7, .int l7)] []) (bk29 : hp → Nat → Nat → Nat → Int32 → Int32 → Int32 → Int32 → Int32 → Int32 → Prop) (hbk29 : ∀ (S : hp) (l0 : Nat) (l1 : Nat) (l3 : Nat) (l4 : Int32) (l5 : Int32) (l6 : Int32) (l7 : Int32) (l8 : Int32) (l9 : Int32), bk29 S l0 l1 l3 l4 l5 l6 l7 l8 l9 → VM l b D cy 10 4 89 0 0 (pI Q) p e s m args below meth c S 0 0 29 [(0, .ref l0), (1, .ref l1), (3, .ref l3), (4, .int l4), (5, .int l5), (6, .int l6), (7, .int l7), (8, .int l8), (9, .int l9)] []) (S : hp) (l0 : Nat) (l1 : Nat) (l3 : Nat) (l4 : Int32) (l5 : Int32) (l6 : Int32) (l7 : Int32) (l9 : Int32) (k0 : Int32), wB_X2_fittingSets_67 bk12 bk29 Q S l0 l1 l3 l4 l5 l6 l7 l9 k0 → VM l b D cy 10 4 89 0 0 (pI Q) p e s m args below meth c S 0 0 67 [(0, .ref l0), (1, .ref l1), (3, .ref l3), (4, .int l4), (5, .int l5), (6, .int l6), (7, .int l7), (9, .int l9)] [.int k0] := by
    intro bk12 hbk12 bk29 hbk29 S l0 l1 l3 l4 l5 l6 l7 l9 k0 h
    unfold wB_X2_fittingSets_67 at h
    refine v_istore X (lv' := [(8, .int k0), (0, .ref l0), (1, .ref l1), (3, .ref l3), (4, .int l4), (5, .int l5), (6, .int l6), (7, .int l7), (9, .int l9)]) dX2_fittingSets_67 (by decide) rfl ?_
    obtain ⟨v10, hv10⟩ : ∃ y : Int32, y = l9 + (1 : Int32) := ⟨_, rfl⟩
    replace h := h v10 hv10
    refine v_iinc X (j := 8) (v := v10) (lv' := [(9, .int v10), (8, .int k0), (0, .ref l0), (1, .ref l1), (3, .ref l3), (4, .int l4), (5, .int l5), (6, .int l6), (7, .int l7)]) dX2_fittingSets_69 rfl (by rw [hv10] <;> rfl) (by decide) rfl ?_
    refine v_goto X (tgt := 29) dX2_fittingSets_72 (by decide) ?_
    refine v_lv (lv' := [(0, .ref l0), (1, .ref l1), (3, .ref l3), (4, .int l4), (5, .int l5), (6, .int l6), (7, .int l7), (8, .int k0), (9, .int v10)]) [2, 3, 4, 5, 6, 7, 8, 1, 0] rfl ?_
    exact hbk29 _ _ _ _ _ _ _ _ _ _ h
  have j66 : ∀ (bk12 : hp → Nat → Nat → Nat → Int32 → Int32 → Int32 → Int32 → Prop) (hbk12 : ∀ (S : hp) (l0 : Nat) (l1 : Nat) (l3 : Nat) (l4 : Int32) (l5 : Int32) (l6 : Int32) (l7 : Int32), bk12 S l0 l1 l3 l4 l5 l6 l7 → VM l b D cy 10 4 89 0 0 (pI Q) p e s m args below meth c S 0 0 12 [(0, .ref l0), (1, .ref l1), (3, .ref l3), (4, .int l4), (5, .int l5), (6, .int l6), (7, .int l7)] []) (bk29 : hp → Nat → Nat → Nat → Int32 → Int32 → Int32 → Int32 → Int32 → Int32 → Prop) (hbk29 : ∀ (S : hp) (l0 : Nat) (l1 : Nat) (l3 : Nat) (l4 : Int32) (l5 : Int32) (l6 : Int32) (l7 : Int32) (l8 : Int32) (l9 : Int32), bk29 S l0 l1 l3 l4 l5 l6 l7 l8 l9 → VM l b D cy 10 4 89 0 0 (pI Q) p e s m args below meth c S 0 0 29 [(0, .ref l0), (1, .ref l1), (3, .ref l3), (4, .int l4), (5, .int l5), (6, .int l6), (7, .int l7), (8, .int l8), (9, .int l9)] []) (S : hp) (l0 : Nat) (l1 : Nat) (l3 : Nat) (l4 : Int32) (l5 : Int32) (l6 : Int32) (l7 : Int32) (l9 : Int32), wB_X2_fittingSets_66 bk12 bk29 Q S l0 l1 l3 l4 l5 l6 l7 l9 → VM l b D cy 10 4 89 0 0 (pI Q) p e s m args below meth c S 0 0 66 [(0, .ref l0), (1, .ref l1), (3, .ref l3), (4, .int l4), (5, .int l5), (6, .int l6), (7, .int l7), (9, .int l9)] [] := by
    intro bk12 hbk12 bk29 hbk29 S l0 l1 l3 l4 l5 l6 l7 l9 h
    unfold wB_X2_fittingSets_66 at h
    refine v_iconst X (v := 0) dX2_fittingSets_66 (by decide) ?_
    exact j67 bk12 hbk12 bk29 hbk29 _ _ _ _ _ _ _ _ _ _ h
  have j29 : ∀ (bk12 : hp → Nat → Nat → Nat → Int32 → Int32 → Int32 → Int32 → Prop) (hbk12 : ∀ (S : hp) (l0 : Nat) (l1 : Nat) (l3 : Nat) (l4 : Int32) (l5 : Int32) (l6 : Int32) (l7 : Int32), bk12 S l0 l1 l3 l4 l5 l6 l7 → VM l b D cy 10 4 89 0 0 (pI Q) p e s m args below meth c S 0 0 12 [(0, .ref l0), (1, .ref l1), (3, .ref l3), (4, .int l4), (5, .int l5), (6, .int l6), (7, .int l7)] []) (bk29 : hp → Nat → Nat → Nat → Int32 → Int32 → Int32 → Int32 → Int32 → Int32 → Prop) (hbk29 : ∀ (S : hp) (l0 : Nat) (l1 : Nat) (l3 : Nat) (l4 : Int32) (l5 : Int32) (l6 : Int32) (l7 : Int32) (l8 : Int32) (l9 : Int32), bk29 S l0 l1 l3 l4 l5 l6 l7 l8 l9 → VM l b D cy 10 4 89 0 0 (pI Q) p e s m args below meth c S 0 0 29 [(0, .ref l0), (1, .ref l1), (3, .ref l3), (4, .int l4), (5, .int l5), (6, .int l6), (7, .int l7), (8, .int l8), (9, .int l9)] []) (S : hp) (l0 : Nat) (l1 : Nat) (l3 : Nat) (l4 : Int32) (l5 : Int32) (l6 : Int32) (l7 : Int32) (l8 : Int32) (l9 : Int32), wB_X2_fittingSets_29 bk12 bk29 Q S l0 l1 l3 l4 l5 l6 l7 l8 l9 → VM l b D cy 10 4 89 0 0 (pI Q) p e s m args below meth c S 0 0 29 [(0, .ref l0), (1, .ref l1), (3, .ref l3), (4, .int l4), (5, .int l5), (6, .int l6), (7, .int l7), (8, .int l8), (9, .int l9)] [] := by
    intro bk12 hbk12 bk29 hbk29 S l0 l1 l3 l4 l5 l6 l7 l8 l9 h
    unfold wB_X2_fittingSets_29 at h
    refine v_iload X 8 dX2_fittingSets_29 rfl ?_
    refine v_iconst X (v := 3) dX2_fittingSets_31 (by decide) ?_
    refine v_icmp_ge X (tgt := 75) dX2_fittingSets_32 (by decide) (fun c5 => ?_) (fun c5 => ?_)
    · replace h := h.1 c5
      refine v_iload X 5 dX2_fittingSets_75 rfl ?_
      refine v_iload X 7 dX2_fittingSets_77 rfl ?_
      refine v_if_eq X (tgt := 89) dX2_fittingSets_79 (by decide) (fun c6 => ?_) (fun c6 => ?_)
      · replace h := h.1 c6
        refine v_iconst X (v := 0) dX2_fittingSets_89 (by decide) ?_
        refine v_lv (lv' := [(0, .ref l0), (1, .ref l1), (3, .ref l3), (4, .int l4), (5, .int l5), (7, .int l7)]) [0, 1, 2, 3, 4, 6] rfl ?_
        exact j90 bk12 hbk12 _ _ _ _ _ _ _ _ _ h
      · replace h := h.2 c6
        refine v_iconst X (v := 1) dX2_fittingSets_82 (by decide) ?_
        refine v_iload X 6 dX2_fittingSets_83 rfl ?_
        refine v_ishl X dX2_fittingSets_85 ?_
        refine v_goto X (tgt := 90) dX2_fittingSets_86 (by decide) ?_
        refine v_lv (lv' := [(0, .ref l0), (1, .ref l1), (3, .ref l3), (4, .int l4), (5, .int l5), (7, .int l7)]) [0, 1, 2, 3, 4, 6] rfl ?_
        exact j90 bk12 hbk12 _ _ _ _ _ _ _ _ _ h
    · replace h := h.2 c5
      refine v_iload X 7 dX2_fittingSets_35 rfl ?_
      refine v_if_eq X (tgt := 66) dX2_fittingSets_37 (by decide) (fun c9 => ?_) (fun c9 => ?_)
      · replace h := h.1 c9
        refine v_lv (lv' := [(0, .ref l0), (1, .ref l1), (3, .ref l3), (4, .int l4), (5, .int l5), (6, .int l6), (7, .int l7), (9, .int l9)]) [0, 1, 2, 3, 4, 5, 6, 8] rfl ?_
        exact j66 bk12 hbk12 bk29 hbk29 _ _ _ _ _ _ _ _ _ h
      · replace h := h.2 c9
        refine v_aload_n X 0 dX2_fittingSets_40 rfl rfl ?_
        refine v_iload X 6 dX2_fittingSets_41 rfl ?_
        refine v_iload X 8 dX2_fittingSets_43 rfl ?_
        obtain ⟨hk12, h⟩ := h
        refine v_callV X (av := [.int l7, .int l9]) (T := TX2) (N := 2) (s_X2_slipOf l b D cy h) hk12 (by decide) rfl wd641 wd643 wd19 wd60 k_X2_slipOf dn_X2_slipOf rfl ⟨Nat.le_of_ble_eq_true rfl, Nat.le_of_ble_eq_true rfl⟩ (Nat.le_of_ble_eq_true rfl) ⟨Nat.le_of_ble_eq_true rfl, Nat.le_of_ble_eq_true rfl⟩ dX2_fittingSets_45 rfl (kI (fun r13 S11 h => ?_))
        refine v_aload_n X 2 dX2_fittingSets_48 rfl rfl ?_
        refine v_iload X 3 dX2_fittingSets_49 rfl ?_
        refine v_iload X 4 dX2_fittingSets_51 rfl ?_
        refine v_iload X 8 dX2_fittingSets_53 rfl ?_
        refine v_iadd X dX2_fittingSets_55 ?_
        obtain ⟨hk15, h⟩ := h
        refine v_callV X (av := [.int l4, .int (l5 + l9)]) (T := TX6) (N := 4) (s_X6_item l b D cy h) hk15 (by decide) rfl wd648 wd649 wd650 wd57 k_X6_item dn_X6_item rfl ⟨Nat.le_of_ble_eq_true rfl, Nat.le_of_ble_eq_true rfl⟩ (Nat.le_of_ble_eq_true rfl) ⟨Nat.le_of_ble_eq_true rfl, Nat.le_of_ble_eq_true rfl⟩ dX2_fittingSets_56 rfl (kI (fun r16 S14 h => ?_))
        refine v_icmp_ne X (tgt := 66) dX2_fittingSets_59 (by decide) (fun c17 => ?_) (fun c17 => ?_)
        · replace h := h.1 c17
          refine v_lv (lv' := [(0, .ref l0), (1, .ref l1), (3, .ref l3), (4, .int l4), (5, .int l5), (6, .int l6), (7, .int l7), (9, .int l9)]) [0, 1, 2, 3, 4, 5, 6, 8] rfl ?_
          exact j66 bk12 hbk12 bk29 hbk29 _ _ _ _ _ _ _ _ _ h
        · replace h := h.2 c17
          refine v_iconst X (v := 1) dX2_fittingSets_62 (by decide) ?_
          refine v_goto X (tgt := 67) dX2_fittingSets_63 (by decide) ?_
          refine v_lv (lv' := [(0, .ref l0), (1, .ref l1), (3, .ref l3), (4, .int l4), (5, .int l5), (6, .int l6), (7, .int l7), (9, .int l9)]) [0, 1, 2, 3, 4, 5, 6, 8] rfl ?_
          exact j67 bk12 hbk12 bk29 hbk29 _ _ _ _ _ _ _ _ _ _ h
  have l29 : ∀ (bk12 : hp → Nat → Nat → Nat → Int32 → Int32 → Int32 → Int32 → Prop) (hbk12 : ∀ (S : hp) (l0 : Nat) (l1 : Nat) (l3 : Nat) (l4 : Int32) (l5 : Int32) (l6 : Int32) (l7 : Int32), bk12 S l0 l1 l3 l4 l5 l6 l7 → VM l b D cy 10 4 89 0 0 (pI Q) p e s m args below meth c S 0 0 12 [(0, .ref l0), (1, .ref l1), (3, .ref l3), (4, .int l4), (5, .int l5), (6, .int l6), (7, .int l7)] []) (n : Nat) (S : hp) (l0 : Nat) (l1 : Nat) (l3 : Nat) (l4 : Int32) (l5 : Int32) (l6 : Int32) (l7 : Int32) (l8 : Int32) (l9 : Int32), wl_X2_fittingSets_29 bk12 Q n S l0 l1 l3 l4 l5 l6 l7 l8 l9 → VM l b D cy 10 4 89 0 0 (pI Q) p e s m args below meth c S 0 0 29 [(0, .ref l0), (1, .ref l1), (3, .ref l3), (4, .int l4), (5, .int l5), (6, .int l6), (7, .int l7), (8, .int l8), (9, .int l9)] [] := by
    intro bk12 hbk12 n
    induction n with
    | zero => intro S l0 l1 l3 l4 l5 l6 l7 l8 l9 h; exact h.elim
    | succ n ih => intro S l0 l1 l3 l4 l5 l6 l7 l8 l9 h; exact j29 bk12 hbk12 (wl_X2_fittingSets_29 bk12 Q n) ih S l0 l1 l3 l4 l5 l6 l7 l8 l9 h
  have j12 : ∀ (bk12 : hp → Nat → Nat → Nat → Int32 → Int32 → Int32 → Int32 → Prop) (hbk12 : ∀ (S : hp) (l0 : Nat) (l1 : Nat) (l3 : Nat) (l4 : Int32) (l5 : Int32) (l6 : Int32) (l7 : Int32), bk12 S l0 l1 l3 l4 l5 l6 l7 → VM l b D cy 10 4 89 0 0 (pI Q) p e s m args below meth c S 0 0 12 [(0, .ref l0), (1, .ref l1), (3, .ref l3), (4, .int l4), (5, .int l5), (6, .int l6), (7, .int l7)] []) (S : hp) (l0 : Nat) (l1 : Nat) (l3 : Nat) (l4 : Int32) (l5 : Int32) (l6 : Int32) (l7 : Int32), wB_X2_fittingSets_12 bk12 Q S l0 l1 l3 l4 l5 l6 l7 → VM l b D cy 10 4 89 0 0 (pI Q) p e s m args below meth c S 0 0 12 [(0, .ref l0), (1, .ref l1), (3, .ref l3), (4, .int l4), (5, .int l5), (6, .int l6), (7, .int l7)] [] := by
    intro bk12 hbk12 S l0 l1 l3 l4 l5 l6 l7 h
    unfold wB_X2_fittingSets_12 at h
    refine v_iload X 6 dX2_fittingSets_12 rfl ?_
    refine v_iconst X (v := 1) dX2_fittingSets_14 (by decide) ?_
    refine v_aload_n X 1 dX2_fittingSets_15 rfl rfl ?_
    obtain ⟨hk3, h⟩ := h
    refine v_getI X (T := TX8) (N := 10) (k := 8) hk3 (by decide) rfl (by decide) inX8 wd157 rfl dX2_fittingSets_16 ?_
    refine v_ishl X dX2_fittingSets_19 ?_
    refine v_icmp_ge X (tgt := 99) dX2_fittingSets_20 (by decide) (fun c4 => ?_) (fun c4 => ?_)
    · replace h := h.1 c4
      refine v_iload X 5 dX2_fittingSets_99 rfl ?_
      exact v_iret X hr hlk ⟨_, rfl, h⟩ dX2_fittingSets_101
    · replace h := h.2 c4
      refine v_iconst X (v := 1) dX2_fittingSets_23 (by decide) ?_
      refine v_istore X (lv' := [(8, .int (1 : Int32)), (0, .ref l0), (1, .ref l1), (3, .ref l3), (4, .int l4), (5, .int l5), (6, .int l6), (7, .int l7)]) dX2_fittingSets_24 (by decide) rfl ?_
      refine v_iconst X (v := 0) dX2_fittingSets_26 (by decide) ?_
      refine v_istore X (lv' := [(9, .int (0 : Int32)), (8, .int (1 : Int32)), (0, .ref l0), (1, .ref l1), (3, .ref l3), (4, .int l4), (5, .int l5), (6, .int l6), (7, .int l7)]) dX2_fittingSets_27 (by decide) rfl ?_
      refine v_lv (lv' := [(0, .ref l0), (1, .ref l1), (3, .ref l3), (4, .int l4), (5, .int l5), (6, .int l6), (7, .int l7), (8, .int (1 : Int32)), (9, .int (0 : Int32))]) [2, 3, 4, 5, 6, 7, 8, 1, 0] rfl ?_
      obtain ⟨n, h⟩ := h
      exact l29 bk12 hbk12 n _ _ _ _ _ _ _ _ _ _ h
  have l12 : ∀  (n : Nat) (S : hp) (l0 : Nat) (l1 : Nat) (l3 : Nat) (l4 : Int32) (l5 : Int32) (l6 : Int32) (l7 : Int32), wl_X2_fittingSets_12 Q n S l0 l1 l3 l4 l5 l6 l7 → VM l b D cy 10 4 89 0 0 (pI Q) p e s m args below meth c S 0 0 12 [(0, .ref l0), (1, .ref l1), (3, .ref l3), (4, .int l4), (5, .int l5), (6, .int l6), (7, .int l7)] [] := by
    intro  n
    induction n with
    | zero => intro S l0 l1 l3 l4 l5 l6 l7 h; exact h.elim
    | succ n ih => intro S l0 l1 l3 l4 l5 l6 l7 h; exact j12 (wl_X2_fittingSets_12 Q n) ih S l0 l1 l3 l4 l5 l6 l7 h
  unfold wp_X2_fittingSets at h
  show VM l b D cy 10 4 89 0 0 (pI Q) p e s m args below meth c S 0 0 0 [(0, .ref a0), (1, .ref a1), (2, .int x2), (3, .ref a3), (4, .int x4), (5, .int x5)] []
  refine v_aload_n X 0 dX2_fittingSets_0 rfl rfl ?_
  refine v_aload_n X 1 dX2_fittingSets_1 rfl rfl ?_
  refine v_iload_n X 2 dX2_fittingSets_2 rfl rfl ?_
  obtain ⟨hk2, h⟩ := h
  refine v_callV X (av := [.ref a1, .int x2]) (T := TX2) (N := 2) (s_X2_addSlips l b D cy h) hk2 (by decide) rfl wd626 wd628 wd18 wd60 k_X2_addSlips dn_X2_addSlips rfl ⟨Nat.le_of_ble_eq_true rfl, Nat.le_of_ble_eq_true rfl⟩ (Nat.le_of_ble_eq_true rfl) ⟨Nat.le_of_ble_eq_true rfl, Nat.le_of_ble_eq_true rfl⟩ dX2_fittingSets_3 rfl (kV (fun S1 h => ?_))
  refine v_iconst X (v := 0) dX2_fittingSets_6 (by decide) ?_
  refine v_istore X (lv' := [(6, .int (0 : Int32)), (0, .ref a0), (1, .ref a1), (2, .int x2), (3, .ref a3), (4, .int x4), (5, .int x5)]) dX2_fittingSets_7 (by decide) rfl ?_
  refine v_iconst X (v := 0) dX2_fittingSets_9 (by decide) ?_
  refine v_istore X (lv' := [(7, .int (0 : Int32)), (6, .int (0 : Int32)), (0, .ref a0), (1, .ref a1), (2, .int x2), (3, .ref a3), (4, .int x4), (5, .int x5)]) dX2_fittingSets_10 (by decide) rfl ?_
  refine v_lv (lv' := [(0, .ref a0), (1, .ref a1), (3, .ref a3), (4, .int x4), (5, .int x5), (6, .int (0 : Int32)), (7, .int (0 : Int32))]) [2, 3, 5, 6, 7, 1, 0] rfl ?_
  obtain ⟨n, h⟩ := h
  exact l12 n _ _ _ _ _ _ _ _ h
def wp_J6_bitCount_0f7a4 (Q : Int32 → hp → Prop) (S : hp) (x0 : Int32) : Prop :=
  ∀ v1 : Int32, v1 = (x0 - (((x0).toUInt32 >>> (((1 : Int32)).toUInt32 &&& Int32.toUInt32 31)).toInt32 &&& (1431655765 : Int32))) → ∀ v2 : Int32, v2 = ((v1 &&& (858993459 : Int32)) + (((v1).toUInt32 >>> (((2 : Int32)).toUInt32 &&& Int32.toUInt32 31)).toInt32 &&& (858993459 : Int32))) → ∀ v3 : Int32, v3 = ((v2 + ((v2).toUInt32 >>> (((4 : Int32)).toUInt32 &&& Int32.toUInt32 31)).toInt32) &&& (252645135 : Int32)) → ∀ v4 : Int32, v4 = (v3 + ((v3).toUInt32 >>> (((8 : Int32)).toUInt32 &&& Int32.toUInt32 31)).toInt32) → ∀ v5 : Int32, v5 = (v4 + ((v4).toUInt32 >>> (((16 : Int32)).toUInt32 &&& Int32.toUInt32 31)).toInt32) → Q (v5 &&& (63 : Int32)) S
theorem k_J6_bitCount_0f7a4 : Cond.code yJ6_bitCount_0f7a4 cJ6_bitCount_0f7a4 1 (some .int) ∈ gtb := mg 654 (by decide +kernel) (by decide +kernel)
theorem dn_J6_bitCount_0f7a4 : yJ6_bitCount_0f7a4.cls ≠ "java/lang/invoke/MethodHandle" ∧ yJ6_bitCount_0f7a4.cls ≠ "java/lang/invoke/VarHandle" ∧ (parseMethodDescriptor yJ6_bitCount_0f7a4.desc).map (fun d => d.parameters.length) = some 1 := by decide +kernel
set_option maxRecDepth 100000 in
set_option maxHeartbeats 4000000 in
theorem s_J6_bitCount_0f7a4 (l : Launch) (b : Nat) (D : va_G) (cy : Nat → ClassId) {Q : Int32 → hp → Prop} {S : hp} {x0 : Int32} (h : wp_J6_bitCount_0f7a4 Q S x0) : MT l yJ6_bitCount_0f7a4 cJ6_bitCount_0f7a4 1 (some .int) 0 0 0 0 b D cy S [.int x0] (pI Q) := by
  refine MT.of (by decide +kernel) (Nat.le_of_ble_eq_true rfl) ?_
  intro p e s m args below meth c X hr hlk hnm
  unfold wp_J6_bitCount_0f7a4 at h
  show VM l b D cy 1 0 0 0 0 (pI Q) p e s m args below meth c S 0 0 0 [(0, .int x0)] []
  refine v_iload_n X 0 dJ6_bitCount_0f7a4_0 rfl rfl ?_
  refine v_iload_n X 0 dJ6_bitCount_0f7a4_1 rfl rfl ?_
  refine v_iconst X (v := 1) dJ6_bitCount_0f7a4_2 (by decide) ?_
  refine v_iushr X dJ6_bitCount_0f7a4_3 ?_
  refine v_ldcw X wd655 dJ6_bitCount_0f7a4_4 ?_
  refine v_iand X dJ6_bitCount_0f7a4_7 ?_
  refine v_isub X dJ6_bitCount_0f7a4_8 ?_
  refine v_nm (fun v1 hv1 => ?_)
  replace h := h v1 hv1
  refine v_istore_n X (lv' := [(0, .int v1)]) dJ6_bitCount_0f7a4_9 rfl (by decide) rfl ?_
  refine v_iload_n X 0 dJ6_bitCount_0f7a4_10 rfl rfl ?_
  refine v_ldcw X wd656 dJ6_bitCount_0f7a4_11 ?_
  refine v_iand X dJ6_bitCount_0f7a4_14 ?_
  refine v_iload_n X 0 dJ6_bitCount_0f7a4_15 rfl rfl ?_
  refine v_iconst X (v := 2) dJ6_bitCount_0f7a4_16 (by decide) ?_
  refine v_iushr X dJ6_bitCount_0f7a4_17 ?_
  refine v_ldcw X wd656 dJ6_bitCount_0f7a4_18 ?_
  refine v_iand X dJ6_bitCount_0f7a4_21 ?_
  refine v_iadd X dJ6_bitCount_0f7a4_22 ?_
  refine v_nm (fun v2 hv2 => ?_)
  replace h := h v2 hv2
  refine v_istore_n X (lv' := [(0, .int v2)]) dJ6_bitCount_0f7a4_23 rfl (by decide) rfl ?_
  refine v_iload_n X 0 dJ6_bitCount_0f7a4_24 rfl rfl ?_
  refine v_iload_n X 0 dJ6_bitCount_0f7a4_25 rfl rfl ?_
  refine v_iconst X (v := 4) dJ6_bitCount_0f7a4_26 (by decide) ?_
  refine v_iushr X dJ6_bitCount_0f7a4_27 ?_
  refine v_iadd X dJ6_bitCount_0f7a4_28 ?_
  refine v_ldcw X wd657 dJ6_bitCount_0f7a4_29 ?_
  refine v_iand X dJ6_bitCount_0f7a4_32 ?_
  refine v_nm (fun v3 hv3 => ?_)
  replace h := h v3 hv3
  refine v_istore_n X (lv' := [(0, .int v3)]) dJ6_bitCount_0f7a4_33 rfl (by decide) rfl ?_
  refine v_iload_n X 0 dJ6_bitCount_0f7a4_34 rfl rfl ?_
  refine v_iload_n X 0 dJ6_bitCount_0f7a4_35 rfl rfl ?_
  refine v_bipush X (v := 8) dJ6_bitCount_0f7a4_36 (by decide) ?_
  refine v_iushr X dJ6_bitCount_0f7a4_38 ?_
  refine v_iadd X dJ6_bitCount_0f7a4_39 ?_
  refine v_nm (fun v4 hv4 => ?_)
  replace h := h v4 hv4
  refine v_istore_n X (lv' := [(0, .int v4)]) dJ6_bitCount_0f7a4_40 rfl (by decide) rfl ?_
  refine v_iload_n X 0 dJ6_bitCount_0f7a4_41 rfl rfl ?_
  refine v_iload_n X 0 dJ6_bitCount_0f7a4_42 rfl rfl ?_
  refine v_bipush X (v := 16) dJ6_bitCount_0f7a4_43 (by decide) ?_
  refine v_iushr X dJ6_bitCount_0f7a4_45 ?_
  refine v_iadd X dJ6_bitCount_0f7a4_46 ?_
  refine v_nm (fun v5 hv5 => ?_)
  replace h := h v5 hv5
  refine v_istore_n X (lv' := [(0, .int v5)]) dJ6_bitCount_0f7a4_47 rfl (by decide) rfl ?_
  refine v_iload_n X 0 dJ6_bitCount_0f7a4_48 rfl rfl ?_
  refine v_bipush X (v := 63) dJ6_bitCount_0f7a4_49 (by decide) ?_
  refine v_iand X dJ6_bitCount_0f7a4_51 ?_
  exact v_iret X hr hlk ⟨_, rfl, h⟩ dJ6_bitCount_0f7a4_52
def wB_X2_isFewer_17 (Q : Int32 → hp → Prop) (S : hp)  : Prop :=
  Q (1 : Int32) S
def wp_X2_isFewer (Q : Int32 → hp → Prop) (S : hp) (x0 : Int32) (x1 : Int32) : Prop :=
  ((x1 = (-1000000 : Int32) → wB_X2_isFewer_17 Q S) ∧ (¬ x1 = (-1000000 : Int32) → wp_J6_bitCount_0f7a4 (fun r3 S2 => wp_J6_bitCount_0f7a4 (fun r5 S4 => ((r5 ≤ r3 → Q (0 : Int32) S4) ∧ (¬ r5 ≤ r3 → wB_X2_isFewer_17 Q S4))) S2 x1) S x0))
theorem k_X2_isFewer : Cond.code yX2_isFewer cX2_isFewer 2 (some .boolean) ∈ gtb := mg 665 (by decide +kernel) (by decide +kernel)
theorem dn_X2_isFewer : yX2_isFewer.cls ≠ "java/lang/invoke/MethodHandle" ∧ yX2_isFewer.cls ≠ "java/lang/invoke/VarHandle" ∧ (parseMethodDescriptor yX2_isFewer.desc).map (fun d => d.parameters.length) = some 2 := by decide +kernel
set_option maxRecDepth 100000 in
set_option maxHeartbeats 4000000 in
theorem s_X2_isFewer (l : Launch) (b : Nat) (D : va_G) (cy : Nat → ClassId) {Q : Int32 → hp → Prop} {S : hp} {x0 : Int32} {x1 : Int32} (h : wp_X2_isFewer Q S x0 x1) : MT l yX2_isFewer cX2_isFewer 2 (some .boolean) 1 20 0 0 b D cy S [.int x0, .int x1] (pI Q) := by
  refine MT.of (by decide +kernel) (Nat.le_of_ble_eq_true rfl) ?_
  intro p e s m args below meth c X hr hlk hnm
  have j17 : ∀  (S : hp) , wB_X2_isFewer_17 Q S  → VM l b D cy 2 1 20 0 0 (pI Q) p e s m args below meth c S 0 0 17 [] [] := by
    intro  S  h
    unfold wB_X2_isFewer_17 at h
    refine v_iconst X (v := 1) dX2_isFewer_17 (by decide) ?_
    refine v_goto X (tgt := 22) dX2_isFewer_18 (by decide) ?_
    exact v_zret X hr (by decide) hlk ⟨_, rfl, h⟩ dX2_isFewer_22
  unfold wp_X2_isFewer at h
  show VM l b D cy 2 1 20 0 0 (pI Q) p e s m args below meth c S 0 0 0 [(0, .int x0), (1, .int x1)] []
  refine v_iload_n X 1 dX2_isFewer_0 rfl rfl ?_
  refine v_ldc X wd662 dX2_isFewer_1 ?_
  refine v_icmp_eq X (tgt := 17) dX2_isFewer_3 (by decide) (fun c1 => ?_) (fun c1 => ?_)
  · replace h := h.1 c1
    refine v_lv (lv' := []) [] rfl ?_
    exact j17 _ h
  · replace h := h.2 c1
    refine v_iload_n X 0 dX2_isFewer_6 rfl rfl ?_
    refine v_callS X (av := [.int x0]) (s_J6_bitCount_0f7a4 l b D cy h) wd666 wd653 wd72 k_J6_bitCount_0f7a4 dn_J6_bitCount_0f7a4 rfl ⟨Nat.le_of_ble_eq_true rfl, Nat.le_of_ble_eq_true rfl⟩ (Nat.le_of_ble_eq_true rfl) ⟨Nat.le_of_ble_eq_true rfl, Nat.le_of_ble_eq_true rfl⟩ dX2_isFewer_7 rfl (kI (fun r3 S2 h => ?_))
    refine v_iload_n X 1 dX2_isFewer_10 rfl rfl ?_
    refine v_callS X (av := [.int x1]) (s_J6_bitCount_0f7a4 l b D cy h) wd666 wd653 wd72 k_J6_bitCount_0f7a4 dn_J6_bitCount_0f7a4 rfl ⟨Nat.le_of_ble_eq_true rfl, Nat.le_of_ble_eq_true rfl⟩ (Nat.le_of_ble_eq_true rfl) ⟨Nat.le_of_ble_eq_true rfl, Nat.le_of_ble_eq_true rfl⟩ dX2_isFewer_11 rfl (kI (fun r5 S4 h => ?_))
    refine v_icmp_ge X (tgt := 21) dX2_isFewer_14 (by decide) (fun c6 => ?_) (fun c6 => ?_)
    · replace h := h.1 c6
      refine v_iconst X (v := 0) dX2_isFewer_21 (by decide) ?_
      exact v_zret X hr (by decide) hlk ⟨_, rfl, h⟩ dX2_isFewer_22
    · replace h := h.2 c6
      refine v_lv (lv' := []) [] rfl ?_
      exact j17 _ h
def wB_X2_fewestOf_29 (bk5 : hp → Int32 → Int32 → Int32 → Prop) (Q : Int32 → hp → Prop) (S : hp) (l1 : Int32) (l2 : Int32) (l3 : Int32) : Prop :=
  ∀ v5 : Int32, v5 = l3 + (1 : Int32) → bk5 S l1 l2 v5
def wB_X2_fewestOf_5 (bk5 : hp → Int32 → Int32 → Int32 → Prop) (Q : Int32 → hp → Prop) (S : hp) (l1 : Int32) (l2 : Int32) (l3 : Int32) : Prop :=
  (((32 : Int32) ≤ l3 → Q l2 S) ∧ (¬ (32 : Int32) ≤ l3 → wp_X2_has (fun r3 S2 => ((r3 = 0 → wB_X2_fewestOf_29 bk5 Q S2 l1 l2 l3) ∧ (¬ r3 = 0 → wp_X2_isFewer (fun r7 S6 => ((r7 = 0 → wB_X2_fewestOf_29 bk5 Q S6 l1 l2 l3) ∧ (¬ r7 = 0 → wB_X2_fewestOf_29 bk5 Q S6 l1 l3 l3))) S2 l3 l2))) S l1 l3))
def wl_X2_fewestOf_5 (Q : Int32 → hp → Prop) : Nat → hp → Int32 → Int32 → Int32 → Prop
  | 0 => fun _ _ _ _ => False
  | n + 1 => wB_X2_fewestOf_5 (wl_X2_fewestOf_5 Q n) Q
def wp_X2_fewestOf (Q : Int32 → hp → Prop) (S : hp) (a0 : Nat) (x1 : Int32) : Prop :=
  ∃ n : Nat, wl_X2_fewestOf_5 Q n S x1 (-1000000 : Int32) (0 : Int32)
theorem k_X2_fewestOf : Cond.code yX2_fewestOf cX2_fewestOf 4 (some .int) ∈ gtb := mg 661 (by decide +kernel) (by decide +kernel)
theorem dn_X2_fewestOf : yX2_fewestOf.cls ≠ "java/lang/invoke/MethodHandle" ∧ yX2_fewestOf.cls ≠ "java/lang/invoke/VarHandle" ∧ (parseMethodDescriptor yX2_fewestOf.desc).map (fun d => d.parameters.length) = some 1 := by decide +kernel
set_option maxRecDepth 100000 in
set_option maxHeartbeats 4000000 in
theorem s_X2_fewestOf (l : Launch) (b : Nat) (D : va_G) (cy : Nat → ClassId) {Q : Int32 → hp → Prop} {S : hp} {a0 : Nat} {x1 : Int32} (h : wp_X2_fewestOf Q S a0 x1) : MT l yX2_fewestOf cX2_fewestOf 4 (some .int) 2 41 0 0 b D cy S [.ref a0, .int x1] (pI Q) := by
  refine MT.of (by decide +kernel) (Nat.le_of_ble_eq_true rfl) ?_
  intro p e s m args below meth c X hr hlk hnm
  have j29 : ∀ (bk5 : hp → Int32 → Int32 → Int32 → Prop) (hbk5 : ∀ (S : hp) (l1 : Int32) (l2 : Int32) (l3 : Int32), bk5 S l1 l2 l3 → VM l b D cy 4 2 41 0 0 (pI Q) p e s m args below meth c S 0 0 5 [(1, .int l1), (2, .int l2), (3, .int l3)] []) (S : hp) (l1 : Int32) (l2 : Int32) (l3 : Int32), wB_X2_fewestOf_29 bk5 Q S l1 l2 l3 → VM l b D cy 4 2 41 0 0 (pI Q) p e s m args below meth c S 0 0 29 [(1, .int l1), (2, .int l2), (3, .int l3)] [] := by
    intro bk5 hbk5 S l1 l2 l3 h
    unfold wB_X2_fewestOf_29 at h
    obtain ⟨v5, hv5⟩ : ∃ y : Int32, y = l3 + (1 : Int32) := ⟨_, rfl⟩
    replace h := h v5 hv5
    refine v_iinc X (j := 2) (v := v5) (lv' := [(3, .int v5), (1, .int l1), (2, .int l2)]) dX2_fewestOf_29 rfl (by rw [hv5] <;> rfl) (by decide) rfl ?_
    refine v_goto X (tgt := 5) dX2_fewestOf_32 (by decide) ?_
    refine v_lv (lv' := [(1, .int l1), (2, .int l2), (3, .int v5)]) [1, 2, 0] rfl ?_
    exact hbk5 _ _ _ _ h
  have j5 : ∀ (bk5 : hp → Int32 → Int32 → Int32 → Prop) (hbk5 : ∀ (S : hp) (l1 : Int32) (l2 : Int32) (l3 : Int32), bk5 S l1 l2 l3 → VM l b D cy 4 2 41 0 0 (pI Q) p e s m args below meth c S 0 0 5 [(1, .int l1), (2, .int l2), (3, .int l3)] []) (S : hp) (l1 : Int32) (l2 : Int32) (l3 : Int32), wB_X2_fewestOf_5 bk5 Q S l1 l2 l3 → VM l b D cy 4 2 41 0 0 (pI Q) p e s m args below meth c S 0 0 5 [(1, .int l1), (2, .int l2), (3, .int l3)] [] := by
    intro bk5 hbk5 S l1 l2 l3 h
    unfold wB_X2_fewestOf_5 at h
    refine v_iload_n X 2 dX2_fewestOf_5 rfl rfl ?_
    refine v_bipush X (v := 32) dX2_fewestOf_6 (by decide) ?_
    refine v_icmp_ge X (tgt := 35) dX2_fewestOf_8 (by decide) (fun c1 => ?_) (fun c1 => ?_)
    · replace h := h.1 c1
      refine v_iload_n X 1 dX2_fewestOf_35 rfl rfl ?_
      exact v_iret X hr hlk ⟨_, rfl, h⟩ dX2_fewestOf_36
    · replace h := h.2 c1
      refine v_iload_n X 0 dX2_fewestOf_11 rfl rfl ?_
      refine v_iload_n X 2 dX2_fewestOf_12 rfl rfl ?_
      refine v_callS X (av := [.int l1, .int l3]) (s_X2_has l b D cy h) wd645 wd646 wd60 k_X2_has dn_X2_has rfl ⟨Nat.le_of_ble_eq_true rfl, Nat.le_of_ble_eq_true rfl⟩ (Nat.le_of_ble_eq_true rfl) ⟨Nat.le_of_ble_eq_true rfl, Nat.le_of_ble_eq_true rfl⟩ dX2_fewestOf_13 rfl (kI (fun r3 S2 h => ?_))
      refine v_if_eq X (tgt := 29) dX2_fewestOf_16 (by decide) (fun c4 => ?_) (fun c4 => ?_)
      · replace h := h.1 c4
        exact j29 bk5 hbk5 _ _ _ _ h
      · replace h := h.2 c4
        refine v_iload_n X 2 dX2_fewestOf_19 rfl rfl ?_
        refine v_iload_n X 1 dX2_fewestOf_20 rfl rfl ?_
        refine v_callS X (av := [.int l3, .int l2]) (s_X2_isFewer l b D cy h) wd663 wd664 wd60 k_X2_isFewer dn_X2_isFewer rfl ⟨Nat.le_of_ble_eq_true rfl, Nat.le_of_ble_eq_true rfl⟩ (Nat.le_of_ble_eq_true rfl) ⟨Nat.le_of_ble_eq_true rfl, Nat.le_of_ble_eq_true rfl⟩ dX2_fewestOf_21 rfl (kI (fun r7 S6 h => ?_))
        refine v_if_eq X (tgt := 29) dX2_fewestOf_24 (by decide) (fun c8 => ?_) (fun c8 => ?_)
        · replace h := h.1 c8
          exact j29 bk5 hbk5 _ _ _ _ h
        · replace h := h.2 c8
          refine v_iload_n X 2 dX2_fewestOf_27 rfl rfl ?_
          refine v_istore_n X (lv' := [(2, .int l3), (1, .int l1), (3, .int l3)]) dX2_fewestOf_28 rfl (by decide) rfl ?_
          refine v_lv (lv' := [(1, .int l1), (2, .int l3), (3, .int l3)]) [1, 0, 2] rfl ?_
          exact j29 bk5 hbk5 _ _ _ _ h
  have l5 : ∀  (n : Nat) (S : hp) (l1 : Int32) (l2 : Int32) (l3 : Int32), wl_X2_fewestOf_5 Q n S l1 l2 l3 → VM l b D cy 4 2 41 0 0 (pI Q) p e s m args below meth c S 0 0 5 [(1, .int l1), (2, .int l2), (3, .int l3)] [] := by
    intro  n
    induction n with
    | zero => intro S l1 l2 l3 h; exact h.elim
    | succ n ih => intro S l1 l2 l3 h; exact j5 (wl_X2_fewestOf_5 Q n) ih S l1 l2 l3 h
  unfold wp_X2_fewestOf at h
  show VM l b D cy 4 2 41 0 0 (pI Q) p e s m args below meth c S 0 0 0 [(0, .ref a0), (1, .int x1)] []
  refine v_ldc X wd662 dX2_fewestOf_0 ?_
  refine v_istore_n X (lv' := [(2, .int (-1000000 : Int32)), (0, .ref a0), (1, .int x1)]) dX2_fewestOf_2 rfl (by decide) rfl ?_
  refine v_iconst X (v := 0) dX2_fewestOf_3 (by decide) ?_
  refine v_istore_n X (lv' := [(3, .int (0 : Int32)), (2, .int (-1000000 : Int32)), (0, .ref a0), (1, .int x1)]) dX2_fewestOf_4 rfl (by decide) rfl ?_
  refine v_lv (lv' := [(1, .int x1), (2, .int (-1000000 : Int32)), (3, .int (0 : Int32))]) [3, 1, 0] rfl ?_
  obtain ⟨n, h⟩ := h
  exact l5 n _ _ _ _ h
def wB_X11_liars_96 (Q : Int32 → hp → Prop) (S : hp) (k0 : Int32) (k1 : Nat) : Prop :=
  hK S k1 = 10 ∧ wp_X11_answered (fun r34 S32 => Q r34 S32) S k1 k0
def wp_X11_liars (Q : Int32 → hp → Prop) (S : hp) (a0 : Nat) (x1 : Int32) (x2 : Int32) (x3 : Int32) (x4 : Int32) : Prop :=
  hK S a0 = 10 ∧ ∃ r2 : Nat, hR S a0 2 = some r2 ∧ hK S r2 = 7 ∧ wp_X8_hasDummy (fun r5 S3 => ((r5 = 0 → Q (-1000001 : Int32) S3) ∧ (¬ r5 = 0 → wp_X6_isRow (fun r8 S7 => ((r8 = 0 → Q (-1000001 : Int32) S7) ∧ (¬ r8 = 0 → wp_X11_isFirstOrSecond (fun r11 S10 => ((¬ r11 = 0 → hK S10 a0 = 10 ∧ ∃ r14 : Nat, hR S10 a0 0 = some r14 ∧ hK S10 r14 = 5 ∧ wp_X6_findingAt (fun r17 S15 => ((r17 = 0 → hK S15 a0 = 10 ∧ ∃ r20 : Nat, hR S15 a0 4 = some r20 ∧ ∃ r21 : Nat, hR S15 a0 2 = some r21 ∧ ∃ r22 : Nat, hR S15 a0 0 = some r22 ∧ hK S15 r20 = 2 ∧ wp_X2_fittingSets (fun r25 S23 => ((¬ x4 = 0 → hK S23 a0 = 10 ∧ ∃ r28 : Nat, hR S23 a0 4 = some r28 ∧ hK S23 r28 = 2 ∧ wp_X2_fewestOf (fun r31 S29 => wB_X11_liars_96 Q S29 r31 a0) S23 r28 r25) ∧ (x4 = 0 → wp_J6_bitCount_0f7a4 (fun r36 S35 => wB_X11_liars_96 Q S35 r36 a0) S23 r25))) S15 r20 r21 x1 r22 x2 x3) ∧ (¬ r17 = 0 → hK S15 a0 = 10 ∧ wp_X11_found (fun r39 S37 => Q r39 S37) S15 a0 r17))) S10 r14 x2 x3 (3 : Int32)) ∧ (r11 = 0 → Q (-1000001 : Int32) S10))) S7 x4))) S3 x2))) S r2 x1
theorem k_X11_liars : Cond.code yX11_liars cX11_liars 7 (some .int) ∈ gtb := mg 618 (by decide +kernel) (by decide +kernel)
theorem dn_X11_liars : yX11_liars.cls ≠ "java/lang/invoke/MethodHandle" ∧ yX11_liars.cls ≠ "java/lang/invoke/VarHandle" ∧ (parseMethodDescriptor yX11_liars.desc).map (fun d => d.parameters.length) = some 4 := by decide +kernel
set_option maxRecDepth 100000 in
set_option maxHeartbeats 4000000 in
theorem s_X11_liars (l : Launch) (b : Nat) (D : va_G) (cy : Nat → ClassId) {Q : Int32 → hp → Prop} {S : hp} {a0 : Nat} {x1 : Int32} {x2 : Int32} {x3 : Int32} {x4 : Int32} (h : wp_X11_liars Q S a0 x1 x2 x3 x4) : MT l yX11_liars cX11_liars 7 (some .int) 5 118 0 0 b D cy S [.ref a0, .int x1, .int x2, .int x3, .int x4] (pI Q) := by
  refine MT.of (by decide +kernel) (Nat.le_of_ble_eq_true rfl) ?_
  intro p e s m args below meth c X hr hlk hnm
  have j96 : ∀  (S : hp) (k0 : Int32) (k1 : Nat), wB_X11_liars_96 Q S k0 k1 → VM l b D cy 7 5 118 0 0 (pI Q) p e s m args below meth c S 0 0 96 [] [.int k0, .ref k1] := by
    intro  S k0 k1 h
    unfold wB_X11_liars_96 at h
    obtain ⟨hk33, h⟩ := h
    refine v_callV X (av := [.int k0]) (T := TX11) (N := 12) (s_X11_answered l b D cy h) hk33 (by decide) rfl wd275 wd277 wd1 wd56 k_X11_answered dn_X11_answered rfl ⟨Nat.le_of_ble_eq_true rfl, Nat.le_of_ble_eq_true rfl⟩ (Nat.le_of_ble_eq_true rfl) ⟨Nat.le_of_ble_eq_true rfl, Nat.le_of_ble_eq_true rfl⟩ dX11_liars_96 rfl (kI (fun r34 S32 h => ?_))
    exact v_iret X hr hlk ⟨_, rfl, h⟩ dX11_liars_99
  unfold wp_X11_liars at h
  show VM l b D cy 7 5 118 0 0 (pI Q) p e s m args below meth c S 0 0 0 [(0, .ref a0), (1, .int x1), (2, .int x2), (3, .int x3), (4, .int x4)] []
  refine v_aload_n X 0 dX11_liars_0 rfl rfl ?_
  obtain ⟨hk1, h⟩ := h
  obtain ⟨r2, hr2, h⟩ := h
  refine v_getR X (T := TX11) (N := 12) (k := 2) hk1 (by decide) rfl (by decide) inX11 wd217 rfl dX11_liars_1 hr2 ?_
  refine v_iload_n X 1 dX11_liars_4 rfl rfl ?_
  obtain ⟨hk4, h⟩ := h
  refine v_callV X (av := [.int x1]) (T := TX8) (N := 10) (s_X8_hasDummy l b D cy h) hk4 (by decide) rfl wd561 wd488 wd489 wd59 k_X8_hasDummy dn_X8_hasDummy rfl ⟨Nat.le_of_ble_eq_true rfl, Nat.le_of_ble_eq_true rfl⟩ (Nat.le_of_ble_eq_true rfl) ⟨Nat.le_of_ble_eq_true rfl, Nat.le_of_ble_eq_true rfl⟩ dX11_liars_5 rfl (kI (fun r5 S3 h => ?_))
  refine v_if_eq X (tgt := 26) dX11_liars_8 (by decide) (fun c6 => ?_) (fun c6 => ?_)
  · replace h := h.1 c6
    refine v_ldc X wd262 dX11_liars_26 ?_
    exact v_iret X hr hlk ⟨_, rfl, h⟩ dX11_liars_28
  · replace h := h.2 c6
    refine v_iload_n X 2 dX11_liars_11 rfl rfl ?_
    refine v_callS X (av := [.int x2]) (s_X6_isRow l b D cy h) wd256 wd257 wd57 k_X6_isRow dn_X6_isRow rfl ⟨Nat.le_of_ble_eq_true rfl, Nat.le_of_ble_eq_true rfl⟩ (Nat.le_of_ble_eq_true rfl) ⟨Nat.le_of_ble_eq_true rfl, Nat.le_of_ble_eq_true rfl⟩ dX11_liars_12 rfl (kI (fun r8 S7 h => ?_))
    refine v_if_eq X (tgt := 26) dX11_liars_15 (by decide) (fun c9 => ?_) (fun c9 => ?_)
    · replace h := h.1 c9
      refine v_ldc X wd262 dX11_liars_26 ?_
      exact v_iret X hr hlk ⟨_, rfl, h⟩ dX11_liars_28
    · replace h := h.2 c9
      refine v_iload X 4 dX11_liars_18 rfl ?_
      refine v_callS X (av := [.int x4]) (s_X11_isFirstOrSecond l b D cy h) wd619 wd620 wd56 k_X11_isFirstOrSecond dn_X11_isFirstOrSecond rfl ⟨Nat.le_of_ble_eq_true rfl, Nat.le_of_ble_eq_true rfl⟩ (Nat.le_of_ble_eq_true rfl) ⟨Nat.le_of_ble_eq_true rfl, Nat.le_of_ble_eq_true rfl⟩ dX11_liars_20 rfl (kI (fun r11 S10 h => ?_))
      refine v_if_ne X (tgt := 29) dX11_liars_23 (by decide) (fun c12 => ?_) (fun c12 => ?_)
      · replace h := h.1 c12
        refine v_aload_n X 0 dX11_liars_29 rfl rfl ?_
        obtain ⟨hk13, h⟩ := h
        obtain ⟨r14, hr14, h⟩ := h
        refine v_getR X (T := TX11) (N := 12) (k := 0) hk13 (by decide) rfl (by decide) inX11 wd215 rfl dX11_liars_30 hr14 ?_
        refine v_iload_n X 2 dX11_liars_33 rfl rfl ?_
        refine v_iload_n X 3 dX11_liars_34 rfl rfl ?_
        refine v_iconst X (v := 3) dX11_liars_35 (by decide) ?_
        obtain ⟨hk16, h⟩ := h
        refine v_callV X (av := [.int x2, .int x3, .int (3 : Int32)]) (T := TX6) (N := 4) (s_X6_findingAt l b D cy h) hk16 (by decide) rfl wd283 wd284 wd285 wd57 k_X6_findingAt dn_X6_findingAt rfl ⟨Nat.le_of_ble_eq_true rfl, Nat.le_of_ble_eq_true rfl⟩ (Nat.le_of_ble_eq_true rfl) ⟨Nat.le_of_ble_eq_true rfl, Nat.le_of_ble_eq_true rfl⟩ dX11_liars_36 rfl (kI (fun r17 S15 h => ?_))
        refine v_istore X (lv' := [(5, .int r17), (0, .ref a0), (1, .int x1), (2, .int x2), (3, .int x3), (4, .int x4)]) dX11_liars_39 (by decide) rfl ?_
        refine v_iload X 0 dX11_liars_41 rfl ?_
        refine v_if_eq X (tgt := 53) dX11_liars_43 (by decide) (fun c18 => ?_) (fun c18 => ?_)
        · replace h := h.1 c18
          refine v_aload_n X 1 dX11_liars_53 rfl rfl ?_
          obtain ⟨hk19, h⟩ := h
          obtain ⟨r20, hr20, h⟩ := h
          refine v_getR X (T := TX11) (N := 12) (k := 4) hk19 (by decide) rfl (by decide) inX11 wd219 rfl dX11_liars_54 hr20 ?_
          refine v_aload_n X 1 dX11_liars_57 rfl rfl ?_
          obtain ⟨r21, hr21, h⟩ := h
          refine v_getR X (T := TX11) (N := 12) (k := 2) hk19 (by decide) rfl (by decide) inX11 wd217 rfl dX11_liars_58 hr21 ?_
          refine v_iload_n X 2 dX11_liars_61 rfl rfl ?_
          refine v_aload_n X 1 dX11_liars_62 rfl rfl ?_
          obtain ⟨r22, hr22, h⟩ := h
          refine v_getR X (T := TX11) (N := 12) (k := 0) hk19 (by decide) rfl (by decide) inX11 wd215 rfl dX11_liars_63 hr22 ?_
          refine v_iload_n X 3 dX11_liars_66 rfl rfl ?_
          refine v_iload_n X 4 dX11_liars_67 rfl rfl ?_
          obtain ⟨hk24, h⟩ := h
          refine v_callV X (av := [.ref r21, .int x1, .ref r22, .int x2, .int x3]) (T := TX2) (N := 2) (s_X2_fittingSets l b D cy h) hk24 (by decide) rfl wd622 wd623 wd624 wd60 k_X2_fittingSets dn_X2_fittingSets rfl ⟨Nat.le_of_ble_eq_true rfl, Nat.le_of_ble_eq_true rfl⟩ (Nat.le_of_ble_eq_true rfl) ⟨Nat.le_of_ble_eq_true rfl, Nat.le_of_ble_eq_true rfl⟩ dX11_liars_68 rfl (kI (fun r25 S23 h => ?_))
          refine v_istore X (lv' := [(6, .int r25), (5, .int r17), (0, .ref a0), (1, .int x1), (2, .int x2), (3, .int x3), (4, .int x4)]) dX11_liars_71 (by decide) rfl ?_
          refine v_aload_n X 2 dX11_liars_73 rfl rfl ?_
          refine v_iload X 6 dX11_liars_74 rfl ?_
          refine v_if_ne X (tgt := 87) dX11_liars_76 (by decide) (fun c26 => ?_) (fun c26 => ?_)
          · replace h := h.1 c26
            refine v_aload_n X 2 dX11_liars_87 rfl rfl ?_
            obtain ⟨hk27, h⟩ := h
            obtain ⟨r28, hr28, h⟩ := h
            refine v_getR X (T := TX11) (N := 12) (k := 4) hk27 (by decide) rfl (by decide) inX11 wd219 rfl dX11_liars_88 hr28 ?_
            refine v_iload X 0 dX11_liars_91 rfl ?_
            obtain ⟨hk30, h⟩ := h
            refine v_callV X (av := [.int r25]) (T := TX2) (N := 2) (s_X2_fewestOf l b D cy h) hk30 (by decide) rfl wd658 wd659 wd660 wd60 k_X2_fewestOf dn_X2_fewestOf rfl ⟨Nat.le_of_ble_eq_true rfl, Nat.le_of_ble_eq_true rfl⟩ (Nat.le_of_ble_eq_true rfl) ⟨Nat.le_of_ble_eq_true rfl, Nat.le_of_ble_eq_true rfl⟩ dX11_liars_93 rfl (kI (fun r31 S29 h => ?_))
            refine v_lv (lv' := []) [] rfl ?_
            exact j96 _ _ _ h
          · replace h := h.2 c26
            refine v_iload X 0 dX11_liars_79 rfl ?_
            refine v_callS X (av := [.int r25]) (s_J6_bitCount_0f7a4 l b D cy h) wd652 wd653 wd72 k_J6_bitCount_0f7a4 dn_J6_bitCount_0f7a4 rfl ⟨Nat.le_of_ble_eq_true rfl, Nat.le_of_ble_eq_true rfl⟩ (Nat.le_of_ble_eq_true rfl) ⟨Nat.le_of_ble_eq_true rfl, Nat.le_of_ble_eq_true rfl⟩ dX11_liars_81 rfl (kI (fun r36 S35 h => ?_))
            refine v_goto X (tgt := 96) dX11_liars_84 (by decide) ?_
            refine v_lv (lv' := []) [] rfl ?_
            exact j96 _ _ _ h
        · replace h := h.2 c18
          refine v_aload_n X 1 dX11_liars_46 rfl rfl ?_
          refine v_iload X 0 dX11_liars_47 rfl ?_
          obtain ⟨hk38, h⟩ := h
          refine v_callV X (av := [.int r17]) (T := TX11) (N := 12) (s_X11_found l b D cy h) hk38 (by decide) rfl wd263 wd265 wd0 wd56 k_X11_found dn_X11_found rfl ⟨Nat.le_of_ble_eq_true rfl, Nat.le_of_ble_eq_true rfl⟩ (Nat.le_of_ble_eq_true rfl) ⟨Nat.le_of_ble_eq_true rfl, Nat.le_of_ble_eq_true rfl⟩ dX11_liars_49 rfl (kI (fun r39 S37 h => ?_))
          exact v_iret X hr hlk ⟨_, rfl, h⟩ dX11_liars_52
      · replace h := h.2 c12
        refine v_ldc X wd262 dX11_liars_26 ?_
        exact v_iret X hr hlk ⟨_, rfl, h⟩ dX11_liars_28
def wB_X2_setsWith_33 (bk5 : hp → Int32 → Int32 → Int32 → Int32 → Prop) (Q : Int32 → hp → Prop) (S : hp) (l1 : Int32) (l2 : Int32) (l3 : Int32) (l4 : Int32) : Prop :=
  ∀ v5 : Int32, v5 = l4 + (1 : Int32) → bk5 S l1 l2 l3 v5
def wB_X2_setsWith_5 (bk5 : hp → Int32 → Int32 → Int32 → Int32 → Prop) (Q : Int32 → hp → Prop) (S : hp) (l1 : Int32) (l2 : Int32) (l3 : Int32) (l4 : Int32) : Prop :=
  (((32 : Int32) ≤ l4 → Q l3 S) ∧ (¬ (32 : Int32) ≤ l4 → wp_X2_has (fun r3 S2 => ((r3 = 0 → wB_X2_setsWith_33 bk5 Q S2 l1 l2 l3 l4) ∧ (¬ r3 = 0 → wp_X2_has (fun r7 S6 => ((r7 = 0 → wB_X2_setsWith_33 bk5 Q S6 l1 l2 l3 l4) ∧ (¬ r7 = 0 → ∀ v9 : Int32, v9 = l3 + (1 : Int32) → wB_X2_setsWith_33 bk5 Q S6 l1 l2 v9 l4))) S2 l4 l2))) S l1 l4))
def wl_X2_setsWith_5 (Q : Int32 → hp → Prop) : Nat → hp → Int32 → Int32 → Int32 → Int32 → Prop
  | 0 => fun _ _ _ _ _ => False
  | n + 1 => wB_X2_setsWith_5 (wl_X2_setsWith_5 Q n) Q
def wp_X2_setsWith (Q : Int32 → hp → Prop) (S : hp) (a0 : Nat) (x1 : Int32) (x2 : Int32) : Prop :=
  ∃ n : Nat, wl_X2_setsWith_5 Q n S x1 x2 (0 : Int32) (0 : Int32)
theorem k_X2_setsWith : Cond.code yX2_setsWith cX2_setsWith 5 (some .int) ∈ gtb := mg 675 (by decide +kernel) (by decide +kernel)
theorem dn_X2_setsWith : yX2_setsWith.cls ≠ "java/lang/invoke/MethodHandle" ∧ yX2_setsWith.cls ≠ "java/lang/invoke/VarHandle" ∧ (parseMethodDescriptor yX2_setsWith.desc).map (fun d => d.parameters.length) = some 2 := by decide +kernel
set_option maxRecDepth 100000 in
set_option maxHeartbeats 4000000 in
theorem s_X2_setsWith (l : Launch) (b : Nat) (D : va_G) (cy : Nat → ClassId) {Q : Int32 → hp → Prop} {S : hp} {a0 : Nat} {x1 : Int32} {x2 : Int32} (h : wp_X2_setsWith Q S a0 x1 x2) : MT l yX2_setsWith cX2_setsWith 5 (some .int) 1 21 0 0 b D cy S [.ref a0, .int x1, .int x2] (pI Q) := by
  refine MT.of (by decide +kernel) (Nat.le_of_ble_eq_true rfl) ?_
  intro p e s m args below meth c X hr hlk hnm
  have j33 : ∀ (bk5 : hp → Int32 → Int32 → Int32 → Int32 → Prop) (hbk5 : ∀ (S : hp) (l1 : Int32) (l2 : Int32) (l3 : Int32) (l4 : Int32), bk5 S l1 l2 l3 l4 → VM l b D cy 5 1 21 0 0 (pI Q) p e s m args below meth c S 0 0 5 [(1, .int l1), (2, .int l2), (3, .int l3), (4, .int l4)] []) (S : hp) (l1 : Int32) (l2 : Int32) (l3 : Int32) (l4 : Int32), wB_X2_setsWith_33 bk5 Q S l1 l2 l3 l4 → VM l b D cy 5 1 21 0 0 (pI Q) p e s m args below meth c S 0 0 33 [(1, .int l1), (2, .int l2), (3, .int l3), (4, .int l4)] [] := by
    intro bk5 hbk5 S l1 l2 l3 l4 h
    unfold wB_X2_setsWith_33 at h
    obtain ⟨v5, hv5⟩ : ∃ y : Int32, y = l4 + (1 : Int32) := ⟨_, rfl⟩
    replace h := h v5 hv5
    refine v_iinc X (j := 3) (v := v5) (lv' := [(4, .int v5), (1, .int l1), (2, .int l2), (3, .int l3)]) dX2_setsWith_33 rfl (by rw [hv5] <;> rfl) (by decide) rfl ?_
    refine v_goto X (tgt := 5) dX2_setsWith_36 (by decide) ?_
    refine v_lv (lv' := [(1, .int l1), (2, .int l2), (3, .int l3), (4, .int v5)]) [1, 2, 3, 0] rfl ?_
    exact hbk5 _ _ _ _ _ h
  have j5 : ∀ (bk5 : hp → Int32 → Int32 → Int32 → Int32 → Prop) (hbk5 : ∀ (S : hp) (l1 : Int32) (l2 : Int32) (l3 : Int32) (l4 : Int32), bk5 S l1 l2 l3 l4 → VM l b D cy 5 1 21 0 0 (pI Q) p e s m args below meth c S 0 0 5 [(1, .int l1), (2, .int l2), (3, .int l3), (4, .int l4)] []) (S : hp) (l1 : Int32) (l2 : Int32) (l3 : Int32) (l4 : Int32), wB_X2_setsWith_5 bk5 Q S l1 l2 l3 l4 → VM l b D cy 5 1 21 0 0 (pI Q) p e s m args below meth c S 0 0 5 [(1, .int l1), (2, .int l2), (3, .int l3), (4, .int l4)] [] := by
    intro bk5 hbk5 S l1 l2 l3 l4 h
    unfold wB_X2_setsWith_5 at h
    refine v_iload X 3 dX2_setsWith_5 rfl ?_
    refine v_bipush X (v := 32) dX2_setsWith_7 (by decide) ?_
    refine v_icmp_ge X (tgt := 39) dX2_setsWith_9 (by decide) (fun c1 => ?_) (fun c1 => ?_)
    · replace h := h.1 c1
      refine v_iload_n X 2 dX2_setsWith_39 rfl rfl ?_
      exact v_iret X hr hlk ⟨_, rfl, h⟩ dX2_setsWith_40
    · replace h := h.2 c1
      refine v_iload_n X 0 dX2_setsWith_12 rfl rfl ?_
      refine v_iload X 3 dX2_setsWith_13 rfl ?_
      refine v_callS X (av := [.int l1, .int l4]) (s_X2_has l b D cy h) wd645 wd646 wd60 k_X2_has dn_X2_has rfl ⟨Nat.le_of_ble_eq_true rfl, Nat.le_of_ble_eq_true rfl⟩ (Nat.le_of_ble_eq_true rfl) ⟨Nat.le_of_ble_eq_true rfl, Nat.le_of_ble_eq_true rfl⟩ dX2_setsWith_15 rfl (kI (fun r3 S2 h => ?_))
      refine v_if_eq X (tgt := 33) dX2_setsWith_18 (by decide) (fun c4 => ?_) (fun c4 => ?_)
      · replace h := h.1 c4
        exact j33 bk5 hbk5 _ _ _ _ _ h
      · replace h := h.2 c4
        refine v_iload X 3 dX2_setsWith_21 rfl ?_
        refine v_iload_n X 1 dX2_setsWith_23 rfl rfl ?_
        refine v_callS X (av := [.int l4, .int l2]) (s_X2_has l b D cy h) wd645 wd646 wd60 k_X2_has dn_X2_has rfl ⟨Nat.le_of_ble_eq_true rfl, Nat.le_of_ble_eq_true rfl⟩ (Nat.le_of_ble_eq_true rfl) ⟨Nat.le_of_ble_eq_true rfl, Nat.le_of_ble_eq_true rfl⟩ dX2_setsWith_24 rfl (kI (fun r7 S6 h => ?_))
        refine v_if_eq X (tgt := 33) dX2_setsWith_27 (by decide) (fun c8 => ?_) (fun c8 => ?_)
        · replace h := h.1 c8
          exact j33 bk5 hbk5 _ _ _ _ _ h
        · replace h := h.2 c8
          obtain ⟨v9, hv9⟩ : ∃ y : Int32, y = l3 + (1 : Int32) := ⟨_, rfl⟩
          replace h := h v9 hv9
          refine v_iinc X (j := 2) (v := v9) (lv' := [(3, .int v9), (1, .int l1), (2, .int l2), (4, .int l4)]) dX2_setsWith_30 rfl (by rw [hv9] <;> rfl) (by decide) rfl ?_
          refine v_lv (lv' := [(1, .int l1), (2, .int l2), (3, .int v9), (4, .int l4)]) [1, 2, 0, 3] rfl ?_
          exact j33 bk5 hbk5 _ _ _ _ _ h
  have l5 : ∀  (n : Nat) (S : hp) (l1 : Int32) (l2 : Int32) (l3 : Int32) (l4 : Int32), wl_X2_setsWith_5 Q n S l1 l2 l3 l4 → VM l b D cy 5 1 21 0 0 (pI Q) p e s m args below meth c S 0 0 5 [(1, .int l1), (2, .int l2), (3, .int l3), (4, .int l4)] [] := by
    intro  n
    induction n with
    | zero => intro S l1 l2 l3 l4 h; exact h.elim
    | succ n ih => intro S l1 l2 l3 l4 h; exact j5 (wl_X2_setsWith_5 Q n) ih S l1 l2 l3 l4 h
  unfold wp_X2_setsWith at h
  show VM l b D cy 5 1 21 0 0 (pI Q) p e s m args below meth c S 0 0 0 [(0, .ref a0), (1, .int x1), (2, .int x2)] []
  refine v_iconst X (v := 0) dX2_setsWith_0 (by decide) ?_
  refine v_istore_n X (lv' := [(3, .int (0 : Int32)), (0, .ref a0), (1, .int x1), (2, .int x2)]) dX2_setsWith_1 rfl (by decide) rfl ?_
  refine v_iconst X (v := 0) dX2_setsWith_2 (by decide) ?_
  refine v_istore X (lv' := [(4, .int (0 : Int32)), (3, .int (0 : Int32)), (0, .ref a0), (1, .int x1), (2, .int x2)]) dX2_setsWith_3 (by decide) rfl ?_
  refine v_lv (lv' := [(1, .int x1), (2, .int x2), (3, .int (0 : Int32)), (4, .int (0 : Int32))]) [3, 4, 1, 0] rfl ?_
  obtain ⟨n, h⟩ := h
  exact l5 n _ _ _ _ _ h
def wB_X2_fraction_44 (Q : Int32 → hp → Prop) (S : hp) (l4 : Int32) (k0 : Int32) : Prop :=
  ¬ (if l4 < (1 : Int32) then (1 : Int32) else l4) = 0 ∧ Q (k0 / (if l4 < (1 : Int32) then (1 : Int32) else l4)) S
def wB_X2_fraction_35 (Q : Int32 → hp → Prop) (S : hp) (l1 : Int32) (l2 : Int32) (l3 : Int32) (l4 : Int32) : Prop :=
  ((¬ l3 = 0 → wB_X2_fraction_44 Q S l4 l2) ∧ (l3 = 0 → wB_X2_fraction_44 Q S l4 l1))
def wB_X2_fraction_29 (bk9 : hp → Int32 → Int32 → Int32 → Int32 → Prop) (Q : Int32 → hp → Prop) (S : hp) (l1 : Int32) (l2 : Int32) (l3 : Int32) (l4 : Int32) : Prop :=
  ∀ v7 : Int32, v7 = l4 + (-1 : Int32) → bk9 S l1 l2 l3 v7
def wB_X2_fraction_9 (bk9 : hp → Int32 → Int32 → Int32 → Int32 → Prop) (Q : Int32 → hp → Prop) (S : hp) (l1 : Int32) (l2 : Int32) (l3 : Int32) (l4 : Int32) : Prop :=
  ((l4 ≤ (1 : Int32) → wB_X2_fraction_35 Q S l1 l2 l3 l4) ∧ (¬ l4 ≤ (1 : Int32) → ¬ l4 = 0 ∧ ((¬ (l1 - l1 / l4 * l4) = 0 → wB_X2_fraction_29 bk9 Q S l1 l2 l3 l4) ∧ ((l1 - l1 / l4 * l4) = 0 → ¬ l4 = 0 ∧ (((l2 - l2 / l4 * l4) = 0 → wB_X2_fraction_35 Q S l1 l2 l3 l4) ∧ (¬ (l2 - l2 / l4 * l4) = 0 → wB_X2_fraction_29 bk9 Q S l1 l2 l3 l4))))))
def wl_X2_fraction_9 (Q : Int32 → hp → Prop) : Nat → hp → Int32 → Int32 → Int32 → Int32 → Prop
  | 0 => fun _ _ _ _ _ => False
  | n + 1 => wB_X2_fraction_9 (wl_X2_fraction_9 Q n) Q
def wp_X2_fraction (Q : Int32 → hp → Prop) (S : hp) (a0 : Nat) (x1 : Int32) (x2 : Int32) (x3 : Int32) : Prop :=
  ((¬ x1 = 0 → ∃ n : Nat, wl_X2_fraction_9 Q n S x1 x2 x3 x1) ∧ (x1 = 0 → Q x3 S))
theorem k_X2_fraction : Cond.code yX2_fraction cX2_fraction 5 (some .int) ∈ gtb := mg 679 (by decide +kernel) (by decide +kernel)
theorem dn_X2_fraction : yX2_fraction.cls ≠ "java/lang/invoke/MethodHandle" ∧ yX2_fraction.cls ≠ "java/lang/invoke/VarHandle" ∧ (parseMethodDescriptor yX2_fraction.desc).map (fun d => d.parameters.length) = some 3 := by decide +kernel
set_option maxRecDepth 100000 in
set_option maxHeartbeats 4000000 in
theorem s_X2_fraction (l : Launch) (b : Nat) (D : va_G) (cy : Nat → ClassId) {Q : Int32 → hp → Prop} {S : hp} {a0 : Nat} {x1 : Int32} {x2 : Int32} {x3 : Int32} (h : wp_X2_fraction Q S a0 x1 x2 x3) : MT l yX2_fraction cX2_fraction 5 (some .int) 1 21 0 0 b D cy S [.ref a0, .int x1, .int x2, .int x3] (pI Q) := by
  refine MT.of (by decide +kernel) (Nat.le_of_ble_eq_true rfl) ?_
  intro p e s m args below meth c X hr hlk hnm
  have j44 : ∀  (S : hp) (l4 : Int32) (k0 : Int32), wB_X2_fraction_44 Q S l4 k0 → VM l b D cy 5 1 21 0 0 (pI Q) p e s m args below meth c S 0 0 44 [(4, .int l4)] [.int k0] := by
    intro  S l4 k0 h
    unfold wB_X2_fraction_44 at h
    refine v_iload X 0 dX2_fraction_44 rfl ?_
    refine v_iconst X (v := 1) dX2_fraction_46 (by decide) ?_
    refine v_mmax X wd680 wd563 wd71 wd564 (Nat.le_of_ble_eq_true rfl) (Nat.le_of_ble_eq_true rfl) (Nat.le_of_ble_eq_true rfl) (Nat.le_of_ble_eq_true rfl) dX2_fraction_47 ?_
    obtain ⟨hz4, h⟩ := h
    refine v_idiv X dX2_fraction_50 hz4 ?_
    exact v_iret X hr hlk ⟨_, rfl, h⟩ dX2_fraction_51
  have j35 : ∀  (S : hp) (l1 : Int32) (l2 : Int32) (l3 : Int32) (l4 : Int32), wB_X2_fraction_35 Q S l1 l2 l3 l4 → VM l b D cy 5 1 21 0 0 (pI Q) p e s m args below meth c S 0 0 35 [(1, .int l1), (2, .int l2), (3, .int l3), (4, .int l4)] [] := by
    intro  S l1 l2 l3 l4 h
    unfold wB_X2_fraction_35 at h
    refine v_iload_n X 2 dX2_fraction_35 rfl rfl ?_
    refine v_if_ne X (tgt := 43) dX2_fraction_36 (by decide) (fun c3 => ?_) (fun c3 => ?_)
    · replace h := h.1 c3
      refine v_iload_n X 1 dX2_fraction_43 rfl rfl ?_
      refine v_lv (lv' := [(4, .int l4)]) [3] rfl ?_
      exact j44 _ _ _ h
    · replace h := h.2 c3
      refine v_iload_n X 0 dX2_fraction_39 rfl rfl ?_
      refine v_goto X (tgt := 44) dX2_fraction_40 (by decide) ?_
      refine v_lv (lv' := [(4, .int l4)]) [3] rfl ?_
      exact j44 _ _ _ h
  have j29 : ∀ (bk9 : hp → Int32 → Int32 → Int32 → Int32 → Prop) (hbk9 : ∀ (S : hp) (l1 : Int32) (l2 : Int32) (l3 : Int32) (l4 : Int32), bk9 S l1 l2 l3 l4 → VM l b D cy 5 1 21 0 0 (pI Q) p e s m args below meth c S 0 0 9 [(1, .int l1), (2, .int l2), (3, .int l3), (4, .int l4)] []) (S : hp) (l1 : Int32) (l2 : Int32) (l3 : Int32) (l4 : Int32), wB_X2_fraction_29 bk9 Q S l1 l2 l3 l4 → VM l b D cy 5 1 21 0 0 (pI Q) p e s m args below meth c S 0 0 29 [(1, .int l1), (2, .int l2), (3, .int l3), (4, .int l4)] [] := by
    intro bk9 hbk9 S l1 l2 l3 l4 h
    unfold wB_X2_fraction_29 at h
    obtain ⟨v7, hv7⟩ : ∃ y : Int32, y = l4 + (-1 : Int32) := ⟨_, rfl⟩
    replace h := h v7 hv7
    refine v_iinc X (j := 3) (v := v7) (lv' := [(4, .int v7), (1, .int l1), (2, .int l2), (3, .int l3)]) dX2_fraction_29 rfl (by rw [hv7] <;> rfl) (by decide) rfl ?_
    refine v_goto X (tgt := 9) dX2_fraction_32 (by decide) ?_
    refine v_lv (lv' := [(1, .int l1), (2, .int l2), (3, .int l3), (4, .int v7)]) [1, 2, 3, 0] rfl ?_
    exact hbk9 _ _ _ _ _ h
  have j9 : ∀ (bk9 : hp → Int32 → Int32 → Int32 → Int32 → Prop) (hbk9 : ∀ (S : hp) (l1 : Int32) (l2 : Int32) (l3 : Int32) (l4 : Int32), bk9 S l1 l2 l3 l4 → VM l b D cy 5 1 21 0 0 (pI Q) p e s m args below meth c S 0 0 9 [(1, .int l1), (2, .int l2), (3, .int l3), (4, .int l4)] []) (S : hp) (l1 : Int32) (l2 : Int32) (l3 : Int32) (l4 : Int32), wB_X2_fraction_9 bk9 Q S l1 l2 l3 l4 → VM l b D cy 5 1 21 0 0 (pI Q) p e s m args below meth c S 0 0 9 [(1, .int l1), (2, .int l2), (3, .int l3), (4, .int l4)] [] := by
    intro bk9 hbk9 S l1 l2 l3 l4 h
    unfold wB_X2_fraction_9 at h
    refine v_iload X 3 dX2_fraction_9 rfl ?_
    refine v_iconst X (v := 1) dX2_fraction_11 (by decide) ?_
    refine v_icmp_le X (tgt := 35) dX2_fraction_12 (by decide) (fun c2 => ?_) (fun c2 => ?_)
    · replace h := h.1 c2
      exact j35 _ _ _ _ _ h
    · replace h := h.2 c2
      refine v_iload_n X 0 dX2_fraction_15 rfl rfl ?_
      refine v_iload X 3 dX2_fraction_16 rfl ?_
      obtain ⟨hz5, h⟩ := h
      refine v_irem X dX2_fraction_18 hz5 ?_
      refine v_if_ne X (tgt := 29) dX2_fraction_19 (by decide) (fun c6 => ?_) (fun c6 => ?_)
      · replace h := h.1 c6
        exact j29 bk9 hbk9 _ _ _ _ _ h
      · replace h := h.2 c6
        refine v_iload_n X 1 dX2_fraction_22 rfl rfl ?_
        refine v_iload X 3 dX2_fraction_23 rfl ?_
        obtain ⟨hz8, h⟩ := h
        refine v_irem X dX2_fraction_25 hz8 ?_
        refine v_if_eq X (tgt := 35) dX2_fraction_26 (by decide) (fun c9 => ?_) (fun c9 => ?_)
        · replace h := h.1 c9
          exact j35 _ _ _ _ _ h
        · replace h := h.2 c9
          exact j29 bk9 hbk9 _ _ _ _ _ h
  have l9 : ∀  (n : Nat) (S : hp) (l1 : Int32) (l2 : Int32) (l3 : Int32) (l4 : Int32), wl_X2_fraction_9 Q n S l1 l2 l3 l4 → VM l b D cy 5 1 21 0 0 (pI Q) p e s m args below meth c S 0 0 9 [(1, .int l1), (2, .int l2), (3, .int l3), (4, .int l4)] [] := by
    intro  n
    induction n with
    | zero => intro S l1 l2 l3 l4 h; exact h.elim
    | succ n ih => intro S l1 l2 l3 l4 h; exact j9 (wl_X2_fraction_9 Q n) ih S l1 l2 l3 l4 h
  unfold wp_X2_fraction at h
  show VM l b D cy 5 1 21 0 0 (pI Q) p e s m args below meth c S 0 0 0 [(0, .ref a0), (1, .int x1), (2, .int x2), (3, .int x3)] []
  refine v_iload_n X 1 dX2_fraction_0 rfl rfl ?_
  refine v_if_ne X (tgt := 6) dX2_fraction_1 (by decide) (fun c1 => ?_) (fun c1 => ?_)
  · replace h := h.1 c1
    refine v_iload_n X 1 dX2_fraction_6 rfl rfl ?_
    refine v_istore X (lv' := [(4, .int x1), (0, .ref a0), (1, .int x1), (2, .int x2), (3, .int x3)]) dX2_fraction_7 (by decide) rfl ?_
    refine v_lv (lv' := [(1, .int x1), (2, .int x2), (3, .int x3), (4, .int x1)]) [2, 3, 4, 0] rfl ?_
    obtain ⟨n, h⟩ := h
    exact l9 n _ _ _ _ _ h
  · replace h := h.2 c1
    refine v_iload_n X 3 dX2_fraction_4 rfl rfl ?_
    exact v_iret X hr hlk ⟨_, rfl, h⟩ dX2_fraction_5
def wp_X11_blame (Q : Int32 → hp → Prop) (S : hp) (a0 : Nat) (x1 : Int32) (x2 : Int32) (x3 : Int32) (x4 : Int32) (x5 : Int32) : Prop :=
  hK S a0 = 10 ∧ ∃ r2 : Nat, hR S a0 2 = some r2 ∧ hK S r2 = 7 ∧ wp_X8_hasDummy (fun r5 S3 => ((r5 = 0 → Q (-1000001 : Int32) S3) ∧ (¬ r5 = 0 → hK S3 a0 = 10 ∧ ∃ r8 : Nat, hR S3 a0 2 = some r8 ∧ hK S3 r8 = 7 ∧ wp_X8_mouthAt (fun q53 S9 => (q53 = none → Q (-1000001 : Int32) S9) ∧ (∀ r11 : Nat, q53 = some r11 → wp_X6_isRow (fun r13 S12 => ((r13 = 0 → Q (-1000001 : Int32) S12) ∧ (¬ r13 = 0 → wp_X11_isFirstOrSecond (fun r16 S15 => ((¬ r16 = 0 → hK S15 a0 = 10 ∧ ∃ r19 : Nat, hR S15 a0 0 = some r19 ∧ hK S15 r19 = 5 ∧ wp_X6_findingAt (fun r22 S20 => ((r22 = 0 → hK S20 a0 = 10 ∧ ∃ r25 : Nat, hR S20 a0 4 = some r25 ∧ ∃ r26 : Nat, hR S20 a0 2 = some r26 ∧ ∃ r27 : Nat, hR S20 a0 0 = some r27 ∧ hK S20 r25 = 2 ∧ wp_X2_fittingSets (fun r30 S28 => ((¬ r30 = 0 → hK S28 a0 = 10 ∧ ∃ r33 : Nat, hR S28 a0 4 = some r33 ∧ hK S28 r33 = 2 ∧ wp_X2_setsWith (fun r36 S34 => hK S34 a0 = 10 ∧ ∃ r38 : Nat, hR S34 a0 4 = some r38 ∧ wp_J6_bitCount_0f7a4 (fun r40 S39 => hK S39 r38 = 2 ∧ wp_X2_fraction (fun r43 S41 => hK S41 a0 = 10 ∧ wp_X11_answered (fun r46 S44 => Q r46 S44) S41 a0 r43) S39 r38 r36 r40 x5) S34 r30) S28 r33 r30 x2) ∧ (r30 = 0 → hK S28 a0 = 10 ∧ wp_X11_answered (fun r49 S47 => Q r49 S47) S28 a0 (-1000000 : Int32)))) S20 r25 r26 x1 r27 x3 x4) ∧ (¬ r22 = 0 → hK S20 a0 = 10 ∧ wp_X11_found (fun r52 S50 => Q r52 S50) S20 a0 r22))) S15 r19 x3 x4 (3 : Int32)) ∧ (r16 = 0 → Q (-1000001 : Int32) S15))) S12 x5))) S9 x3)) S3 r8 x2))) S r2 x1
theorem k_X11_blame : Cond.code yX11_blame cX11_blame 9 (some .int) ∈ gtb := mg 670 (by decide +kernel) (by decide +kernel)
theorem dn_X11_blame : yX11_blame.cls ≠ "java/lang/invoke/MethodHandle" ∧ yX11_blame.cls ≠ "java/lang/invoke/VarHandle" ∧ (parseMethodDescriptor yX11_blame.desc).map (fun d => d.parameters.length) = some 5 := by decide +kernel
set_option maxRecDepth 100000 in
set_option maxHeartbeats 4000000 in
theorem s_X11_blame (l : Launch) (b : Nat) (D : va_G) (cy : Nat → ClassId) {Q : Int32 → hp → Prop} {S : hp} {a0 : Nat} {x1 : Int32} {x2 : Int32} {x3 : Int32} {x4 : Int32} {x5 : Int32} (h : wp_X11_blame Q S a0 x1 x2 x3 x4 x5) : MT l yX11_blame cX11_blame 9 (some .int) 5 118 0 0 b D cy S [.ref a0, .int x1, .int x2, .int x3, .int x4, .int x5] (pI Q) := by
  refine MT.of (by decide +kernel) (Nat.le_of_ble_eq_true rfl) ?_
  intro p e s m args below meth c X hr hlk hnm
  unfold wp_X11_blame at h
  show VM l b D cy 9 5 118 0 0 (pI Q) p e s m args below meth c S 0 0 0 [(0, .ref a0), (1, .int x1), (2, .int x2), (3, .int x3), (4, .int x4), (5, .int x5)] []
  refine v_aload_n X 0 dX11_blame_0 rfl rfl ?_
  obtain ⟨hk1, h⟩ := h
  obtain ⟨r2, hr2, h⟩ := h
  refine v_getR X (T := TX11) (N := 12) (k := 2) hk1 (by decide) rfl (by decide) inX11 wd217 rfl dX11_blame_1 hr2 ?_
  refine v_iload_n X 1 dX11_blame_4 rfl rfl ?_
  obtain ⟨hk4, h⟩ := h
  refine v_callV X (av := [.int x1]) (T := TX8) (N := 10) (s_X8_hasDummy l b D cy h) hk4 (by decide) rfl wd561 wd488 wd489 wd59 k_X8_hasDummy dn_X8_hasDummy rfl ⟨Nat.le_of_ble_eq_true rfl, Nat.le_of_ble_eq_true rfl⟩ (Nat.le_of_ble_eq_true rfl) ⟨Nat.le_of_ble_eq_true rfl, Nat.le_of_ble_eq_true rfl⟩ dX11_blame_5 rfl (kI (fun r5 S3 h => ?_))
  refine v_if_eq X (tgt := 37) dX11_blame_8 (by decide) (fun c6 => ?_) (fun c6 => ?_)
  · replace h := h.1 c6
    refine v_ldc X wd262 dX11_blame_37 ?_
    exact v_iret X hr hlk ⟨_, rfl, h⟩ dX11_blame_39
  · replace h := h.2 c6
    refine v_aload_n X 0 dX11_blame_11 rfl rfl ?_
    obtain ⟨hk7, h⟩ := h
    obtain ⟨r8, hr8, h⟩ := h
    refine v_getR X (T := TX11) (N := 12) (k := 2) hk7 (by decide) rfl (by decide) inX11 wd217 rfl dX11_blame_12 hr8 ?_
    refine v_iload_n X 2 dX11_blame_15 rfl rfl ?_
    obtain ⟨hk10, h⟩ := h
    refine v_callV X (av := [.int x2]) (T := TX8) (N := 10) (s_X8_mouthAt l b D cy h) hk10 (by decide) rfl wd479 wd480 wd481 wd59 k_X8_mouthAt dn_X8_mouthAt rfl ⟨Nat.le_of_ble_eq_true rfl, Nat.le_of_ble_eq_true rfl⟩ (Nat.le_of_ble_eq_true rfl) ⟨Nat.le_of_ble_eq_true rfl, Nat.le_of_ble_eq_true rfl⟩ dX11_blame_16 rfl (kO (fun S9 h => ?_) (fun r11 S9 h => ?_))
    · replace h := h.1 rfl
      refine v_ifnullN X (tgt := 37) dX11_blame_19 (by decide) ?_
      refine v_ldc X wd262 dX11_blame_37 ?_
      exact v_iret X hr hlk ⟨_, rfl, h⟩ dX11_blame_39
    · replace h := h.2 _ rfl
      refine v_ifnull X dX11_blame_19 ?_
      refine v_iload_n X 3 dX11_blame_22 rfl rfl ?_
      refine v_callS X (av := [.int x3]) (s_X6_isRow l b D cy h) wd256 wd257 wd57 k_X6_isRow dn_X6_isRow rfl ⟨Nat.le_of_ble_eq_true rfl, Nat.le_of_ble_eq_true rfl⟩ (Nat.le_of_ble_eq_true rfl) ⟨Nat.le_of_ble_eq_true rfl, Nat.le_of_ble_eq_true rfl⟩ dX11_blame_23 rfl (kI (fun r13 S12 h => ?_))
      refine v_if_eq X (tgt := 37) dX11_blame_26 (by decide) (fun c14 => ?_) (fun c14 => ?_)
      · replace h := h.1 c14
        refine v_ldc X wd262 dX11_blame_37 ?_
        exact v_iret X hr hlk ⟨_, rfl, h⟩ dX11_blame_39
      · replace h := h.2 c14
        refine v_iload X 5 dX11_blame_29 rfl ?_
        refine v_callS X (av := [.int x5]) (s_X11_isFirstOrSecond l b D cy h) wd619 wd620 wd56 k_X11_isFirstOrSecond dn_X11_isFirstOrSecond rfl ⟨Nat.le_of_ble_eq_true rfl, Nat.le_of_ble_eq_true rfl⟩ (Nat.le_of_ble_eq_true rfl) ⟨Nat.le_of_ble_eq_true rfl, Nat.le_of_ble_eq_true rfl⟩ dX11_blame_31 rfl (kI (fun r16 S15 h => ?_))
        refine v_if_ne X (tgt := 40) dX11_blame_34 (by decide) (fun c17 => ?_) (fun c17 => ?_)
        · replace h := h.1 c17
          refine v_aload_n X 0 dX11_blame_40 rfl rfl ?_
          obtain ⟨hk18, h⟩ := h
          obtain ⟨r19, hr19, h⟩ := h
          refine v_getR X (T := TX11) (N := 12) (k := 0) hk18 (by decide) rfl (by decide) inX11 wd215 rfl dX11_blame_41 hr19 ?_
          refine v_iload_n X 3 dX11_blame_44 rfl rfl ?_
          refine v_iload X 4 dX11_blame_45 rfl ?_
          refine v_iconst X (v := 3) dX11_blame_47 (by decide) ?_
          obtain ⟨hk21, h⟩ := h
          refine v_callV X (av := [.int x3, .int x4, .int (3 : Int32)]) (T := TX6) (N := 4) (s_X6_findingAt l b D cy h) hk21 (by decide) rfl wd283 wd284 wd285 wd57 k_X6_findingAt dn_X6_findingAt rfl ⟨Nat.le_of_ble_eq_true rfl, Nat.le_of_ble_eq_true rfl⟩ (Nat.le_of_ble_eq_true rfl) ⟨Nat.le_of_ble_eq_true rfl, Nat.le_of_ble_eq_true rfl⟩ dX11_blame_48 rfl (kI (fun r22 S20 h => ?_))
          refine v_istore X (lv' := [(6, .int r22), (0, .ref a0), (1, .int x1), (2, .int x2), (3, .int x3), (4, .int x4), (5, .int x5)]) dX11_blame_51 (by decide) rfl ?_
          refine v_iload X 0 dX11_blame_53 rfl ?_
          refine v_if_eq X (tgt := 65) dX11_blame_55 (by decide) (fun c23 => ?_) (fun c23 => ?_)
          · replace h := h.1 c23
            refine v_aload_n X 1 dX11_blame_65 rfl rfl ?_
            obtain ⟨hk24, h⟩ := h
            obtain ⟨r25, hr25, h⟩ := h
            refine v_getR X (T := TX11) (N := 12) (k := 4) hk24 (by decide) rfl (by decide) inX11 wd219 rfl dX11_blame_66 hr25 ?_
            refine v_aload_n X 1 dX11_blame_69 rfl rfl ?_
            obtain ⟨r26, hr26, h⟩ := h
            refine v_getR X (T := TX11) (N := 12) (k := 2) hk24 (by decide) rfl (by decide) inX11 wd217 rfl dX11_blame_70 hr26 ?_
            refine v_iload_n X 2 dX11_blame_73 rfl rfl ?_
            refine v_aload_n X 1 dX11_blame_74 rfl rfl ?_
            obtain ⟨r27, hr27, h⟩ := h
            refine v_getR X (T := TX11) (N := 12) (k := 0) hk24 (by decide) rfl (by decide) inX11 wd215 rfl dX11_blame_75 hr27 ?_
            refine v_iload_n X 4 dX11_blame_78 rfl rfl ?_
            refine v_iload X 5 dX11_blame_79 rfl ?_
            obtain ⟨hk29, h⟩ := h
            refine v_callV X (av := [.ref r26, .int x1, .ref r27, .int x3, .int x4]) (T := TX2) (N := 2) (s_X2_fittingSets l b D cy h) hk29 (by decide) rfl wd622 wd623 wd624 wd60 k_X2_fittingSets dn_X2_fittingSets rfl ⟨Nat.le_of_ble_eq_true rfl, Nat.le_of_ble_eq_true rfl⟩ (Nat.le_of_ble_eq_true rfl) ⟨Nat.le_of_ble_eq_true rfl, Nat.le_of_ble_eq_true rfl⟩ dX11_blame_81 rfl (kI (fun r30 S28 h => ?_))
            refine v_istore X (lv' := [(7, .int r30), (6, .int r22), (0, .ref a0), (1, .int x1), (2, .int x2), (3, .int x3), (4, .int x4), (5, .int x5)]) dX11_blame_84 (by decide) rfl ?_
            refine v_iload X 0 dX11_blame_86 rfl ?_
            refine v_if_ne X (tgt := 98) dX11_blame_88 (by decide) (fun c31 => ?_) (fun c31 => ?_)
            · replace h := h.1 c31
              refine v_aload_n X 2 dX11_blame_98 rfl rfl ?_
              obtain ⟨hk32, h⟩ := h
              obtain ⟨r33, hr33, h⟩ := h
              refine v_getR X (T := TX11) (N := 12) (k := 4) hk32 (by decide) rfl (by decide) inX11 wd219 rfl dX11_blame_99 hr33 ?_
              refine v_iload X 0 dX11_blame_102 rfl ?_
              refine v_iload_n X 4 dX11_blame_104 rfl rfl ?_
              obtain ⟨hk35, h⟩ := h
              refine v_callV X (av := [.int r30, .int x2]) (T := TX2) (N := 2) (s_X2_setsWith l b D cy h) hk35 (by decide) rfl wd672 wd673 wd674 wd60 k_X2_setsWith dn_X2_setsWith rfl ⟨Nat.le_of_ble_eq_true rfl, Nat.le_of_ble_eq_true rfl⟩ (Nat.le_of_ble_eq_true rfl) ⟨Nat.le_of_ble_eq_true rfl, Nat.le_of_ble_eq_true rfl⟩ dX11_blame_105 rfl (kI (fun r36 S34 h => ?_))
              refine v_istore X (lv' := [(8, .int r36), (7, .int r30), (6, .int r22), (0, .ref a0), (1, .int x1), (2, .int x2), (3, .int x3), (4, .int x4), (5, .int x5)]) dX11_blame_108 (by decide) rfl ?_
              refine v_aload_n X 3 dX11_blame_110 rfl rfl ?_
              refine v_aload_n X 3 dX11_blame_111 rfl rfl ?_
              obtain ⟨hk37, h⟩ := h
              obtain ⟨r38, hr38, h⟩ := h
              refine v_getR X (T := TX11) (N := 12) (k := 4) hk37 (by decide) rfl (by decide) inX11 wd219 rfl dX11_blame_112 hr38 ?_
              refine v_iload X 0 dX11_blame_115 rfl ?_
              refine v_iload X 1 dX11_blame_117 rfl ?_
              refine v_callS X (av := [.int r30]) (s_J6_bitCount_0f7a4 l b D cy h) wd652 wd653 wd72 k_J6_bitCount_0f7a4 dn_J6_bitCount_0f7a4 rfl ⟨Nat.le_of_ble_eq_true rfl, Nat.le_of_ble_eq_true rfl⟩ (Nat.le_of_ble_eq_true rfl) ⟨Nat.le_of_ble_eq_true rfl, Nat.le_of_ble_eq_true rfl⟩ dX11_blame_119 rfl (kI (fun r40 S39 h => ?_))
              refine v_iload X 8 dX11_blame_122 rfl ?_
              obtain ⟨hk42, h⟩ := h
              refine v_callV X (av := [.int r36, .int r40, .int x5]) (T := TX2) (N := 2) (s_X2_fraction l b D cy h) hk42 (by decide) rfl wd676 wd677 wd678 wd60 k_X2_fraction dn_X2_fraction rfl ⟨Nat.le_of_ble_eq_true rfl, Nat.le_of_ble_eq_true rfl⟩ (Nat.le_of_ble_eq_true rfl) ⟨Nat.le_of_ble_eq_true rfl, Nat.le_of_ble_eq_true rfl⟩ dX11_blame_124 rfl (kI (fun r43 S41 h => ?_))
              obtain ⟨hk45, h⟩ := h
              refine v_callV X (av := [.int r43]) (T := TX11) (N := 12) (s_X11_answered l b D cy h) hk45 (by decide) rfl wd275 wd277 wd1 wd56 k_X11_answered dn_X11_answered rfl ⟨Nat.le_of_ble_eq_true rfl, Nat.le_of_ble_eq_true rfl⟩ (Nat.le_of_ble_eq_true rfl) ⟨Nat.le_of_ble_eq_true rfl, Nat.le_of_ble_eq_true rfl⟩ dX11_blame_127 rfl (kI (fun r46 S44 h => ?_))
              exact v_iret X hr hlk ⟨_, rfl, h⟩ dX11_blame_130
            · replace h := h.2 c31
              refine v_aload_n X 2 dX11_blame_91 rfl rfl ?_
              refine v_ldc X wd671 dX11_blame_92 ?_
              obtain ⟨hk48, h⟩ := h
              refine v_callV X (av := [.int (-1000000 : Int32)]) (T := TX11) (N := 12) (s_X11_answered l b D cy h) hk48 (by decide) rfl wd275 wd277 wd1 wd56 k_X11_answered dn_X11_answered rfl ⟨Nat.le_of_ble_eq_true rfl, Nat.le_of_ble_eq_true rfl⟩ (Nat.le_of_ble_eq_true rfl) ⟨Nat.le_of_ble_eq_true rfl, Nat.le_of_ble_eq_true rfl⟩ dX11_blame_94 rfl (kI (fun r49 S47 h => ?_))
              exact v_iret X hr hlk ⟨_, rfl, h⟩ dX11_blame_97
          · replace h := h.2 c23
            refine v_aload_n X 1 dX11_blame_58 rfl rfl ?_
            refine v_iload X 0 dX11_blame_59 rfl ?_
            obtain ⟨hk51, h⟩ := h
            refine v_callV X (av := [.int r22]) (T := TX11) (N := 12) (s_X11_found l b D cy h) hk51 (by decide) rfl wd263 wd265 wd0 wd56 k_X11_found dn_X11_found rfl ⟨Nat.le_of_ble_eq_true rfl, Nat.le_of_ble_eq_true rfl⟩ (Nat.le_of_ble_eq_true rfl) ⟨Nat.le_of_ble_eq_true rfl, Nat.le_of_ble_eq_true rfl⟩ dX11_blame_61 rfl (kI (fun r52 S50 h => ?_))
            exact v_iret X hr hlk ⟨_, rfl, h⟩ dX11_blame_64
        · replace h := h.2 c17
          refine v_ldc X wd262 dX11_blame_37 ?_
          exact v_iret X hr hlk ⟨_, rfl, h⟩ dX11_blame_39
def wB_X2_leastTold_3 (bk3 : hp → Nat → Int32 → Int32 → Prop) (Q : Int32 → hp → Prop) (S : hp) (l0 : Nat) (l1 : Int32) (l2 : Int32) : Prop :=
  (((99 : Int32) < l2 → Q (-1000000 : Int32) S) ∧ (¬ (99 : Int32) < l2 → wd_Mouth_padding (fun r3 S2 => ((¬ r3 = l1 → ∀ v5 : Int32, v5 = l2 + (1 : Int32) → bk3 S2 l0 l1 v5) ∧ (r3 = l1 → Q l2 S2))) S l0 l2))
def wl_X2_leastTold_3 (Q : Int32 → hp → Prop) : Nat → hp → Nat → Int32 → Int32 → Prop
  | 0 => fun _ _ _ _ => False
  | n + 1 => wB_X2_leastTold_3 (wl_X2_leastTold_3 Q n) Q
def wp_X2_leastTold (Q : Int32 → hp → Prop) (S : hp) (a0 : Nat) (x1 : Int32) : Prop :=
  ∃ n : Nat, wl_X2_leastTold_3 Q n S a0 x1 (-99 : Int32)
theorem k_X2_leastTold : Cond.code yX2_leastTold cX2_leastTold 3 (some .int) ∈ gtb := mg 696 (by decide +kernel) (by decide +kernel)
theorem dn_X2_leastTold : yX2_leastTold.cls ≠ "java/lang/invoke/MethodHandle" ∧ yX2_leastTold.cls ≠ "java/lang/invoke/VarHandle" ∧ (parseMethodDescriptor yX2_leastTold.desc).map (fun d => d.parameters.length) = some 2 := by decide +kernel
set_option maxRecDepth 100000 in
set_option maxHeartbeats 4000000 in
theorem s_X2_leastTold (l : Launch) (b : Nat) (D : va_G) (cy : Nat → ClassId) {Q : Int32 → hp → Prop} {S : hp} {a0 : Nat} {x1 : Int32} (h : wp_X2_leastTold Q S a0 x1) : MT l yX2_leastTold cX2_leastTold 3 (some .int) 1 21 0 0 b D cy S [.ref a0, .int x1] (pI Q) := by
  refine MT.of (by decide +kernel) (Nat.le_of_ble_eq_true rfl) ?_
  intro p e s m args below meth c X hr hlk hnm
  have j3 : ∀ (bk3 : hp → Nat → Int32 → Int32 → Prop) (hbk3 : ∀ (S : hp) (l0 : Nat) (l1 : Int32) (l2 : Int32), bk3 S l0 l1 l2 → VM l b D cy 3 1 21 0 0 (pI Q) p e s m args below meth c S 0 0 3 [(0, .ref l0), (1, .int l1), (2, .int l2)] []) (S : hp) (l0 : Nat) (l1 : Int32) (l2 : Int32), wB_X2_leastTold_3 bk3 Q S l0 l1 l2 → VM l b D cy 3 1 21 0 0 (pI Q) p e s m args below meth c S 0 0 3 [(0, .ref l0), (1, .int l1), (2, .int l2)] [] := by
    intro bk3 hbk3 S l0 l1 l2 h
    unfold wB_X2_leastTold_3 at h
    refine v_iload_n X 2 dX2_leastTold_3 rfl rfl ?_
    refine v_bipush X (v := 99) dX2_leastTold_4 (by decide) ?_
    refine v_icmp_gt X (tgt := 26) dX2_leastTold_6 (by decide) (fun c1 => ?_) (fun c1 => ?_)
    · replace h := h.1 c1
      refine v_ldc X wd662 dX2_leastTold_26 ?_
      exact v_iret X hr hlk ⟨_, rfl, h⟩ dX2_leastTold_28
    · replace h := h.2 c1
      refine v_aload_n X 0 dX2_leastTold_9 rfl rfl ?_
      refine v_iload_n X 2 dX2_leastTold_10 rfl rfl ?_
      refine v_dyn_Mouth_padding X h wd697 ⟨Nat.le_of_ble_eq_true rfl, Nat.le_of_ble_eq_true rfl⟩ (Nat.le_of_ble_eq_true rfl) ⟨Nat.le_of_ble_eq_true rfl, Nat.le_of_ble_eq_true rfl⟩ dX2_leastTold_11 (fun r3 S2 h => ?_)
      refine v_iload_n X 1 dX2_leastTold_14 rfl rfl ?_
      refine v_icmp_ne X (tgt := 20) dX2_leastTold_15 (by decide) (fun c4 => ?_) (fun c4 => ?_)
      · replace h := h.1 c4
        obtain ⟨v5, hv5⟩ : ∃ y : Int32, y = l2 + (1 : Int32) := ⟨_, rfl⟩
        replace h := h v5 hv5
        refine v_iinc X (j := 2) (v := v5) (lv' := [(2, .int v5), (0, .ref l0), (1, .int l1)]) dX2_leastTold_20 rfl (by rw [hv5] <;> rfl) (by decide) rfl ?_
        refine v_goto X (tgt := 3) dX2_leastTold_23 (by decide) ?_
        refine v_lv (lv' := [(0, .ref l0), (1, .int l1), (2, .int v5)]) [1, 2, 0] rfl ?_
        exact hbk3 _ _ _ _ h
      · replace h := h.2 c4
        refine v_iload_n X 2 dX2_leastTold_18 rfl rfl ?_
        exact v_iret X hr hlk ⟨_, rfl, h⟩ dX2_leastTold_19
  have l3 : ∀  (n : Nat) (S : hp) (l0 : Nat) (l1 : Int32) (l2 : Int32), wl_X2_leastTold_3 Q n S l0 l1 l2 → VM l b D cy 3 1 21 0 0 (pI Q) p e s m args below meth c S 0 0 3 [(0, .ref l0), (1, .int l1), (2, .int l2)] [] := by
    intro  n
    induction n with
    | zero => intro S l0 l1 l2 h; exact h.elim
    | succ n ih => intro S l0 l1 l2 h; exact j3 (wl_X2_leastTold_3 Q n) ih S l0 l1 l2 h
  unfold wp_X2_leastTold at h
  show VM l b D cy 3 1 21 0 0 (pI Q) p e s m args below meth c S 0 0 0 [(0, .ref a0), (1, .int x1)] []
  refine v_bipush X (v := -99) dX2_leastTold_0 (by decide) ?_
  refine v_istore_n X (lv' := [(2, .int (-99 : Int32)), (0, .ref a0), (1, .int x1)]) dX2_leastTold_2 rfl (by decide) rfl ?_
  refine v_lv (lv' := [(0, .ref a0), (1, .int x1), (2, .int (-99 : Int32))]) [1, 2, 0] rfl ?_
  obtain ⟨n, h⟩ := h
  exact l3 n _ _ _ _ h
