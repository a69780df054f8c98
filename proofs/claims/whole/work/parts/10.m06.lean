def wp_X11_swaps (Q : Int32 → hp → Prop) (S : hp) (a0 : Nat) (x1 : Int32) (x2 : Int32) (x3 : Int32) : Prop :=
  hK S a0 = 10 ∧ ∃ r2 : Nat, hR S a0 2 = some r2 ∧ hK S r2 = 7 ∧ ((¬ (hI S r2 5) = 0 → wp_X6_isRow (fun r6 S5 => ((r6 = 0 → Q (-1000001 : Int32) S5) ∧ (¬ r6 = 0 → wp_X11_isFirstOrSecond (fun r9 S8 => ((¬ r9 = 0 → hK S8 a0 = 10 ∧ ∃ r12 : Nat, hR S8 a0 0 = some r12 ∧ ∃ r13 : Nat, hR S8 a0 2 = some r13 ∧ hK S8 r13 = 7 ∧ hK S8 r12 = 5 ∧ wp_X6_findingAt (fun r17 S15 => ((r17 = 0 → hK S15 a0 = 10 ∧ ∃ r20 : Nat, hR S15 a0 4 = some r20 ∧ ∃ r21 : Nat, hR S15 a0 2 = some r21 ∧ ∃ r22 : Nat, hR S15 a0 0 = some r22 ∧ hK S15 r20 = 2 ∧ wp_X2_swapsThatGive (fun r25 S23 => hK S23 a0 = 10 ∧ wp_X11_answered (fun r28 S26 => Q r28 S26) S23 a0 r25) S15 r20 r21 r22 x1 x2 x3) ∧ (¬ r17 = 0 → hK S15 a0 = 10 ∧ wp_X11_found (fun r31 S29 => Q r31 S29) S15 a0 r17))) S8 r12 x1 x2 (((3 : Int32) * (hI S8 r13 7)))) ∧ (r9 = 0 → Q (-1000001 : Int32) S8))) S5 x3))) S x1) ∧ ((hI S r2 5) = 0 → Q (-1000002 : Int32) S))
theorem k_X11_swaps : Cond.code yX11_swaps cX11_swaps 5 (some .int) ∈ gtb := mg 717 (by decide +kernel) (by decide +kernel)
theorem dn_X11_swaps : yX11_swaps.cls ≠ "java/lang/invoke/MethodHandle" ∧ yX11_swaps.cls ≠ "java/lang/invoke/VarHandle" ∧ (parseMethodDescriptor yX11_swaps.desc).map (fun d => d.parameters.length) = some 3 := by decide +kernel
set_option maxRecDepth 100000 in
set_option maxHeartbeats 4000000 in
theorem s_X11_swaps (l : Launch) (b : Nat) (D : va_G) (cy : Nat → ClassId) {Q : Int32 → hp → Prop} {S : hp} {a0 : Nat} {x1 : Int32} {x2 : Int32} {x3 : Int32} (h : wp_X11_swaps Q S a0 x1 x2 x3) : MT l yX11_swaps cX11_swaps 5 (some .int) 3 80 0 0 b D cy S [.ref a0, .int x1, .int x2, .int x3] (pI Q) := by
  refine MT.of (by decide +kernel) (Nat.le_of_ble_eq_true rfl) ?_
  intro p e s m args below meth c X hr hlk hnm
  unfold wp_X11_swaps at h
  show VM l b D cy 5 3 80 0 0 (pI Q) p e s m args below meth c S 0 0 0 [(0, .ref a0), (1, .int x1), (2, .int x2), (3, .int x3)] []
  refine v_aload_n X 0 dX11_swaps_0 rfl rfl ?_
  obtain ⟨hk1, h⟩ := h
  obtain ⟨r2, hr2, h⟩ := h
  refine v_getR X (T := TX11) (N := 12) (k := 2) hk1 (by decide) rfl (by decide) inX11 wd217 rfl dX11_swaps_1 hr2 ?_
  obtain ⟨hk3, h⟩ := h
  refine v_getI X (T := TX8) (N := 10) (k := 5) hk3 (by decide) rfl (by decide) inX8 wd150 rfl dX11_swaps_4 ?_
  refine v_if_ne X (tgt := 13) dX11_swaps_7 (by decide) (fun c4 => ?_) (fun c4 => ?_)
  · replace h := h.1 c4
    refine v_iload_n X 1 dX11_swaps_13 rfl rfl ?_
    refine v_callS X (av := [.int x1]) (s_X6_isRow l b D cy h) wd256 wd257 wd57 k_X6_isRow dn_X6_isRow rfl ⟨Nat.le_of_ble_eq_true rfl, Nat.le_of_ble_eq_true rfl⟩ (Nat.le_of_ble_eq_true rfl) ⟨Nat.le_of_ble_eq_true rfl, Nat.le_of_ble_eq_true rfl⟩ dX11_swaps_14 rfl (kI (fun r6 S5 h => ?_))
    refine v_if_eq X (tgt := 27) dX11_swaps_17 (by decide) (fun c7 => ?_) (fun c7 => ?_)
    · replace h := h.1 c7
      refine v_ldc X wd262 dX11_swaps_27 ?_
      exact v_iret X hr hlk ⟨_, rfl, h⟩ dX11_swaps_29
    · replace h := h.2 c7
      refine v_iload_n X 3 dX11_swaps_20 rfl rfl ?_
      refine v_callS X (av := [.int x3]) (s_X11_isFirstOrSecond l b D cy h) wd619 wd620 wd56 k_X11_isFirstOrSecond dn_X11_isFirstOrSecond rfl ⟨Nat.le_of_ble_eq_true rfl, Nat.le_of_ble_eq_true rfl⟩ (Nat.le_of_ble_eq_true rfl) ⟨Nat.le_of_ble_eq_true rfl, Nat.le_of_ble_eq_true rfl⟩ dX11_swaps_21 rfl (kI (fun r9 S8 h => ?_))
      refine v_if_ne X (tgt := 30) dX11_swaps_24 (by decide) (fun c10 => ?_) (fun c10 => ?_)
      · replace h := h.1 c10
        refine v_aload_n X 0 dX11_swaps_30 rfl rfl ?_
        obtain ⟨hk11, h⟩ := h
        obtain ⟨r12, hr12, h⟩ := h
        refine v_getR X (T := TX11) (N := 12) (k := 0) hk11 (by decide) rfl (by decide) inX11 wd215 rfl dX11_swaps_31 hr12 ?_
        refine v_iload_n X 1 dX11_swaps_34 rfl rfl ?_
        refine v_iload_n X 2 dX11_swaps_35 rfl rfl ?_
        refine v_iconst X (v := 3) dX11_swaps_36 (by decide) ?_
        refine v_aload_n X 0 dX11_swaps_37 rfl rfl ?_
        obtain ⟨r13, hr13, h⟩ := h
        refine v_getR X (T := TX11) (N := 12) (k := 2) hk11 (by decide) rfl (by decide) inX11 wd217 rfl dX11_swaps_38 hr13 ?_
        obtain ⟨hk14, h⟩ := h
        refine v_getI X (T := TX8) (N := 10) (k := 7) hk14 (by decide) rfl (by decide) inX8 wd155 rfl dX11_swaps_41 ?_
        refine v_imul X dX11_swaps_44 ?_
        obtain ⟨hk16, h⟩ := h
        refine v_callV X (av := [.int x1, .int x2, .int ((3 : Int32) * (hI S8 r13 7))]) (T := TX6) (N := 4) (s_X6_findingAt l b D cy h) hk16 (by decide) rfl wd283 wd284 wd285 wd57 k_X6_findingAt dn_X6_findingAt rfl ⟨Nat.le_of_ble_eq_true rfl, Nat.le_of_ble_eq_true rfl⟩ (Nat.le_of_ble_eq_true rfl) ⟨Nat.le_of_ble_eq_true rfl, Nat.le_of_ble_eq_true rfl⟩ dX11_swaps_45 rfl (kI (fun r17 S15 h => ?_))
        refine v_istore X (lv' := [(4, .int r17), (0, .ref a0), (1, .int x1), (2, .int x2), (3, .int x3)]) dX11_swaps_48 (by decide) rfl ?_
        refine v_iload X 0 dX11_swaps_50 rfl ?_
        refine v_if_eq X (tgt := 62) dX11_swaps_52 (by decide) (fun c18 => ?_) (fun c18 => ?_)
        · replace h := h.1 c18
          refine v_aload_n X 1 dX11_swaps_62 rfl rfl ?_
          refine v_aload_n X 1 dX11_swaps_63 rfl rfl ?_
          obtain ⟨hk19, h⟩ := h
          obtain ⟨r20, hr20, h⟩ := h
          refine v_getR X (T := TX11) (N := 12) (k := 4) hk19 (by decide) rfl (by decide) inX11 wd219 rfl dX11_swaps_64 hr20 ?_
          refine v_aload_n X 1 dX11_swaps_67 rfl rfl ?_
          obtain ⟨r21, hr21, h⟩ := h
          refine v_getR X (T := TX11) (N := 12) (k := 2) hk19 (by decide) rfl (by decide) inX11 wd217 rfl dX11_swaps_68 hr21 ?_
          refine v_aload_n X 1 dX11_swaps_71 rfl rfl ?_
          obtain ⟨r22, hr22, h⟩ := h
          refine v_getR X (T := TX11) (N := 12) (k := 0) hk19 (by decide) rfl (by decide) inX11 wd215 rfl dX11_swaps_72 hr22 ?_
          refine v_iload_n X 2 dX11_swaps_75 rfl rfl ?_
          refine v_iload_n X 3 dX11_swaps_76 rfl rfl ?_
          refine v_iload_n X 4 dX11_swaps_77 rfl rfl ?_
          obtain ⟨hk24, h⟩ := h
          refine v_callV X (av := [.ref r21, .ref r22, .int x1, .int x2, .int x3]) (T := TX2) (N := 2) (s_X2_swapsThatGive l b D cy h) hk24 (by decide) rfl wd718 wd719 wd720 wd60 k_X2_swapsThatGive dn_X2_swapsThatGive rfl ⟨Nat.le_of_ble_eq_true rfl, Nat.le_of_ble_eq_true rfl⟩ (Nat.le_of_ble_eq_true rfl) ⟨Nat.le_of_ble_eq_true rfl, Nat.le_of_ble_eq_true rfl⟩ dX11_swaps_78 rfl (kI (fun r25 S23 h => ?_))
          obtain ⟨hk27, h⟩ := h
          refine v_callV X (av := [.int r25]) (T := TX11) (N := 12) (s_X11_answered l b D cy h) hk27 (by decide) rfl wd275 wd277 wd1 wd56 k_X11_answered dn_X11_answered rfl ⟨Nat.le_of_ble_eq_true rfl, Nat.le_of_ble_eq_true rfl⟩ (Nat.le_of_ble_eq_true rfl) ⟨Nat.le_of_ble_eq_true rfl, Nat.le_of_ble_eq_true rfl⟩ dX11_swaps_81 rfl (kI (fun r28 S26 h => ?_))
          exact v_iret X hr hlk ⟨_, rfl, h⟩ dX11_swaps_84
        · replace h := h.2 c18
          refine v_aload_n X 1 dX11_swaps_55 rfl rfl ?_
          refine v_iload X 0 dX11_swaps_56 rfl ?_
          obtain ⟨hk30, h⟩ := h
          refine v_callV X (av := [.int r17]) (T := TX11) (N := 12) (s_X11_found l b D cy h) hk30 (by decide) rfl wd263 wd265 wd0 wd56 k_X11_found dn_X11_found rfl ⟨Nat.le_of_ble_eq_true rfl, Nat.le_of_ble_eq_true rfl⟩ (Nat.le_of_ble_eq_true rfl) ⟨Nat.le_of_ble_eq_true rfl, Nat.le_of_ble_eq_true rfl⟩ dX11_swaps_58 rfl (kI (fun r31 S29 h => ?_))
          exact v_iret X hr hlk ⟨_, rfl, h⟩ dX11_swaps_61
      · replace h := h.2 c10
        refine v_ldc X wd262 dX11_swaps_27 ?_
        exact v_iret X hr hlk ⟨_, rfl, h⟩ dX11_swaps_29
  · replace h := h.2 c4
    refine v_ldc X wd474 dX11_swaps_10 ?_
    exact v_iret X hr hlk ⟨_, rfl, h⟩ dX11_swaps_12
def wp_X11_isImage (Q : Int32 → hp → Prop) (S : hp) (x0 : Int32) : Prop :=
  ((x0 < 0 → Q (0 : Int32) S) ∧ (¬ x0 < 0 → (((2 : Int32) ≤ x0 → Q (0 : Int32) S) ∧ (¬ (2 : Int32) ≤ x0 → Q (1 : Int32) S))))
theorem k_X11_isImage : Cond.code yX11_isImage cX11_isImage 1 (some .boolean) ∈ gtb := mg 731 (by decide +kernel) (by decide +kernel)
theorem dn_X11_isImage : yX11_isImage.cls ≠ "java/lang/invoke/MethodHandle" ∧ yX11_isImage.cls ≠ "java/lang/invoke/VarHandle" ∧ (parseMethodDescriptor yX11_isImage.desc).map (fun d => d.parameters.length) = some 1 := by decide +kernel
set_option maxRecDepth 100000 in
set_option maxHeartbeats 4000000 in
theorem s_X11_isImage (l : Launch) (b : Nat) (D : va_G) (cy : Nat → ClassId) {Q : Int32 → hp → Prop} {S : hp} {x0 : Int32} (h : wp_X11_isImage Q S x0) : MT l yX11_isImage cX11_isImage 1 (some .boolean) 0 0 0 0 b D cy S [.int x0] (pI Q) := by
  refine MT.of (by decide +kernel) (Nat.le_of_ble_eq_true rfl) ?_
  intro p e s m args below meth c X hr hlk hnm
  unfold wp_X11_isImage at h
  show VM l b D cy 1 0 0 0 0 (pI Q) p e s m args below meth c S 0 0 0 [(0, .int x0)] []
  refine v_iload_n X 0 dX11_isImage_0 rfl rfl ?_
  refine v_if_lt X (tgt := 13) dX11_isImage_1 (by decide) (fun c1 => ?_) (fun c1 => ?_)
  · replace h := h.1 c1
    refine v_iconst X (v := 0) dX11_isImage_13 (by decide) ?_
    exact v_zret X hr (by decide) hlk ⟨_, rfl, h⟩ dX11_isImage_14
  · replace h := h.2 c1
    refine v_iload_n X 0 dX11_isImage_4 rfl rfl ?_
    refine v_iconst X (v := 2) dX11_isImage_5 (by decide) ?_
    refine v_icmp_ge X (tgt := 13) dX11_isImage_6 (by decide) (fun c2 => ?_) (fun c2 => ?_)
    · replace h := h.1 c2
      refine v_iconst X (v := 0) dX11_isImage_13 (by decide) ?_
      exact v_zret X hr (by decide) hlk ⟨_, rfl, h⟩ dX11_isImage_14
    · replace h := h.2 c2
      refine v_iconst X (v := 1) dX11_isImage_9 (by decide) ?_
      refine v_goto X (tgt := 14) dX11_isImage_10 (by decide) ?_
      exact v_zret X hr (by decide) hlk ⟨_, rfl, h⟩ dX11_isImage_14
def wB_X2_otherPlaces_42 (bk5 : hp → Nat → Nat → Int32 → Int32 → Prop) (Q : Int32 → hp → Prop) (S : hp) (l1 : Nat) (l2 : Nat) (l4 : Int32) (k0 : Int32) (k1 : Int32) : Prop :=
  ∀ v11 : Int32, v11 = (k1 ||| k0) → ∀ v12 : Int32, v12 = l4 + (1 : Int32) → bk5 S l1 l2 v11 v12
def wB_X2_otherPlaces_5 (bk5 : hp → Nat → Nat → Int32 → Int32 → Prop) (Q : Int32 → hp → Prop) (S : hp) (l1 : Nat) (l2 : Nat) (l3 : Int32) (l4 : Int32) : Prop :=
  hK S l1 = 7 ∧ ((((3 : Int32) * (hI S l1 7)) ≤ l4 → Q l3 S) ∧ (¬ ((3 : Int32) * (hI S l1 7)) ≤ l4 → ∃ r3 : Nat, hR S l1 0 = some r3 ∧ hK S r3 = 12 ∧ vp_in l4 (hN S r3) ∧ hK S l2 = 7 ∧ ∃ r7 : Nat, hR S l2 0 = some r7 ∧ hK S r7 = 12 ∧ vp_in l4 (hN S r7) ∧ ((¬ (hI S r3 (l4).toNatClampNeg) = (hI S r7 (l4).toNatClampNeg) → wB_X2_otherPlaces_42 bk5 Q S l1 l2 l4 (((1 : Int32) <<< (l4 &&& 31))) l3) ∧ ((hI S r3 (l4).toNatClampNeg) = (hI S r7 (l4).toNatClampNeg) → wB_X2_otherPlaces_42 bk5 Q S l1 l2 l4 (0 : Int32) l3))))
def wl_X2_otherPlaces_5 (Q : Int32 → hp → Prop) : Nat → hp → Nat → Nat → Int32 → Int32 → Prop
  | 0 => fun _ _ _ _ _ => False
  | n + 1 => wB_X2_otherPlaces_5 (wl_X2_otherPlaces_5 Q n) Q
def wp_X2_otherPlaces (Q : Int32 → hp → Prop) (S : hp) (a0 : Nat) (a1 : Nat) (a2 : Nat) : Prop :=
  ∃ n : Nat, wl_X2_otherPlaces_5 Q n S a1 a2 (0 : Int32) (0 : Int32)
theorem k_X2_otherPlaces : Cond.code yX2_otherPlaces cX2_otherPlaces 5 (some .int) ∈ gtb := mg 735 (by decide +kernel) (by decide +kernel)
theorem dn_X2_otherPlaces : yX2_otherPlaces.cls ≠ "java/lang/invoke/MethodHandle" ∧ yX2_otherPlaces.cls ≠ "java/lang/invoke/VarHandle" ∧ (parseMethodDescriptor yX2_otherPlaces.desc).map (fun d => d.parameters.length) = some 2 := by decide +kernel
set_option maxRecDepth 100000 in
set_option maxHeartbeats 4000000 in
theorem s_X2_otherPlaces (l : Launch) (b : Nat) (D : va_G) (cy : Nat → ClassId) {Q : Int32 → hp → Prop} {S : hp} {a0 : Nat} {a1 : Nat} {a2 : Nat} (h : wp_X2_otherPlaces Q S a0 a1 a2) : MT l yX2_otherPlaces cX2_otherPlaces 5 (some .int) 0 0 0 0 b D cy S [.ref a0, .ref a1, .ref a2] (pI Q) := by
  refine MT.of (by decide +kernel) (Nat.le_of_ble_eq_true rfl) ?_
  intro p e s m args below meth c X hr hlk hnm
  have j42 : ∀ (bk5 : hp → Nat → Nat → Int32 → Int32 → Prop) (hbk5 : ∀ (S : hp) (l1 : Nat) (l2 : Nat) (l3 : Int32) (l4 : Int32), bk5 S l1 l2 l3 l4 → VM l b D cy 5 0 0 0 0 (pI Q) p e s m args below meth c S 0 0 5 [(1, .ref l1), (2, .ref l2), (3, .int l3), (4, .int l4)] []) (S : hp) (l1 : Nat) (l2 : Nat) (l4 : Int32) (k0 : Int32) (k1 : Int32), wB_X2_otherPlaces_42 bk5 Q S l1 l2 l4 k0 k1 → VM l b D cy 5 0 0 0 0 (pI Q) p e s m args below meth c S 0 0 42 [(1, .ref l1), (2, .ref l2), (4, .int l4)] [.int k0, .int k1] := by
    intro bk5 hbk5 S l1 l2 l4 k0 k1 h
    unfold wB_X2_otherPlaces_42 at h
    refine v_ior X dX2_otherPlaces_42 ?_
    refine v_nm (fun v11 hv11 => ?_)
    replace h := h v11 hv11
    refine v_istore_n X (lv' := [(3, .int v11), (1, .ref l1), (2, .ref l2), (4, .int l4)]) dX2_otherPlaces_43 rfl (by decide) rfl ?_
    obtain ⟨v12, hv12⟩ : ∃ y : Int32, y = l4 + (1 : Int32) := ⟨_, rfl⟩
    replace h := h v12 hv12
    refine v_iinc X (j := 3) (v := v12) (lv' := [(4, .int v12), (3, .int v11), (1, .ref l1), (2, .ref l2)]) dX2_otherPlaces_44 rfl (by rw [hv12] <;> rfl) (by decide) rfl ?_
    refine v_goto X (tgt := 5) dX2_otherPlaces_47 (by decide) ?_
    refine v_lv (lv' := [(1, .ref l1), (2, .ref l2), (3, .int v11), (4, .int v12)]) [2, 3, 1, 0] rfl ?_
    exact hbk5 _ _ _ _ _ h
  have j5 : ∀ (bk5 : hp → Nat → Nat → Int32 → Int32 → Prop) (hbk5 : ∀ (S : hp) (l1 : Nat) (l2 : Nat) (l3 : Int32) (l4 : Int32), bk5 S l1 l2 l3 l4 → VM l b D cy 5 0 0 0 0 (pI Q) p e s m args below meth c S 0 0 5 [(1, .ref l1), (2, .ref l2), (3, .int l3), (4, .int l4)] []) (S : hp) (l1 : Nat) (l2 : Nat) (l3 : Int32) (l4 : Int32), wB_X2_otherPlaces_5 bk5 Q S l1 l2 l3 l4 → VM l b D cy 5 0 0 0 0 (pI Q) p e s m args below meth c S 0 0 5 [(1, .ref l1), (2, .ref l2), (3, .int l3), (4, .int l4)] [] := by
    intro bk5 hbk5 S l1 l2 l3 l4 h
    unfold wB_X2_otherPlaces_5 at h
    refine v_iload X 3 dX2_otherPlaces_5 rfl ?_
    refine v_iconst X (v := 3) dX2_otherPlaces_7 (by decide) ?_
    refine v_aload_n X 0 dX2_otherPlaces_8 rfl rfl ?_
    obtain ⟨hk1, h⟩ := h
    refine v_getI X (T := TX8) (N := 10) (k := 7) hk1 (by decide) rfl (by decide) inX8 wd156 rfl dX2_otherPlaces_9 ?_
    refine v_imul X dX2_otherPlaces_12 ?_
    refine v_icmp_ge X (tgt := 50) dX2_otherPlaces_13 (by decide) (fun c2 => ?_) (fun c2 => ?_)
    · replace h := h.1 c2
      refine v_iload_n X 2 dX2_otherPlaces_50 rfl rfl ?_
      exact v_iret X hr hlk ⟨_, rfl, h⟩ dX2_otherPlaces_51
    · replace h := h.2 c2
      refine v_iload_n X 2 dX2_otherPlaces_16 rfl rfl ?_
      refine v_aload_n X 0 dX2_otherPlaces_17 rfl rfl ?_
      obtain ⟨r3, hr3, h⟩ := h
      refine v_getR X (T := TX8) (N := 10) (k := 0) hk1 (by decide) rfl (by decide) inX8 wd142 rfl dX2_otherPlaces_18 hr3 ?_
      refine v_iload X 3 dX2_otherPlaces_21 rfl ?_
      obtain ⟨hk4, h⟩ := h
      obtain ⟨hi5, h⟩ := h
      refine v_iald X hk4 hi5 dX2_otherPlaces_23 ?_
      refine v_aload_n X 1 dX2_otherPlaces_24 rfl rfl ?_
      obtain ⟨hk6, h⟩ := h
      obtain ⟨r7, hr7, h⟩ := h
      refine v_getR X (T := TX8) (N := 10) (k := 0) hk6 (by decide) rfl (by decide) inX8 wd142 rfl dX2_otherPlaces_25 hr7 ?_
      refine v_iload X 3 dX2_otherPlaces_28 rfl ?_
      obtain ⟨hk8, h⟩ := h
      obtain ⟨hi9, h⟩ := h
      refine v_iald X hk8 hi9 dX2_otherPlaces_30 ?_
      refine v_icmp_ne X (tgt := 38) dX2_otherPlaces_31 (by decide) (fun c10 => ?_) (fun c10 => ?_)
      · replace h := h.1 c10
        refine v_iconst X (v := 1) dX2_otherPlaces_38 (by decide) ?_
        refine v_iload X 3 dX2_otherPlaces_39 rfl ?_
        refine v_ishl X dX2_otherPlaces_41 ?_
        refine v_lv (lv' := [(1, .ref l1), (2, .ref l2), (4, .int l4)]) [0, 1, 3] rfl ?_
        exact j42 bk5 hbk5 _ _ _ _ _ _ h
      · replace h := h.2 c10
        refine v_iconst X (v := 0) dX2_otherPlaces_34 (by decide) ?_
        refine v_goto X (tgt := 42) dX2_otherPlaces_35 (by decide) ?_
        refine v_lv (lv' := [(1, .ref l1), (2, .ref l2), (4, .int l4)]) [0, 1, 3] rfl ?_
        exact j42 bk5 hbk5 _ _ _ _ _ _ h
  have l5 : ∀  (n : Nat) (S : hp) (l1 : Nat) (l2 : Nat) (l3 : Int32) (l4 : Int32), wl_X2_otherPlaces_5 Q n S l1 l2 l3 l4 → VM l b D cy 5 0 0 0 0 (pI Q) p e s m args below meth c S 0 0 5 [(1, .ref l1), (2, .ref l2), (3, .int l3), (4, .int l4)] [] := by
    intro  n
    induction n with
    | zero => intro S l1 l2 l3 l4 h; exact h.elim
    | succ n ih => intro S l1 l2 l3 l4 h; exact j5 (wl_X2_otherPlaces_5 Q n) ih S l1 l2 l3 l4 h
  unfold wp_X2_otherPlaces at h
  show VM l b D cy 5 0 0 0 0 (pI Q) p e s m args below meth c S 0 0 0 [(0, .ref a0), (1, .ref a1), (2, .ref a2)] []
  refine v_iconst X (v := 0) dX2_otherPlaces_0 (by decide) ?_
  refine v_istore_n X (lv' := [(3, .int (0 : Int32)), (0, .ref a0), (1, .ref a1), (2, .ref a2)]) dX2_otherPlaces_1 rfl (by decide) rfl ?_
  refine v_iconst X (v := 0) dX2_otherPlaces_2 (by decide) ?_
  refine v_istore X (lv' := [(4, .int (0 : Int32)), (3, .int (0 : Int32)), (0, .ref a0), (1, .ref a1), (2, .ref a2)]) dX2_otherPlaces_3 (by decide) rfl ?_
  refine v_lv (lv' := [(1, .ref a1), (2, .ref a2), (3, .int (0 : Int32)), (4, .int (0 : Int32))]) [3, 4, 1, 0] rfl ?_
  obtain ⟨n, h⟩ := h
  exact l5 n _ _ _ _ _ h
def wB_X2_unlikeness_5 (bk5 : hp → Nat → Nat → Int32 → Int32 → Prop) (Q : Int32 → hp → Prop) (S : hp) (l1 : Nat) (l2 : Nat) (l3 : Int32) (l4 : Int32) : Prop :=
  hK S l1 = 7 ∧ ((((3 : Int32) * (hI S l1 7)) ≤ l4 → Q l3 S) ∧ (¬ ((3 : Int32) * (hI S l1 7)) ≤ l4 → ∃ r3 : Nat, hR S l1 0 = some r3 ∧ hK S r3 = 12 ∧ vp_in l4 (hN S r3) ∧ hK S l2 = 7 ∧ ∃ r7 : Nat, hR S l2 0 = some r7 ∧ hK S r7 = 12 ∧ vp_in l4 (hN S r7) ∧ ∀ v10 : Int32, v10 = (l3 + (if 0 ≤ ((hI S r3 (l4).toNatClampNeg) - (hI S r7 (l4).toNatClampNeg)) then ((hI S r3 (l4).toNatClampNeg) - (hI S r7 (l4).toNatClampNeg)) else 0 - ((hI S r3 (l4).toNatClampNeg) - (hI S r7 (l4).toNatClampNeg)))) → ∀ v11 : Int32, v11 = l4 + (1 : Int32) → bk5 S l1 l2 v10 v11))
def wl_X2_unlikeness_5 (Q : Int32 → hp → Prop) : Nat → hp → Nat → Nat → Int32 → Int32 → Prop
  | 0 => fun _ _ _ _ _ => False
  | n + 1 => wB_X2_unlikeness_5 (wl_X2_unlikeness_5 Q n) Q
def wp_X2_unlikeness (Q : Int32 → hp → Prop) (S : hp) (a0 : Nat) (a1 : Nat) (a2 : Nat) : Prop :=
  ∃ n : Nat, wl_X2_unlikeness_5 Q n S a1 a2 (0 : Int32) (0 : Int32)
theorem k_X2_unlikeness : Cond.code yX2_unlikeness cX2_unlikeness 5 (some .int) ∈ gtb := mg 739 (by decide +kernel) (by decide +kernel)
theorem dn_X2_unlikeness : yX2_unlikeness.cls ≠ "java/lang/invoke/MethodHandle" ∧ yX2_unlikeness.cls ≠ "java/lang/invoke/VarHandle" ∧ (parseMethodDescriptor yX2_unlikeness.desc).map (fun d => d.parameters.length) = some 2 := by decide +kernel
set_option maxRecDepth 100000 in
set_option maxHeartbeats 4000000 in
theorem s_X2_unlikeness (l : Launch) (b : Nat) (D : va_G) (cy : Nat → ClassId) {Q : Int32 → hp → Prop} {S : hp} {a0 : Nat} {a1 : Nat} {a2 : Nat} (h : wp_X2_unlikeness Q S a0 a1 a2) : MT l yX2_unlikeness cX2_unlikeness 5 (some .int) 1 21 0 0 b D cy S [.ref a0, .ref a1, .ref a2] (pI Q) := by
  refine MT.of (by decide +kernel) (Nat.le_of_ble_eq_true rfl) ?_
  intro p e s m args below meth c X hr hlk hnm
  have j5 : ∀ (bk5 : hp → Nat → Nat → Int32 → Int32 → Prop) (hbk5 : ∀ (S : hp) (l1 : Nat) (l2 : Nat) (l3 : Int32) (l4 : Int32), bk5 S l1 l2 l3 l4 → VM l b D cy 5 1 21 0 0 (pI Q) p e s m args below meth c S 0 0 5 [(1, .ref l1), (2, .ref l2), (3, .int l3), (4, .int l4)] []) (S : hp) (l1 : Nat) (l2 : Nat) (l3 : Int32) (l4 : Int32), wB_X2_unlikeness_5 bk5 Q S l1 l2 l3 l4 → VM l b D cy 5 1 21 0 0 (pI Q) p e s m args below meth c S 0 0 5 [(1, .ref l1), (2, .ref l2), (3, .int l3), (4, .int l4)] [] := by
    intro bk5 hbk5 S l1 l2 l3 l4 h
    unfold wB_X2_unlikeness_5 at h
    refine v_iload X 3 dX2_unlikeness_5 rfl ?_
    refine v_iconst X (v := 3) dX2_unlikeness_7 (by decide) ?_
    refine v_aload_n X 0 dX2_unlikeness_8 rfl rfl ?_
    obtain ⟨hk1, h⟩ := h
    refine v_getI X (T := TX8) (N := 10) (k := 7) hk1 (by decide) rfl (by decide) inX8 wd156 rfl dX2_unlikeness_9 ?_
    refine v_imul X dX2_unlikeness_12 ?_
    refine v_icmp_ge X (tgt := 43) dX2_unlikeness_13 (by decide) (fun c2 => ?_) (fun c2 => ?_)
    · replace h := h.1 c2
      refine v_iload_n X 2 dX2_unlikeness_43 rfl rfl ?_
      exact v_iret X hr hlk ⟨_, rfl, h⟩ dX2_unlikeness_44
    · replace h := h.2 c2
      refine v_iload_n X 2 dX2_unlikeness_16 rfl rfl ?_
      refine v_aload_n X 0 dX2_unlikeness_17 rfl rfl ?_
      obtain ⟨r3, hr3, h⟩ := h
      refine v_getR X (T := TX8) (N := 10) (k := 0) hk1 (by decide) rfl (by decide) inX8 wd142 rfl dX2_unlikeness_18 hr3 ?_
      refine v_iload X 3 dX2_unlikeness_21 rfl ?_
      obtain ⟨hk4, h⟩ := h
      obtain ⟨hi5, h⟩ := h
      refine v_iald X hk4 hi5 dX2_unlikeness_23 ?_
      refine v_aload_n X 1 dX2_unlikeness_24 rfl rfl ?_
      obtain ⟨hk6, h⟩ := h
      obtain ⟨r7, hr7, h⟩ := h
      refine v_getR X (T := TX8) (N := 10) (k := 0) hk6 (by decide) rfl (by decide) inX8 wd142 rfl dX2_unlikeness_25 hr7 ?_
      refine v_iload X 3 dX2_unlikeness_28 rfl ?_
      obtain ⟨hk8, h⟩ := h
      obtain ⟨hi9, h⟩ := h
      refine v_iald X hk8 hi9 dX2_unlikeness_30 ?_
      refine v_isub X dX2_unlikeness_31 ?_
      refine v_mabs X wd713 wd522 wd71 wd523 (Nat.le_of_ble_eq_true rfl) (Nat.le_of_ble_eq_true rfl) (Nat.le_of_ble_eq_true rfl) (Nat.le_of_ble_eq_true rfl) dX2_unlikeness_32 ?_
      refine v_iadd X dX2_unlikeness_35 ?_
      refine v_nm (fun v10 hv10 => ?_)
      replace h := h v10 hv10
      refine v_istore_n X (lv' := [(3, .int v10), (1, .ref l1), (2, .ref l2), (4, .int l4)]) dX2_unlikeness_36 rfl (by decide) rfl ?_
      obtain ⟨v11, hv11⟩ : ∃ y : Int32, y = l4 + (1 : Int32) := ⟨_, rfl⟩
      replace h := h v11 hv11
      refine v_iinc X (j := 3) (v := v11) (lv' := [(4, .int v11), (3, .int v10), (1, .ref l1), (2, .ref l2)]) dX2_unlikeness_37 rfl (by rw [hv11] <;> rfl) (by decide) rfl ?_
      refine v_goto X (tgt := 5) dX2_unlikeness_40 (by decide) ?_
      refine v_lv (lv' := [(1, .ref l1), (2, .ref l2), (3, .int v10), (4, .int v11)]) [2, 3, 1, 0] rfl ?_
      exact hbk5 _ _ _ _ _ h
  have l5 : ∀  (n : Nat) (S : hp) (l1 : Nat) (l2 : Nat) (l3 : Int32) (l4 : Int32), wl_X2_unlikeness_5 Q n S l1 l2 l3 l4 → VM l b D cy 5 1 21 0 0 (pI Q) p e s m args below meth c S 0 0 5 [(1, .ref l1), (2, .ref l2), (3, .int l3), (4, .int l4)] [] := by
    intro  n
    induction n with
    | zero => intro S l1 l2 l3 l4 h; exact h.elim
    | succ n ih => intro S l1 l2 l3 l4 h; exact j5 (wl_X2_unlikeness_5 Q n) ih S l1 l2 l3 l4 h
  unfold wp_X2_unlikeness at h
  show VM l b D cy 5 1 21 0 0 (pI Q) p e s m args below meth c S 0 0 0 [(0, .ref a0), (1, .ref a1), (2, .ref a2)] []
  refine v_iconst X (v := 0) dX2_unlikeness_0 (by decide) ?_
  refine v_istore_n X (lv' := [(3, .int (0 : Int32)), (0, .ref a0), (1, .ref a1), (2, .ref a2)]) dX2_unlikeness_1 rfl (by decide) rfl ?_
  refine v_iconst X (v := 0) dX2_unlikeness_2 (by decide) ?_
  refine v_istore X (lv' := [(4, .int (0 : Int32)), (3, .int (0 : Int32)), (0, .ref a0), (1, .ref a1), (2, .ref a2)]) dX2_unlikeness_3 (by decide) rfl ?_
  refine v_lv (lv' := [(1, .ref a1), (2, .ref a2), (3, .int (0 : Int32)), (4, .int (0 : Int32))]) [3, 4, 1, 0] rfl ?_
  obtain ⟨n, h⟩ := h
  exact l5 n _ _ _ _ _ h
def wp_X11_lent (Q : Int32 → hp → Prop) (S : hp) (a0 : Nat) (x1 : Int32) (x2 : Int32) : Prop :=
  hK S a0 = 10 ∧ ∃ r2 : Nat, hR S a0 2 = some r2 ∧ hK S r2 = 7 ∧ ((¬ (hI S r2 5) = 0 → wp_X11_isImage (fun r6 S5 => ((r6 = 0 → Q (-1000001 : Int32) S5) ∧ (¬ r6 = 0 → wp_X11_isFirstOrSecond (fun r9 S8 => ((¬ r9 = 0 → hK S8 a0 = 10 ∧ ∃ r12 : Nat, hR S8 a0 6 = some r12 ∧ hK S8 r12 = 15 ∧ vp_in x1 (hN S8 r12) ∧ ((hR S8 r12 (x1).toNatClampNeg = none → Q (-1000002 : Int32) S8) ∧ (∀ r15 : Nat, hR S8 r12 (x1).toNatClampNeg = some r15 → hK S8 r15 = 7 ∧ ∃ r17 : Nat, hR S8 a0 2 = some r17 ∧ hK S8 r17 = 7 ∧ (((hI S8 r15 7) = (hI S8 r17 7) → ((¬ x2 = 0 → ∃ r21 : Nat, hR S8 a0 4 = some r21 ∧ hK S8 r21 = 2 ∧ wp_X2_unlikeness (fun r24 S22 => Q r24 S22) S8 r21 r17 r15) ∧ (x2 = 0 → ∃ r25 : Nat, hR S8 a0 4 = some r25 ∧ hK S8 r25 = 2 ∧ wp_X2_otherPlaces (fun r28 S26 => Q r28 S26) S8 r25 r17 r15))) ∧ (¬ (hI S8 r15 7) = (hI S8 r17 7) → Q (-1000002 : Int32) S8))))) ∧ (r9 = 0 → Q (-1000001 : Int32) S8))) S5 x2))) S x1) ∧ ((hI S r2 5) = 0 → Q (-1000002 : Int32) S))
theorem k_X11_lent : Cond.code yX11_lent cX11_lent 4 (some .int) ∈ gtb := mg 728 (by decide +kernel) (by decide +kernel)
theorem dn_X11_lent : yX11_lent.cls ≠ "java/lang/invoke/MethodHandle" ∧ yX11_lent.cls ≠ "java/lang/invoke/VarHandle" ∧ (parseMethodDescriptor yX11_lent.desc).map (fun d => d.parameters.length) = some 2 := by decide +kernel
set_option maxRecDepth 100000 in
set_option maxHeartbeats 4000000 in
theorem s_X11_lent (l : Launch) (b : Nat) (D : va_G) (cy : Nat → ClassId) {Q : Int32 → hp → Prop} {S : hp} {a0 : Nat} {x1 : Int32} {x2 : Int32} (h : wp_X11_lent Q S a0 x1 x2) : MT l yX11_lent cX11_lent 4 (some .int) 2 45 0 0 b D cy S [.ref a0, .int x1, .int x2] (pI Q) := by
  refine MT.of (by decide +kernel) (Nat.le_of_ble_eq_true rfl) ?_
  intro p e s m args below meth c X hr hlk hnm
  unfold wp_X11_lent at h
  show VM l b D cy 4 2 45 0 0 (pI Q) p e s m args below meth c S 0 0 0 [(0, .ref a0), (1, .int x1), (2, .int x2)] []
  refine v_aload_n X 0 dX11_lent_0 rfl rfl ?_
  obtain ⟨hk1, h⟩ := h
  obtain ⟨r2, hr2, h⟩ := h
  refine v_getR X (T := TX11) (N := 12) (k := 2) hk1 (by decide) rfl (by decide) inX11 wd217 rfl dX11_lent_1 hr2 ?_
  obtain ⟨hk3, h⟩ := h
  refine v_getI X (T := TX8) (N := 10) (k := 5) hk3 (by decide) rfl (by decide) inX8 wd150 rfl dX11_lent_4 ?_
  refine v_if_ne X (tgt := 13) dX11_lent_7 (by decide) (fun c4 => ?_) (fun c4 => ?_)
  · replace h := h.1 c4
    refine v_iload_n X 1 dX11_lent_13 rfl rfl ?_
    refine v_callS X (av := [.int x1]) (s_X11_isImage l b D cy h) wd729 wd730 wd56 k_X11_isImage dn_X11_isImage rfl ⟨Nat.le_of_ble_eq_true rfl, Nat.le_of_ble_eq_true rfl⟩ (Nat.le_of_ble_eq_true rfl) ⟨Nat.le_of_ble_eq_true rfl, Nat.le_of_ble_eq_true rfl⟩ dX11_lent_14 rfl (kI (fun r6 S5 h => ?_))
    refine v_if_eq X (tgt := 27) dX11_lent_17 (by decide) (fun c7 => ?_) (fun c7 => ?_)
    · replace h := h.1 c7
      refine v_ldc X wd262 dX11_lent_27 ?_
      exact v_iret X hr hlk ⟨_, rfl, h⟩ dX11_lent_29
    · replace h := h.2 c7
      refine v_iload_n X 2 dX11_lent_20 rfl rfl ?_
      refine v_callS X (av := [.int x2]) (s_X11_isFirstOrSecond l b D cy h) wd619 wd620 wd56 k_X11_isFirstOrSecond dn_X11_isFirstOrSecond rfl ⟨Nat.le_of_ble_eq_true rfl, Nat.le_of_ble_eq_true rfl⟩ (Nat.le_of_ble_eq_true rfl) ⟨Nat.le_of_ble_eq_true rfl, Nat.le_of_ble_eq_true rfl⟩ dX11_lent_21 rfl (kI (fun r9 S8 h => ?_))
      refine v_if_ne X (tgt := 30) dX11_lent_24 (by decide) (fun c10 => ?_) (fun c10 => ?_)
      · replace h := h.1 c10
        refine v_aload_n X 0 dX11_lent_30 rfl rfl ?_
        obtain ⟨hk11, h⟩ := h
        obtain ⟨r12, hr12, h⟩ := h
        refine v_getR X (T := TX11) (N := 12) (k := 6) hk11 (by decide) rfl (by decide) inX11 wd221 rfl dX11_lent_31 hr12 ?_
        refine v_iload_n X 1 dX11_lent_34 rfl rfl ?_
        obtain ⟨hk13, h⟩ := h
        obtain ⟨hi14, h⟩ := h
        rcases hr15 : hR S8 r12 (x1).toNatClampNeg with _ | r15
        · replace h := h.1 hr15
          refine v_aald15 X hk13 hi14 dX11_lent_35 (v := .null) (by rw [hr15] <;> rfl) ?_
          refine v_astore_nN X (lv' := [(3, .null), (0, .ref a0), (1, .int x1), (2, .int x2)]) dX11_lent_36 rfl (by decide) rfl ?_
          refine v_aload_nN X 0 dX11_lent_37 rfl rfl ?_
          refine v_ifnullN X (tgt := 55) dX11_lent_38 (by decide) ?_
          refine v_ldc X wd474 dX11_lent_55 ?_
          exact v_iret X hr hlk ⟨_, rfl, h⟩ dX11_lent_57
        · replace h := h.2 r15 hr15
          refine v_aald15 X hk13 hi14 dX11_lent_35 (v := .ref r15) (by rw [hr15] <;> rfl) ?_
          refine v_astore_n X (lv' := [(3, .ref r15), (0, .ref a0), (1, .int x1), (2, .int x2)]) dX11_lent_36 rfl (by decide) rfl ?_
          refine v_aload_n X 0 dX11_lent_37 rfl rfl ?_
          refine v_ifnull X dX11_lent_38 ?_
          refine v_aload_n X 0 dX11_lent_41 rfl rfl ?_
          obtain ⟨hk16, h⟩ := h
          refine v_getI X (T := TX8) (N := 10) (k := 7) hk16 (by decide) rfl (by decide) inX8 wd155 rfl dX11_lent_42 ?_
          refine v_aload_n X 1 dX11_lent_45 rfl rfl ?_
          obtain ⟨r17, hr17, h⟩ := h
          refine v_getR X (T := TX11) (N := 12) (k := 2) hk11 (by decide) rfl (by decide) inX11 wd217 rfl dX11_lent_46 hr17 ?_
          obtain ⟨hk18, h⟩ := h
          refine v_getI X (T := TX8) (N := 10) (k := 7) hk18 (by decide) rfl (by decide) inX8 wd155 rfl dX11_lent_49 ?_
          refine v_icmp_eq X (tgt := 58) dX11_lent_52 (by decide) (fun c19 => ?_) (fun c19 => ?_)
          · replace h := h.1 c19
            refine v_iload_n X 3 dX11_lent_58 rfl rfl ?_
            refine v_if_ne X (tgt := 77) dX11_lent_59 (by decide) (fun c20 => ?_) (fun c20 => ?_)
            · replace h := h.1 c20
              refine v_aload_n X 1 dX11_lent_77 rfl rfl ?_
              obtain ⟨r21, hr21, h⟩ := h
              refine v_getR X (T := TX11) (N := 12) (k := 4) hk11 (by decide) rfl (by decide) inX11 wd219 rfl dX11_lent_78 hr21 ?_
              refine v_aload_n X 1 dX11_lent_81 rfl rfl ?_
              refine v_getR X (T := TX11) (N := 12) (k := 2) hk11 (by decide) rfl (by decide) inX11 wd217 rfl dX11_lent_82 hr17 ?_
              refine v_aload_n X 0 dX11_lent_85 rfl rfl ?_
              obtain ⟨hk23, h⟩ := h
              refine v_callV X (av := [.ref r17, .ref r15]) (T := TX2) (N := 2) (s_X2_unlikeness l b D cy h) hk23 (by decide) rfl wd736 wd737 wd738 wd60 k_X2_unlikeness dn_X2_unlikeness rfl ⟨Nat.le_of_ble_eq_true rfl, Nat.le_of_ble_eq_true rfl⟩ (Nat.le_of_ble_eq_true rfl) ⟨Nat.le_of_ble_eq_true rfl, Nat.le_of_ble_eq_true rfl⟩ dX11_lent_86 rfl (kI (fun r24 S22 h => ?_))
              exact v_iret X hr hlk ⟨_, rfl, h⟩ dX11_lent_89
            · replace h := h.2 c20
              refine v_aload_n X 1 dX11_lent_62 rfl rfl ?_
              obtain ⟨r25, hr25, h⟩ := h
              refine v_getR X (T := TX11) (N := 12) (k := 4) hk11 (by decide) rfl (by decide) inX11 wd219 rfl dX11_lent_63 hr25 ?_
              refine v_aload_n X 1 dX11_lent_66 rfl rfl ?_
              refine v_getR X (T := TX11) (N := 12) (k := 2) hk11 (by decide) rfl (by decide) inX11 wd217 rfl dX11_lent_67 hr17 ?_
              refine v_aload_n X 0 dX11_lent_70 rfl rfl ?_
              obtain ⟨hk27, h⟩ := h
              refine v_callV X (av := [.ref r17, .ref r15]) (T := TX2) (N := 2) (s_X2_otherPlaces l b D cy h) hk27 (by decide) rfl wd732 wd733 wd734 wd60 k_X2_otherPlaces dn_X2_otherPlaces rfl ⟨Nat.le_of_ble_eq_true rfl, Nat.le_of_ble_eq_true rfl⟩ (Nat.le_of_ble_eq_true rfl) ⟨Nat.le_of_ble_eq_true rfl, Nat.le_of_ble_eq_true rfl⟩ dX11_lent_71 rfl (kI (fun r28 S26 h => ?_))
              refine v_goto X (tgt := 89) dX11_lent_74 (by decide) ?_
              exact v_iret X hr hlk ⟨_, rfl, h⟩ dX11_lent_89
          · replace h := h.2 c19
            refine v_ldc X wd474 dX11_lent_55 ?_
            exact v_iret X hr hlk ⟨_, rfl, h⟩ dX11_lent_57
      · replace h := h.2 c10
        refine v_ldc X wd262 dX11_lent_27 ?_
        exact v_iret X hr hlk ⟨_, rfl, h⟩ dX11_lent_29
  · replace h := h.2 c4
    refine v_ldc X wd474 dX11_lent_10 ?_
    exact v_iret X hr hlk ⟨_, rfl, h⟩ dX11_lent_12
def wB_X2_waysToPart_91 (bk11 : hp → Nat → Nat → Int32 → Int32 → Int32 → Int32 → Int32 → Prop) (Q : Int32 → hp → Prop) (S : hp) (l1 : Nat) (l2 : Nat) (l3 : Int32) (l4 : Int32) (l5 : Int32) (l7 : Int32) (k0 : Int32) : Prop :=
  ∀ v8 : Int32, v8 = l7 + (1 : Int32) → bk11 S l1 l2 l3 l4 l5 k0 v8
def wB_X2_waysToPart_89 (bk11 : hp → Nat → Nat → Int32 → Int32 → Int32 → Int32 → Int32 → Prop) (Q : Int32 → hp → Prop) (S : hp) (l1 : Nat) (l2 : Nat) (l3 : Int32) (l4 : Int32) (l5 : Int32) (l6 : Int32) (l7 : Int32) : Prop :=
  wB_X2_waysToPart_91 bk11 Q S l1 l2 l3 l4 l5 l7 l6
def wB_X2_waysToPart_61 (bk11 : hp → Nat → Nat → Int32 → Int32 → Int32 → Int32 → Int32 → Prop) (bk36 : hp → Nat → Nat → Int32 → Int32 → Int32 → Int32 → Int32 → Int32 → Int32 → Int32 → Prop) (Q : Int32 → hp → Prop) (S : hp) (l1 : Nat) (l2 : Nat) (l3 : Int32) (l4 : Int32) (l6 : Int32) (l7 : Int32) (l8 : Int32) (l9 : Int32) (l10 : Int32) (k0 : Int32) (k1 : Int32) : Prop :=
  ∀ v13 : Int32, v13 = (k1 + k0) → ∀ v14 : Int32, v14 = l10 + (1 : Int32) → bk36 S l1 l2 l3 l4 v13 l6 l7 l8 l9 v14
def wB_X2_waysToPart_36 (bk11 : hp → Nat → Nat → Int32 → Int32 → Int32 → Int32 → Int32 → Prop) (bk36 : hp → Nat → Nat → Int32 → Int32 → Int32 → Int32 → Int32 → Int32 → Int32 → Int32 → Prop) (Q : Int32 → hp → Prop) (S : hp) (l1 : Nat) (l2 : Nat) (l3 : Int32) (l4 : Int32) (l5 : Int32) (l6 : Int32) (l7 : Int32) (l8 : Int32) (l9 : Int32) (l10 : Int32) : Prop :=
  (((20 : Int32) < l10 → ((¬ l6 = (-1000000 : Int32) → wB_X2_waysToPart_89 bk11 Q S l1 l2 l3 l4 l5 l6 l7) ∧ (l6 = (-1000000 : Int32) → ((l5 ≤ l8 → wB_X2_waysToPart_89 bk11 Q S l1 l2 l3 l4 l5 l6 l7) ∧ (¬ l5 ≤ l8 → wB_X2_waysToPart_91 bk11 Q S l1 l2 l3 l4 l5 l7 l7))))) ∧ (¬ (20 : Int32) < l10 → wd_Mouth_padding (fun r11 S10 => ((¬ r11 = l9 → wB_X2_waysToPart_61 bk11 bk36 Q S10 l1 l2 l3 l4 l6 l7 l8 l9 l10 (0 : Int32) l5) ∧ (r11 = l9 → wB_X2_waysToPart_61 bk11 bk36 Q S10 l1 l2 l3 l4 l6 l7 l8 l9 l10 (1 : Int32) l5))) S l2 l10))
def wl_X2_waysToPart_36 (bk11 : hp → Nat → Nat → Int32 → Int32 → Int32 → Int32 → Int32 → Prop) (Q : Int32 → hp → Prop) : Nat → hp → Nat → Nat → Int32 → Int32 → Int32 → Int32 → Int32 → Int32 → Int32 → Int32 → Prop
  | 0 => fun _ _ _ _ _ _ _ _ _ _ _ => False
  | n + 1 => wB_X2_waysToPart_36 bk11 (wl_X2_waysToPart_36 bk11 Q n) Q
def wB_X2_waysToPart_11 (bk11 : hp → Nat → Nat → Int32 → Int32 → Int32 → Int32 → Int32 → Prop) (Q : Int32 → hp → Prop) (S : hp) (l1 : Nat) (l2 : Nat) (l3 : Int32) (l4 : Int32) (l5 : Int32) (l6 : Int32) (l7 : Int32) : Prop :=
  (((20 : Int32) < l7 → ((¬ l4 = 0 → Q l6 S) ∧ (l4 = 0 → Q l5 S))) ∧ (¬ (20 : Int32) < l7 → wd_Mouth_padding (fun r4 S3 => ∀ v5 : Int32, v5 = (l3 - r4) → ∃ n : Nat, wl_X2_waysToPart_36 bk11 Q n S3 l1 l2 l3 l4 l5 l6 l7 l5 v5 (-20 : Int32)) S l1 l7))
def wl_X2_waysToPart_11 (Q : Int32 → hp → Prop) : Nat → hp → Nat → Nat → Int32 → Int32 → Int32 → Int32 → Int32 → Prop
  | 0 => fun _ _ _ _ _ _ _ _ => False
  | n + 1 => wB_X2_waysToPart_11 (wl_X2_waysToPart_11 Q n) Q
def wp_X2_waysToPart (Q : Int32 → hp → Prop) (S : hp) (a0 : Nat) (a1 : Nat) (a2 : Nat) (x3 : Int32) (x4 : Int32) : Prop :=
  ∃ n : Nat, wl_X2_waysToPart_11 Q n S a1 a2 x3 x4 (0 : Int32) (-1000000 : Int32) (-20 : Int32)
theorem k_X2_waysToPart : Cond.code yX2_waysToPart cX2_waysToPart 11 (some .int) ∈ gtb := mg 747 (by decide +kernel) (by decide +kernel)
theorem dn_X2_waysToPart : yX2_waysToPart.cls ≠ "java/lang/invoke/MethodHandle" ∧ yX2_waysToPart.cls ≠ "java/lang/invoke/VarHandle" ∧ (parseMethodDescriptor yX2_waysToPart.desc).map (fun d => d.parameters.length) = some 4 := by decide +kernel
set_option maxRecDepth 100000 in
set_option maxHeartbeats 4000000 in
theorem s_X2_waysToPart (l : Launch) (b : Nat) (D : va_G) (cy : Nat → ClassId) {Q : Int32 → hp → Prop} {S : hp} {a0 : Nat} {a1 : Nat} {a2 : Nat} {x3 : Int32} {x4 : Int32} (h : wp_X2_waysToPart Q S a0 a1 a2 x3 x4) : MT l yX2_waysToPart cX2_waysToPart 11 (some .int) 1 21 0 0 b D cy S [.ref a0, .ref a1, .ref a2, .int x3, .int x4] (pI Q) := by
  refine MT.of (by decide +kernel) (Nat.le_of_ble_eq_true rfl) ?_
  intro p e s m args below meth c X hr hlk hnm
  have j91 : ∀ (bk11 : hp → Nat → Nat → Int32 → Int32 → Int32 → Int32 → Int32 → Prop) (hbk11 : ∀ (S : hp) (l1 : Nat) (l2 : Nat) (l3 : Int32) (l4 : Int32) (l5 : Int32) (l6 : Int32) (l7 : Int32), bk11 S l1 l2 l3 l4 l5 l6 l7 → VM l b D cy 11 1 21 0 0 (pI Q) p e s m args below meth c S 0 0 11 [(1, .ref l1), (2, .ref l2), (3, .int l3), (4, .int l4), (5, .int l5), (6, .int l6), (7, .int l7)] []) (S : hp) (l1 : Nat) (l2 : Nat) (l3 : Int32) (l4 : Int32) (l5 : Int32) (l7 : Int32) (k0 : Int32), wB_X2_waysToPart_91 bk11 Q S l1 l2 l3 l4 l5 l7 k0 → VM l b D cy 11 1 21 0 0 (pI Q) p e s m args below meth c S 0 0 91 [(1, .ref l1), (2, .ref l2), (3, .int l3), (4, .int l4), (5, .int l5), (7, .int l7)] [.int k0] := by
    intro bk11 hbk11 S l1 l2 l3 l4 l5 l7 k0 h
    unfold wB_X2_waysToPart_91 at h
    refine v_istore X (lv' := [(6, .int k0), (1, .ref l1), (2, .ref l2), (3, .int l3), (4, .int l4), (5, .int l5), (7, .int l7)]) dX2_waysToPart_91 (by decide) rfl ?_
    obtain ⟨v8, hv8⟩ : ∃ y : Int32, y = l7 + (1 : Int32) := ⟨_, rfl⟩
    replace h := h v8 hv8
    refine v_iinc X (j := 6) (v := v8) (lv' := [(7, .int v8), (6, .int k0), (1, .ref l1), (2, .ref l2), (3, .int l3), (4, .int l4), (5, .int l5)]) dX2_waysToPart_93 rfl (by rw [hv8] <;> rfl) (by decide) rfl ?_
    refine v_goto X (tgt := 11) dX2_waysToPart_96 (by decide) ?_
    refine v_lv (lv' := [(1, .ref l1), (2, .ref l2), (3, .int l3), (4, .int l4), (5, .int l5), (6, .int k0), (7, .int v8)]) [2, 3, 4, 5, 6, 1, 0] rfl ?_
    exact hbk11 _ _ _ _ _ _ _ _ h
  have j89 : ∀ (bk11 : hp → Nat → Nat → Int32 → Int32 → Int32 → Int32 → Int32 → Prop) (hbk11 : ∀ (S : hp) (l1 : Nat) (l2 : Nat) (l3 : Int32) (l4 : Int32) (l5 : Int32) (l6 : Int32) (l7 : Int32), bk11 S l1 l2 l3 l4 l5 l6 l7 → VM l b D cy 11 1 21 0 0 (pI Q) p e s m args below meth c S 0 0 11 [(1, .ref l1), (2, .ref l2), (3, .int l3), (4, .int l4), (5, .int l5), (6, .int l6), (7, .int l7)] []) (S : hp) (l1 : Nat) (l2 : Nat) (l3 : Int32) (l4 : Int32) (l5 : Int32) (l6 : Int32) (l7 : Int32), wB_X2_waysToPart_89 bk11 Q S l1 l2 l3 l4 l5 l6 l7 → VM l b D cy 11 1 21 0 0 (pI Q) p e s m args below meth c S 0 0 89 [(1, .ref l1), (2, .ref l2), (3, .int l3), (4, .int l4), (5, .int l5), (6, .int l6), (7, .int l7)] [] := by
    intro bk11 hbk11 S l1 l2 l3 l4 l5 l6 l7 h
    unfold wB_X2_waysToPart_89 at h
    refine v_iload X 5 dX2_waysToPart_89 rfl ?_
    refine v_lv (lv' := [(1, .ref l1), (2, .ref l2), (3, .int l3), (4, .int l4), (5, .int l5), (7, .int l7)]) [0, 1, 2, 3, 4, 6] rfl ?_
    exact j91 bk11 hbk11 _ _ _ _ _ _ _ _ h
  have j61 : ∀ (bk11 : hp → Nat → Nat → Int32 → Int32 → Int32 → Int32 → Int32 → Prop) (hbk11 : ∀ (S : hp) (l1 : Nat) (l2 : Nat) (l3 : Int32) (l4 : Int32) (l5 : Int32) (l6 : Int32) (l7 : Int32), bk11 S l1 l2 l3 l4 l5 l6 l7 → VM l b D cy 11 1 21 0 0 (pI Q) p e s m args below meth c S 0 0 11 [(1, .ref l1), (2, .ref l2), (3, .int l3), (4, .int l4), (5, .int l5), (6, .int l6), (7, .int l7)] []) (bk36 : hp → Nat → Nat → Int32 → Int32 → Int32 → Int32 → Int32 → Int32 → Int32 → Int32 → Prop) (hbk36 : ∀ (S : hp) (l1 : Nat) (l2 : Nat) (l3 : Int32) (l4 : Int32) (l5 : Int32) (l6 : Int32) (l7 : Int32) (l8 : Int32) (l9 : Int32) (l10 : Int32), bk36 S l1 l2 l3 l4 l5 l6 l7 l8 l9 l10 → VM l b D cy 11 1 21 0 0 (pI Q) p e s m args below meth c S 0 0 36 [(1, .ref l1), (2, .ref l2), (3, .int l3), (4, .int l4), (5, .int l5), (6, .int l6), (7, .int l7), (8, .int l8), (9, .int l9), (10, .int l10)] []) (S : hp) (l1 : Nat) (l2 : Nat) (l3 : Int32) (l4 : Int32) (l6 : Int32) (l7 : Int32) (l8 : Int32) (l9 : Int32) (l10 : Int32) (k0 : Int32) (k1 : Int32), wB_X2_waysToPart_61 bk11 bk36 Q S l1 l2 l3 l4 l6 l7 l8 l9 l10 k0 k1 → VM l b D cy 11 1 21 0 0 (pI Q) p e s m args below meth c S 0 0 61 [(1, .ref l1), (2, .ref l2), (3, .int l3), (4, .int l4), (6, .int l6), (7, .int l7), (8, .int l8), (9, .int l9), (10, .int l10)] [.int k0, .int k1] := by
    intro bk11 hbk11 bk36 hbk36 S l1 l2 l3 l4 l6 l7 l8 l9 l10 k0 k1 h
    unfold wB_X2_waysToPart_61 at h
    refine v_iadd X dX2_waysToPart_61 ?_
    refine v_nm (fun v13 hv13 => ?_)
    replace h := h v13 hv13
    refine v_istore X (lv' := [(5, .int v13), (1, .ref l1), (2, .ref l2), (3, .int l3), (4, .int l4), (6, .int l6), (7, .int l7), (8, .int l8), (9, .int l9), (10, .int l10)]) dX2_waysToPart_62 (by decide) rfl ?_
    obtain ⟨v14, hv14⟩ : ∃ y : Int32, y = l10 + (1 : Int32) := ⟨_, rfl⟩
    replace h := h v14 hv14
    refine v_iinc X (j := 9) (v := v14) (lv' := [(10, .int v14), (5, .int v13), (1, .ref l1), (2, .ref l2), (3, .int l3), (4, .int l4), (6, .int l6), (7, .int l7), (8, .int l8), (9, .int l9)]) dX2_waysToPart_64 rfl (by rw [hv14] <;> rfl) (by decide) rfl ?_
    refine v_goto X (tgt := 36) dX2_waysToPart_67 (by decide) ?_
    refine v_lv (lv' := [(1, .ref l1), (2, .ref l2), (3, .int l3), (4, .int l4), (5, .int v13), (6, .int l6), (7, .int l7), (8, .int l8), (9, .int l9), (10, .int v14)]) [2, 3, 4, 5, 1, 6, 7, 8, 9, 0] rfl ?_
    exact hbk36 _ _ _ _ _ _ _ _ _ _ _ h
  have j36 : ∀ (bk11 : hp → Nat → Nat → Int32 → Int32 → Int32 → Int32 → Int32 → Prop) (hbk11 : ∀ (S : hp) (l1 : Nat) (l2 : Nat) (l3 : Int32) (l4 : Int32) (l5 : Int32) (l6 : Int32) (l7 : Int32), bk11 S l1 l2 l3 l4 l5 l6 l7 → VM l b D cy 11 1 21 0 0 (pI Q) p e s m args below meth c S 0 0 11 [(1, .ref l1), (2, .ref l2), (3, .int l3), (4, .int l4), (5, .int l5), (6, .int l6), (7, .int l7)] []) (bk36 : hp → Nat → Nat → Int32 → Int32 → Int32 → Int32 → Int32 → Int32 → Int32 → Int32 → Prop) (hbk36 : ∀ (S : hp) (l1 : Nat) (l2 : Nat) (l3 : Int32) (l4 : Int32) (l5 : Int32) (l6 : Int32) (l7 : Int32) (l8 : Int32) (l9 : Int32) (l10 : Int32), bk36 S l1 l2 l3 l4 l5 l6 l7 l8 l9 l10 → VM l b D cy 11 1 21 0 0 (pI Q) p e s m args below meth c S 0 0 36 [(1, .ref l1), (2, .ref l2), (3, .int l3), (4, .int l4), (5, .int l5), (6, .int l6), (7, .int l7), (8, .int l8), (9, .int l9), (10, .int l10)] []) (S : hp) (l1 : Nat) (l2 : Nat) (l3 : Int32) (l4 : Int32) (l5 : Int32) (l6 : Int32) (l7 : Int32) (l8 : Int32) (l9 : Int32) (l10 : Int32), wB_X2_waysToPart_36 bk11 bk36 Q S l1 l2 l3 l4 l5 l6 l7 l8 l9 l10 → VM l b D cy 11 1 21 0 0 (pI Q) p e s m args below meth c S 0 0 36 [(1, .ref l1), (2, .ref l2), (3, .int l3), (4, .int l4), (5, .int l5), (6, .int l6), (7, .int l7), (8, .int l8), (9, .int l9), (10, .int l10)] [] := by
    intro bk11 hbk11 bk36 hbk36 S l1 l2 l3 l4 l5 l6 l7 l8 l9 l10 h
    unfold wB_X2_waysToPart_36 at h
    refine v_iload X 9 dX2_waysToPart_36 rfl ?_
    refine v_bipush X (v := 20) dX2_waysToPart_38 (by decide) ?_
    refine v_icmp_gt X (tgt := 70) dX2_waysToPart_40 (by decide) (fun c6 => ?_) (fun c6 => ?_)
    · replace h := h.1 c6
      refine v_iload X 5 dX2_waysToPart_70 rfl ?_
      refine v_ldc X wd662 dX2_waysToPart_72 ?_
      refine v_icmp_ne X (tgt := 89) dX2_waysToPart_74 (by decide) (fun c7 => ?_) (fun c7 => ?_)
      · replace h := h.1 c7
        refine v_lv (lv' := [(1, .ref l1), (2, .ref l2), (3, .int l3), (4, .int l4), (5, .int l5), (6, .int l6), (7, .int l7)]) [0, 1, 2, 3, 4, 5, 6] rfl ?_
        exact j89 bk11 hbk11 _ _ _ _ _ _ _ _ h
      · replace h := h.2 c7
        refine v_iload X 4 dX2_waysToPart_77 rfl ?_
        refine v_iload X 7 dX2_waysToPart_79 rfl ?_
        refine v_icmp_le X (tgt := 89) dX2_waysToPart_81 (by decide) (fun c9 => ?_) (fun c9 => ?_)
        · replace h := h.1 c9
          refine v_lv (lv' := [(1, .ref l1), (2, .ref l2), (3, .int l3), (4, .int l4), (5, .int l5), (6, .int l6), (7, .int l7)]) [0, 1, 2, 3, 4, 5, 6] rfl ?_
          exact j89 bk11 hbk11 _ _ _ _ _ _ _ _ h
        · replace h := h.2 c9
          refine v_iload X 6 dX2_waysToPart_84 rfl ?_
          refine v_goto X (tgt := 91) dX2_waysToPart_86 (by decide) ?_
          refine v_lv (lv' := [(1, .ref l1), (2, .ref l2), (3, .int l3), (4, .int l4), (5, .int l5), (7, .int l7)]) [0, 1, 2, 3, 4, 6] rfl ?_
          exact j91 bk11 hbk11 _ _ _ _ _ _ _ _ h
    · replace h := h.2 c6
      refine v_iload X 4 dX2_waysToPart_43 rfl ?_
      refine v_aload_n X 1 dX2_waysToPart_45 rfl rfl ?_
      refine v_iload X 9 dX2_waysToPart_46 rfl ?_
      refine v_dyn_Mouth_padding X h wd697 ⟨Nat.le_of_ble_eq_true rfl, Nat.le_of_ble_eq_true rfl⟩ (Nat.le_of_ble_eq_true rfl) ⟨Nat.le_of_ble_eq_true rfl, Nat.le_of_ble_eq_true rfl⟩ dX2_waysToPart_48 (fun r11 S10 h => ?_)
      refine v_iload X 8 dX2_waysToPart_51 rfl ?_
      refine v_icmp_ne X (tgt := 60) dX2_waysToPart_53 (by decide) (fun c12 => ?_) (fun c12 => ?_)
      · replace h := h.1 c12
        refine v_iconst X (v := 0) dX2_waysToPart_60 (by decide) ?_
        refine v_lv (lv' := [(1, .ref l1), (2, .ref l2), (3, .int l3), (4, .int l4), (6, .int l6), (7, .int l7), (8, .int l8), (9, .int l9), (10, .int l10)]) [0, 1, 2, 3, 5, 6, 7, 8, 9] rfl ?_
        exact j61 bk11 hbk11 bk36 hbk36 _ _ _ _ _ _ _ _ _ _ _ _ h
      · replace h := h.2 c12
        refine v_iconst X (v := 1) dX2_waysToPart_56 (by decide) ?_
        refine v_goto X (tgt := 61) dX2_waysToPart_57 (by decide) ?_
        refine v_lv (lv' := [(1, .ref l1), (2, .ref l2), (3, .int l3), (4, .int l4), (6, .int l6), (7, .int l7), (8, .int l8), (9, .int l9), (10, .int l10)]) [0, 1, 2, 3, 5, 6, 7, 8, 9] rfl ?_
        exact j61 bk11 hbk11 bk36 hbk36 _ _ _ _ _ _ _ _ _ _ _ _ h
  have l36 : ∀ (bk11 : hp → Nat → Nat → Int32 → Int32 → Int32 → Int32 → Int32 → Prop) (hbk11 : ∀ (S : hp) (l1 : Nat) (l2 : Nat) (l3 : Int32) (l4 : Int32) (l5 : Int32) (l6 : Int32) (l7 : Int32), bk11 S l1 l2 l3 l4 l5 l6 l7 → VM l b D cy 11 1 21 0 0 (pI Q) p e s m args below meth c S 0 0 11 [(1, .ref l1), (2, .ref l2), (3, .int l3), (4, .int l4), (5, .int l5), (6, .int l6), (7, .int l7)] []) (n : Nat) (S : hp) (l1 : Nat) (l2 : Nat) (l3 : Int32) (l4 : Int32) (l5 : Int32) (l6 : Int32) (l7 : Int32) (l8 : Int32) (l9 : Int32) (l10 : Int32), wl_X2_waysToPart_36 bk11 Q n S l1 l2 l3 l4 l5 l6 l7 l8 l9 l10 → VM l b D cy 11 1 21 0 0 (pI Q) p e s m args below meth c S 0 0 36 [(1, .ref l1), (2, .ref l2), (3, .int l3), (4, .int l4), (5, .int l5), (6, .int l6), (7, .int l7), (8, .int l8), (9, .int l9), (10, .int l10)] [] := by
    intro bk11 hbk11 n
    induction n with
    | zero => intro S l1 l2 l3 l4 l5 l6 l7 l8 l9 l10 h; exact h.elim
    | succ n ih => intro S l1 l2 l3 l4 l5 l6 l7 l8 l9 l10 h; exact j36 bk11 hbk11 (wl_X2_waysToPart_36 bk11 Q n) ih S l1 l2 l3 l4 l5 l6 l7 l8 l9 l10 h
  have j11 : ∀ (bk11 : hp → Nat → Nat → Int32 → Int32 → Int32 → Int32 → Int32 → Prop) (hbk11 : ∀ (S : hp) (l1 : Nat) (l2 : Nat) (l3 : Int32) (l4 : Int32) (l5 : Int32) (l6 : Int32) (l7 : Int32), bk11 S l1 l2 l3 l4 l5 l6 l7 → VM l b D cy 11 1 21 0 0 (pI Q) p e s m args below meth c S 0 0 11 [(1, .ref l1), (2, .ref l2), (3, .int l3), (4, .int l4), (5, .int l5), (6, .int l6), (7, .int l7)] []) (S : hp) (l1 : Nat) (l2 : Nat) (l3 : Int32) (l4 : Int32) (l5 : Int32) (l6 : Int32) (l7 : Int32), wB_X2_waysToPart_11 bk11 Q S l1 l2 l3 l4 l5 l6 l7 → VM l b D cy 11 1 21 0 0 (pI Q) p e s m args below meth c S 0 0 11 [(1, .ref l1), (2, .ref l2), (3, .int l3), (4, .int l4), (5, .int l5), (6, .int l6), (7, .int l7)] [] := by
    intro bk11 hbk11 S l1 l2 l3 l4 l5 l6 l7 h
    unfold wB_X2_waysToPart_11 at h
    refine v_iload X 6 dX2_waysToPart_11 rfl ?_
    refine v_bipush X (v := 20) dX2_waysToPart_13 (by decide) ?_
    refine v_icmp_gt X (tgt := 99) dX2_waysToPart_15 (by decide) (fun c1 => ?_) (fun c1 => ?_)
    · replace h := h.1 c1
      refine v_iload X 3 dX2_waysToPart_99 rfl ?_
      refine v_if_ne X (tgt := 109) dX2_waysToPart_101 (by decide) (fun c2 => ?_) (fun c2 => ?_)
      · replace h := h.1 c2
        refine v_iload X 5 dX2_waysToPart_109 rfl ?_
        exact v_iret X hr hlk ⟨_, rfl, h⟩ dX2_waysToPart_111
      · replace h := h.2 c2
        refine v_iload X 4 dX2_waysToPart_104 rfl ?_
        refine v_goto X (tgt := 111) dX2_waysToPart_106 (by decide) ?_
        exact v_iret X hr hlk ⟨_, rfl, h⟩ dX2_waysToPart_111
    · replace h := h.2 c1
      refine v_iload X 4 dX2_waysToPart_18 rfl ?_
      refine v_istore X (lv' := [(8, .int l5), (1, .ref l1), (2, .ref l2), (3, .int l3), (4, .int l4), (5, .int l5), (6, .int l6), (7, .int l7)]) dX2_waysToPart_20 (by decide) rfl ?_
      refine v_iload_n X 3 dX2_waysToPart_22 rfl rfl ?_
      refine v_aload_n X 1 dX2_waysToPart_23 rfl rfl ?_
      refine v_iload X 7 dX2_waysToPart_24 rfl ?_
      refine v_dyn_Mouth_padding X h wd697 ⟨Nat.le_of_ble_eq_true rfl, Nat.le_of_ble_eq_true rfl⟩ (Nat.le_of_ble_eq_true rfl) ⟨Nat.le_of_ble_eq_true rfl, Nat.le_of_ble_eq_true rfl⟩ dX2_waysToPart_26 (fun r4 S3 h => ?_)
      refine v_isub X dX2_waysToPart_29 ?_
      refine v_nm (fun v5 hv5 => ?_)
      replace h := h v5 hv5
      refine v_istore X (lv' := [(9, .int v5), (8, .int l5), (1, .ref l1), (2, .ref l2), (3, .int l3), (4, .int l4), (5, .int l5), (6, .int l6), (7, .int l7)]) dX2_waysToPart_30 (by decide) rfl ?_
      refine v_bipush X (v := -20) dX2_waysToPart_32 (by decide) ?_
      refine v_istore X (lv' := [(10, .int (-20 : Int32)), (9, .int v5), (8, .int l5), (1, .ref l1), (2, .ref l2), (3, .int l3), (4, .int l4), (5, .int l5), (6, .int l6), (7, .int l7)]) dX2_waysToPart_34 (by decide) rfl ?_
      refine v_lv (lv' := [(1, .ref l1), (2, .ref l2), (3, .int l3), (4, .int l4), (5, .int l5), (6, .int l6), (7, .int l7), (8, .int l5), (9, .int v5), (10, .int (-20 : Int32))]) [3, 4, 5, 6, 7, 8, 9, 2, 1, 0] rfl ?_
      obtain ⟨n, h⟩ := h
      exact l36 bk11 hbk11 n _ _ _ _ _ _ _ _ _ _ _ h
  have l11 : ∀  (n : Nat) (S : hp) (l1 : Nat) (l2 : Nat) (l3 : Int32) (l4 : Int32) (l5 : Int32) (l6 : Int32) (l7 : Int32), wl_X2_waysToPart_11 Q n S l1 l2 l3 l4 l5 l6 l7 → VM l b D cy 11 1 21 0 0 (pI Q) p e s m args below meth c S 0 0 11 [(1, .ref l1), (2, .ref l2), (3, .int l3), (4, .int l4), (5, .int l5), (6, .int l6), (7, .int l7)] [] := by
    intro  n
    induction n with
    | zero => intro S l1 l2 l3 l4 l5 l6 l7 h; exact h.elim
    | succ n ih => intro S l1 l2 l3 l4 l5 l6 l7 h; exact j11 (wl_X2_waysToPart_11 Q n) ih S l1 l2 l3 l4 l5 l6 l7 h
  unfold wp_X2_waysToPart at h
  show VM l b D cy 11 1 21 0 0 (pI Q) p e s m args below meth c S 0 0 0 [(0, .ref a0), (1, .ref a1), (2, .ref a2), (3, .int x3), (4, .int x4)] []
  refine v_iconst X (v := 0) dX2_waysToPart_0 (by decide) ?_
  refine v_istore X (lv' := [(5, .int (0 : Int32)), (0, .ref a0), (1, .ref a1), (2, .ref a2), (3, .int x3), (4, .int x4)]) dX2_waysToPart_1 (by decide) rfl ?_
  refine v_ldc X wd662 dX2_waysToPart_3 ?_
  refine v_istore X (lv' := [(6, .int (-1000000 : Int32)), (5, .int (0 : Int32)), (0, .ref a0), (1, .ref a1), (2, .ref a2), (3, .int x3), (4, .int x4)]) dX2_waysToPart_5 (by decide) rfl ?_
  refine v_bipush X (v := -20) dX2_waysToPart_7 (by decide) ?_
  refine v_istore X (lv' := [(7, .int (-20 : Int32)), (6, .int (-1000000 : Int32)), (5, .int (0 : Int32)), (0, .ref a0), (1, .ref a1), (2, .ref a2), (3, .int x3), (4, .int x4)]) dX2_waysToPart_9 (by decide) rfl ?_
  refine v_lv (lv' := [(1, .ref a1), (2, .ref a2), (3, .int x3), (4, .int x4), (5, .int (0 : Int32)), (6, .int (-1000000 : Int32)), (7, .int (-20 : Int32))]) [4, 5, 6, 7, 2, 1, 0] rfl ?_
  obtain ⟨n, h⟩ := h
  exact l11 n _ _ _ _ _ _ _ _ h
def wp_X11_parted (Q : Int32 → hp → Prop) (S : hp) (a0 : Nat) (x1 : Int32) (x2 : Int32) (x3 : Int32) (x4 : Int32) : Prop :=
  hK S a0 = 10 ∧ ∃ r2 : Nat, hR S a0 2 = some r2 ∧ hK S r2 = 7 ∧ wp_X8_mouthAt (fun q29 S3 => (q29 = none → hK S3 a0 = 10 ∧ ∃ r7 : Nat, hR S3 a0 2 = some r7 ∧ hK S3 r7 = 7 ∧ wp_X8_mouthAt (fun q11 S8 => (q11 = none → Q (-1000001 : Int32) S8) ∧ (∀ r10 : Nat, q11 = some r10 → Q (-1000001 : Int32) S8)) S3 r7 x2) ∧ (∀ r5 : Nat, q29 = some r5 → hK S3 a0 = 10 ∧ ∃ r13 : Nat, hR S3 a0 2 = some r13 ∧ hK S3 r13 = 7 ∧ wp_X8_mouthAt (fun q28 S14 => (q28 = none → Q (-1000001 : Int32) S14) ∧ (∀ r16 : Nat, q28 = some r16 → ((x1 = x2 → Q (-1000001 : Int32) S14) ∧ (¬ x1 = x2 → wp_X11_isFirstOrSecond (fun r19 S18 => ((r19 = 0 → Q (-1000001 : Int32) S18) ∧ (¬ r19 = 0 → ((x3 < (-200 : Int32) → Q (-1000001 : Int32) S18) ∧ (¬ x3 < (-200 : Int32) → ((x3 ≤ (200 : Int32) → hK S18 a0 = 10 ∧ ∃ r24 : Nat, hR S18 a0 4 = some r24 ∧ hK S18 r24 = 2 ∧ wp_X2_waysToPart (fun r27 S25 => Q r27 S25) S18 r24 r5 r16 x3 x4) ∧ (¬ x3 ≤ (200 : Int32) → Q (-1000001 : Int32) S18))))))) S14 x4)))) S3 r13 x2)) S r2 x1
theorem k_X11_parted : Cond.code yX11_parted cX11_parted 7 (some .int) ∈ gtb := mg 743 (by decide +kernel) (by decide +kernel)
theorem dn_X11_parted : yX11_parted.cls ≠ "java/lang/invoke/MethodHandle" ∧ yX11_parted.cls ≠ "java/lang/invoke/VarHandle" ∧ (parseMethodDescriptor yX11_parted.desc).map (fun d => d.parameters.length) = some 4 := by decide +kernel
set_option maxRecDepth 100000 in
set_option maxHeartbeats 4000000 in
theorem s_X11_parted (l : Launch) (b : Nat) (D : va_G) (cy : Nat → ClassId) {Q : Int32 → hp → Prop} {S : hp} {a0 : Nat} {x1 : Int32} {x2 : Int32} {x3 : Int32} {x4 : Int32} (h : wp_X11_parted Q S a0 x1 x2 x3 x4) : MT l yX11_parted cX11_parted 7 (some .int) 2 51 0 0 b D cy S [.ref a0, .int x1, .int x2, .int x3, .int x4] (pI Q) := by
  refine MT.of (by decide +kernel) (Nat.le_of_ble_eq_true rfl) ?_
  intro p e s m args below meth c X hr hlk hnm
  unfold wp_X11_parted at h
  show VM l b D cy 7 2 51 0 0 (pI Q) p e s m args below meth c S 0 0 0 [(0, .ref a0), (1, .int x1), (2, .int x2), (3, .int x3), (4, .int x4)] []
  refine v_aload_n X 0 dX11_parted_0 rfl rfl ?_
  obtain ⟨hk1, h⟩ := h
  obtain ⟨r2, hr2, h⟩ := h
  refine v_getR X (T := TX11) (N := 12) (k := 2) hk1 (by decide) rfl (by decide) inX11 wd217 rfl dX11_parted_1 hr2 ?_
  refine v_iload_n X 1 dX11_parted_4 rfl rfl ?_
  obtain ⟨hk4, h⟩ := h
  refine v_callV X (av := [.int x1]) (T := TX8) (N := 10) (s_X8_mouthAt l b D cy h) hk4 (by decide) rfl wd479 wd480 wd481 wd59 k_X8_mouthAt dn_X8_mouthAt rfl ⟨Nat.le_of_ble_eq_true rfl, Nat.le_of_ble_eq_true rfl⟩ (Nat.le_of_ble_eq_true rfl) ⟨Nat.le_of_ble_eq_true rfl, Nat.le_of_ble_eq_true rfl⟩ dX11_parted_5 rfl (kO (fun S3 h => ?_) (fun r5 S3 h => ?_))
  · replace h := h.1 rfl
    refine v_astoreN X (lv' := [(5, .null), (0, .ref a0), (1, .int x1), (2, .int x2), (3, .int x3), (4, .int x4)]) dX11_parted_8 (by decide) rfl ?_
    refine v_aload_n X 1 dX11_parted_10 rfl rfl ?_
    obtain ⟨hk6, h⟩ := h
    obtain ⟨r7, hr7, h⟩ := h
    refine v_getR X (T := TX11) (N := 12) (k := 2) hk6 (by decide) rfl (by decide) inX11 wd217 rfl dX11_parted_11 hr7 ?_
    refine v_iload_n X 3 dX11_parted_14 rfl rfl ?_
    obtain ⟨hk9, h⟩ := h
    refine v_callV X (av := [.int x2]) (T := TX8) (N := 10) (s_X8_mouthAt l b D cy h) hk9 (by decide) rfl wd479 wd480 wd481 wd59 k_X8_mouthAt dn_X8_mouthAt rfl ⟨Nat.le_of_ble_eq_true rfl, Nat.le_of_ble_eq_true rfl⟩ (Nat.le_of_ble_eq_true rfl) ⟨Nat.le_of_ble_eq_true rfl, Nat.le_of_ble_eq_true rfl⟩ dX11_parted_15 rfl (kO (fun S8 h => ?_) (fun r10 S8 h => ?_))
    · replace h := h.1 rfl
      refine v_astoreN X (lv' := [(6, .null), (5, .null), (0, .ref a0), (1, .int x1), (2, .int x2), (3, .int x3), (4, .int x4)]) dX11_parted_18 (by decide) rfl ?_
      refine v_aloadN X 1 dX11_parted_20 rfl ?_
      refine v_ifnullN X (tgt := 57) dX11_parted_22 (by decide) ?_
      refine v_ldc X wd262 dX11_parted_57 ?_
      exact v_iret X hr hlk ⟨_, rfl, h⟩ dX11_parted_59
    · replace h := h.2 _ rfl
      refine v_astore X (lv' := [(6, .ref r10), (5, .null), (0, .ref a0), (1, .int x1), (2, .int x2), (3, .int x3), (4, .int x4)]) dX11_parted_18 (by decide) rfl ?_
      refine v_aloadN X 1 dX11_parted_20 rfl ?_
      refine v_ifnullN X (tgt := 57) dX11_parted_22 (by decide) ?_
      refine v_ldc X wd262 dX11_parted_57 ?_
      exact v_iret X hr hlk ⟨_, rfl, h⟩ dX11_parted_59
  · replace h := h.2 _ rfl
    refine v_astore X (lv' := [(5, .ref r5), (0, .ref a0), (1, .int x1), (2, .int x2), (3, .int x3), (4, .int x4)]) dX11_parted_8 (by decide) rfl ?_
    refine v_aload_n X 1 dX11_parted_10 rfl rfl ?_
    obtain ⟨hk12, h⟩ := h
    obtain ⟨r13, hr13, h⟩ := h
    refine v_getR X (T := TX11) (N := 12) (k := 2) hk12 (by decide) rfl (by decide) inX11 wd217 rfl dX11_parted_11 hr13 ?_
    refine v_iload_n X 3 dX11_parted_14 rfl rfl ?_
    obtain ⟨hk15, h⟩ := h
    refine v_callV X (av := [.int x2]) (T := TX8) (N := 10) (s_X8_mouthAt l b D cy h) hk15 (by decide) rfl wd479 wd480 wd481 wd59 k_X8_mouthAt dn_X8_mouthAt rfl ⟨Nat.le_of_ble_eq_true rfl, Nat.le_of_ble_eq_true rfl⟩ (Nat.le_of_ble_eq_true rfl) ⟨Nat.le_of_ble_eq_true rfl, Nat.le_of_ble_eq_true rfl⟩ dX11_parted_15 rfl (kO (fun S14 h => ?_) (fun r16 S14 h => ?_))
    · replace h := h.1 rfl
      refine v_astoreN X (lv' := [(6, .null), (5, .ref r5), (0, .ref a0), (1, .int x1), (2, .int x2), (3, .int x3), (4, .int x4)]) dX11_parted_18 (by decide) rfl ?_
      refine v_aload X 1 dX11_parted_20 rfl ?_
      refine v_ifnull X dX11_parted_22 ?_
      refine v_aloadN X 0 dX11_parted_25 rfl ?_
      refine v_ifnullN X (tgt := 57) dX11_parted_27 (by decide) ?_
      refine v_ldc X wd262 dX11_parted_57 ?_
      exact v_iret X hr hlk ⟨_, rfl, h⟩ dX11_parted_59
    · replace h := h.2 _ rfl
      refine v_astore X (lv' := [(6, .ref r16), (5, .ref r5), (0, .ref a0), (1, .int x1), (2, .int x2), (3, .int x3), (4, .int x4)]) dX11_parted_18 (by decide) rfl ?_
      refine v_aload X 1 dX11_parted_20 rfl ?_
      refine v_ifnull X dX11_parted_22 ?_
      refine v_aload X 0 dX11_parted_25 rfl ?_
      refine v_ifnull X dX11_parted_27 ?_
      refine v_iload_n X 3 dX11_parted_30 rfl rfl ?_
      refine v_iload_n X 4 dX11_parted_31 rfl rfl ?_
      refine v_icmp_eq X (tgt := 57) dX11_parted_32 (by decide) (fun c17 => ?_) (fun c17 => ?_)
      · replace h := h.1 c17
        refine v_ldc X wd262 dX11_parted_57 ?_
        exact v_iret X hr hlk ⟨_, rfl, h⟩ dX11_parted_59
      · replace h := h.2 c17
        refine v_iload X 6 dX11_parted_35 rfl ?_
        refine v_callS X (av := [.int x4]) (s_X11_isFirstOrSecond l b D cy h) wd619 wd620 wd56 k_X11_isFirstOrSecond dn_X11_isFirstOrSecond rfl ⟨Nat.le_of_ble_eq_true rfl, Nat.le_of_ble_eq_true rfl⟩ (Nat.le_of_ble_eq_true rfl) ⟨Nat.le_of_ble_eq_true rfl, Nat.le_of_ble_eq_true rfl⟩ dX11_parted_37 rfl (kI (fun r19 S18 h => ?_))
        refine v_if_eq X (tgt := 57) dX11_parted_40 (by decide) (fun c20 => ?_) (fun c20 => ?_)
        · replace h := h.1 c20
          refine v_ldc X wd262 dX11_parted_57 ?_
          exact v_iret X hr hlk ⟨_, rfl, h⟩ dX11_parted_59
        · replace h := h.2 c20
          refine v_iload_n X 5 dX11_parted_43 rfl rfl ?_
          refine v_sipush X (v := -200) dX11_parted_44 (by decide) ?_
          refine v_icmp_lt X (tgt := 57) dX11_parted_47 (by decide) (fun c21 => ?_) (fun c21 => ?_)
          · replace h := h.1 c21
            refine v_ldc X wd262 dX11_parted_57 ?_
            exact v_iret X hr hlk ⟨_, rfl, h⟩ dX11_parted_59
          · replace h := h.2 c21
            refine v_iload_n X 5 dX11_parted_50 rfl rfl ?_
            refine v_sipush X (v := 200) dX11_parted_51 (by decide) ?_
            refine v_icmp_le X (tgt := 60) dX11_parted_54 (by decide) (fun c22 => ?_) (fun c22 => ?_)
            · replace h := h.1 c22
              refine v_aload_n X 2 dX11_parted_60 rfl rfl ?_
              obtain ⟨hk23, h⟩ := h
              obtain ⟨r24, hr24, h⟩ := h
              refine v_getR X (T := TX11) (N := 12) (k := 4) hk23 (by decide) rfl (by decide) inX11 wd219 rfl dX11_parted_61 hr24 ?_
              refine v_aload X 1 dX11_parted_64 rfl ?_
              refine v_aload X 0 dX11_parted_66 rfl ?_
              refine v_iload_n X 5 dX11_parted_68 rfl rfl ?_
              refine v_iload X 6 dX11_parted_69 rfl ?_
              obtain ⟨hk26, h⟩ := h
              refine v_callV X (av := [.ref r5, .ref r16, .int x3, .int x4]) (T := TX2) (N := 2) (s_X2_waysToPart l b D cy h) hk26 (by decide) rfl wd744 wd745 wd746 wd60 k_X2_waysToPart dn_X2_waysToPart rfl ⟨Nat.le_of_ble_eq_true rfl, Nat.le_of_ble_eq_true rfl⟩ (Nat.le_of_ble_eq_true rfl) ⟨Nat.le_of_ble_eq_true rfl, Nat.le_of_ble_eq_true rfl⟩ dX11_parted_71 rfl (kI (fun r27 S25 h => ?_))
              exact v_iret X hr hlk ⟨_, rfl, h⟩ dX11_parted_74
            · replace h := h.2 c22
              refine v_ldc X wd262 dX11_parted_57 ?_
              exact v_iret X hr hlk ⟨_, rfl, h⟩ dX11_parted_59
def wB_X2_sumWithout_36 (bk5 : hp → Nat → Int32 → Int32 → Int32 → Int32 → Prop) (Q : Int32 → hp → Prop) (S : hp) (l0 : Nat) (l1 : Int32) (l2 : Int32) (l4 : Int32) (k0 : Int32) (k1 : Int32) : Prop :=
  ∀ v11 : Int32, v11 = (k1 + k0) → ∀ v12 : Int32, v12 = l4 + (1 : Int32) → bk5 S l0 l1 l2 v11 v12
def wB_X2_sumWithout_5 (bk5 : hp → Nat → Int32 → Int32 → Int32 → Int32 → Prop) (Q : Int32 → hp → Prop) (S : hp) (l0 : Nat) (l1 : Int32) (l2 : Int32) (l3 : Int32) (l4 : Int32) : Prop :=
  (((3 : Int32) ≤ l4 → Q l3 S) ∧ (¬ (3 : Int32) ≤ l4 → wp_X2_has (fun r3 S2 => ((r3 = 0 → hK S2 l0 = 7 ∧ ∃ r6 : Nat, hR S2 l0 0 = some r6 ∧ wp_X8_at (fun r8 S7 => hK S7 r6 = 12 ∧ vp_in r8 (hN S7 r6) ∧ wB_X2_sumWithout_36 bk5 Q S7 l0 l1 l2 l4 ((hI S7 r6 (r8).toNatClampNeg)) l3) S2 l1 l4) ∧ (¬ r3 = 0 → wB_X2_sumWithout_36 bk5 Q S2 l0 l1 l2 l4 (0 : Int32) l3))) S l2 l4))
def wl_X2_sumWithout_5 (Q : Int32 → hp → Prop) : Nat → hp → Nat → Int32 → Int32 → Int32 → Int32 → Prop
  | 0 => fun _ _ _ _ _ _ => False
  | n + 1 => wB_X2_sumWithout_5 (wl_X2_sumWithout_5 Q n) Q
def wp_X2_sumWithout (Q : Int32 → hp → Prop) (S : hp) (a0 : Nat) (x1 : Int32) (x2 : Int32) : Prop :=
  ∃ n : Nat, wl_X2_sumWithout_5 Q n S a0 x1 x2 (0 : Int32) (0 : Int32)
theorem k_X2_sumWithout : Cond.code yX2_sumWithout cX2_sumWithout 5 (some .int) ∈ gtb := mg 758 (by decide +kernel) (by decide +kernel)
theorem dn_X2_sumWithout : yX2_sumWithout.cls ≠ "java/lang/invoke/MethodHandle" ∧ yX2_sumWithout.cls ≠ "java/lang/invoke/VarHandle" ∧ (parseMethodDescriptor yX2_sumWithout.desc).map (fun d => d.parameters.length) = some 3 := by decide +kernel
set_option maxRecDepth 100000 in
set_option maxHeartbeats 4000000 in
theorem s_X2_sumWithout (l : Launch) (b : Nat) (D : va_G) (cy : Nat → ClassId) {Q : Int32 → hp → Prop} {S : hp} {a0 : Nat} {x1 : Int32} {x2 : Int32} (h : wp_X2_sumWithout Q S a0 x1 x2) : MT l yX2_sumWithout cX2_sumWithout 5 (some .int) 1 21 0 0 b D cy S [.ref a0, .int x1, .int x2] (pI Q) := by
  refine MT.of (by decide +kernel) (Nat.le_of_ble_eq_true rfl) ?_
  intro p e s m args below meth c X hr hlk hnm
  have j36 : ∀ (bk5 : hp → Nat → Int32 → Int32 → Int32 → Int32 → Prop) (hbk5 : ∀ (S : hp) (l0 : Nat) (l1 : Int32) (l2 : Int32) (l3 : Int32) (l4 : Int32), bk5 S l0 l1 l2 l3 l4 → VM l b D cy 5 1 21 0 0 (pI Q) p e s m args below meth c S 0 0 5 [(0, .ref l0), (1, .int l1), (2, .int l2), (3, .int l3), (4, .int l4)] []) (S : hp) (l0 : Nat) (l1 : Int32) (l2 : Int32) (l4 : Int32) (k0 : Int32) (k1 : Int32), wB_X2_sumWithout_36 bk5 Q S l0 l1 l2 l4 k0 k1 → VM l b D cy 5 1 21 0 0 (pI Q) p e s m args below meth c S 0 0 36 [(0, .ref l0), (1, .int l1), (2, .int l2), (4, .int l4)] [.int k0, .int k1] := by
    intro bk5 hbk5 S l0 l1 l2 l4 k0 k1 h
    unfold wB_X2_sumWithout_36 at h
    refine v_iadd X dX2_sumWithout_36 ?_
    refine v_nm (fun v11 hv11 => ?_)
    replace h := h v11 hv11
    refine v_istore_n X (lv' := [(3, .int v11), (0, .ref l0), (1, .int l1), (2, .int l2), (4, .int l4)]) dX2_sumWithout_37 rfl (by decide) rfl ?_
    obtain ⟨v12, hv12⟩ : ∃ y : Int32, y = l4 + (1 : Int32) := ⟨_, rfl⟩
    replace h := h v12 hv12
    refine v_iinc X (j := 4) (v := v12) (lv' := [(4, .int v12), (3, .int v11), (0, .ref l0), (1, .int l1), (2, .int l2)]) dX2_sumWithout_38 rfl (by rw [hv12] <;> rfl) (by decide) rfl ?_
    refine v_goto X (tgt := 5) dX2_sumWithout_41 (by decide) ?_
    refine v_lv (lv' := [(0, .ref l0), (1, .int l1), (2, .int l2), (3, .int v11), (4, .int v12)]) [2, 3, 4, 1, 0] rfl ?_
    exact hbk5 _ _ _ _ _ _ h
  have j5 : ∀ (bk5 : hp → Nat → Int32 → Int32 → Int32 → Int32 → Prop) (hbk5 : ∀ (S : hp) (l0 : Nat) (l1 : Int32) (l2 : Int32) (l3 : Int32) (l4 : Int32), bk5 S l0 l1 l2 l3 l4 → VM l b D cy 5 1 21 0 0 (pI Q) p e s m args below meth c S 0 0 5 [(0, .ref l0), (1, .int l1), (2, .int l2), (3, .int l3), (4, .int l4)] []) (S : hp) (l0 : Nat) (l1 : Int32) (l2 : Int32) (l3 : Int32) (l4 : Int32), wB_X2_sumWithout_5 bk5 Q S l0 l1 l2 l3 l4 → VM l b D cy 5 1 21 0 0 (pI Q) p e s m args below meth c S 0 0 5 [(0, .ref l0), (1, .int l1), (2, .int l2), (3, .int l3), (4, .int l4)] [] := by
    intro bk5 hbk5 S l0 l1 l2 l3 l4 h
    unfold wB_X2_sumWithout_5 at h
    refine v_iload X 4 dX2_sumWithout_5 rfl ?_
    refine v_iconst X (v := 3) dX2_sumWithout_7 (by decide) ?_
    refine v_icmp_ge X (tgt := 44) dX2_sumWithout_8 (by decide) (fun c1 => ?_) (fun c1 => ?_)
    · replace h := h.1 c1
      refine v_iload_n X 3 dX2_sumWithout_44 rfl rfl ?_
      exact v_iret X hr hlk ⟨_, rfl, h⟩ dX2_sumWithout_45
    · replace h := h.2 c1
      refine v_iload_n X 3 dX2_sumWithout_11 rfl rfl ?_
      refine v_iload_n X 2 dX2_sumWithout_12 rfl rfl ?_
      refine v_iload X 4 dX2_sumWithout_13 rfl ?_
      refine v_callS X (av := [.int l2, .int l4]) (s_X2_has l b D cy h) wd645 wd646 wd60 k_X2_has dn_X2_has rfl ⟨Nat.le_of_ble_eq_true rfl, Nat.le_of_ble_eq_true rfl⟩ (Nat.le_of_ble_eq_true rfl) ⟨Nat.le_of_ble_eq_true rfl, Nat.le_of_ble_eq_true rfl⟩ dX2_sumWithout_15 rfl (kI (fun r3 S2 h => ?_))
      refine v_if_eq X (tgt := 25) dX2_sumWithout_18 (by decide) (fun c4 => ?_) (fun c4 => ?_)
      · replace h := h.1 c4
        refine v_aload_n X 0 dX2_sumWithout_25 rfl rfl ?_
        obtain ⟨hk5, h⟩ := h
        obtain ⟨r6, hr6, h⟩ := h
        refine v_getR X (T := TX8) (N := 10) (k := 0) hk5 (by decide) rfl (by decide) inX8 wd142 rfl dX2_sumWithout_26 hr6 ?_
        refine v_iload_n X 1 dX2_sumWithout_29 rfl rfl ?_
        refine v_iload X 4 dX2_sumWithout_30 rfl ?_
        refine v_callS X (av := [.int l1, .int l4]) (s_X8_at l b D cy h) wd640 wd384 wd59 k_X8_at dn_X8_at rfl ⟨Nat.le_of_ble_eq_true rfl, Nat.le_of_ble_eq_true rfl⟩ (Nat.le_of_ble_eq_true rfl) ⟨Nat.le_of_ble_eq_true rfl, Nat.le_of_ble_eq_true rfl⟩ dX2_sumWithout_32 rfl (kI (fun r8 S7 h => ?_))
        obtain ⟨hk9, h⟩ := h
        obtain ⟨hi10, h⟩ := h
        refine v_iald X hk9 hi10 dX2_sumWithout_35 ?_
        refine v_lv (lv' := [(0, .ref l0), (1, .int l1), (2, .int l2), (4, .int l4)]) [0, 1, 2, 4] rfl ?_
        exact j36 bk5 hbk5 _ _ _ _ _ _ _ h
      · replace h := h.2 c4
        refine v_iconst X (v := 0) dX2_sumWithout_21 (by decide) ?_
        refine v_goto X (tgt := 36) dX2_sumWithout_22 (by decide) ?_
        refine v_lv (lv' := [(0, .ref l0), (1, .int l1), (2, .int l2), (4, .int l4)]) [0, 1, 2, 4] rfl ?_
        exact j36 bk5 hbk5 _ _ _ _ _ _ _ h
  have l5 : ∀  (n : Nat) (S : hp) (l0 : Nat) (l1 : Int32) (l2 : Int32) (l3 : Int32) (l4 : Int32), wl_X2_sumWithout_5 Q n S l0 l1 l2 l3 l4 → VM l b D cy 5 1 21 0 0 (pI Q) p e s m args below meth c S 0 0 5 [(0, .ref l0), (1, .int l1), (2, .int l2), (3, .int l3), (4, .int l4)] [] := by
    intro  n
    induction n with
    | zero => intro S l0 l1 l2 l3 l4 h; exact h.elim
    | succ n ih => intro S l0 l1 l2 l3 l4 h; exact j5 (wl_X2_sumWithout_5 Q n) ih S l0 l1 l2 l3 l4 h
  unfold wp_X2_sumWithout at h
  show VM l b D cy 5 1 21 0 0 (pI Q) p e s m args below meth c S 0 0 0 [(0, .ref a0), (1, .int x1), (2, .int x2)] []
  refine v_iconst X (v := 0) dX2_sumWithout_0 (by decide) ?_
  refine v_istore_n X (lv' := [(3, .int (0 : Int32)), (0, .ref a0), (1, .int x1), (2, .int x2)]) dX2_sumWithout_1 rfl (by decide) rfl ?_
  refine v_iconst X (v := 0) dX2_sumWithout_2 (by decide) ?_
  refine v_istore X (lv' := [(4, .int (0 : Int32)), (3, .int (0 : Int32)), (0, .ref a0), (1, .int x1), (2, .int x2)]) dX2_sumWithout_3 (by decide) rfl ?_
  refine v_lv (lv' := [(0, .ref a0), (1, .int x1), (2, .int x2), (3, .int (0 : Int32)), (4, .int (0 : Int32))]) [2, 3, 4, 1, 0] rfl ?_
  obtain ⟨n, h⟩ := h
  exact l5 n _ _ _ _ _ _ h
def wB_X2_fewestRepairs_69 (bk7 : hp → Nat → Int32 → Int32 → Int32 → Int32 → Prop) (Q : Int32 → hp → Prop) (S : hp) (l1 : Nat) (l2 : Int32) (l3 : Int32) (l4 : Int32) (l5 : Int32) : Prop :=
  ∀ v7 : Int32, v7 = l5 + (1 : Int32) → bk7 S l1 l2 l3 l4 v7
def wB_X2_fewestRepairs_48 (bk7 : hp → Nat → Int32 → Int32 → Int32 → Int32 → Prop) (Q : Int32 → hp → Prop) (S : hp) (l1 : Nat) (l2 : Int32) (l3 : Int32) (l4 : Int32) (l5 : Int32) (k0 : Int32) : Prop :=
  ((k0 = 0 → wB_X2_fewestRepairs_69 bk7 Q S l1 l2 l3 l4 l5) ∧ (¬ k0 = 0 → wp_X2_isFewer (fun r9 S8 => ((r9 = 0 → wB_X2_fewestRepairs_69 bk7 Q S8 l1 l2 l3 l4 l5) ∧ (¬ r9 = 0 → wB_X2_fewestRepairs_69 bk7 Q S8 l1 l2 l3 l5 l5))) S l5 l4))
def wB_X2_fewestRepairs_47 (bk7 : hp → Nat → Int32 → Int32 → Int32 → Int32 → Prop) (Q : Int32 → hp → Prop) (S : hp) (l1 : Nat) (l2 : Int32) (l3 : Int32) (l4 : Int32) (l5 : Int32) : Prop :=
  wB_X2_fewestRepairs_48 bk7 Q S l1 l2 l3 l4 l5 (0 : Int32)
def wB_X2_fewestRepairs_7 (bk7 : hp → Nat → Int32 → Int32 → Int32 → Int32 → Prop) (Q : Int32 → hp → Prop) (S : hp) (l1 : Nat) (l2 : Int32) (l3 : Int32) (l4 : Int32) (l5 : Int32) : Prop :=
  (((8 : Int32) ≤ l5 → Q l4 S) ∧ (¬ (8 : Int32) ≤ l5 → wp_X2_sumWithout (fun r3 S2 => ∀ v4 : Int32, v4 = (l3 - r3) → ((v4 < 0 → wB_X2_fewestRepairs_47 bk7 Q S2 l1 l2 l3 l4 l5) ∧ (¬ v4 < 0 → wp_J6_bitCount_0f7a4 (fun r12 S11 => ((((99 : Int32) * r12) < v4 → wB_X2_fewestRepairs_47 bk7 Q S11 l1 l2 l3 l4 l5) ∧ (¬ ((99 : Int32) * r12) < v4 → wB_X2_fewestRepairs_48 bk7 Q S11 l1 l2 l3 l4 l5 (1 : Int32)))) S2 l5))) S l1 l2 l5))
def wl_X2_fewestRepairs_7 (Q : Int32 → hp → Prop) : Nat → hp → Nat → Int32 → Int32 → Int32 → Int32 → Prop
  | 0 => fun _ _ _ _ _ _ => False
  | n + 1 => wB_X2_fewestRepairs_7 (wl_X2_fewestRepairs_7 Q n) Q
def wp_X2_fewestRepairs (Q : Int32 → hp → Prop) (S : hp) (a0 : Nat) (a1 : Nat) (x2 : Int32) (x3 : Int32) : Prop :=
  ∃ n : Nat, wl_X2_fewestRepairs_7 Q n S a1 x2 x3 (-1000000 : Int32) (0 : Int32)
theorem k_X2_fewestRepairs : Cond.code yX2_fewestRepairs cX2_fewestRepairs 8 (some .int) ∈ gtb := mg 755 (by decide +kernel) (by decide +kernel)
theorem dn_X2_fewestRepairs : yX2_fewestRepairs.cls ≠ "java/lang/invoke/MethodHandle" ∧ yX2_fewestRepairs.cls ≠ "java/lang/invoke/VarHandle" ∧ (parseMethodDescriptor yX2_fewestRepairs.desc).map (fun d => d.parameters.length) = some 3 := by decide +kernel
set_option maxRecDepth 100000 in
set_option maxHeartbeats 4000000 in
theorem s_X2_fewestRepairs (l : Launch) (b : Nat) (D : va_G) (cy : Nat → ClassId) {Q : Int32 → hp → Prop} {S : hp} {a0 : Nat} {a1 : Nat} {x2 : Int32} {x3 : Int32} (h : wp_X2_fewestRepairs Q S a0 a1 x2 x3) : MT l yX2_fewestRepairs cX2_fewestRepairs 8 (some .int) 2 45 0 0 b D cy S [.ref a0, .ref a1, .int x2, .int x3] (pI Q) := by
  refine MT.of (by decide +kernel) (Nat.le_of_ble_eq_true rfl) ?_
  intro p e s m args below meth c X hr hlk hnm
  have j69 : ∀ (bk7 : hp → Nat → Int32 → Int32 → Int32 → Int32 → Prop) (hbk7 : ∀ (S : hp) (l1 : Nat) (l2 : Int32) (l3 : Int32) (l4 : Int32) (l5 : Int32), bk7 S l1 l2 l3 l4 l5 → VM l b D cy 8 2 45 0 0 (pI Q) p e s m args below meth c S 0 0 7 [(1, .ref l1), (2, .int l2), (3, .int l3), (4, .int l4), (5, .int l5)] []) (S : hp) (l1 : Nat) (l2 : Int32) (l3 : Int32) (l4 : Int32) (l5 : Int32), wB_X2_fewestRepairs_69 bk7 Q S l1 l2 l3 l4 l5 → VM l b D cy 8 2 45 0 0 (pI Q) p e s m args below meth c S 0 0 69 [(1, .ref l1), (2, .int l2), (3, .int l3), (4, .int l4), (5, .int l5)] [] := by
    intro bk7 hbk7 S l1 l2 l3 l4 l5 h
    unfold wB_X2_fewestRepairs_69 at h
    obtain ⟨v7, hv7⟩ : ∃ y : Int32, y = l5 + (1 : Int32) := ⟨_, rfl⟩
    replace h := h v7 hv7
    refine v_iinc X (j := 4) (v := v7) (lv' := [(5, .int v7), (1, .ref l1), (2, .int l2), (3, .int l3), (4, .int l4)]) dX2_fewestRepairs_69 rfl (by rw [hv7] <;> rfl) (by decide) rfl ?_
    refine v_goto X (tgt := 7) dX2_fewestRepairs_72 (by decide) ?_
    refine v_lv (lv' := [(1, .ref l1), (2, .int l2), (3, .int l3), (4, .int l4), (5, .int v7)]) [1, 2, 3, 4, 0] rfl ?_
    exact hbk7 _ _ _ _ _ _ h
  have j48 : ∀ (bk7 : hp → Nat → Int32 → Int32 → Int32 → Int32 → Prop) (hbk7 : ∀ (S : hp) (l1 : Nat) (l2 : Int32) (l3 : Int32) (l4 : Int32) (l5 : Int32), bk7 S l1 l2 l3 l4 l5 → VM l b D cy 8 2 45 0 0 (pI Q) p e s m args below meth c S 0 0 7 [(1, .ref l1), (2, .int l2), (3, .int l3), (4, .int l4), (5, .int l5)] []) (S : hp) (l1 : Nat) (l2 : Int32) (l3 : Int32) (l4 : Int32) (l5 : Int32) (k0 : Int32), wB_X2_fewestRepairs_48 bk7 Q S l1 l2 l3 l4 l5 k0 → VM l b D cy 8 2 45 0 0 (pI Q) p e s m args below meth c S 0 0 48 [(1, .ref l1), (2, .int l2), (3, .int l3), (4, .int l4), (5, .int l5)] [.int k0] := by
    intro bk7 hbk7 S l1 l2 l3 l4 l5 k0 h
    unfold wB_X2_fewestRepairs_48 at h
    refine v_istore X (lv' := [(7, .int k0), (1, .ref l1), (2, .int l2), (3, .int l3), (4, .int l4), (5, .int l5)]) dX2_fewestRepairs_48 (by decide) rfl ?_
    refine v_iload X 0 dX2_fewestRepairs_50 rfl ?_
    refine v_if_eq X (tgt := 69) dX2_fewestRepairs_52 (by decide) (fun c6 => ?_) (fun c6 => ?_)
    · replace h := h.1 c6
      refine v_lv (lv' := [(1, .ref l1), (2, .int l2), (3, .int l3), (4, .int l4), (5, .int l5)]) [1, 2, 3, 4, 5] rfl ?_
      exact j69 bk7 hbk7 _ _ _ _ _ _ h
    · replace h := h.2 c6
      refine v_iload X 5 dX2_fewestRepairs_55 rfl ?_
      refine v_iload X 4 dX2_fewestRepairs_57 rfl ?_
      refine v_callS X (av := [.int l5, .int l4]) (s_X2_isFewer l b D cy h) wd663 wd664 wd60 k_X2_isFewer dn_X2_isFewer rfl ⟨Nat.le_of_ble_eq_true rfl, Nat.le_of_ble_eq_true rfl⟩ (Nat.le_of_ble_eq_true rfl) ⟨Nat.le_of_ble_eq_true rfl, Nat.le_of_ble_eq_true rfl⟩ dX2_fewestRepairs_59 rfl (kI (fun r9 S8 h => ?_))
      refine v_if_eq X (tgt := 69) dX2_fewestRepairs_62 (by decide) (fun c10 => ?_) (fun c10 => ?_)
      · replace h := h.1 c10
        refine v_lv (lv' := [(1, .ref l1), (2, .int l2), (3, .int l3), (4, .int l4), (5, .int l5)]) [1, 2, 3, 4, 5] rfl ?_
        exact j69 bk7 hbk7 _ _ _ _ _ _ h
      · replace h := h.2 c10
        refine v_iload X 5 dX2_fewestRepairs_65 rfl ?_
        refine v_istore X (lv' := [(4, .int l5), (7, .int k0), (1, .ref l1), (2, .int l2), (3, .int l3), (5, .int l5)]) dX2_fewestRepairs_67 (by decide) rfl ?_
        refine v_lv (lv' := [(1, .ref l1), (2, .int l2), (3, .int l3), (4, .int l5), (5, .int l5)]) [2, 3, 4, 0, 5] rfl ?_
        exact j69 bk7 hbk7 _ _ _ _ _ _ h
  have j47 : ∀ (bk7 : hp → Nat → Int32 → Int32 → Int32 → Int32 → Prop) (hbk7 : ∀ (S : hp) (l1 : Nat) (l2 : Int32) (l3 : Int32) (l4 : Int32) (l5 : Int32), bk7 S l1 l2 l3 l4 l5 → VM l b D cy 8 2 45 0 0 (pI Q) p e s m args below meth c S 0 0 7 [(1, .ref l1), (2, .int l2), (3, .int l3), (4, .int l4), (5, .int l5)] []) (S : hp) (l1 : Nat) (l2 : Int32) (l3 : Int32) (l4 : Int32) (l5 : Int32), wB_X2_fewestRepairs_47 bk7 Q S l1 l2 l3 l4 l5 → VM l b D cy 8 2 45 0 0 (pI Q) p e s m args below meth c S 0 0 47 [(1, .ref l1), (2, .int l2), (3, .int l3), (4, .int l4), (5, .int l5)] [] := by
    intro bk7 hbk7 S l1 l2 l3 l4 l5 h
    unfold wB_X2_fewestRepairs_47 at h
    refine v_iconst X (v := 0) dX2_fewestRepairs_47 (by decide) ?_
    exact j48 bk7 hbk7 _ _ _ _ _ _ _ h
  have j7 : ∀ (bk7 : hp → Nat → Int32 → Int32 → Int32 → Int32 → Prop) (hbk7 : ∀ (S : hp) (l1 : Nat) (l2 : Int32) (l3 : Int32) (l4 : Int32) (l5 : Int32), bk7 S l1 l2 l3 l4 l5 → VM l b D cy 8 2 45 0 0 (pI Q) p e s m args below meth c S 0 0 7 [(1, .ref l1), (2, .int l2), (3, .int l3), (4, .int l4), (5, .int l5)] []) (S : hp) (l1 : Nat) (l2 : Int32) (l3 : Int32) (l4 : Int32) (l5 : Int32), wB_X2_fewestRepairs_7 bk7 Q S l1 l2 l3 l4 l5 → VM l b D cy 8 2 45 0 0 (pI Q) p e s m args below meth c S 0 0 7 [(1, .ref l1), (2, .int l2), (3, .int l3), (4, .int l4), (5, .int l5)] [] := by
    intro bk7 hbk7 S l1 l2 l3 l4 l5 h
    unfold wB_X2_fewestRepairs_7 at h
    refine v_iload X 4 dX2_fewestRepairs_7 rfl ?_
    refine v_bipush X (v := 8) dX2_fewestRepairs_9 (by decide) ?_
    refine v_icmp_ge X (tgt := 75) dX2_fewestRepairs_11 (by decide) (fun c1 => ?_) (fun c1 => ?_)
    · replace h := h.1 c1
      refine v_iload X 3 dX2_fewestRepairs_75 rfl ?_
      exact v_iret X hr hlk ⟨_, rfl, h⟩ dX2_fewestRepairs_77
    · replace h := h.2 c1
      refine v_iload_n X 2 dX2_fewestRepairs_14 rfl rfl ?_
      refine v_aload_n X 0 dX2_fewestRepairs_15 rfl rfl ?_
      refine v_iload_n X 1 dX2_fewestRepairs_16 rfl rfl ?_
      refine v_iload X 4 dX2_fewestRepairs_17 rfl ?_
      refine v_callS X (av := [.ref l1, .int l2, .int l5]) (s_X2_sumWithout l b D cy h) wd756 wd757 wd60 k_X2_sumWithout dn_X2_sumWithout rfl ⟨Nat.le_of_ble_eq_true rfl, Nat.le_of_ble_eq_true rfl⟩ (Nat.le_of_ble_eq_true rfl) ⟨Nat.le_of_ble_eq_true rfl, Nat.le_of_ble_eq_true rfl⟩ dX2_fewestRepairs_19 rfl (kI (fun r3 S2 h => ?_))
      refine v_isub X dX2_fewestRepairs_22 ?_
      refine v_nm (fun v4 hv4 => ?_)
      replace h := h v4 hv4
      refine v_istore X (lv' := [(6, .int v4), (1, .ref l1), (2, .int l2), (3, .int l3), (4, .int l4), (5, .int l5)]) dX2_fewestRepairs_23 (by decide) rfl ?_
      refine v_iload X 0 dX2_fewestRepairs_25 rfl ?_
      refine v_if_lt X (tgt := 47) dX2_fewestRepairs_27 (by decide) (fun c5 => ?_) (fun c5 => ?_)
      · replace h := h.1 c5
        refine v_lv (lv' := [(1, .ref l1), (2, .int l2), (3, .int l3), (4, .int l4), (5, .int l5)]) [1, 2, 3, 4, 5] rfl ?_
        exact j47 bk7 hbk7 _ _ _ _ _ _ h
      · replace h := h.2 c5
        refine v_iload X 0 dX2_fewestRepairs_30 rfl ?_
        refine v_bipush X (v := 99) dX2_fewestRepairs_32 (by decide) ?_
        refine v_iload X 5 dX2_fewestRepairs_34 rfl ?_
        refine v_callS X (av := [.int l5]) (s_J6_bitCount_0f7a4 l b D cy h) wd666 wd653 wd72 k_J6_bitCount_0f7a4 dn_J6_bitCount_0f7a4 rfl ⟨Nat.le_of_ble_eq_true rfl, Nat.le_of_ble_eq_true rfl⟩ (Nat.le_of_ble_eq_true rfl) ⟨Nat.le_of_ble_eq_true rfl, Nat.le_of_ble_eq_true rfl⟩ dX2_fewestRepairs_36 rfl (kI (fun r12 S11 h => ?_))
        refine v_imul X dX2_fewestRepairs_39 ?_
        refine v_icmp_gt X (tgt := 47) dX2_fewestRepairs_40 (by decide) (fun c13 => ?_) (fun c13 => ?_)
        · replace h := h.1 c13
          refine v_lv (lv' := [(1, .ref l1), (2, .int l2), (3, .int l3), (4, .int l4), (5, .int l5)]) [1, 2, 3, 4, 5] rfl ?_
          exact j47 bk7 hbk7 _ _ _ _ _ _ h
        · replace h := h.2 c13
          refine v_iconst X (v := 1) dX2_fewestRepairs_43 (by decide) ?_
          refine v_goto X (tgt := 48) dX2_fewestRepairs_44 (by decide) ?_
          refine v_lv (lv' := [(1, .ref l1), (2, .int l2), (3, .int l3), (4, .int l4), (5, .int l5)]) [1, 2, 3, 4, 5] rfl ?_
          exact j48 bk7 hbk7 _ _ _ _ _ _ _ h
  have l7 : ∀  (n : Nat) (S : hp) (l1 : Nat) (l2 : Int32) (l3 : Int32) (l4 : Int32) (l5 : Int32), wl_X2_fewestRepairs_7 Q n S l1 l2 l3 l4 l5 → VM l b D cy 8 2 45 0 0 (pI Q) p e s m args below meth c S 0 0 7 [(1, .ref l1), (2, .int l2), (3, .int l3), (4, .int l4), (5, .int l5)] [] := by
    intro  n
    induction n with
    | zero => intro S l1 l2 l3 l4 l5 h; exact h.elim
    | succ n ih => intro S l1 l2 l3 l4 l5 h; exact j7 (wl_X2_fewestRepairs_7 Q n) ih S l1 l2 l3 l4 l5 h
  unfold wp_X2_fewestRepairs at h
  show VM l b D cy 8 2 45 0 0 (pI Q) p e s m args below meth c S 0 0 0 [(0, .ref a0), (1, .ref a1), (2, .int x2), (3, .int x3)] []
  refine v_ldc X wd662 dX2_fewestRepairs_0 ?_
  refine v_istore X (lv' := [(4, .int (-1000000 : Int32)), (0, .ref a0), (1, .ref a1), (2, .int x2), (3, .int x3)]) dX2_fewestRepairs_2 (by decide) rfl ?_
  refine v_iconst X (v := 0) dX2_fewestRepairs_4 (by decide) ?_
  refine v_istore X (lv' := [(5, .int (0 : Int32)), (4, .int (-1000000 : Int32)), (0, .ref a0), (1, .ref a1), (2, .int x2), (3, .int x3)]) dX2_fewestRepairs_5 (by decide) rfl ?_
  refine v_lv (lv' := [(1, .ref a1), (2, .int x2), (3, .int x3), (4, .int (-1000000 : Int32)), (5, .int (0 : Int32))]) [3, 4, 5, 1, 0] rfl ?_
  obtain ⟨n, h⟩ := h
  exact l7 n _ _ _ _ _ _ h
def wB_X11_addedUp_59 (Q : Int32 → hp → Prop) (S : hp) (l4 : Int32) : Prop :=
  Q l4 S
def wp_X11_addedUp (Q : Int32 → hp → Prop) (S : hp) (a0 : Nat) (x1 : Int32) (x2 : Int32) (x3 : Int32) : Prop :=
  hK S a0 = 10 ∧ ∃ r2 : Nat, hR S a0 2 = some r2 ∧ hK S r2 = 7 ∧ wp_X8_hasDummy (fun r5 S3 => ((r5 = 0 → Q (-1000001 : Int32) S3) ∧ (¬ r5 = 0 → ((x2 < 0 → Q (-1000001 : Int32) S3) ∧ (¬ x2 < 0 → (((297 : Int32) < x2 → Q (-1000001 : Int32) S3) ∧ (¬ (297 : Int32) < x2 → wp_X11_isFirstOrSecond (fun r10 S9 => ((¬ r10 = 0 → hK S9 a0 = 10 ∧ ∃ r13 : Nat, hR S9 a0 4 = some r13 ∧ ∃ r14 : Nat, hR S9 a0 2 = some r14 ∧ hK S9 r13 = 2 ∧ wp_X2_fewestRepairs (fun r17 S15 => ((r17 = (-1000000 : Int32) → wB_X11_addedUp_59 Q S15 r17) ∧ (¬ r17 = (-1000000 : Int32) → ((¬ x3 = (1 : Int32) → wp_J6_bitCount_0f7a4 (fun r21 S20 => Q r21 S20) S15 r17) ∧ (x3 = (1 : Int32) → wB_X11_addedUp_59 Q S15 r17))))) S9 r13 r14 x1 x2) ∧ (r10 = 0 → Q (-1000001 : Int32) S9))) S3 x3))))))) S r2 x1
theorem k_X11_addedUp : Cond.code yX11_addedUp cX11_addedUp 5 (some .int) ∈ gtb := mg 751 (by decide +kernel) (by decide +kernel)
theorem dn_X11_addedUp : yX11_addedUp.cls ≠ "java/lang/invoke/MethodHandle" ∧ yX11_addedUp.cls ≠ "java/lang/invoke/VarHandle" ∧ (parseMethodDescriptor yX11_addedUp.desc).map (fun d => d.parameters.length) = some 3 := by decide +kernel
set_option maxRecDepth 100000 in
set_option maxHeartbeats 4000000 in
theorem s_X11_addedUp (l : Launch) (b : Nat) (D : va_G) (cy : Nat → ClassId) {Q : Int32 → hp → Prop} {S : hp} {a0 : Nat} {x1 : Int32} {x2 : Int32} {x3 : Int32} (h : wp_X11_addedUp Q S a0 x1 x2 x3) : MT l yX11_addedUp cX11_addedUp 5 (some .int) 3 72 0 0 b D cy S [.ref a0, .int x1, .int x2, .int x3] (pI Q) := by
  refine MT.of (by decide +kernel) (Nat.le_of_ble_eq_true rfl) ?_
  intro p e s m args below meth c X hr hlk hnm
  have j59 : ∀  (S : hp) (l4 : Int32), wB_X11_addedUp_59 Q S l4 → VM l b D cy 5 3 72 0 0 (pI Q) p e s m args below meth c S 0 0 59 [(4, .int l4)] [] := by
    intro  S l4 h
    unfold wB_X11_addedUp_59 at h
    refine v_iload X 0 dX11_addedUp_59 rfl ?_
    refine v_goto X (tgt := 69) dX11_addedUp_61 (by decide) ?_
    exact v_iret X hr hlk ⟨_, rfl, h⟩ dX11_addedUp_69
  unfold wp_X11_addedUp at h
  show VM l b D cy 5 3 72 0 0 (pI Q) p e s m args below meth c S 0 0 0 [(0, .ref a0), (1, .int x1), (2, .int x2), (3, .int x3)] []
  refine v_aload_n X 0 dX11_addedUp_0 rfl rfl ?_
  obtain ⟨hk1, h⟩ := h
  obtain ⟨r2, hr2, h⟩ := h
  refine v_getR X (T := TX11) (N := 12) (k := 2) hk1 (by decide) rfl (by decide) inX11 wd217 rfl dX11_addedUp_1 hr2 ?_
  refine v_iload_n X 1 dX11_addedUp_4 rfl rfl ?_
  obtain ⟨hk4, h⟩ := h
  refine v_callV X (av := [.int x1]) (T := TX8) (N := 10) (s_X8_hasDummy l b D cy h) hk4 (by decide) rfl wd561 wd488 wd489 wd59 k_X8_hasDummy dn_X8_hasDummy rfl ⟨Nat.le_of_ble_eq_true rfl, Nat.le_of_ble_eq_true rfl⟩ (Nat.le_of_ble_eq_true rfl) ⟨Nat.le_of_ble_eq_true rfl, Nat.le_of_ble_eq_true rfl⟩ dX11_addedUp_5 rfl (kI (fun r5 S3 h => ?_))
  refine v_if_eq X (tgt := 29) dX11_addedUp_8 (by decide) (fun c6 => ?_) (fun c6 => ?_)
  · replace h := h.1 c6
    refine v_ldc X wd262 dX11_addedUp_29 ?_
    exact v_iret X hr hlk ⟨_, rfl, h⟩ dX11_addedUp_31
  · replace h := h.2 c6
    refine v_iload_n X 2 dX11_addedUp_11 rfl rfl ?_
    refine v_if_lt X (tgt := 29) dX11_addedUp_12 (by decide) (fun c7 => ?_) (fun c7 => ?_)
    · replace h := h.1 c7
      refine v_ldc X wd262 dX11_addedUp_29 ?_
      exact v_iret X hr hlk ⟨_, rfl, h⟩ dX11_addedUp_31
    · replace h := h.2 c7
      refine v_iload_n X 2 dX11_addedUp_15 rfl rfl ?_
      refine v_sipush X (v := 297) dX11_addedUp_16 (by decide) ?_
      refine v_icmp_gt X (tgt := 29) dX11_addedUp_19 (by decide) (fun c8 => ?_) (fun c8 => ?_)
      · replace h := h.1 c8
        refine v_ldc X wd262 dX11_addedUp_29 ?_
        exact v_iret X hr hlk ⟨_, rfl, h⟩ dX11_addedUp_31
      · replace h := h.2 c8
        refine v_iload_n X 3 dX11_addedUp_22 rfl rfl ?_
        refine v_callS X (av := [.int x3]) (s_X11_isFirstOrSecond l b D cy h) wd619 wd620 wd56 k_X11_isFirstOrSecond dn_X11_isFirstOrSecond rfl ⟨Nat.le_of_ble_eq_true rfl, Nat.le_of_ble_eq_true rfl⟩ (Nat.le_of_ble_eq_true rfl) ⟨Nat.le_of_ble_eq_true rfl, Nat.le_of_ble_eq_true rfl⟩ dX11_addedUp_23 rfl (kI (fun r10 S9 h => ?_))
        refine v_if_ne X (tgt := 32) dX11_addedUp_26 (by decide) (fun c11 => ?_) (fun c11 => ?_)
        · replace h := h.1 c11
          refine v_aload_n X 0 dX11_addedUp_32 rfl rfl ?_
          obtain ⟨hk12, h⟩ := h
          obtain ⟨r13, hr13, h⟩ := h
          refine v_getR X (T := TX11) (N := 12) (k := 4) hk12 (by decide) rfl (by decide) inX11 wd219 rfl dX11_addedUp_33 hr13 ?_
          refine v_aload_n X 0 dX11_addedUp_36 rfl rfl ?_
          obtain ⟨r14, hr14, h⟩ := h
          refine v_getR X (T := TX11) (N := 12) (k := 2) hk12 (by decide) rfl (by decide) inX11 wd217 rfl dX11_addedUp_37 hr14 ?_
          refine v_iload_n X 1 dX11_addedUp_40 rfl rfl ?_
          refine v_iload_n X 2 dX11_addedUp_41 rfl rfl ?_
          obtain ⟨hk16, h⟩ := h
          refine v_callV X (av := [.ref r14, .int x1, .int x2]) (T := TX2) (N := 2) (s_X2_fewestRepairs l b D cy h) hk16 (by decide) rfl wd752 wd753 wd754 wd60 k_X2_fewestRepairs dn_X2_fewestRepairs rfl ⟨Nat.le_of_ble_eq_true rfl, Nat.le_of_ble_eq_true rfl⟩ (Nat.le_of_ble_eq_true rfl) ⟨Nat.le_of_ble_eq_true rfl, Nat.le_of_ble_eq_true rfl⟩ dX11_addedUp_42 rfl (kI (fun r17 S15 h => ?_))
          refine v_istore X (lv' := [(4, .int r17), (0, .ref a0), (1, .int x1), (2, .int x2), (3, .int x3)]) dX11_addedUp_45 (by decide) rfl ?_
          refine v_iload X 0 dX11_addedUp_47 rfl ?_
          refine v_ldc X wd671 dX11_addedUp_49 ?_
          refine v_icmp_eq X (tgt := 59) dX11_addedUp_51 (by decide) (fun c18 => ?_) (fun c18 => ?_)
          · replace h := h.1 c18
            refine v_lv (lv' := [(4, .int r17)]) [0] rfl ?_
            exact j59 _ _ h
          · replace h := h.2 c18
            refine v_iload_n X 4 dX11_addedUp_54 rfl rfl ?_
            refine v_iconst X (v := 1) dX11_addedUp_55 (by decide) ?_
            refine v_icmp_ne X (tgt := 64) dX11_addedUp_56 (by decide) (fun c19 => ?_) (fun c19 => ?_)
            · replace h := h.1 c19
              refine v_iload X 0 dX11_addedUp_64 rfl ?_
              refine v_callS X (av := [.int r17]) (s_J6_bitCount_0f7a4 l b D cy h) wd652 wd653 wd72 k_J6_bitCount_0f7a4 dn_J6_bitCount_0f7a4 rfl ⟨Nat.le_of_ble_eq_true rfl, Nat.le_of_ble_eq_true rfl⟩ (Nat.le_of_ble_eq_true rfl) ⟨Nat.le_of_ble_eq_true rfl, Nat.le_of_ble_eq_true rfl⟩ dX11_addedUp_66 rfl (kI (fun r21 S20 h => ?_))
              exact v_iret X hr hlk ⟨_, rfl, h⟩ dX11_addedUp_69
            · replace h := h.2 c19
              refine v_lv (lv' := [(4, .int r17)]) [0] rfl ?_
              exact j59 _ _ h
        · replace h := h.2 c11
          refine v_ldc X wd262 dX11_addedUp_29 ?_
          exact v_iret X hr hlk ⟨_, rfl, h⟩ dX11_addedUp_31
def wB_X2_stripsOf_47 (bk5 : hp → Nat → Int32 → Int32 → Int32 → Int32 → Prop) (Q : Int32 → hp → Prop) (S : hp) (l0 : Nat) (l1 : Int32) (l2 : Int32) (l4 : Int32) (k0 : Int32) (k1 : Int32) : Prop :=
  ∀ v12 : Int32, v12 = (k1 + k0) → ∀ v13 : Int32, v13 = l4 + (1 : Int32) → bk5 S l0 l1 l2 v12 v13
def wB_X2_stripsOf_5 (bk5 : hp → Nat → Int32 → Int32 → Int32 → Int32 → Prop) (Q : Int32 → hp → Prop) (S : hp) (l0 : Nat) (l1 : Int32) (l2 : Int32) (l3 : Int32) (l4 : Int32) : Prop :=
  hK S l0 = 7 ∧ (((hI S l0 7) ≤ l4 → Q l3 S) ∧ (¬ (hI S l0 7) ≤ l4 → ∃ r3 : Nat, hR S l0 0 = some r3 ∧ wp_X8_at (fun r5 S4 => hK S4 r3 = 12 ∧ vp_in r5 (hN S4 r3) ∧ ∀ v8 : Int32, v8 = (if (hI S4 r3 (r5).toNatClampNeg) < (0 : Int32) then (0 : Int32) else (hI S4 r3 (r5).toNatClampNeg)) → wp_X2_has (fun r10 S9 => ((r10 = 0 → wB_X2_stripsOf_47 bk5 Q S9 l0 l1 l2 l4 (0 : Int32) l3) ∧ (¬ r10 = 0 → wB_X2_stripsOf_47 bk5 Q S9 l0 l1 l2 l4 v8 l3))) S4 l2 l4) S l4 l1))
def wl_X2_stripsOf_5 (Q : Int32 → hp → Prop) : Nat → hp → Nat → Int32 → Int32 → Int32 → Int32 → Prop
  | 0 => fun _ _ _ _ _ _ => False
  | n + 1 => wB_X2_stripsOf_5 (wl_X2_stripsOf_5 Q n) Q
def wp_X2_stripsOf (Q : Int32 → hp → Prop) (S : hp) (a0 : Nat) (x1 : Int32) (x2 : Int32) : Prop :=
  ∃ n : Nat, wl_X2_stripsOf_5 Q n S a0 x1 x2 (0 : Int32) (0 : Int32)
theorem k_X2_stripsOf : Cond.code yX2_stripsOf cX2_stripsOf 6 (some .int) ∈ gtb := mg 769 (by decide +kernel) (by decide +kernel)
theorem dn_X2_stripsOf : yX2_stripsOf.cls ≠ "java/lang/invoke/MethodHandle" ∧ yX2_stripsOf.cls ≠ "java/lang/invoke/VarHandle" ∧ (parseMethodDescriptor yX2_stripsOf.desc).map (fun d => d.parameters.length) = some 3 := by decide +kernel
set_option maxRecDepth 100000 in
set_option maxHeartbeats 4000000 in
theorem s_X2_stripsOf (l : Launch) (b : Nat) (D : va_G) (cy : Nat → ClassId) {Q : Int32 → hp → Prop} {S : hp} {a0 : Nat} {x1 : Int32} {x2 : Int32} (h : wp_X2_stripsOf Q S a0 x1 x2) : MT l yX2_stripsOf cX2_stripsOf 6 (some .int) 1 21 0 0 b D cy S [.ref a0, .int x1, .int x2] (pI Q) := by
  refine MT.of (by decide +kernel) (Nat.le_of_ble_eq_true rfl) ?_
  intro p e s m args below meth c X hr hlk hnm
  have j47 : ∀ (bk5 : hp → Nat → Int32 → Int32 → Int32 → Int32 → Prop) (hbk5 : ∀ (S : hp) (l0 : Nat) (l1 : Int32) (l2 : Int32) (l3 : Int32) (l4 : Int32), bk5 S l0 l1 l2 l3 l4 → VM l b D cy 6 1 21 0 0 (pI Q) p e s m args below meth c S 0 0 5 [(0, .ref l0), (1, .int l1), (2, .int l2), (3, .int l3), (4, .int l4)] []) (S : hp) (l0 : Nat) (l1 : Int32) (l2 : Int32) (l4 : Int32) (k0 : Int32) (k1 : Int32), wB_X2_stripsOf_47 bk5 Q S l0 l1 l2 l4 k0 k1 → VM l b D cy 6 1 21 0 0 (pI Q) p e s m args below meth c S 0 0 47 [(0, .ref l0), (1, .int l1), (2, .int l2), (4, .int l4)] [.int k0, .int k1] := by
    intro bk5 hbk5 S l0 l1 l2 l4 k0 k1 h
    unfold wB_X2_stripsOf_47 at h
    refine v_iadd X dX2_stripsOf_47 ?_
    refine v_nm (fun v12 hv12 => ?_)
    replace h := h v12 hv12
    refine v_istore_n X (lv' := [(3, .int v12), (0, .ref l0), (1, .int l1), (2, .int l2), (4, .int l4)]) dX2_stripsOf_48 rfl (by decide) rfl ?_
    obtain ⟨v13, hv13⟩ : ∃ y : Int32, y = l4 + (1 : Int32) := ⟨_, rfl⟩
    replace h := h v13 hv13
    refine v_iinc X (j := 4) (v := v13) (lv' := [(4, .int v13), (3, .int v12), (0, .ref l0), (1, .int l1), (2, .int l2)]) dX2_stripsOf_49 rfl (by rw [hv13] <;> rfl) (by decide) rfl ?_
    refine v_goto X (tgt := 5) dX2_stripsOf_52 (by decide) ?_
    refine v_lv (lv' := [(0, .ref l0), (1, .int l1), (2, .int l2), (3, .int v12), (4, .int v13)]) [2, 3, 4, 1, 0] rfl ?_
    exact hbk5 _ _ _ _ _ _ h
  have j5 : ∀ (bk5 : hp → Nat → Int32 → Int32 → Int32 → Int32 → Prop) (hbk5 : ∀ (S : hp) (l0 : Nat) (l1 : Int32) (l2 : Int32) (l3 : Int32) (l4 : Int32), bk5 S l0 l1 l2 l3 l4 → VM l b D cy 6 1 21 0 0 (pI Q) p e s m args below meth c S 0 0 5 [(0, .ref l0), (1, .int l1), (2, .int l2), (3, .int l3), (4, .int l4)] []) (S : hp) (l0 : Nat) (l1 : Int32) (l2 : Int32) (l3 : Int32) (l4 : Int32), wB_X2_stripsOf_5 bk5 Q S l0 l1 l2 l3 l4 → VM l b D cy 6 1 21 0 0 (pI Q) p e s m args below meth c S 0 0 5 [(0, .ref l0), (1, .int l1), (2, .int l2), (3, .int l3), (4, .int l4)] [] := by
    intro bk5 hbk5 S l0 l1 l2 l3 l4 h
    unfold wB_X2_stripsOf_5 at h
    refine v_iload X 4 dX2_stripsOf_5 rfl ?_
    refine v_aload_n X 0 dX2_stripsOf_7 rfl rfl ?_
    obtain ⟨hk1, h⟩ := h
    refine v_getI X (T := TX8) (N := 10) (k := 7) hk1 (by decide) rfl (by decide) inX8 wd156 rfl dX2_stripsOf_8 ?_
    refine v_icmp_ge X (tgt := 55) dX2_stripsOf_11 (by decide) (fun c2 => ?_) (fun c2 => ?_)
    · replace h := h.1 c2
      refine v_iload_n X 3 dX2_stripsOf_55 rfl rfl ?_
      exact v_iret X hr hlk ⟨_, rfl, h⟩ dX2_stripsOf_56
    · replace h := h.2 c2
      refine v_aload_n X 0 dX2_stripsOf_14 rfl rfl ?_
      obtain ⟨r3, hr3, h⟩ := h
      refine v_getR X (T := TX8) (N := 10) (k := 0) hk1 (by decide) rfl (by decide) inX8 wd142 rfl dX2_stripsOf_15 hr3 ?_
      refine v_iload X 4 dX2_stripsOf_18 rfl ?_
      refine v_iload_n X 1 dX2_stripsOf_20 rfl rfl ?_
      refine v_callS X (av := [.int l4, .int l1]) (s_X8_at l b D cy h) wd640 wd384 wd59 k_X8_at dn_X8_at rfl ⟨Nat.le_of_ble_eq_true rfl, Nat.le_of_ble_eq_true rfl⟩ (Nat.le_of_ble_eq_true rfl) ⟨Nat.le_of_ble_eq_true rfl, Nat.le_of_ble_eq_true rfl⟩ dX2_stripsOf_21 rfl (kI (fun r5 S4 h => ?_))
      obtain ⟨hk6, h⟩ := h
      obtain ⟨hi7, h⟩ := h
      refine v_iald X hk6 hi7 dX2_stripsOf_24 ?_
      refine v_iconst X (v := 0) dX2_stripsOf_25 (by decide) ?_
      refine v_mmax X wd680 wd563 wd71 wd564 (Nat.le_of_ble_eq_true rfl) (Nat.le_of_ble_eq_true rfl) (Nat.le_of_ble_eq_true rfl) (Nat.le_of_ble_eq_true rfl) dX2_stripsOf_26 ?_
      refine v_nm (fun v8 hv8 => ?_)
      replace h := h v8 hv8
      refine v_istore X (lv' := [(5, .int v8), (0, .ref l0), (1, .int l1), (2, .int l2), (3, .int l3), (4, .int l4)]) dX2_stripsOf_29 (by decide) rfl ?_
      refine v_iload_n X 4 dX2_stripsOf_31 rfl rfl ?_
      refine v_iload_n X 3 dX2_stripsOf_32 rfl rfl ?_
      refine v_iload X 5 dX2_stripsOf_33 rfl ?_
      refine v_callS X (av := [.int l2, .int l4]) (s_X2_has l b D cy h) wd645 wd646 wd60 k_X2_has dn_X2_has rfl ⟨Nat.le_of_ble_eq_true rfl, Nat.le_of_ble_eq_true rfl⟩ (Nat.le_of_ble_eq_true rfl) ⟨Nat.le_of_ble_eq_true rfl, Nat.le_of_ble_eq_true rfl⟩ dX2_stripsOf_35 rfl (kI (fun r10 S9 h => ?_))
      refine v_if_eq X (tgt := 46) dX2_stripsOf_38 (by decide) (fun c11 => ?_) (fun c11 => ?_)
      · replace h := h.1 c11
        refine v_iconst X (v := 0) dX2_stripsOf_46 (by decide) ?_
        refine v_lv (lv' := [(0, .ref l0), (1, .int l1), (2, .int l2), (4, .int l4)]) [1, 2, 3, 5] rfl ?_
        exact j47 bk5 hbk5 _ _ _ _ _ _ _ h
      · replace h := h.2 c11
        refine v_iload X 0 dX2_stripsOf_41 rfl ?_
        refine v_goto X (tgt := 47) dX2_stripsOf_43 (by decide) ?_
        refine v_lv (lv' := [(0, .ref l0), (1, .int l1), (2, .int l2), (4, .int l4)]) [1, 2, 3, 5] rfl ?_
        exact j47 bk5 hbk5 _ _ _ _ _ _ _ h
  have l5 : ∀  (n : Nat) (S : hp) (l0 : Nat) (l1 : Int32) (l2 : Int32) (l3 : Int32) (l4 : Int32), wl_X2_stripsOf_5 Q n S l0 l1 l2 l3 l4 → VM l b D cy 6 1 21 0 0 (pI Q) p e s m args below meth c S 0 0 5 [(0, .ref l0), (1, .int l1), (2, .int l2), (3, .int l3), (4, .int l4)] [] := by
    intro  n
    induction n with
    | zero => intro S l0 l1 l2 l3 l4 h; exact h.elim
    | succ n ih => intro S l0 l1 l2 l3 l4 h; exact j5 (wl_X2_stripsOf_5 Q n) ih S l0 l1 l2 l3 l4 h
  unfold wp_X2_stripsOf at h
  show VM l b D cy 6 1 21 0 0 (pI Q) p e s m args below meth c S 0 0 0 [(0, .ref a0), (1, .int x1), (2, .int x2)] []
  refine v_iconst X (v := 0) dX2_stripsOf_0 (by decide) ?_
  refine v_istore_n X (lv' := [(3, .int (0 : Int32)), (0, .ref a0), (1, .int x1), (2, .int x2)]) dX2_stripsOf_1 rfl (by decide) rfl ?_
  refine v_iconst X (v := 0) dX2_stripsOf_2 (by decide) ?_
  refine v_istore X (lv' := [(4, .int (0 : Int32)), (3, .int (0 : Int32)), (0, .ref a0), (1, .int x1), (2, .int x2)]) dX2_stripsOf_3 (by decide) rfl ?_
  refine v_lv (lv' := [(0, .ref a0), (1, .int x1), (2, .int x2), (3, .int (0 : Int32)), (4, .int (0 : Int32))]) [2, 3, 4, 1, 0] rfl ?_
  obtain ⟨n, h⟩ := h
  exact l5 n _ _ _ _ _ _ h
def wp_X2_fewer (Q : Int32 → hp → Prop) (S : hp) (x0 : Int32) (x1 : Int32) : Prop :=
  ((¬ x0 = (-1000000 : Int32) → Q (if x1 < x0 then x1 else x0) S) ∧ (x0 = (-1000000 : Int32) → Q x1 S))
theorem k_X2_fewer : Cond.code yX2_fewer cX2_fewer 2 (some .int) ∈ gtb := mg 772 (by decide +kernel) (by decide +kernel)
theorem dn_X2_fewer : yX2_fewer.cls ≠ "java/lang/invoke/MethodHandle" ∧ yX2_fewer.cls ≠ "java/lang/invoke/VarHandle" ∧ (parseMethodDescriptor yX2_fewer.desc).map (fun d => d.parameters.length) = some 2 := by decide +kernel
set_option maxRecDepth 100000 in
set_option maxHeartbeats 4000000 in
theorem s_X2_fewer (l : Launch) (b : Nat) (D : va_G) (cy : Nat → ClassId) {Q : Int32 → hp → Prop} {S : hp} {x0 : Int32} {x1 : Int32} (h : wp_X2_fewer Q S x0 x1) : MT l yX2_fewer cX2_fewer 2 (some .int) 1 21 0 0 b D cy S [.int x0, .int x1] (pI Q) := by
  refine MT.of (by decide +kernel) (Nat.le_of_ble_eq_true rfl) ?_
  intro p e s m args below meth c X hr hlk hnm
  unfold wp_X2_fewer at h
  show VM l b D cy 2 1 21 0 0 (pI Q) p e s m args below meth c S 0 0 0 [(0, .int x0), (1, .int x1)] []
  refine v_iload_n X 0 dX2_fewer_0 rfl rfl ?_
  refine v_ldc X wd662 dX2_fewer_1 ?_
  refine v_icmp_ne X (tgt := 10) dX2_fewer_3 (by decide) (fun c1 => ?_) (fun c1 => ?_)
  · replace h := h.1 c1
    refine v_iload_n X 0 dX2_fewer_10 rfl rfl ?_
    refine v_iload_n X 1 dX2_fewer_11 rfl rfl ?_
    refine v_mmin X wd773 wd533 wd71 wd534 (Nat.le_of_ble_eq_true rfl) (Nat.le_of_ble_eq_true rfl) (Nat.le_of_ble_eq_true rfl) (Nat.le_of_ble_eq_true rfl) dX2_fewer_12 ?_
    exact v_iret X hr hlk ⟨_, rfl, h⟩ dX2_fewer_15
  · replace h := h.2 c1
    refine v_iload_n X 1 dX2_fewer_6 rfl rfl ?_
    refine v_goto X (tgt := 15) dX2_fewer_7 (by decide) ?_
    exact v_iret X hr hlk ⟨_, rfl, h⟩ dX2_fewer_15
