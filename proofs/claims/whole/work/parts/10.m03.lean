def wB_X8_shrinkAll_49 (bk4 : hp → Nat → Int32 → Int32 → Prop) (Q : Int32 → hp → Prop) (S : hp) (l0 : Nat) (l1 : Int32) (l2 : Int32) (k0 : Int32) : Prop :=
  hK S l0 = 7 ∧ ∃ r12 : Nat, hR S l0 0 = some r12 ∧ hK S r12 = 12 ∧ vp_in l2 (hN S r12) ∧ ∀ S15 : hp, S15 = setI S r12 (l2).toNatClampNeg ((hI S r12 (l2).toNatClampNeg) - k0) → ∀ v20 : Int32, v20 = (l1 + k0) → ∀ v21 : Int32, v21 = l2 + (1 : Int32) → bk4 S15 l0 v20 v21
def wB_X8_shrinkAll_48 (bk4 : hp → Nat → Int32 → Int32 → Prop) (Q : Int32 → hp → Prop) (S : hp) (l0 : Nat) (l1 : Int32) (l2 : Int32) : Prop :=
  wB_X8_shrinkAll_49 bk4 Q S l0 l1 l2 (0 : Int32)
def wB_X8_shrinkAll_4 (bk4 : hp → Nat → Int32 → Int32 → Prop) (Q : Int32 → hp → Prop) (S : hp) (l0 : Nat) (l1 : Int32) (l2 : Int32) : Prop :=
  hK S l0 = 7 ∧ ((((3 : Int32) * (hI S l0 7)) ≤ l2 → Q l1 S) ∧ (¬ ((3 : Int32) * (hI S l0 7)) ≤ l2 → ∃ r3 : Nat, hR S l0 0 = some r3 ∧ hK S r3 = 12 ∧ vp_in l2 (hN S r3) ∧ ∃ r6 : Nat, hR S l0 1 = some r6 ∧ hK S r6 = 12 ∧ vp_in l2 (hN S r6) ∧ ∀ v9 : Int32, v9 = ((hI S r3 (l2).toNatClampNeg) - (hI S r6 (l2).toNatClampNeg)) → ((v9 ≤ 0 → wB_X8_shrinkAll_48 bk4 Q S l0 l1 l2) ∧ (¬ v9 ≤ 0 → (((hI S l0 6) ≤ 0 → wB_X8_shrinkAll_48 bk4 Q S l0 l1 l2) ∧ (¬ (hI S l0 6) ≤ 0 → ¬ (hI S l0 6) = 0 ∧ wB_X8_shrinkAll_49 bk4 Q S l0 l1 l2 ((v9 / (hI S l0 6)))))))))
def wl_X8_shrinkAll_4 (Q : Int32 → hp → Prop) : Nat → hp → Nat → Int32 → Int32 → Prop
  | 0 => fun _ _ _ _ => False
  | n + 1 => wB_X8_shrinkAll_4 (wl_X8_shrinkAll_4 Q n) Q
def wp_X8_shrinkAll (Q : Int32 → hp → Prop) (S : hp) (a0 : Nat) : Prop :=
  ∃ n : Nat, wl_X8_shrinkAll_4 Q n S a0 (0 : Int32) (0 : Int32)
theorem k_X8_shrinkAll : Cond.code yX8_shrinkAll cX8_shrinkAll 5 (some .int) ∈ gtb := mg 556 (by decide +kernel) (by decide +kernel)
theorem dn_X8_shrinkAll : yX8_shrinkAll.cls ≠ "java/lang/invoke/MethodHandle" ∧ yX8_shrinkAll.cls ≠ "java/lang/invoke/VarHandle" ∧ (parseMethodDescriptor yX8_shrinkAll.desc).map (fun d => d.parameters.length) = some 0 := by decide +kernel
set_option maxRecDepth 100000 in
set_option maxHeartbeats 4000000 in
theorem s_X8_shrinkAll (l : Launch) (b : Nat) (D : va_G) (cy : Nat → ClassId) {Q : Int32 → hp → Prop} {S : hp} {a0 : Nat} (h : wp_X8_shrinkAll Q S a0) : MT l yX8_shrinkAll cX8_shrinkAll 5 (some .int) 0 0 0 0 b D cy S [.ref a0] (pI Q) := by
  refine MT.of (by decide +kernel) (Nat.le_of_ble_eq_true rfl) ?_
  intro p e s m args below meth c X hr hlk hnm
  have j49 : ∀ (bk4 : hp → Nat → Int32 → Int32 → Prop) (hbk4 : ∀ (S : hp) (l0 : Nat) (l1 : Int32) (l2 : Int32), bk4 S l0 l1 l2 → VM l b D cy 5 0 0 0 0 (pI Q) p e s m args below meth c S 0 0 4 [(0, .ref l0), (1, .int l1), (2, .int l2)] []) (S : hp) (l0 : Nat) (l1 : Int32) (l2 : Int32) (k0 : Int32), wB_X8_shrinkAll_49 bk4 Q S l0 l1 l2 k0 → VM l b D cy 5 0 0 0 0 (pI Q) p e s m args below meth c S 0 0 49 [(0, .ref l0), (1, .int l1), (2, .int l2)] [.int k0] := by
    intro bk4 hbk4 S l0 l1 l2 k0 h
    unfold wB_X8_shrinkAll_49 at h
    refine v_istore X (lv' := [(4, .int k0), (0, .ref l0), (1, .int l1), (2, .int l2)]) dX8_shrinkAll_49 (by decide) rfl ?_
    refine v_aload_n X 1 dX8_shrinkAll_51 rfl rfl ?_
    obtain ⟨hk11, h⟩ := h
    obtain ⟨r12, hr12, h⟩ := h
    refine v_getR X (T := TX8) (N := 10) (k := 0) hk11 (by decide) rfl (by decide) inX8 wd140 rfl dX8_shrinkAll_52 hr12 ?_
    refine v_iload_n X 3 dX8_shrinkAll_55 rfl rfl ?_
    refine v_dup2 X dX8_shrinkAll_56 rfl rfl ?_
    obtain ⟨hk13, h⟩ := h
    obtain ⟨hi14, h⟩ := h
    refine v_iald X hk13 hi14 dX8_shrinkAll_57 ?_
    refine v_iload X 0 dX8_shrinkAll_58 rfl ?_
    refine v_isub X dX8_shrinkAll_60 ?_
    refine v_iast X hk13 hi14 dX8_shrinkAll_61 ?_
    refine v_nmS (fun S15 eS15 => ?_)
    replace h := h S15 eS15
    have hk16 : hK S15 l0 = 7 := by rw [eS15]; exact hk11
    have hk17 : hK S15 r12 = 12 := by rw [eS15]; exact hk13
    have hi18 : vp_in l2 (hN S15 r12) := by rw [eS15]; exact hi14
    have hr19 : hR S15 l0 0 = some r12 := by rw [eS15]; exact hr12
    refine v_iload_n X 2 dX8_shrinkAll_62 rfl rfl ?_
    refine v_iload X 0 dX8_shrinkAll_63 rfl ?_
    refine v_iadd X dX8_shrinkAll_65 ?_
    refine v_nm (fun v20 hv20 => ?_)
    replace h := h v20 hv20
    refine v_istore_n X (lv' := [(1, .int v20), (4, .int k0), (0, .ref l0), (2, .int l2)]) dX8_shrinkAll_66 rfl (by decide) rfl ?_
    obtain ⟨v21, hv21⟩ : ∃ y : Int32, y = l2 + (1 : Int32) := ⟨_, rfl⟩
    replace h := h v21 hv21
    refine v_iinc X (j := 3) (v := v21) (lv' := [(2, .int v21), (1, .int v20), (4, .int k0), (0, .ref l0)]) dX8_shrinkAll_67 rfl (by rw [hv21] <;> rfl) (by decide) rfl ?_
    refine v_goto X (tgt := 4) dX8_shrinkAll_70 (by decide) ?_
    refine v_lv (lv' := [(0, .ref l0), (1, .int v20), (2, .int v21)]) [3, 1, 0] rfl ?_
    exact hbk4 _ _ _ _ h
  have j48 : ∀ (bk4 : hp → Nat → Int32 → Int32 → Prop) (hbk4 : ∀ (S : hp) (l0 : Nat) (l1 : Int32) (l2 : Int32), bk4 S l0 l1 l2 → VM l b D cy 5 0 0 0 0 (pI Q) p e s m args below meth c S 0 0 4 [(0, .ref l0), (1, .int l1), (2, .int l2)] []) (S : hp) (l0 : Nat) (l1 : Int32) (l2 : Int32), wB_X8_shrinkAll_48 bk4 Q S l0 l1 l2 → VM l b D cy 5 0 0 0 0 (pI Q) p e s m args below meth c S 0 0 48 [(0, .ref l0), (1, .int l1), (2, .int l2)] [] := by
    intro bk4 hbk4 S l0 l1 l2 h
    unfold wB_X8_shrinkAll_48 at h
    refine v_iconst X (v := 0) dX8_shrinkAll_48 (by decide) ?_
    exact j49 bk4 hbk4 _ _ _ _ _ h
  have j4 : ∀ (bk4 : hp → Nat → Int32 → Int32 → Prop) (hbk4 : ∀ (S : hp) (l0 : Nat) (l1 : Int32) (l2 : Int32), bk4 S l0 l1 l2 → VM l b D cy 5 0 0 0 0 (pI Q) p e s m args below meth c S 0 0 4 [(0, .ref l0), (1, .int l1), (2, .int l2)] []) (S : hp) (l0 : Nat) (l1 : Int32) (l2 : Int32), wB_X8_shrinkAll_4 bk4 Q S l0 l1 l2 → VM l b D cy 5 0 0 0 0 (pI Q) p e s m args below meth c S 0 0 4 [(0, .ref l0), (1, .int l1), (2, .int l2)] [] := by
    intro bk4 hbk4 S l0 l1 l2 h
    unfold wB_X8_shrinkAll_4 at h
    refine v_iload_n X 2 dX8_shrinkAll_4 rfl rfl ?_
    refine v_iconst X (v := 3) dX8_shrinkAll_5 (by decide) ?_
    refine v_aload_n X 0 dX8_shrinkAll_6 rfl rfl ?_
    obtain ⟨hk1, h⟩ := h
    refine v_getI X (T := TX8) (N := 10) (k := 7) hk1 (by decide) rfl (by decide) inX8 wd153 rfl dX8_shrinkAll_7 ?_
    refine v_imul X dX8_shrinkAll_10 ?_
    refine v_icmp_ge X (tgt := 73) dX8_shrinkAll_11 (by decide) (fun c2 => ?_) (fun c2 => ?_)
    · replace h := h.1 c2
      refine v_iload_n X 1 dX8_shrinkAll_73 rfl rfl ?_
      exact v_iret X hr hlk ⟨_, rfl, h⟩ dX8_shrinkAll_74
    · replace h := h.2 c2
      refine v_aload_n X 0 dX8_shrinkAll_14 rfl rfl ?_
      obtain ⟨r3, hr3, h⟩ := h
      refine v_getR X (T := TX8) (N := 10) (k := 0) hk1 (by decide) rfl (by decide) inX8 wd140 rfl dX8_shrinkAll_15 hr3 ?_
      refine v_iload_n X 2 dX8_shrinkAll_18 rfl rfl ?_
      obtain ⟨hk4, h⟩ := h
      obtain ⟨hi5, h⟩ := h
      refine v_iald X hk4 hi5 dX8_shrinkAll_19 ?_
      refine v_aload_n X 0 dX8_shrinkAll_20 rfl rfl ?_
      obtain ⟨r6, hr6, h⟩ := h
      refine v_getR X (T := TX8) (N := 10) (k := 1) hk1 (by decide) rfl (by decide) inX8 wd143 rfl dX8_shrinkAll_21 hr6 ?_
      refine v_iload_n X 2 dX8_shrinkAll_24 rfl rfl ?_
      obtain ⟨hk7, h⟩ := h
      obtain ⟨hi8, h⟩ := h
      refine v_iald X hk7 hi8 dX8_shrinkAll_25 ?_
      refine v_isub X dX8_shrinkAll_26 ?_
      refine v_nm (fun v9 hv9 => ?_)
      replace h := h v9 hv9
      refine v_istore_n X (lv' := [(3, .int v9), (0, .ref l0), (1, .int l1), (2, .int l2)]) dX8_shrinkAll_27 rfl (by decide) rfl ?_
      refine v_iload_n X 0 dX8_shrinkAll_28 rfl rfl ?_
      refine v_if_le X (tgt := 48) dX8_shrinkAll_29 (by decide) (fun c10 => ?_) (fun c10 => ?_)
      · replace h := h.1 c10
        refine v_lv (lv' := [(0, .ref l0), (1, .int l1), (2, .int l2)]) [1, 2, 3] rfl ?_
        exact j48 bk4 hbk4 _ _ _ _ h
      · replace h := h.2 c10
        refine v_aload_n X 1 dX8_shrinkAll_32 rfl rfl ?_
        refine v_getI X (T := TX8) (N := 10) (k := 6) hk1 (by decide) rfl (by decide) inX8 wd151 rfl dX8_shrinkAll_33 ?_
        refine v_if_le X (tgt := 48) dX8_shrinkAll_36 (by decide) (fun c22 => ?_) (fun c22 => ?_)
        · replace h := h.1 c22
          refine v_lv (lv' := [(0, .ref l0), (1, .int l1), (2, .int l2)]) [1, 2, 3] rfl ?_
          exact j48 bk4 hbk4 _ _ _ _ h
        · replace h := h.2 c22
          refine v_iload_n X 0 dX8_shrinkAll_39 rfl rfl ?_
          refine v_aload_n X 1 dX8_shrinkAll_40 rfl rfl ?_
          refine v_getI X (T := TX8) (N := 10) (k := 6) hk1 (by decide) rfl (by decide) inX8 wd151 rfl dX8_shrinkAll_41 ?_
          obtain ⟨hz23, h⟩ := h
          refine v_idiv X dX8_shrinkAll_44 hz23 ?_
          refine v_goto X (tgt := 49) dX8_shrinkAll_45 (by decide) ?_
          refine v_lv (lv' := [(0, .ref l0), (1, .int l1), (2, .int l2)]) [1, 2, 3] rfl ?_
          exact j49 bk4 hbk4 _ _ _ _ _ h
  have l4 : ∀  (n : Nat) (S : hp) (l0 : Nat) (l1 : Int32) (l2 : Int32), wl_X8_shrinkAll_4 Q n S l0 l1 l2 → VM l b D cy 5 0 0 0 0 (pI Q) p e s m args below meth c S 0 0 4 [(0, .ref l0), (1, .int l1), (2, .int l2)] [] := by
    intro  n
    induction n with
    | zero => intro S l0 l1 l2 h; exact h.elim
    | succ n ih => intro S l0 l1 l2 h; exact j4 (wl_X8_shrinkAll_4 Q n) ih S l0 l1 l2 h
  unfold wp_X8_shrinkAll at h
  show VM l b D cy 5 0 0 0 0 (pI Q) p e s m args below meth c S 0 0 0 [(0, .ref a0)] []
  refine v_iconst X (v := 0) dX8_shrinkAll_0 (by decide) ?_
  refine v_istore_n X (lv' := [(1, .int (0 : Int32)), (0, .ref a0)]) dX8_shrinkAll_1 rfl (by decide) rfl ?_
  refine v_iconst X (v := 0) dX8_shrinkAll_2 (by decide) ?_
  refine v_istore_n X (lv' := [(2, .int (0 : Int32)), (1, .int (0 : Int32)), (0, .ref a0)]) dX8_shrinkAll_3 rfl (by decide) rfl ?_
  refine v_lv (lv' := [(0, .ref a0), (1, .int (0 : Int32)), (2, .int (0 : Int32))]) [2, 1, 0] rfl ?_
  obtain ⟨n, h⟩ := h
  exact l4 n _ _ _ _ h
def wp_X8_addYear (Q : Int32 → hp → Prop) (S : hp) (a0 : Nat) : Prop :=
  hK S a0 = 7 ∧ wp_X8_addLine (fun S1 => hK S1 a0 = 7 ∧ wp_X8_shrinkAll (fun r5 S3 => Q r5 S3) S1 a0) S a0 (1 : Int32) (-1000000 : Int32) (-1000000 : Int32) (-1000000 : Int32) (0 : Int32) (0 : Int32)
theorem k_X8_addYear : Cond.code yX8_addYear cX8_addYear 1 (some .int) ∈ gtb := mg 551 (by decide +kernel) (by decide +kernel)
theorem dn_X8_addYear : yX8_addYear.cls ≠ "java/lang/invoke/MethodHandle" ∧ yX8_addYear.cls ≠ "java/lang/invoke/VarHandle" ∧ (parseMethodDescriptor yX8_addYear.desc).map (fun d => d.parameters.length) = some 0 := by decide +kernel
set_option maxRecDepth 100000 in
set_option maxHeartbeats 4000000 in
theorem s_X8_addYear (l : Launch) (b : Nat) (D : va_G) (cy : Nat → ClassId) {Q : Int32 → hp → Prop} {S : hp} {a0 : Nat} (h : wp_X8_addYear Q S a0) : MT l yX8_addYear cX8_addYear 1 (some .int) 1 27 0 0 b D cy S [.ref a0] (pI Q) := by
  refine MT.of (by decide +kernel) (Nat.le_of_ble_eq_true rfl) ?_
  intro p e s m args below meth c X hr hlk hnm
  unfold wp_X8_addYear at h
  show VM l b D cy 1 1 27 0 0 (pI Q) p e s m args below meth c S 0 0 0 [(0, .ref a0)] []
  refine v_aload_n X 0 dX8_addYear_0 rfl rfl ?_
  refine v_iconst X (v := 1) dX8_addYear_1 (by decide) ?_
  refine v_ldc X wd552 dX8_addYear_2 ?_
  refine v_ldc X wd552 dX8_addYear_4 ?_
  refine v_ldc X wd552 dX8_addYear_6 ?_
  refine v_iconst X (v := 0) dX8_addYear_8 (by decide) ?_
  refine v_iconst X (v := 0) dX8_addYear_9 (by decide) ?_
  obtain ⟨hk2, h⟩ := h
  refine v_callV X (av := [.int (1 : Int32), .int (-1000000 : Int32), .int (-1000000 : Int32), .int (-1000000 : Int32), .int (0 : Int32), .int (0 : Int32)]) (T := TX8) (N := 10) (s_X8_addLine l b D cy h) hk2 (by decide) rfl wd539 wd541 wd14 wd59 k_X8_addLine dn_X8_addLine rfl ⟨Nat.le_of_ble_eq_true rfl, Nat.le_of_ble_eq_true rfl⟩ (Nat.le_of_ble_eq_true rfl) ⟨Nat.le_of_ble_eq_true rfl, Nat.le_of_ble_eq_true rfl⟩ dX8_addYear_10 rfl (kV (fun S1 h => ?_))
  refine v_aload_n X 0 dX8_addYear_13 rfl rfl ?_
  obtain ⟨hk4, h⟩ := h
  refine v_callV X (av := []) (T := TX8) (N := 10) (s_X8_shrinkAll l b D cy h) hk4 (by decide) rfl wd553 wd555 wd15 wd59 k_X8_shrinkAll dn_X8_shrinkAll rfl ⟨Nat.le_of_ble_eq_true rfl, Nat.le_of_ble_eq_true rfl⟩ (Nat.le_of_ble_eq_true rfl) ⟨Nat.le_of_ble_eq_true rfl, Nat.le_of_ble_eq_true rfl⟩ dX8_addYear_14 rfl (kI (fun r5 S3 h => ?_))
  exact v_iret X hr hlk ⟨_, rfl, h⟩ dX8_addYear_17
def wp_X11_year (Q : Int32 → hp → Prop) (S : hp) (a0 : Nat) : Prop :=
  hK S a0 = 10 ∧ ∃ r2 : Nat, hR S a0 2 = some r2 ∧ hK S r2 = 7 ∧ ((¬ (hI S r2 5) = 0 → wp_X8_isLogFull (fun r6 S5 => ((r6 = 0 → hK S5 a0 = 10 ∧ wp_X11_keepAct (fun S8 => hK S8 a0 = 10 ∧ ∃ r11 : Nat, hR S8 a0 2 = some r11 ∧ hK S8 r11 = 7 ∧ wp_X8_addYear (fun r14 S12 => Q r14 S12) S8 r11) S5 a0) ∧ (¬ r6 = 0 → Q (-1000003 : Int32) S5))) S r2) ∧ ((hI S r2 5) = 0 → Q (-1000002 : Int32) S))
theorem k_X11_year : Cond.code yX11_year cX11_year 1 (some .int) ∈ gtb := mg 547 (by decide +kernel) (by decide +kernel)
theorem dn_X11_year : yX11_year.cls ≠ "java/lang/invoke/MethodHandle" ∧ yX11_year.cls ≠ "java/lang/invoke/VarHandle" ∧ (parseMethodDescriptor yX11_year.desc).map (fun d => d.parameters.length) = some 0 := by decide +kernel
set_option maxRecDepth 100000 in
set_option maxHeartbeats 4000000 in
theorem s_X11_year (l : Launch) (b : Nat) (D : va_G) (cy : Nat → ClassId) {Q : Int32 → hp → Prop} {S : hp} {a0 : Nat} (h : wp_X11_year Q S a0) : MT l yX11_year cX11_year 1 (some .int) 4 88 6 147 b D cy S [.ref a0] (pI Q) := by
  refine MT.of (by decide +kernel) (Nat.le_of_ble_eq_true rfl) ?_
  intro p e s m args below meth c X hr hlk hnm
  unfold wp_X11_year at h
  show VM l b D cy 1 4 88 6 147 (pI Q) p e s m args below meth c S 0 0 0 [(0, .ref a0)] []
  refine v_aload_n X 0 dX11_year_0 rfl rfl ?_
  obtain ⟨hk1, h⟩ := h
  obtain ⟨r2, hr2, h⟩ := h
  refine v_getR X (T := TX11) (N := 12) (k := 2) hk1 (by decide) rfl (by decide) inX11 wd217 rfl dX11_year_1 hr2 ?_
  obtain ⟨hk3, h⟩ := h
  refine v_getI X (T := TX8) (N := 10) (k := 5) hk3 (by decide) rfl (by decide) inX8 wd150 rfl dX11_year_4 ?_
  refine v_if_ne X (tgt := 13) dX11_year_7 (by decide) (fun c4 => ?_) (fun c4 => ?_)
  · replace h := h.1 c4
    refine v_aload_n X 0 dX11_year_13 rfl rfl ?_
    refine v_getR X (T := TX11) (N := 12) (k := 2) hk1 (by decide) rfl (by decide) inX11 wd217 rfl dX11_year_14 hr2 ?_
    refine v_callV X (av := []) (T := TX8) (N := 10) (s_X8_isLogFull l b D cy h) hk3 (by decide) rfl wd512 wd513 wd514 wd59 k_X8_isLogFull dn_X8_isLogFull rfl ⟨Nat.le_of_ble_eq_true rfl, Nat.le_of_ble_eq_true rfl⟩ (Nat.le_of_ble_eq_true rfl) ⟨Nat.le_of_ble_eq_true rfl, Nat.le_of_ble_eq_true rfl⟩ dX11_year_17 rfl (kI (fun r6 S5 h => ?_))
    refine v_if_eq X (tgt := 26) dX11_year_20 (by decide) (fun c7 => ?_) (fun c7 => ?_)
    · replace h := h.1 c7
      refine v_aload_n X 0 dX11_year_26 rfl rfl ?_
      obtain ⟨hk9, h⟩ := h
      refine v_callV X (av := []) (T := TX11) (N := 12) (s_X11_keepAct l b D cy h) hk9 (by decide) rfl wd524 wd526 wd12 wd56 k_X11_keepAct dn_X11_keepAct rfl ⟨Nat.le_of_ble_eq_true rfl, Nat.le_of_ble_eq_true rfl⟩ (Nat.le_of_ble_eq_true rfl) ⟨Nat.le_of_ble_eq_true rfl, Nat.le_of_ble_eq_true rfl⟩ dX11_year_27 rfl (kV (fun S8 h => ?_))
      refine v_aload_n X 0 dX11_year_30 rfl rfl ?_
      obtain ⟨hk10, h⟩ := h
      obtain ⟨r11, hr11, h⟩ := h
      refine v_getR X (T := TX11) (N := 12) (k := 2) hk10 (by decide) rfl (by decide) inX11 wd217 rfl dX11_year_31 hr11 ?_
      obtain ⟨hk13, h⟩ := h
      refine v_callV X (av := []) (T := TX8) (N := 10) (s_X8_addYear l b D cy h) hk13 (by decide) rfl wd548 wd549 wd550 wd59 k_X8_addYear dn_X8_addYear rfl ⟨Nat.le_of_ble_eq_true rfl, Nat.le_of_ble_eq_true rfl⟩ (Nat.le_of_ble_eq_true rfl) ⟨Nat.le_of_ble_eq_true rfl, Nat.le_of_ble_eq_true rfl⟩ dX11_year_34 rfl (kI (fun r14 S12 h => ?_))
      exact v_iret X hr hlk ⟨_, rfl, h⟩ dX11_year_37
    · replace h := h.2 c7
      refine v_ldc X wd334 dX11_year_23 ?_
      refine v_widen (c2 := 6) (s2 := 147) (Nat.le_of_ble_eq_true rfl) (Nat.le_of_ble_eq_true rfl) ?_
      exact v_iret X hr hlk ⟨_, rfl, h⟩ dX11_year_25
  · replace h := h.2 c4
    refine v_ldc X wd474 dX11_year_10 ?_
    refine v_widen (c2 := 6) (s2 := 147) (Nat.le_of_ble_eq_true rfl) (Nat.le_of_ble_eq_true rfl) ?_
    exact v_iret X hr hlk ⟨_, rfl, h⟩ dX11_year_12
def wB_X8_exchange_2 (bk2 : hp → Nat → Int32 → Int32 → Int32 → Prop) (Q : hp → Prop) (S : hp) (l0 : Nat) (l1 : Int32) (l2 : Int32) (l3 : Int32) : Prop :=
  (((3 : Int32) ≤ l3 → Q S) ∧ (¬ (3 : Int32) ≤ l3 → hK S l0 = 7 ∧ ∃ r3 : Nat, hR S l0 0 = some r3 ∧ wp_X8_at (fun r5 S4 => hK S4 r3 = 12 ∧ vp_in r5 (hN S4 r3) ∧ ∀ v8 : Int32, v8 = (hI S4 r3 (r5).toNatClampNeg) → hK S4 l0 = 7 ∧ ∃ r10 : Nat, hR S4 l0 0 = some r10 ∧ wp_X8_at (fun r12 S11 => hK S11 l0 = 7 ∧ ∃ r14 : Nat, hR S11 l0 0 = some r14 ∧ wp_X8_at (fun r16 S15 => hK S15 r14 = 12 ∧ vp_in r16 (hN S15 r14) ∧ hK S15 r10 = 12 ∧ vp_in r12 (hN S15 r10) ∧ ∀ S21 : hp, S21 = setI S15 r10 (r12).toNatClampNeg (hI S15 r14 (r16).toNatClampNeg) → hK S21 l0 = 7 ∧ ∃ r27 : Nat, hR S21 l0 0 = some r27 ∧ wp_X8_at (fun r29 S28 => hK S28 r27 = 12 ∧ vp_in r29 (hN S28 r27) ∧ ∀ S32 : hp, S32 = setI S28 r27 (r29).toNatClampNeg v8 → ∀ v35 : Int32, v35 = l3 + (1 : Int32) → bk2 S32 l0 l1 l2 v35) S21 l2 l3) S11 l2 l3) S4 l1 l3) S l1 l3))
def wl_X8_exchange_2 (Q : hp → Prop) : Nat → hp → Nat → Int32 → Int32 → Int32 → Prop
  | 0 => fun _ _ _ _ _ => False
  | n + 1 => wB_X8_exchange_2 (wl_X8_exchange_2 Q n) Q
def wp_X8_exchange (Q : hp → Prop) (S : hp) (a0 : Nat) (x1 : Int32) (x2 : Int32) : Prop :=
  ∃ n : Nat, wl_X8_exchange_2 Q n S a0 x1 x2 (0 : Int32)
theorem k_X8_exchange : Cond.code yX8_exchange cX8_exchange 5 none ∈ gtb := mg 572 (by decide +kernel) (by decide +kernel)
theorem dn_X8_exchange : yX8_exchange.cls ≠ "java/lang/invoke/MethodHandle" ∧ yX8_exchange.cls ≠ "java/lang/invoke/VarHandle" ∧ (parseMethodDescriptor yX8_exchange.desc).map (fun d => d.parameters.length) = some 2 := by decide +kernel
set_option maxRecDepth 100000 in
set_option maxHeartbeats 4000000 in
theorem s_X8_exchange (l : Launch) (b : Nat) (D : va_G) (cy : Nat → ClassId) {Q : hp → Prop} {S : hp} {a0 : Nat} {x1 : Int32} {x2 : Int32} (h : wp_X8_exchange Q S a0 x1 x2) : MT l yX8_exchange cX8_exchange 5 none 1 21 0 0 b D cy S [.ref a0, .int x1, .int x2] (pV Q) := by
  refine MT.of (by decide +kernel) (Nat.le_of_ble_eq_true rfl) ?_
  intro p e s m args below meth c X hr hlk hnm
  have j2 : ∀ (bk2 : hp → Nat → Int32 → Int32 → Int32 → Prop) (hbk2 : ∀ (S : hp) (l0 : Nat) (l1 : Int32) (l2 : Int32) (l3 : Int32), bk2 S l0 l1 l2 l3 → VM l b D cy 5 1 21 0 0 (pV Q) p e s m args below meth c S 0 0 2 [(0, .ref l0), (1, .int l1), (2, .int l2), (3, .int l3)] []) (S : hp) (l0 : Nat) (l1 : Int32) (l2 : Int32) (l3 : Int32), wB_X8_exchange_2 bk2 Q S l0 l1 l2 l3 → VM l b D cy 5 1 21 0 0 (pV Q) p e s m args below meth c S 0 0 2 [(0, .ref l0), (1, .int l1), (2, .int l2), (3, .int l3)] [] := by
    intro bk2 hbk2 S l0 l1 l2 l3 h
    unfold wB_X8_exchange_2 at h
    refine v_iload_n X 3 dX8_exchange_2 rfl rfl ?_
    refine v_iconst X (v := 3) dX8_exchange_3 (by decide) ?_
    refine v_icmp_ge X (tgt := 57) dX8_exchange_4 (by decide) (fun c1 => ?_) (fun c1 => ?_)
    · replace h := h.1 c1
      exact v_vret X hr hlk ⟨rfl, h⟩ dX8_exchange_57
    · replace h := h.2 c1
      refine v_aload_n X 0 dX8_exchange_7 rfl rfl ?_
      obtain ⟨hk2, h⟩ := h
      obtain ⟨r3, hr3, h⟩ := h
      refine v_getR X (T := TX8) (N := 10) (k := 0) hk2 (by decide) rfl (by decide) inX8 wd140 rfl dX8_exchange_8 hr3 ?_
      refine v_iload_n X 1 dX8_exchange_11 rfl rfl ?_
      refine v_iload_n X 3 dX8_exchange_12 rfl rfl ?_
      refine v_callS X (av := [.int l1, .int l3]) (s_X8_at l b D cy h) wd520 wd384 wd59 k_X8_at dn_X8_at rfl ⟨Nat.le_of_ble_eq_true rfl, Nat.le_of_ble_eq_true rfl⟩ (Nat.le_of_ble_eq_true rfl) ⟨Nat.le_of_ble_eq_true rfl, Nat.le_of_ble_eq_true rfl⟩ dX8_exchange_13 rfl (kI (fun r5 S4 h => ?_))
      obtain ⟨hk6, h⟩ := h
      obtain ⟨hi7, h⟩ := h
      refine v_iald X hk6 hi7 dX8_exchange_16 ?_
      refine v_nm (fun v8 hv8 => ?_)
      replace h := h v8 hv8
      refine v_istore X (lv' := [(4, .int v8), (0, .ref l0), (1, .int l1), (2, .int l2), (3, .int l3)]) dX8_exchange_17 (by decide) rfl ?_
      refine v_aload_n X 1 dX8_exchange_19 rfl rfl ?_
      obtain ⟨hk9, h⟩ := h
      obtain ⟨r10, hr10, h⟩ := h
      refine v_getR X (T := TX8) (N := 10) (k := 0) hk9 (by decide) rfl (by decide) inX8 wd140 rfl dX8_exchange_20 hr10 ?_
      refine v_iload_n X 2 dX8_exchange_23 rfl rfl ?_
      refine v_iload_n X 4 dX8_exchange_24 rfl rfl ?_
      refine v_callS X (av := [.int l1, .int l3]) (s_X8_at l b D cy h) wd520 wd384 wd59 k_X8_at dn_X8_at rfl ⟨Nat.le_of_ble_eq_true rfl, Nat.le_of_ble_eq_true rfl⟩ (Nat.le_of_ble_eq_true rfl) ⟨Nat.le_of_ble_eq_true rfl, Nat.le_of_ble_eq_true rfl⟩ dX8_exchange_25 rfl (kI (fun r12 S11 h => ?_))
      refine v_aload_n X 1 dX8_exchange_28 rfl rfl ?_
      obtain ⟨hk13, h⟩ := h
      obtain ⟨r14, hr14, h⟩ := h
      refine v_getR X (T := TX8) (N := 10) (k := 0) hk13 (by decide) rfl (by decide) inX8 wd140 rfl dX8_exchange_29 hr14 ?_
      refine v_iload_n X 3 dX8_exchange_32 rfl rfl ?_
      refine v_iload_n X 4 dX8_exchange_33 rfl rfl ?_
      refine v_callS X (av := [.int l2, .int l3]) (s_X8_at l b D cy h) wd520 wd384 wd59 k_X8_at dn_X8_at rfl ⟨Nat.le_of_ble_eq_true rfl, Nat.le_of_ble_eq_true rfl⟩ (Nat.le_of_ble_eq_true rfl) ⟨Nat.le_of_ble_eq_true rfl, Nat.le_of_ble_eq_true rfl⟩ dX8_exchange_34 rfl (kI (fun r16 S15 h => ?_))
      obtain ⟨hk17, h⟩ := h
      obtain ⟨hi18, h⟩ := h
      refine v_iald X hk17 hi18 dX8_exchange_37 ?_
      obtain ⟨hk19, h⟩ := h
      obtain ⟨hi20, h⟩ := h
      refine v_iast X hk19 hi20 dX8_exchange_38 ?_
      refine v_nmS (fun S21 eS21 => ?_)
      replace h := h S21 eS21
      have hk22 : hK S21 r14 = 12 := by rw [eS21]; exact hk17
      have hk23 : hK S21 r10 = 12 := by rw [eS21]; exact hk19
      have hi24 : vp_in r16 (hN S21 r14) := by rw [eS21]; exact hi18
      have hi25 : vp_in r12 (hN S21 r10) := by rw [eS21]; exact hi20
      refine v_aload_n X 1 dX8_exchange_39 rfl rfl ?_
      obtain ⟨hk26, h⟩ := h
      obtain ⟨r27, hr27, h⟩ := h
      refine v_getR X (T := TX8) (N := 10) (k := 0) hk26 (by decide) rfl (by decide) inX8 wd140 rfl dX8_exchange_40 hr27 ?_
      refine v_iload_n X 3 dX8_exchange_43 rfl rfl ?_
      refine v_iload_n X 4 dX8_exchange_44 rfl rfl ?_
      refine v_callS X (av := [.int l2, .int l3]) (s_X8_at l b D cy h) wd520 wd384 wd59 k_X8_at dn_X8_at rfl ⟨Nat.le_of_ble_eq_true rfl, Nat.le_of_ble_eq_true rfl⟩ (Nat.le_of_ble_eq_true rfl) ⟨Nat.le_of_ble_eq_true rfl, Nat.le_of_ble_eq_true rfl⟩ dX8_exchange_45 rfl (kI (fun r29 S28 h => ?_))
      refine v_iload X 0 dX8_exchange_48 rfl ?_
      obtain ⟨hk30, h⟩ := h
      obtain ⟨hi31, h⟩ := h
      refine v_iast X hk30 hi31 dX8_exchange_50 ?_
      refine v_nmS (fun S32 eS32 => ?_)
      replace h := h S32 eS32
      have hk33 : hK S32 r27 = 12 := by rw [eS32]; exact hk30
      have hi34 : vp_in r29 (hN S32 r27) := by rw [eS32]; exact hi31
      obtain ⟨v35, hv35⟩ : ∃ y : Int32, y = l3 + (1 : Int32) := ⟨_, rfl⟩
      replace h := h v35 hv35
      refine v_iinc X (j := 4) (v := v35) (lv' := [(3, .int v35), (4, .int v8), (0, .ref l0), (1, .int l1), (2, .int l2)]) dX8_exchange_51 rfl (by rw [hv35] <;> rfl) (by decide) rfl ?_
      refine v_goto X (tgt := 2) dX8_exchange_54 (by decide) ?_
      refine v_lv (lv' := [(0, .ref l0), (1, .int l1), (2, .int l2), (3, .int v35)]) [2, 3, 4, 0] rfl ?_
      exact hbk2 _ _ _ _ _ h
  have l2 : ∀  (n : Nat) (S : hp) (l0 : Nat) (l1 : Int32) (l2 : Int32) (l3 : Int32), wl_X8_exchange_2 Q n S l0 l1 l2 l3 → VM l b D cy 5 1 21 0 0 (pV Q) p e s m args below meth c S 0 0 2 [(0, .ref l0), (1, .int l1), (2, .int l2), (3, .int l3)] [] := by
    intro  n
    induction n with
    | zero => intro S l0 l1 l2 l3 h; exact h.elim
    | succ n ih => intro S l0 l1 l2 l3 h; exact j2 (wl_X8_exchange_2 Q n) ih S l0 l1 l2 l3 h
  unfold wp_X8_exchange at h
  show VM l b D cy 5 1 21 0 0 (pV Q) p e s m args below meth c S 0 0 0 [(0, .ref a0), (1, .int x1), (2, .int x2)] []
  refine v_iconst X (v := 0) dX8_exchange_0 (by decide) ?_
  refine v_istore_n X (lv' := [(3, .int (0 : Int32)), (0, .ref a0), (1, .int x1), (2, .int x2)]) dX8_exchange_1 rfl (by decide) rfl ?_
  refine v_lv (lv' := [(0, .ref a0), (1, .int x1), (2, .int x2), (3, .int (0 : Int32))]) [1, 2, 3, 0] rfl ?_
  obtain ⟨n, h⟩ := h
  exact l2 n _ _ _ _ _ h
def wp_X8_addSwap (Q : hp → Prop) (S : hp) (a0 : Nat) (x1 : Int32) (x2 : Int32) : Prop :=
  hK S a0 = 7 ∧ wp_X8_addLine (fun S1 => hK S1 a0 = 7 ∧ wp_X8_exchange (fun S3 => Q S3) S1 a0 x1 x2) S a0 (2 : Int32) x1 x2 (-1000000 : Int32) (0 : Int32) (0 : Int32)
theorem k_X8_addSwap : Cond.code yX8_addSwap cX8_addSwap 3 none ∈ gtb := mg 568 (by decide +kernel) (by decide +kernel)
theorem dn_X8_addSwap : yX8_addSwap.cls ≠ "java/lang/invoke/MethodHandle" ∧ yX8_addSwap.cls ≠ "java/lang/invoke/VarHandle" ∧ (parseMethodDescriptor yX8_addSwap.desc).map (fun d => d.parameters.length) = some 2 := by decide +kernel
set_option maxRecDepth 100000 in
set_option maxHeartbeats 4000000 in
theorem s_X8_addSwap (l : Launch) (b : Nat) (D : va_G) (cy : Nat → ClassId) {Q : hp → Prop} {S : hp} {a0 : Nat} {x1 : Int32} {x2 : Int32} (h : wp_X8_addSwap Q S a0 x1 x2) : MT l yX8_addSwap cX8_addSwap 3 none 2 45 0 0 b D cy S [.ref a0, .int x1, .int x2] (pV Q) := by
  refine MT.of (by decide +kernel) (Nat.le_of_ble_eq_true rfl) ?_
  intro p e s m args below meth c X hr hlk hnm
  unfold wp_X8_addSwap at h
  show VM l b D cy 3 2 45 0 0 (pV Q) p e s m args below meth c S 0 0 0 [(0, .ref a0), (1, .int x1), (2, .int x2)] []
  refine v_aload_n X 0 dX8_addSwap_0 rfl rfl ?_
  refine v_iconst X (v := 2) dX8_addSwap_1 (by decide) ?_
  refine v_iload_n X 1 dX8_addSwap_2 rfl rfl ?_
  refine v_iload_n X 2 dX8_addSwap_3 rfl rfl ?_
  refine v_ldc X wd552 dX8_addSwap_4 ?_
  refine v_iconst X (v := 0) dX8_addSwap_6 (by decide) ?_
  refine v_iconst X (v := 0) dX8_addSwap_7 (by decide) ?_
  obtain ⟨hk2, h⟩ := h
  refine v_callV X (av := [.int (2 : Int32), .int x1, .int x2, .int (-1000000 : Int32), .int (0 : Int32), .int (0 : Int32)]) (T := TX8) (N := 10) (s_X8_addLine l b D cy h) hk2 (by decide) rfl wd539 wd541 wd14 wd59 k_X8_addLine dn_X8_addLine rfl ⟨Nat.le_of_ble_eq_true rfl, Nat.le_of_ble_eq_true rfl⟩ (Nat.le_of_ble_eq_true rfl) ⟨Nat.le_of_ble_eq_true rfl, Nat.le_of_ble_eq_true rfl⟩ dX8_addSwap_8 rfl (kV (fun S1 h => ?_))
  refine v_aload_n X 0 dX8_addSwap_11 rfl rfl ?_
  refine v_iload_n X 1 dX8_addSwap_12 rfl rfl ?_
  refine v_iload_n X 2 dX8_addSwap_13 rfl rfl ?_
  obtain ⟨hk4, h⟩ := h
  refine v_callV X (av := [.int x1, .int x2]) (T := TX8) (N := 10) (s_X8_exchange l b D cy h) hk4 (by decide) rfl wd569 wd571 wd16 wd59 k_X8_exchange dn_X8_exchange rfl ⟨Nat.le_of_ble_eq_true rfl, Nat.le_of_ble_eq_true rfl⟩ (Nat.le_of_ble_eq_true rfl) ⟨Nat.le_of_ble_eq_true rfl, Nat.le_of_ble_eq_true rfl⟩ dX8_addSwap_14 rfl (kV (fun S3 h => ?_))
  exact v_vret X hr hlk ⟨rfl, h⟩ dX8_addSwap_17
def wp_X11_swap (Q : Int32 → hp → Prop) (S : hp) (a0 : Nat) (x1 : Int32) (x2 : Int32) : Prop :=
  hK S a0 = 10 ∧ ∃ r2 : Nat, hR S a0 2 = some r2 ∧ hK S r2 = 7 ∧ wp_X8_hasDummy (fun r5 S3 => ((r5 = 0 → Q (-1000001 : Int32) S3) ∧ (¬ r5 = 0 → hK S3 a0 = 10 ∧ ∃ r8 : Nat, hR S3 a0 2 = some r8 ∧ hK S3 r8 = 7 ∧ wp_X8_hasDummy (fun r11 S9 => ((r11 = 0 → Q (-1000001 : Int32) S9) ∧ (¬ r11 = 0 → ((¬ x1 = x2 → hK S9 a0 = 10 ∧ ∃ r15 : Nat, hR S9 a0 2 = some r15 ∧ hK S9 r15 = 7 ∧ wp_X8_isLogFull (fun r18 S16 => ((r18 = 0 → hK S16 a0 = 10 ∧ wp_X11_keepAct (fun S20 => hK S20 a0 = 10 ∧ ∃ r23 : Nat, hR S20 a0 2 = some r23 ∧ hK S20 r23 = 7 ∧ wp_X8_addSwap (fun S24 => hK S24 a0 = 10 ∧ ∃ r27 : Nat, hR S24 a0 2 = some r27 ∧ hK S24 r27 = 7 ∧ Q (hI S24 r27 9) S24) S20 r23 ((if x2 < x1 then x2 else x1)) ((if x1 < x2 then x2 else x1))) S16 a0) ∧ (¬ r18 = 0 → Q (-1000003 : Int32) S16))) S9 r15) ∧ (x1 = x2 → Q (-1000001 : Int32) S9))))) S3 r8 x2))) S r2 x1
theorem k_X11_swap : Cond.code yX11_swap cX11_swap 3 (some .int) ∈ gtb := mg 560 (by decide +kernel) (by decide +kernel)
theorem dn_X11_swap : yX11_swap.cls ≠ "java/lang/invoke/MethodHandle" ∧ yX11_swap.cls ≠ "java/lang/invoke/VarHandle" ∧ (parseMethodDescriptor yX11_swap.desc).map (fun d => d.parameters.length) = some 2 := by decide +kernel
set_option maxRecDepth 100000 in
set_option maxHeartbeats 4000000 in
theorem s_X11_swap (l : Launch) (b : Nat) (D : va_G) (cy : Nat → ClassId) {Q : Int32 → hp → Prop} {S : hp} {a0 : Nat} {x1 : Int32} {x2 : Int32} (h : wp_X11_swap Q S a0 x1 x2) : MT l yX11_swap cX11_swap 3 (some .int) 4 88 6 147 b D cy S [.ref a0, .int x1, .int x2] (pI Q) := by
  refine MT.of (by decide +kernel) (Nat.le_of_ble_eq_true rfl) ?_
  intro p e s m args below meth c X hr hlk hnm
  unfold wp_X11_swap at h
  show VM l b D cy 3 4 88 6 147 (pI Q) p e s m args below meth c S 0 0 0 [(0, .ref a0), (1, .int x1), (2, .int x2)] []
  refine v_aload_n X 0 dX11_swap_0 rfl rfl ?_
  obtain ⟨hk1, h⟩ := h
  obtain ⟨r2, hr2, h⟩ := h
  refine v_getR X (T := TX11) (N := 12) (k := 2) hk1 (by decide) rfl (by decide) inX11 wd217 rfl dX11_swap_1 hr2 ?_
  refine v_iload_n X 1 dX11_swap_4 rfl rfl ?_
  obtain ⟨hk4, h⟩ := h
  refine v_callV X (av := [.int x1]) (T := TX8) (N := 10) (s_X8_hasDummy l b D cy h) hk4 (by decide) rfl wd561 wd488 wd489 wd59 k_X8_hasDummy dn_X8_hasDummy rfl ⟨Nat.le_of_ble_eq_true rfl, Nat.le_of_ble_eq_true rfl⟩ (Nat.le_of_ble_eq_true rfl) ⟨Nat.le_of_ble_eq_true rfl, Nat.le_of_ble_eq_true rfl⟩ dX11_swap_5 rfl (kI (fun r5 S3 h => ?_))
  refine v_if_eq X (tgt := 27) dX11_swap_8 (by decide) (fun c6 => ?_) (fun c6 => ?_)
  · replace h := h.1 c6
    refine v_ldc X wd262 dX11_swap_27 ?_
    refine v_widen (c2 := 6) (s2 := 147) (Nat.le_of_ble_eq_true rfl) (Nat.le_of_ble_eq_true rfl) ?_
    exact v_iret X hr hlk ⟨_, rfl, h⟩ dX11_swap_29
  · replace h := h.2 c6
    refine v_aload_n X 0 dX11_swap_11 rfl rfl ?_
    obtain ⟨hk7, h⟩ := h
    obtain ⟨r8, hr8, h⟩ := h
    refine v_getR X (T := TX11) (N := 12) (k := 2) hk7 (by decide) rfl (by decide) inX11 wd217 rfl dX11_swap_12 hr8 ?_
    refine v_iload_n X 2 dX11_swap_15 rfl rfl ?_
    obtain ⟨hk10, h⟩ := h
    refine v_callV X (av := [.int x2]) (T := TX8) (N := 10) (s_X8_hasDummy l b D cy h) hk10 (by decide) rfl wd561 wd488 wd489 wd59 k_X8_hasDummy dn_X8_hasDummy rfl ⟨Nat.le_of_ble_eq_true rfl, Nat.le_of_ble_eq_true rfl⟩ (Nat.le_of_ble_eq_true rfl) ⟨Nat.le_of_ble_eq_true rfl, Nat.le_of_ble_eq_true rfl⟩ dX11_swap_16 rfl (kI (fun r11 S9 h => ?_))
    refine v_if_eq X (tgt := 27) dX11_swap_19 (by decide) (fun c12 => ?_) (fun c12 => ?_)
    · replace h := h.1 c12
      refine v_ldc X wd262 dX11_swap_27 ?_
      refine v_widen (c2 := 6) (s2 := 147) (Nat.le_of_ble_eq_true rfl) (Nat.le_of_ble_eq_true rfl) ?_
      exact v_iret X hr hlk ⟨_, rfl, h⟩ dX11_swap_29
    · replace h := h.2 c12
      refine v_iload_n X 1 dX11_swap_22 rfl rfl ?_
      refine v_iload_n X 2 dX11_swap_23 rfl rfl ?_
      refine v_icmp_ne X (tgt := 30) dX11_swap_24 (by decide) (fun c13 => ?_) (fun c13 => ?_)
      · replace h := h.1 c13
        refine v_aload_n X 0 dX11_swap_30 rfl rfl ?_
        obtain ⟨hk14, h⟩ := h
        obtain ⟨r15, hr15, h⟩ := h
        refine v_getR X (T := TX11) (N := 12) (k := 2) hk14 (by decide) rfl (by decide) inX11 wd217 rfl dX11_swap_31 hr15 ?_
        obtain ⟨hk17, h⟩ := h
        refine v_callV X (av := []) (T := TX8) (N := 10) (s_X8_isLogFull l b D cy h) hk17 (by decide) rfl wd512 wd513 wd514 wd59 k_X8_isLogFull dn_X8_isLogFull rfl ⟨Nat.le_of_ble_eq_true rfl, Nat.le_of_ble_eq_true rfl⟩ (Nat.le_of_ble_eq_true rfl) ⟨Nat.le_of_ble_eq_true rfl, Nat.le_of_ble_eq_true rfl⟩ dX11_swap_34 rfl (kI (fun r18 S16 h => ?_))
        refine v_if_eq X (tgt := 43) dX11_swap_37 (by decide) (fun c19 => ?_) (fun c19 => ?_)
        · replace h := h.1 c19
          refine v_aload_n X 0 dX11_swap_43 rfl rfl ?_
          obtain ⟨hk21, h⟩ := h
          refine v_callV X (av := []) (T := TX11) (N := 12) (s_X11_keepAct l b D cy h) hk21 (by decide) rfl wd524 wd526 wd12 wd56 k_X11_keepAct dn_X11_keepAct rfl ⟨Nat.le_of_ble_eq_true rfl, Nat.le_of_ble_eq_true rfl⟩ (Nat.le_of_ble_eq_true rfl) ⟨Nat.le_of_ble_eq_true rfl, Nat.le_of_ble_eq_true rfl⟩ dX11_swap_44 rfl (kV (fun S20 h => ?_))
          refine v_aload_n X 0 dX11_swap_47 rfl rfl ?_
          obtain ⟨hk22, h⟩ := h
          obtain ⟨r23, hr23, h⟩ := h
          refine v_getR X (T := TX11) (N := 12) (k := 2) hk22 (by decide) rfl (by decide) inX11 wd217 rfl dX11_swap_48 hr23 ?_
          refine v_iload_n X 1 dX11_swap_51 rfl rfl ?_
          refine v_iload_n X 2 dX11_swap_52 rfl rfl ?_
          refine v_mmin X wd532 wd533 wd71 wd534 (Nat.le_of_ble_eq_true rfl) (Nat.le_of_ble_eq_true rfl) (Nat.le_of_ble_eq_true rfl) (Nat.le_of_ble_eq_true rfl) dX11_swap_53 ?_
          refine v_iload_n X 1 dX11_swap_56 rfl rfl ?_
          refine v_iload_n X 2 dX11_swap_57 rfl rfl ?_
          refine v_mmax X wd562 wd563 wd71 wd564 (Nat.le_of_ble_eq_true rfl) (Nat.le_of_ble_eq_true rfl) (Nat.le_of_ble_eq_true rfl) (Nat.le_of_ble_eq_true rfl) dX11_swap_58 ?_
          obtain ⟨hk25, h⟩ := h
          refine v_callV X (av := [.int (if x2 < x1 then x2 else x1), .int (if x1 < x2 then x2 else x1)]) (T := TX8) (N := 10) (s_X8_addSwap l b D cy h) hk25 (by decide) rfl wd565 wd566 wd567 wd59 k_X8_addSwap dn_X8_addSwap rfl ⟨Nat.le_of_ble_eq_true rfl, Nat.le_of_ble_eq_true rfl⟩ (Nat.le_of_ble_eq_true rfl) ⟨Nat.le_of_ble_eq_true rfl, Nat.le_of_ble_eq_true rfl⟩ dX11_swap_61 rfl (kV (fun S24 h => ?_))
          refine v_aload_n X 0 dX11_swap_64 rfl rfl ?_
          obtain ⟨hk26, h⟩ := h
          obtain ⟨r27, hr27, h⟩ := h
          refine v_getR X (T := TX11) (N := 12) (k := 2) hk26 (by decide) rfl (by decide) inX11 wd217 rfl dX11_swap_65 hr27 ?_
          obtain ⟨hk28, h⟩ := h
          refine v_getI X (T := TX8) (N := 10) (k := 9) hk28 (by decide) rfl (by decide) inX8 wd162 rfl dX11_swap_68 ?_
          exact v_iret X hr hlk ⟨_, rfl, h⟩ dX11_swap_71
        · replace h := h.2 c19
          refine v_ldc X wd334 dX11_swap_40 ?_
          refine v_widen (c2 := 6) (s2 := 147) (Nat.le_of_ble_eq_true rfl) (Nat.le_of_ble_eq_true rfl) ?_
          exact v_iret X hr hlk ⟨_, rfl, h⟩ dX11_swap_42
      · replace h := h.2 c13
        refine v_ldc X wd262 dX11_swap_27 ?_
        refine v_widen (c2 := 6) (s2 := 147) (Nat.le_of_ble_eq_true rfl) (Nat.le_of_ble_eq_true rfl) ?_
        exact v_iret X hr hlk ⟨_, rfl, h⟩ dX11_swap_29
def wB_X8_endLog_2 (bk2 : hp → Nat → Int32 → Prop) (Q : Int32 → hp → Prop) (S : hp) (l0 : Nat) (l1 : Int32) : Prop :=
  hK S l0 = 7 ∧ ((((3 : Int32) * (hI S l0 7)) ≤ l1 → ∀ v3 : Int32, v3 = (hI S l0 9) → ∀ S4 : hp, S4 = setI S l0 9 (0 : Int32) → Q v3 S4) ∧ (¬ ((3 : Int32) * (hI S l0 7)) ≤ l1 → ∃ r6 : Nat, hR S l0 0 = some r6 ∧ hK S r6 = 12 ∧ vp_in l1 (hN S r6) ∧ wp_X8_make (fun S9 => ∀ v10 : Int32, v10 = l1 + (1 : Int32) → bk2 S9 l0 v10) S l0 l1 ((hI S r6 (l1).toNatClampNeg))))
def wl_X8_endLog_2 (Q : Int32 → hp → Prop) : Nat → hp → Nat → Int32 → Prop
  | 0 => fun _ _ _ => False
  | n + 1 => wB_X8_endLog_2 (wl_X8_endLog_2 Q n) Q
def wp_X8_endLog (Q : Int32 → hp → Prop) (S : hp) (a0 : Nat) : Prop :=
  ∃ n : Nat, wl_X8_endLog_2 Q n S a0 (0 : Int32)
theorem k_X8_endLog : Cond.code yX8_endLog cX8_endLog 2 (some .int) ∈ gtb := mg 580 (by decide +kernel) (by decide +kernel)
theorem dn_X8_endLog : yX8_endLog.cls ≠ "java/lang/invoke/MethodHandle" ∧ yX8_endLog.cls ≠ "java/lang/invoke/VarHandle" ∧ (parseMethodDescriptor yX8_endLog.desc).map (fun d => d.parameters.length) = some 0 := by decide +kernel
set_option maxRecDepth 100000 in
set_option maxHeartbeats 4000000 in
theorem s_X8_endLog (l : Launch) (b : Nat) (D : va_G) (cy : Nat → ClassId) {Q : Int32 → hp → Prop} {S : hp} {a0 : Nat} (h : wp_X8_endLog Q S a0) : MT l yX8_endLog cX8_endLog 2 (some .int) 1 22 0 0 b D cy S [.ref a0] (pI Q) := by
  refine MT.of (by decide +kernel) (Nat.le_of_ble_eq_true rfl) ?_
  intro p e s m args below meth c X hr hlk hnm
  have j2 : ∀ (bk2 : hp → Nat → Int32 → Prop) (hbk2 : ∀ (S : hp) (l0 : Nat) (l1 : Int32), bk2 S l0 l1 → VM l b D cy 2 1 22 0 0 (pI Q) p e s m args below meth c S 0 0 2 [(0, .ref l0), (1, .int l1)] []) (S : hp) (l0 : Nat) (l1 : Int32), wB_X8_endLog_2 bk2 Q S l0 l1 → VM l b D cy 2 1 22 0 0 (pI Q) p e s m args below meth c S 0 0 2 [(0, .ref l0), (1, .int l1)] [] := by
    intro bk2 hbk2 S l0 l1 h
    unfold wB_X8_endLog_2 at h
    refine v_iload_n X 1 dX8_endLog_2 rfl rfl ?_
    refine v_iconst X (v := 3) dX8_endLog_3 (by decide) ?_
    refine v_aload_n X 0 dX8_endLog_4 rfl rfl ?_
    obtain ⟨hk1, h⟩ := h
    refine v_getI X (T := TX8) (N := 10) (k := 7) hk1 (by decide) rfl (by decide) inX8 wd153 rfl dX8_endLog_5 ?_
    refine v_imul X dX8_endLog_8 ?_
    refine v_icmp_ge X (tgt := 29) dX8_endLog_9 (by decide) (fun c2 => ?_) (fun c2 => ?_)
    · replace h := h.1 c2
      refine v_aload_n X 0 dX8_endLog_29 rfl rfl ?_
      refine v_getI X (T := TX8) (N := 10) (k := 9) hk1 (by decide) rfl (by decide) inX8 wd161 rfl dX8_endLog_30 ?_
      refine v_nm (fun v3 hv3 => ?_)
      replace h := h v3 hv3
      refine v_istore_n X (lv' := [(1, .int v3), (0, .ref l0)]) dX8_endLog_33 rfl (by decide) rfl ?_
      refine v_aload_n X 1 dX8_endLog_34 rfl rfl ?_
      refine v_iconst X (v := 0) dX8_endLog_35 (by decide) ?_
      refine v_putI X (T := TX8) (N := 10) (k := 9) hk1 (by decide) rfl (by decide) inX8 wd161 tyX8 tyX8_ok nmX8 rfl rfl rfl rfl dX8_endLog_36 ?_
      refine v_nmS (fun S4 eS4 => ?_)
      replace h := h S4 eS4
      have hk5 : hK S4 l0 = 7 := by rw [eS4]; exact hk1
      refine v_iload_n X 0 dX8_endLog_39 rfl rfl ?_
      exact v_iret X hr hlk ⟨_, rfl, h⟩ dX8_endLog_40
    · replace h := h.2 c2
      refine v_aload_n X 0 dX8_endLog_12 rfl rfl ?_
      refine v_iload_n X 1 dX8_endLog_13 rfl rfl ?_
      refine v_aload_n X 0 dX8_endLog_14 rfl rfl ?_
      obtain ⟨r6, hr6, h⟩ := h
      refine v_getR X (T := TX8) (N := 10) (k := 0) hk1 (by decide) rfl (by decide) inX8 wd140 rfl dX8_endLog_15 hr6 ?_
      refine v_iload_n X 1 dX8_endLog_18 rfl rfl ?_
      obtain ⟨hk7, h⟩ := h
      obtain ⟨hi8, h⟩ := h
      refine v_iald X hk7 hi8 dX8_endLog_19 ?_
      refine v_callV X (av := [.int l1, .int (hI S r6 (l1).toNatClampNeg)]) (T := TX8) (N := 10) (s_X8_make l b D cy h) hk1 (by decide) rfl wd581 wd387 wd388 wd59 k_X8_make dn_X8_make rfl ⟨Nat.le_of_ble_eq_true rfl, Nat.le_of_ble_eq_true rfl⟩ (Nat.le_of_ble_eq_true rfl) ⟨Nat.le_of_ble_eq_true rfl, Nat.le_of_ble_eq_true rfl⟩ dX8_endLog_20 rfl (kV (fun S9 h => ?_))
      obtain ⟨v10, hv10⟩ : ∃ y : Int32, y = l1 + (1 : Int32) := ⟨_, rfl⟩
      replace h := h v10 hv10
      refine v_iinc X (j := 1) (v := v10) (lv' := [(1, .int v10), (0, .ref l0)]) dX8_endLog_23 rfl (by rw [hv10] <;> rfl) (by decide) rfl ?_
      refine v_goto X (tgt := 2) dX8_endLog_26 (by decide) ?_
      refine v_lv (lv' := [(0, .ref l0), (1, .int v10)]) [1, 0] rfl ?_
      exact hbk2 _ _ _ h
  have l2 : ∀  (n : Nat) (S : hp) (l0 : Nat) (l1 : Int32), wl_X8_endLog_2 Q n S l0 l1 → VM l b D cy 2 1 22 0 0 (pI Q) p e s m args below meth c S 0 0 2 [(0, .ref l0), (1, .int l1)] [] := by
    intro  n
    induction n with
    | zero => intro S l0 l1 h; exact h.elim
    | succ n ih => intro S l0 l1 h; exact j2 (wl_X8_endLog_2 Q n) ih S l0 l1 h
  unfold wp_X8_endLog at h
  show VM l b D cy 2 1 22 0 0 (pI Q) p e s m args below meth c S 0 0 0 [(0, .ref a0)] []
  refine v_iconst X (v := 0) dX8_endLog_0 (by decide) ?_
  refine v_istore_n X (lv' := [(1, .int (0 : Int32)), (0, .ref a0)]) dX8_endLog_1 rfl (by decide) rfl ?_
  refine v_lv (lv' := [(0, .ref a0), (1, .int (0 : Int32))]) [1, 0] rfl ?_
  obtain ⟨n, h⟩ := h
  exact l2 n _ _ _ h
def wp_X11_close (Q : Int32 → hp → Prop) (S : hp) (a0 : Nat) : Prop :=
  hK S a0 = 10 ∧ ∃ r2 : Nat, hR S a0 2 = some r2 ∧ hK S r2 = 7 ∧ ((¬ (hI S r2 5) = 0 → wp_X11_keepAct (fun S5 => hK S5 a0 = 10 ∧ ∃ r7 : Nat, hR S5 a0 2 = some r7 ∧ hK S5 r7 = 7 ∧ wp_X8_endLog (fun r10 S8 => Q r10 S8) S5 r7) S a0) ∧ ((hI S r2 5) = 0 → Q (-1000002 : Int32) S))
theorem k_X11_close : Cond.code yX11_close cX11_close 1 (some .int) ∈ gtb := mg 576 (by decide +kernel) (by decide +kernel)
theorem dn_X11_close : yX11_close.cls ≠ "java/lang/invoke/MethodHandle" ∧ yX11_close.cls ≠ "java/lang/invoke/VarHandle" ∧ (parseMethodDescriptor yX11_close.desc).map (fun d => d.parameters.length) = some 0 := by decide +kernel
set_option maxRecDepth 100000 in
set_option maxHeartbeats 4000000 in
theorem s_X11_close (l : Launch) (b : Nat) (D : va_G) (cy : Nat → ClassId) {Q : Int32 → hp → Prop} {S : hp} {a0 : Nat} (h : wp_X11_close Q S a0) : MT l yX11_close cX11_close 1 (some .int) 4 88 6 147 b D cy S [.ref a0] (pI Q) := by
  refine MT.of (by decide +kernel) (Nat.le_of_ble_eq_true rfl) ?_
  intro p e s m args below meth c X hr hlk hnm
  unfold wp_X11_close at h
  show VM l b D cy 1 4 88 6 147 (pI Q) p e s m args below meth c S 0 0 0 [(0, .ref a0)] []
  refine v_aload_n X 0 dX11_close_0 rfl rfl ?_
  obtain ⟨hk1, h⟩ := h
  obtain ⟨r2, hr2, h⟩ := h
  refine v_getR X (T := TX11) (N := 12) (k := 2) hk1 (by decide) rfl (by decide) inX11 wd217 rfl dX11_close_1 hr2 ?_
  obtain ⟨hk3, h⟩ := h
  refine v_getI X (T := TX8) (N := 10) (k := 5) hk3 (by decide) rfl (by decide) inX8 wd150 rfl dX11_close_4 ?_
  refine v_if_ne X (tgt := 13) dX11_close_7 (by decide) (fun c4 => ?_) (fun c4 => ?_)
  · replace h := h.1 c4
    refine v_aload_n X 0 dX11_close_13 rfl rfl ?_
    refine v_callV X (av := []) (T := TX11) (N := 12) (s_X11_keepAct l b D cy h) hk1 (by decide) rfl wd524 wd526 wd12 wd56 k_X11_keepAct dn_X11_keepAct rfl ⟨Nat.le_of_ble_eq_true rfl, Nat.le_of_ble_eq_true rfl⟩ (Nat.le_of_ble_eq_true rfl) ⟨Nat.le_of_ble_eq_true rfl, Nat.le_of_ble_eq_true rfl⟩ dX11_close_14 rfl (kV (fun S5 h => ?_))
    refine v_aload_n X 0 dX11_close_17 rfl rfl ?_
    obtain ⟨hk6, h⟩ := h
    obtain ⟨r7, hr7, h⟩ := h
    refine v_getR X (T := TX11) (N := 12) (k := 2) hk6 (by decide) rfl (by decide) inX11 wd217 rfl dX11_close_18 hr7 ?_
    obtain ⟨hk9, h⟩ := h
    refine v_callV X (av := []) (T := TX8) (N := 10) (s_X8_endLog l b D cy h) hk9 (by decide) rfl wd577 wd578 wd579 wd59 k_X8_endLog dn_X8_endLog rfl ⟨Nat.le_of_ble_eq_true rfl, Nat.le_of_ble_eq_true rfl⟩ (Nat.le_of_ble_eq_true rfl) ⟨Nat.le_of_ble_eq_true rfl, Nat.le_of_ble_eq_true rfl⟩ dX11_close_21 rfl (kI (fun r10 S8 h => ?_))
    exact v_iret X hr hlk ⟨_, rfl, h⟩ dX11_close_24
  · replace h := h.2 c4
    refine v_ldc X wd474 dX11_close_10 ?_
    refine v_widen (c2 := 6) (s2 := 147) (Nat.le_of_ble_eq_true rfl) (Nat.le_of_ble_eq_true rfl) ?_
    exact v_iret X hr hlk ⟨_, rfl, h⟩ dX11_close_12
def wp_X8_pinch (Q : Int32 → hp → Prop) (S : hp) (a0 : Nat) (x1 : Int32) : Prop :=
  hK S a0 = 7 ∧ ∃ r2 : Nat, hR S a0 2 = some r2 ∧ hK S r2 = 12 ∧ vp_in x1 (hN S r2) ∧ ∃ r5 : Nat, hR S a0 0 = some r5 ∧ hK S r5 = 12 ∧ vp_in x1 (hN S r5) ∧ Q ((hI S r2 (x1).toNatClampNeg) - (hI S r5 (x1).toNatClampNeg)) S
theorem k_X8_pinch : Cond.code yX8_pinch cX8_pinch 2 (some .int) ∈ gtb := mg 589 (by decide +kernel) (by decide +kernel)
theorem dn_X8_pinch : yX8_pinch.cls ≠ "java/lang/invoke/MethodHandle" ∧ yX8_pinch.cls ≠ "java/lang/invoke/VarHandle" ∧ (parseMethodDescriptor yX8_pinch.desc).map (fun d => d.parameters.length) = some 1 := by decide +kernel
set_option maxRecDepth 100000 in
set_option maxHeartbeats 4000000 in
theorem s_X8_pinch (l : Launch) (b : Nat) (D : va_G) (cy : Nat → ClassId) {Q : Int32 → hp → Prop} {S : hp} {a0 : Nat} {x1 : Int32} (h : wp_X8_pinch Q S a0 x1) : MT l yX8_pinch cX8_pinch 2 (some .int) 0 0 0 0 b D cy S [.ref a0, .int x1] (pI Q) := by
  refine MT.of (by decide +kernel) (Nat.le_of_ble_eq_true rfl) ?_
  intro p e s m args below meth c X hr hlk hnm
  unfold wp_X8_pinch at h
  show VM l b D cy 2 0 0 0 0 (pI Q) p e s m args below meth c S 0 0 0 [(0, .ref a0), (1, .int x1)] []
  refine v_aload_n X 0 dX8_pinch_0 rfl rfl ?_
  obtain ⟨hk1, h⟩ := h
  obtain ⟨r2, hr2, h⟩ := h
  refine v_getR X (T := TX8) (N := 10) (k := 2) hk1 (by decide) rfl (by decide) inX8 wd145 rfl dX8_pinch_1 hr2 ?_
  refine v_iload_n X 1 dX8_pinch_4 rfl rfl ?_
  obtain ⟨hk3, h⟩ := h
  obtain ⟨hi4, h⟩ := h
  refine v_iald X hk3 hi4 dX8_pinch_5 ?_
  refine v_aload_n X 0 dX8_pinch_6 rfl rfl ?_
  obtain ⟨r5, hr5, h⟩ := h
  refine v_getR X (T := TX8) (N := 10) (k := 0) hk1 (by decide) rfl (by decide) inX8 wd140 rfl dX8_pinch_7 hr5 ?_
  refine v_iload_n X 1 dX8_pinch_10 rfl rfl ?_
  obtain ⟨hk6, h⟩ := h
  obtain ⟨hi7, h⟩ := h
  refine v_iald X hk6 hi7 dX8_pinch_11 ?_
  refine v_isub X dX8_pinch_12 ?_
  exact v_iret X hr hlk ⟨_, rfl, h⟩ dX8_pinch_13
def wp_X11_dummy (Q : Int32 → hp → Prop) (S : hp) (a0 : Nat) (x1 : Int32) (x2 : Int32) (x3 : Int32) : Prop :=
  hK S a0 = 10 ∧ ∃ r2 : Nat, hR S a0 2 = some r2 ∧ hK S r2 = 7 ∧ wp_X8_hasPlace (fun r5 S3 => ((¬ r5 = 0 → wp_X8_at (fun r8 S7 => ((x3 = (0 : Int32) → hK S7 a0 = 10 ∧ ∃ r10 : Nat, hR S7 a0 2 = some r10 ∧ hK S7 r10 = 7 ∧ ∃ r12 : Nat, hR S7 r10 0 = some r12 ∧ hK S7 r12 = 12 ∧ vp_in r8 (hN S7 r12) ∧ Q (hI S7 r12 (r8).toNatClampNeg) S7) ∧ (x3 = (1 : Int32) → hK S7 a0 = 10 ∧ ∃ r17 : Nat, hR S7 a0 2 = some r17 ∧ hK S7 r17 = 7 ∧ ∃ r19 : Nat, hR S7 r17 1 = some r19 ∧ hK S7 r19 = 12 ∧ vp_in r8 (hN S7 r19) ∧ Q (hI S7 r19 (r8).toNatClampNeg) S7) ∧ (x3 = (2 : Int32) → hK S7 a0 = 10 ∧ ∃ r24 : Nat, hR S7 a0 2 = some r24 ∧ hK S7 r24 = 7 ∧ ∃ r26 : Nat, hR S7 r24 2 = some r26 ∧ hK S7 r26 = 12 ∧ vp_in r8 (hN S7 r26) ∧ Q (hI S7 r26 (r8).toNatClampNeg) S7) ∧ (x3 = (3 : Int32) → hK S7 a0 = 10 ∧ ∃ r31 : Nat, hR S7 a0 2 = some r31 ∧ hK S7 r31 = 7 ∧ wp_X8_pinch (fun r34 S32 => Q r34 S32) S7 r31 r8) ∧ (¬ x3 = (0 : Int32) → ¬ x3 = (1 : Int32) → ¬ x3 = (2 : Int32) → ¬ x3 = (3 : Int32) → Q (-1000001 : Int32) S7))) S3 x1 x2) ∧ (r5 = 0 → Q (-1000001 : Int32) S3))) S r2 x1 x2
theorem k_X11_dummy : Cond.code yX11_dummy cX11_dummy 5 (some .int) ∈ gtb := mg 585 (by decide +kernel) (by decide +kernel)
theorem dn_X11_dummy : yX11_dummy.cls ≠ "java/lang/invoke/MethodHandle" ∧ yX11_dummy.cls ≠ "java/lang/invoke/VarHandle" ∧ (parseMethodDescriptor yX11_dummy.desc).map (fun d => d.parameters.length) = some 3 := by decide +kernel
set_option maxRecDepth 100000 in
set_option maxHeartbeats 4000000 in
theorem s_X11_dummy (l : Launch) (b : Nat) (D : va_G) (cy : Nat → ClassId) {Q : Int32 → hp → Prop} {S : hp} {a0 : Nat} {x1 : Int32} {x2 : Int32} {x3 : Int32} (h : wp_X11_dummy Q S a0 x1 x2 x3) : MT l yX11_dummy cX11_dummy 5 (some .int) 2 43 0 0 b D cy S [.ref a0, .int x1, .int x2, .int x3] (pI Q) := by
  refine MT.of (by decide +kernel) (Nat.le_of_ble_eq_true rfl) ?_
  intro p e s m args below meth c X hr hlk hnm
  unfold wp_X11_dummy at h
  show VM l b D cy 5 2 43 0 0 (pI Q) p e s m args below meth c S 0 0 0 [(0, .ref a0), (1, .int x1), (2, .int x2), (3, .int x3)] []
  refine v_aload_n X 0 dX11_dummy_0 rfl rfl ?_
  obtain ⟨hk1, h⟩ := h
  obtain ⟨r2, hr2, h⟩ := h
  refine v_getR X (T := TX11) (N := 12) (k := 2) hk1 (by decide) rfl (by decide) inX11 wd217 rfl dX11_dummy_1 hr2 ?_
  refine v_iload_n X 1 dX11_dummy_4 rfl rfl ?_
  refine v_iload_n X 2 dX11_dummy_5 rfl rfl ?_
  obtain ⟨hk4, h⟩ := h
  refine v_callV X (av := [.int x1, .int x2]) (T := TX8) (N := 10) (s_X8_hasPlace l b D cy h) hk4 (by decide) rfl wd483 wd484 wd485 wd59 k_X8_hasPlace dn_X8_hasPlace rfl ⟨Nat.le_of_ble_eq_true rfl, Nat.le_of_ble_eq_true rfl⟩ (Nat.le_of_ble_eq_true rfl) ⟨Nat.le_of_ble_eq_true rfl, Nat.le_of_ble_eq_true rfl⟩ dX11_dummy_6 rfl (kI (fun r5 S3 h => ?_))
  refine v_if_ne X (tgt := 15) dX11_dummy_9 (by decide) (fun c6 => ?_) (fun c6 => ?_)
  · replace h := h.1 c6
    refine v_iload_n X 1 dX11_dummy_15 rfl rfl ?_
    refine v_iload_n X 2 dX11_dummy_16 rfl rfl ?_
    refine v_callS X (av := [.int x1, .int x2]) (s_X8_at l b D cy h) wd543 wd384 wd59 k_X8_at dn_X8_at rfl ⟨Nat.le_of_ble_eq_true rfl, Nat.le_of_ble_eq_true rfl⟩ (Nat.le_of_ble_eq_true rfl) ⟨Nat.le_of_ble_eq_true rfl, Nat.le_of_ble_eq_true rfl⟩ dX11_dummy_17 rfl (kI (fun r8 S7 h => ?_))
    refine v_istore X (lv' := [(4, .int r8), (0, .ref a0), (1, .int x1), (2, .int x2), (3, .int x3)]) dX11_dummy_20 (by decide) rfl ?_
    refine v_iload_n X 4 dX11_dummy_22 rfl rfl ?_
    by_cases c15 : x3 = (0 : Int32)
    · replace h := h.1 c15
      refine v_tabIn X (off := 29) (tgt := 52) (0 : Int32) c15 dX11_dummy_23 (by decide) (by decide) (by decide) (by decide) ?_
      refine v_aload_n X 1 dX11_dummy_52 rfl rfl ?_
      obtain ⟨hk9, h⟩ := h
      obtain ⟨r10, hr10, h⟩ := h
      refine v_getR X (T := TX11) (N := 12) (k := 2) hk9 (by decide) rfl (by decide) inX11 wd217 rfl dX11_dummy_53 hr10 ?_
      obtain ⟨hk11, h⟩ := h
      obtain ⟨r12, hr12, h⟩ := h
      refine v_getR X (T := TX8) (N := 10) (k := 0) hk11 (by decide) rfl (by decide) inX8 wd141 rfl dX11_dummy_56 hr12 ?_
      refine v_iload X 0 dX11_dummy_59 rfl ?_
      obtain ⟨hk13, h⟩ := h
      obtain ⟨hi14, h⟩ := h
      refine v_iald X hk13 hi14 dX11_dummy_61 ?_
      exact v_iret X hr hlk ⟨_, rfl, h⟩ dX11_dummy_62
    by_cases c22 : x3 = (1 : Int32)
    · replace h := h.2.1 c22
      refine v_tabIn X (off := 40) (tgt := 63) (1 : Int32) c22 dX11_dummy_23 (by decide) (by decide) (by decide) (by decide) ?_
      refine v_aload_n X 1 dX11_dummy_63 rfl rfl ?_
      obtain ⟨hk16, h⟩ := h
      obtain ⟨r17, hr17, h⟩ := h
      refine v_getR X (T := TX11) (N := 12) (k := 2) hk16 (by decide) rfl (by decide) inX11 wd217 rfl dX11_dummy_64 hr17 ?_
      obtain ⟨hk18, h⟩ := h
      obtain ⟨r19, hr19, h⟩ := h
      refine v_getR X (T := TX8) (N := 10) (k := 1) hk18 (by decide) rfl (by decide) inX8 wd144 rfl dX11_dummy_67 hr19 ?_
      refine v_iload X 0 dX11_dummy_70 rfl ?_
      obtain ⟨hk20, h⟩ := h
      obtain ⟨hi21, h⟩ := h
      refine v_iald X hk20 hi21 dX11_dummy_72 ?_
      exact v_iret X hr hlk ⟨_, rfl, h⟩ dX11_dummy_73
    by_cases c29 : x3 = (2 : Int32)
    · replace h := h.2.2.1 c29
      refine v_tabIn X (off := 51) (tgt := 74) (2 : Int32) c29 dX11_dummy_23 (by decide) (by decide) (by decide) (by decide) ?_
      refine v_aload_n X 1 dX11_dummy_74 rfl rfl ?_
      obtain ⟨hk23, h⟩ := h
      obtain ⟨r24, hr24, h⟩ := h
      refine v_getR X (T := TX11) (N := 12) (k := 2) hk23 (by decide) rfl (by decide) inX11 wd217 rfl dX11_dummy_75 hr24 ?_
      obtain ⟨hk25, h⟩ := h
      obtain ⟨r26, hr26, h⟩ := h
      refine v_getR X (T := TX8) (N := 10) (k := 2) hk25 (by decide) rfl (by decide) inX8 wd146 rfl dX11_dummy_78 hr26 ?_
      refine v_iload X 0 dX11_dummy_81 rfl ?_
      obtain ⟨hk27, h⟩ := h
      obtain ⟨hi28, h⟩ := h
      refine v_iald X hk27 hi28 dX11_dummy_83 ?_
      exact v_iret X hr hlk ⟨_, rfl, h⟩ dX11_dummy_84
    by_cases c35 : x3 = (3 : Int32)
    · replace h := h.2.2.2.1 c35
      refine v_tabIn X (off := 62) (tgt := 85) (3 : Int32) c35 dX11_dummy_23 (by decide) (by decide) (by decide) (by decide) ?_
      refine v_aload_n X 1 dX11_dummy_85 rfl rfl ?_
      obtain ⟨hk30, h⟩ := h
      obtain ⟨r31, hr31, h⟩ := h
      refine v_getR X (T := TX11) (N := 12) (k := 2) hk30 (by decide) rfl (by decide) inX11 wd217 rfl dX11_dummy_86 hr31 ?_
      refine v_iload X 0 dX11_dummy_89 rfl ?_
      obtain ⟨hk33, h⟩ := h
      refine v_callV X (av := [.int r8]) (T := TX8) (N := 10) (s_X8_pinch l b D cy h) hk33 (by decide) rfl wd586 wd587 wd588 wd59 k_X8_pinch dn_X8_pinch rfl ⟨Nat.le_of_ble_eq_true rfl, Nat.le_of_ble_eq_true rfl⟩ (Nat.le_of_ble_eq_true rfl) ⟨Nat.le_of_ble_eq_true rfl, Nat.le_of_ble_eq_true rfl⟩ dX11_dummy_91 rfl (kI (fun r34 S32 h => ?_))
      exact v_iret X hr hlk ⟨_, rfl, h⟩ dX11_dummy_94
    replace h := h.2.2.2.2 c15 c22 c29 c35
    refine v_tabOut X (tgt := 95) dX11_dummy_23 (by have zc15 := ne_ti (0 : Int32) 0 rfl c15; have zc22 := ne_ti (1 : Int32) 1 rfl c22; have zc29 := ne_ti (2 : Int32) 2 rfl c29; have zc35 := ne_ti (3 : Int32) 3 rfl c35; omega) (by decide) ?_
    refine v_ldc X wd262 dX11_dummy_95 ?_
    exact v_iret X hr hlk ⟨_, rfl, h⟩ dX11_dummy_97
  · replace h := h.2 c6
    refine v_ldc X wd262 dX11_dummy_12 ?_
    exact v_iret X hr hlk ⟨_, rfl, h⟩ dX11_dummy_14
def wp_X8_part (Q : Int32 → hp → Prop) (S : hp) (a0 : Nat) (x1 : Int32) (x2 : Int32) : Prop :=
  hK S a0 = 7 ∧ ∃ r2 : Nat, hR S a0 4 = some r2 ∧ hK S r2 = 12 ∧ vp_in (((6 : Int32) * x1) + x2) (hN S r2) ∧ Q (hI S r2 ((((6 : Int32) * x1) + x2)).toNatClampNeg) S
theorem k_X8_part : Cond.code yX8_part cX8_part 3 (some .int) ∈ gtb := mg 597 (by decide +kernel) (by decide +kernel)
theorem dn_X8_part : yX8_part.cls ≠ "java/lang/invoke/MethodHandle" ∧ yX8_part.cls ≠ "java/lang/invoke/VarHandle" ∧ (parseMethodDescriptor yX8_part.desc).map (fun d => d.parameters.length) = some 2 := by decide +kernel
set_option maxRecDepth 100000 in
set_option maxHeartbeats 4000000 in
theorem s_X8_part (l : Launch) (b : Nat) (D : va_G) (cy : Nat → ClassId) {Q : Int32 → hp → Prop} {S : hp} {a0 : Nat} {x1 : Int32} {x2 : Int32} (h : wp_X8_part Q S a0 x1 x2) : MT l yX8_part cX8_part 3 (some .int) 0 0 0 0 b D cy S [.ref a0, .int x1, .int x2] (pI Q) := by
  refine MT.of (by decide +kernel) (Nat.le_of_ble_eq_true rfl) ?_
  intro p e s m args below meth c X hr hlk hnm
  unfold wp_X8_part at h
  show VM l b D cy 3 0 0 0 0 (pI Q) p e s m args below meth c S 0 0 0 [(0, .ref a0), (1, .int x1), (2, .int x2)] []
  refine v_aload_n X 0 dX8_part_0 rfl rfl ?_
  obtain ⟨hk1, h⟩ := h
  obtain ⟨r2, hr2, h⟩ := h
  refine v_getR X (T := TX8) (N := 10) (k := 4) hk1 (by decide) rfl (by decide) inX8 wd148 rfl dX8_part_1 hr2 ?_
  refine v_bipush X (v := 6) dX8_part_4 (by decide) ?_
  refine v_iload_n X 1 dX8_part_6 rfl rfl ?_
  refine v_imul X dX8_part_7 ?_
  refine v_iload_n X 2 dX8_part_8 rfl rfl ?_
  refine v_iadd X dX8_part_9 ?_
  obtain ⟨hk3, h⟩ := h
  obtain ⟨hi4, h⟩ := h
  refine v_iald X hk3 hi4 dX8_part_10 ?_
  exact v_iret X hr hlk ⟨_, rfl, h⟩ dX8_part_11
def wp_X11_line (Q : Int32 → hp → Prop) (S : hp) (a0 : Nat) (x1 : Int32) (x2 : Int32) : Prop :=
  ((x1 < 0 → Q (-1000001 : Int32) S) ∧ (¬ x1 < 0 → hK S a0 = 10 ∧ ∃ r3 : Nat, hR S a0 2 = some r3 ∧ hK S r3 = 7 ∧ (((hI S r3 9) ≤ x1 → Q (-1000001 : Int32) S) ∧ (¬ (hI S r3 9) ≤ x1 → ((x2 < 0 → Q (-1000001 : Int32) S) ∧ (¬ x2 < 0 → ((x2 < (6 : Int32) → wp_X8_part (fun r9 S8 => Q r9 S8) S r3 x1 x2) ∧ (¬ x2 < (6 : Int32) → Q (-1000001 : Int32) S))))))))
theorem k_X11_line : Cond.code yX11_line cX11_line 3 (some .int) ∈ gtb := mg 593 (by decide +kernel) (by decide +kernel)
theorem dn_X11_line : yX11_line.cls ≠ "java/lang/invoke/MethodHandle" ∧ yX11_line.cls ≠ "java/lang/invoke/VarHandle" ∧ (parseMethodDescriptor yX11_line.desc).map (fun d => d.parameters.length) = some 2 := by decide +kernel
set_option maxRecDepth 100000 in
set_option maxHeartbeats 4000000 in
theorem s_X11_line (l : Launch) (b : Nat) (D : va_G) (cy : Nat → ClassId) {Q : Int32 → hp → Prop} {S : hp} {a0 : Nat} {x1 : Int32} {x2 : Int32} (h : wp_X11_line Q S a0 x1 x2) : MT l yX11_line cX11_line 3 (some .int) 1 22 0 0 b D cy S [.ref a0, .int x1, .int x2] (pI Q) := by
  refine MT.of (by decide +kernel) (Nat.le_of_ble_eq_true rfl) ?_
  intro p e s m args below meth c X hr hlk hnm
  unfold wp_X11_line at h
  show VM l b D cy 3 1 22 0 0 (pI Q) p e s m args below meth c S 0 0 0 [(0, .ref a0), (1, .int x1), (2, .int x2)] []
  refine v_iload_n X 1 dX11_line_0 rfl rfl ?_
  refine v_if_lt X (tgt := 25) dX11_line_1 (by decide) (fun c1 => ?_) (fun c1 => ?_)
  · replace h := h.1 c1
    refine v_ldc X wd262 dX11_line_25 ?_
    exact v_iret X hr hlk ⟨_, rfl, h⟩ dX11_line_27
  · replace h := h.2 c1
    refine v_iload_n X 1 dX11_line_4 rfl rfl ?_
    refine v_aload_n X 0 dX11_line_5 rfl rfl ?_
    obtain ⟨hk2, h⟩ := h
    obtain ⟨r3, hr3, h⟩ := h
    refine v_getR X (T := TX11) (N := 12) (k := 2) hk2 (by decide) rfl (by decide) inX11 wd217 rfl dX11_line_6 hr3 ?_
    obtain ⟨hk4, h⟩ := h
    refine v_getI X (T := TX8) (N := 10) (k := 9) hk4 (by decide) rfl (by decide) inX8 wd162 rfl dX11_line_9 ?_
    refine v_icmp_ge X (tgt := 25) dX11_line_12 (by decide) (fun c5 => ?_) (fun c5 => ?_)
    · replace h := h.1 c5
      refine v_ldc X wd262 dX11_line_25 ?_
      exact v_iret X hr hlk ⟨_, rfl, h⟩ dX11_line_27
    · replace h := h.2 c5
      refine v_iload_n X 2 dX11_line_15 rfl rfl ?_
      refine v_if_lt X (tgt := 25) dX11_line_16 (by decide) (fun c6 => ?_) (fun c6 => ?_)
      · replace h := h.1 c6
        refine v_ldc X wd262 dX11_line_25 ?_
        exact v_iret X hr hlk ⟨_, rfl, h⟩ dX11_line_27
      · replace h := h.2 c6
        refine v_iload_n X 2 dX11_line_19 rfl rfl ?_
        refine v_bipush X (v := 6) dX11_line_20 (by decide) ?_
        refine v_icmp_lt X (tgt := 28) dX11_line_22 (by decide) (fun c7 => ?_) (fun c7 => ?_)
        · replace h := h.1 c7
          refine v_aload_n X 0 dX11_line_28 rfl rfl ?_
          refine v_getR X (T := TX11) (N := 12) (k := 2) hk2 (by decide) rfl (by decide) inX11 wd217 rfl dX11_line_29 hr3 ?_
          refine v_iload_n X 1 dX11_line_32 rfl rfl ?_
          refine v_iload_n X 2 dX11_line_33 rfl rfl ?_
          refine v_callV X (av := [.int x1, .int x2]) (T := TX8) (N := 10) (s_X8_part l b D cy h) hk4 (by decide) rfl wd594 wd595 wd596 wd59 k_X8_part dn_X8_part rfl ⟨Nat.le_of_ble_eq_true rfl, Nat.le_of_ble_eq_true rfl⟩ (Nat.le_of_ble_eq_true rfl) ⟨Nat.le_of_ble_eq_true rfl, Nat.le_of_ble_eq_true rfl⟩ dX11_line_34 rfl (kI (fun r9 S8 h => ?_))
          exact v_iret X hr hlk ⟨_, rfl, h⟩ dX11_line_37
        · replace h := h.2 c7
          refine v_ldc X wd262 dX11_line_25 ?_
          exact v_iret X hr hlk ⟨_, rfl, h⟩ dX11_line_27
def wp_X11_pads (Q : Int32 → hp → Prop) (S : hp) (a0 : Nat) (x1 : Int32) (x2 : Int32) : Prop :=
  hK S a0 = 10 ∧ ∃ r2 : Nat, hR S a0 2 = some r2 ∧ hK S r2 = 7 ∧ wp_X8_mouthAt (fun q11 S3 => (q11 = none → Q (-1000001 : Int32) S3) ∧ (∀ r5 : Nat, q11 = some r5 → wp_X11_isTold (fun r7 S6 => ((¬ r7 = 0 → wd_Mouth_padding (fun r10 S9 => Q r10 S9) S6 r5 x2) ∧ (r7 = 0 → Q (-1000001 : Int32) S6))) S3 x2)) S r2 x1
theorem k_X11_pads : Cond.code yX11_pads cX11_pads 4 (some .int) ∈ gtb := mg 601 (by decide +kernel) (by decide +kernel)
theorem dn_X11_pads : yX11_pads.cls ≠ "java/lang/invoke/MethodHandle" ∧ yX11_pads.cls ≠ "java/lang/invoke/VarHandle" ∧ (parseMethodDescriptor yX11_pads.desc).map (fun d => d.parameters.length) = some 2 := by decide +kernel
set_option maxRecDepth 100000 in
set_option maxHeartbeats 4000000 in
theorem s_X11_pads (l : Launch) (b : Nat) (D : va_G) (cy : Nat → ClassId) {Q : Int32 → hp → Prop} {S : hp} {a0 : Nat} {x1 : Int32} {x2 : Int32} (h : wp_X11_pads Q S a0 x1 x2) : MT l yX11_pads cX11_pads 4 (some .int) 1 21 0 0 b D cy S [.ref a0, .int x1, .int x2] (pI Q) := by
  refine MT.of (by decide +kernel) (Nat.le_of_ble_eq_true rfl) ?_
  intro p e s m args below meth c X hr hlk hnm
  unfold wp_X11_pads at h
  show VM l b D cy 4 1 21 0 0 (pI Q) p e s m args below meth c S 0 0 0 [(0, .ref a0), (1, .int x1), (2, .int x2)] []
  refine v_aload_n X 0 dX11_pads_0 rfl rfl ?_
  obtain ⟨hk1, h⟩ := h
  obtain ⟨r2, hr2, h⟩ := h
  refine v_getR X (T := TX11) (N := 12) (k := 2) hk1 (by decide) rfl (by decide) inX11 wd217 rfl dX11_pads_1 hr2 ?_
  refine v_iload_n X 1 dX11_pads_4 rfl rfl ?_
  obtain ⟨hk4, h⟩ := h
  refine v_callV X (av := [.int x1]) (T := TX8) (N := 10) (s_X8_mouthAt l b D cy h) hk4 (by decide) rfl wd479 wd480 wd481 wd59 k_X8_mouthAt dn_X8_mouthAt rfl ⟨Nat.le_of_ble_eq_true rfl, Nat.le_of_ble_eq_true rfl⟩ (Nat.le_of_ble_eq_true rfl) ⟨Nat.le_of_ble_eq_true rfl, Nat.le_of_ble_eq_true rfl⟩ dX11_pads_5 rfl (kO (fun S3 h => ?_) (fun r5 S3 h => ?_))
  · replace h := h.1 rfl
    refine v_astore_nN X (lv' := [(3, .null), (0, .ref a0), (1, .int x1), (2, .int x2)]) dX11_pads_8 rfl (by decide) rfl ?_
    refine v_aload_nN X 0 dX11_pads_9 rfl rfl ?_
    refine v_ifnullN X (tgt := 20) dX11_pads_10 (by decide) ?_
    refine v_ldc X wd262 dX11_pads_20 ?_
    exact v_iret X hr hlk ⟨_, rfl, h⟩ dX11_pads_22
  · replace h := h.2 _ rfl
    refine v_astore_n X (lv' := [(3, .ref r5), (0, .ref a0), (1, .int x1), (2, .int x2)]) dX11_pads_8 rfl (by decide) rfl ?_
    refine v_aload_n X 0 dX11_pads_9 rfl rfl ?_
    refine v_ifnull X dX11_pads_10 ?_
    refine v_iload_n X 3 dX11_pads_13 rfl rfl ?_
    refine v_callS X (av := [.int x2]) (s_X11_isTold l b D cy h) wd491 wd492 wd56 k_X11_isTold dn_X11_isTold rfl ⟨Nat.le_of_ble_eq_true rfl, Nat.le_of_ble_eq_true rfl⟩ (Nat.le_of_ble_eq_true rfl) ⟨Nat.le_of_ble_eq_true rfl, Nat.le_of_ble_eq_true rfl⟩ dX11_pads_14 rfl (kI (fun r7 S6 h => ?_))
    refine v_if_ne X (tgt := 23) dX11_pads_17 (by decide) (fun c8 => ?_) (fun c8 => ?_)
    · replace h := h.1 c8
      refine v_aload_n X 0 dX11_pads_23 rfl rfl ?_
      refine v_iload_n X 3 dX11_pads_24 rfl rfl ?_
      refine v_dyn_Mouth_padding X h wd494 ⟨Nat.le_of_ble_eq_true rfl, Nat.le_of_ble_eq_true rfl⟩ (Nat.le_of_ble_eq_true rfl) ⟨Nat.le_of_ble_eq_true rfl, Nat.le_of_ble_eq_true rfl⟩ dX11_pads_25 (fun r10 S9 h => ?_)
      exact v_iret X hr hlk ⟨_, rfl, h⟩ dX11_pads_28
    · replace h := h.2 c8
      refine v_ldc X wd262 dX11_pads_20 ?_
      exact v_iret X hr hlk ⟨_, rfl, h⟩ dX11_pads_22
def wp_X8_doAgain (Q : hp → Prop) (S : hp) (a0 : Nat) (x1 : Int32) : Prop :=
  hK S a0 = 7 ∧ wp_X8_part (fun r3 S1 => ((r3 = (0 : Int32) → hK S1 a0 = 7 ∧ ∃ r5 : Nat, hR S1 a0 0 = some r5 ∧ wp_X8_part (fun r7 S6 => hK S6 a0 = 7 ∧ wp_X8_part (fun r10 S8 => wp_X8_at (fun r12 S11 => hK S11 r5 = 12 ∧ vp_in r12 (hN S11 r5) ∧ hK S11 a0 = 7 ∧ wp_X8_part (fun r17 S15 => hK S15 r5 = 12 ∧ vp_in r12 (hN S15 r5) ∧ ∀ S20 : hp, S20 = setI S15 r5 (r12).toNatClampNeg ((hI S11 r5 (r12).toNatClampNeg) + r17) → Q S20) S11 a0 x1 (5 : Int32)) S8 r7 r10) S6 a0 x1 (3 : Int32)) S1 a0 x1 (2 : Int32)) ∧ (r3 = (1 : Int32) → hK S1 a0 = 7 ∧ wp_X8_shrinkAll (fun r26 S24 => Q S24) S1 a0) ∧ (¬ r3 = (0 : Int32) → ¬ r3 = (1 : Int32) → hK S1 a0 = 7 ∧ wp_X8_part (fun r30 S28 => hK S28 a0 = 7 ∧ wp_X8_part (fun r33 S31 => hK S31 a0 = 7 ∧ wp_X8_exchange (fun S34 => Q S34) S31 a0 r30 r33) S28 a0 x1 (2 : Int32)) S1 a0 x1 (1 : Int32)))) S a0 x1 (0 : Int32)
theorem k_X8_doAgain : Cond.code yX8_doAgain cX8_doAgain 2 none ∈ gtb := mg 613 (by decide +kernel) (by decide +kernel)
theorem dn_X8_doAgain : yX8_doAgain.cls ≠ "java/lang/invoke/MethodHandle" ∧ yX8_doAgain.cls ≠ "java/lang/invoke/VarHandle" ∧ (parseMethodDescriptor yX8_doAgain.desc).map (fun d => d.parameters.length) = some 1 := by decide +kernel
set_option maxRecDepth 100000 in
set_option maxHeartbeats 4000000 in
theorem s_X8_doAgain (l : Launch) (b : Nat) (D : va_G) (cy : Nat → ClassId) {Q : hp → Prop} {S : hp} {a0 : Nat} {x1 : Int32} (h : wp_X8_doAgain Q S a0 x1) : MT l yX8_doAgain cX8_doAgain 2 none 2 45 0 0 b D cy S [.ref a0, .int x1] (pV Q) := by
  refine MT.of (by decide +kernel) (Nat.le_of_ble_eq_true rfl) ?_
  intro p e s m args below meth c X hr hlk hnm
  unfold wp_X8_doAgain at h
  show VM l b D cy 2 2 45 0 0 (pV Q) p e s m args below meth c S 0 0 0 [(0, .ref a0), (1, .int x1)] []
  refine v_aload_n X 0 dX8_doAgain_0 rfl rfl ?_
  refine v_iload_n X 1 dX8_doAgain_1 rfl rfl ?_
  refine v_iconst X (v := 0) dX8_doAgain_2 (by decide) ?_
  obtain ⟨hk2, h⟩ := h
  refine v_callV X (av := [.int x1, .int (0 : Int32)]) (T := TX8) (N := 10) (s_X8_part l b D cy h) hk2 (by decide) rfl wd614 wd595 wd596 wd59 k_X8_part dn_X8_part rfl ⟨Nat.le_of_ble_eq_true rfl, Nat.le_of_ble_eq_true rfl⟩ (Nat.le_of_ble_eq_true rfl) ⟨Nat.le_of_ble_eq_true rfl, Nat.le_of_ble_eq_true rfl⟩ dX8_doAgain_3 rfl (kI (fun r3 S1 h => ?_))
  by_cases c23 : r3 = (0 : Int32)
  · replace h := h.1 c23
    refine v_look X (tgt := 32) dX8_doAgain_6 (by decide) (by rw [c23] <;> rfl) (by decide) ?_
    refine v_aload_n X 0 dX8_doAgain_32 rfl rfl ?_
    obtain ⟨hk4, h⟩ := h
    obtain ⟨r5, hr5, h⟩ := h
    refine v_getR X (T := TX8) (N := 10) (k := 0) hk4 (by decide) rfl (by decide) inX8 wd140 rfl dX8_doAgain_33 hr5 ?_
    refine v_aload_n X 0 dX8_doAgain_36 rfl rfl ?_
    refine v_iload_n X 1 dX8_doAgain_37 rfl rfl ?_
    refine v_iconst X (v := 2) dX8_doAgain_38 (by decide) ?_
    refine v_callV X (av := [.int x1, .int (2 : Int32)]) (T := TX8) (N := 10) (s_X8_part l b D cy h) hk4 (by decide) rfl wd614 wd595 wd596 wd59 k_X8_part dn_X8_part rfl ⟨Nat.le_of_ble_eq_true rfl, Nat.le_of_ble_eq_true rfl⟩ (Nat.le_of_ble_eq_true rfl) ⟨Nat.le_of_ble_eq_true rfl, Nat.le_of_ble_eq_true rfl⟩ dX8_doAgain_39 rfl (kI (fun r7 S6 h => ?_))
    refine v_aload_n X 0 dX8_doAgain_42 rfl rfl ?_
    refine v_iload_n X 1 dX8_doAgain_43 rfl rfl ?_
    refine v_iconst X (v := 3) dX8_doAgain_44 (by decide) ?_
    obtain ⟨hk9, h⟩ := h
    refine v_callV X (av := [.int x1, .int (3 : Int32)]) (T := TX8) (N := 10) (s_X8_part l b D cy h) hk9 (by decide) rfl wd614 wd595 wd596 wd59 k_X8_part dn_X8_part rfl ⟨Nat.le_of_ble_eq_true rfl, Nat.le_of_ble_eq_true rfl⟩ (Nat.le_of_ble_eq_true rfl) ⟨Nat.le_of_ble_eq_true rfl, Nat.le_of_ble_eq_true rfl⟩ dX8_doAgain_45 rfl (kI (fun r10 S8 h => ?_))
    refine v_callS X (av := [.int r7, .int r10]) (s_X8_at l b D cy h) wd520 wd384 wd59 k_X8_at dn_X8_at rfl ⟨Nat.le_of_ble_eq_true rfl, Nat.le_of_ble_eq_true rfl⟩ (Nat.le_of_ble_eq_true rfl) ⟨Nat.le_of_ble_eq_true rfl, Nat.le_of_ble_eq_true rfl⟩ dX8_doAgain_48 rfl (kI (fun r12 S11 h => ?_))
    refine v_dup2 X dX8_doAgain_51 rfl rfl ?_
    obtain ⟨hk13, h⟩ := h
    obtain ⟨hi14, h⟩ := h
    refine v_iald X hk13 hi14 dX8_doAgain_52 ?_
    refine v_aload_n X 0 dX8_doAgain_53 rfl rfl ?_
    refine v_iload_n X 1 dX8_doAgain_54 rfl rfl ?_
    refine v_iconst X (v := 5) dX8_doAgain_55 (by decide) ?_
    obtain ⟨hk16, h⟩ := h
    refine v_callV X (av := [.int x1, .int (5 : Int32)]) (T := TX8) (N := 10) (s_X8_part l b D cy h) hk16 (by decide) rfl wd614 wd595 wd596 wd59 k_X8_part dn_X8_part rfl ⟨Nat.le_of_ble_eq_true rfl, Nat.le_of_ble_eq_true rfl⟩ (Nat.le_of_ble_eq_true rfl) ⟨Nat.le_of_ble_eq_true rfl, Nat.le_of_ble_eq_true rfl⟩ dX8_doAgain_56 rfl (kI (fun r17 S15 h => ?_))
    refine v_iadd X dX8_doAgain_59 ?_
    obtain ⟨hk18, h⟩ := h
    obtain ⟨hi19, h⟩ := h
    refine v_iast X hk18 hi19 dX8_doAgain_60 ?_
    refine v_nmS (fun S20 eS20 => ?_)
    replace h := h S20 eS20
    have hk21 : hK S20 r5 = 12 := by rw [eS20]; exact hk18
    have hi22 : vp_in r12 (hN S20 r5) := by rw [eS20]; exact hi19
    refine v_goto X (tgt := 88) dX8_doAgain_61 (by decide) ?_
    exact v_vret X hr hlk ⟨rfl, h⟩ dX8_doAgain_88
  by_cases c27 : r3 = (1 : Int32)
  · replace h := h.2.1 c27
    refine v_look X (tgt := 64) dX8_doAgain_6 (by decide) (by rw [c27] <;> rfl) (by decide) ?_
    refine v_aload_n X 0 dX8_doAgain_64 rfl rfl ?_
    obtain ⟨hk25, h⟩ := h
    refine v_callV X (av := []) (T := TX8) (N := 10) (s_X8_shrinkAll l b D cy h) hk25 (by decide) rfl wd553 wd555 wd15 wd59 k_X8_shrinkAll dn_X8_shrinkAll rfl ⟨Nat.le_of_ble_eq_true rfl, Nat.le_of_ble_eq_true rfl⟩ (Nat.le_of_ble_eq_true rfl) ⟨Nat.le_of_ble_eq_true rfl, Nat.le_of_ble_eq_true rfl⟩ dX8_doAgain_65 rfl (kI (fun r26 S24 h => ?_))
    refine v_pop X dX8_doAgain_68 rfl ?_
    refine v_goto X (tgt := 88) dX8_doAgain_69 (by decide) ?_
    exact v_vret X hr hlk ⟨rfl, h⟩ dX8_doAgain_88
  replace h := h.2.2 c23 c27
  refine v_look X (off := 66) (tgt := 72) dX8_doAgain_6 (by decide) ((lv_osw c23 rfl).trans ((lv_osw c27 rfl).trans rfl)) (by decide) ?_
  refine v_aload_n X 0 dX8_doAgain_72 rfl rfl ?_
  refine v_aload_n X 0 dX8_doAgain_73 rfl rfl ?_
  refine v_iload_n X 1 dX8_doAgain_74 rfl rfl ?_
  refine v_iconst X (v := 1) dX8_doAgain_75 (by decide) ?_
  obtain ⟨hk29, h⟩ := h
  refine v_callV X (av := [.int x1, .int (1 : Int32)]) (T := TX8) (N := 10) (s_X8_part l b D cy h) hk29 (by decide) rfl wd614 wd595 wd596 wd59 k_X8_part dn_X8_part rfl ⟨Nat.le_of_ble_eq_true rfl, Nat.le_of_ble_eq_true rfl⟩ (Nat.le_of_ble_eq_true rfl) ⟨Nat.le_of_ble_eq_true rfl, Nat.le_of_ble_eq_true rfl⟩ dX8_doAgain_76 rfl (kI (fun r30 S28 h => ?_))
  refine v_aload_n X 0 dX8_doAgain_79 rfl rfl ?_
  refine v_iload_n X 1 dX8_doAgain_80 rfl rfl ?_
  refine v_iconst X (v := 2) dX8_doAgain_81 (by decide) ?_
  obtain ⟨hk32, h⟩ := h
  refine v_callV X (av := [.int x1, .int (2 : Int32)]) (T := TX8) (N := 10) (s_X8_part l b D cy h) hk32 (by decide) rfl wd614 wd595 wd596 wd59 k_X8_part dn_X8_part rfl ⟨Nat.le_of_ble_eq_true rfl, Nat.le_of_ble_eq_true rfl⟩ (Nat.le_of_ble_eq_true rfl) ⟨Nat.le_of_ble_eq_true rfl, Nat.le_of_ble_eq_true rfl⟩ dX8_doAgain_82 rfl (kI (fun r33 S31 h => ?_))
  obtain ⟨hk35, h⟩ := h
  refine v_callV X (av := [.int r30, .int r33]) (T := TX8) (N := 10) (s_X8_exchange l b D cy h) hk35 (by decide) rfl wd569 wd571 wd16 wd59 k_X8_exchange dn_X8_exchange rfl ⟨Nat.le_of_ble_eq_true rfl, Nat.le_of_ble_eq_true rfl⟩ (Nat.le_of_ble_eq_true rfl) ⟨Nat.le_of_ble_eq_true rfl, Nat.le_of_ble_eq_true rfl⟩ dX8_doAgain_85 rfl (kV (fun S34 h => ?_))
  exact v_vret X hr hlk ⟨rfl, h⟩ dX8_doAgain_88
def wB_X8_goBackTo_20 (bk20 : hp → Nat → Int32 → Int32 → Prop) (Q : hp → Prop) (S : hp) (l0 : Nat) (l1 : Int32) (l2 : Int32) : Prop :=
  ((l1 ≤ l2 → Q S) ∧ (¬ l1 ≤ l2 → hK S l0 = 7 ∧ wp_X8_doAgain (fun S16 => ∀ v18 : Int32, v18 = l2 + (1 : Int32) → bk20 S16 l0 l1 v18) S l0 l2))
def wl_X8_goBackTo_20 (Q : hp → Prop) : Nat → hp → Nat → Int32 → Int32 → Prop
  | 0 => fun _ _ _ _ => False
  | n + 1 => wB_X8_goBackTo_20 (wl_X8_goBackTo_20 Q n) Q
def wp_X8_goBackTo (Q : hp → Prop) (S : hp) (a0 : Nat) (x1 : Int32) : Prop :=
  hK S a0 = 7 ∧ ∃ r2 : Nat, hR S a0 1 = some r2 ∧ ∃ r3 : Nat, hR S a0 0 = some r3 ∧ hK S r3 = 12 ∧ hK S r2 = 12 ∧ ¬ (nI (hN S r3)) < 0 ∧ ((0 : Int32)).toNatClampNeg + ((nI (hN S r3))).toNatClampNeg ≤ hN S r2 ∧ ((0 : Int32)).toNatClampNeg + ((nI (hN S r3))).toNatClampNeg ≤ hN S r3 ∧ ∀ S9 : hp, S9 = cpyI S r2 r3 ((0 : Int32)).toNatClampNeg ((0 : Int32)).toNatClampNeg ((nI (hN S r3))).toNatClampNeg → ∃ n : Nat, wl_X8_goBackTo_20 Q n S9 a0 x1 (0 : Int32)
theorem k_X8_goBackTo : Cond.code yX8_goBackTo cX8_goBackTo 3 none ∈ gtb := mg 609 (by decide +kernel) (by decide +kernel)
theorem dn_X8_goBackTo : yX8_goBackTo.cls ≠ "java/lang/invoke/MethodHandle" ∧ yX8_goBackTo.cls ≠ "java/lang/invoke/VarHandle" ∧ (parseMethodDescriptor yX8_goBackTo.desc).map (fun d => d.parameters.length) = some 1 := by decide +kernel
set_option maxRecDepth 100000 in
set_option maxHeartbeats 4000000 in
theorem s_X8_goBackTo (l : Launch) (b : Nat) (D : va_G) (cy : Nat → ClassId) {Q : hp → Prop} {S : hp} {a0 : Nat} {x1 : Int32} (h : wp_X8_goBackTo Q S a0 x1) : MT l yX8_goBackTo cX8_goBackTo 3 none 3 66 0 0 b D cy S [.ref a0, .int x1] (pV Q) := by
  refine MT.of (by decide +kernel) (Nat.le_of_ble_eq_true rfl) ?_
  intro p e s m args below meth c X hr hlk hnm
  have j20 : ∀ (bk20 : hp → Nat → Int32 → Int32 → Prop) (hbk20 : ∀ (S : hp) (l0 : Nat) (l1 : Int32) (l2 : Int32), bk20 S l0 l1 l2 → VM l b D cy 3 3 66 0 0 (pV Q) p e s m args below meth c S 0 0 20 [(0, .ref l0), (1, .int l1), (2, .int l2)] []) (S : hp) (l0 : Nat) (l1 : Int32) (l2 : Int32), wB_X8_goBackTo_20 bk20 Q S l0 l1 l2 → VM l b D cy 3 3 66 0 0 (pV Q) p e s m args below meth c S 0 0 20 [(0, .ref l0), (1, .int l1), (2, .int l2)] [] := by
    intro bk20 hbk20 S l0 l1 l2 h
    unfold wB_X8_goBackTo_20 at h
    refine v_iload_n X 2 dX8_goBackTo_20 rfl rfl ?_
    refine v_iload_n X 1 dX8_goBackTo_21 rfl rfl ?_
    refine v_icmp_ge X (tgt := 36) dX8_goBackTo_22 (by decide) (fun c15 => ?_) (fun c15 => ?_)
    · replace h := h.1 c15
      exact v_vret X hr hlk ⟨rfl, h⟩ dX8_goBackTo_36
    · replace h := h.2 c15
      refine v_aload_n X 0 dX8_goBackTo_25 rfl rfl ?_
      refine v_iload_n X 2 dX8_goBackTo_26 rfl rfl ?_
      obtain ⟨hk17, h⟩ := h
      refine v_callV X (av := [.int l2]) (T := TX8) (N := 10) (s_X8_doAgain l b D cy h) hk17 (by decide) rfl wd610 wd612 wd17 wd59 k_X8_doAgain dn_X8_doAgain rfl ⟨Nat.le_of_ble_eq_true rfl, Nat.le_of_ble_eq_true rfl⟩ (Nat.le_of_ble_eq_true rfl) ⟨Nat.le_of_ble_eq_true rfl, Nat.le_of_ble_eq_true rfl⟩ dX8_goBackTo_27 rfl (kV (fun S16 h => ?_))
      obtain ⟨v18, hv18⟩ : ∃ y : Int32, y = l2 + (1 : Int32) := ⟨_, rfl⟩
      replace h := h v18 hv18
      refine v_iinc X (j := 2) (v := v18) (lv' := [(2, .int v18), (0, .ref l0), (1, .int l1)]) dX8_goBackTo_30 rfl (by rw [hv18] <;> rfl) (by decide) rfl ?_
      refine v_goto X (tgt := 20) dX8_goBackTo_33 (by decide) ?_
      refine v_lv (lv' := [(0, .ref l0), (1, .int l1), (2, .int v18)]) [1, 2, 0] rfl ?_
      exact hbk20 _ _ _ _ h
  have l20 : ∀  (n : Nat) (S : hp) (l0 : Nat) (l1 : Int32) (l2 : Int32), wl_X8_goBackTo_20 Q n S l0 l1 l2 → VM l b D cy 3 3 66 0 0 (pV Q) p e s m args below meth c S 0 0 20 [(0, .ref l0), (1, .int l1), (2, .int l2)] [] := by
    intro  n
    induction n with
    | zero => intro S l0 l1 l2 h; exact h.elim
    | succ n ih => intro S l0 l1 l2 h; exact j20 (wl_X8_goBackTo_20 Q n) ih S l0 l1 l2 h
  unfold wp_X8_goBackTo at h
  show VM l b D cy 3 3 66 0 0 (pV Q) p e s m args below meth c S 0 0 0 [(0, .ref a0), (1, .int x1)] []
  refine v_aload_n X 0 dX8_goBackTo_0 rfl rfl ?_
  obtain ⟨hk1, h⟩ := h
  obtain ⟨r2, hr2, h⟩ := h
  refine v_getR X (T := TX8) (N := 10) (k := 1) hk1 (by decide) rfl (by decide) inX8 wd143 rfl dX8_goBackTo_1 hr2 ?_
  refine v_iconst X (v := 0) dX8_goBackTo_4 (by decide) ?_
  refine v_aload_n X 0 dX8_goBackTo_5 rfl rfl ?_
  obtain ⟨r3, hr3, h⟩ := h
  refine v_getR X (T := TX8) (N := 10) (k := 0) hk1 (by decide) rfl (by decide) inX8 wd140 rfl dX8_goBackTo_6 hr3 ?_
  refine v_iconst X (v := 0) dX8_goBackTo_9 (by decide) ?_
  refine v_aload_n X 0 dX8_goBackTo_10 rfl rfl ?_
  refine v_getR X (T := TX8) (N := 10) (k := 0) hk1 (by decide) rfl (by decide) inX8 wd140 rfl dX8_goBackTo_11 hr3 ?_
  obtain ⟨hk4, h⟩ := h
  refine v_alen X hk4 (by decide) (by decide) rfl dX8_goBackTo_14 ?_
  obtain ⟨hk5, h⟩ := h
  obtain ⟨hz6, h⟩ := h
  obtain ⟨hz7, h⟩ := h
  obtain ⟨hz8, h⟩ := h
  refine v_copy X hk5 hk4 (by decide) (by decide) hz6 hz7 hz8 wd465 wd316 wd315 wd64 (Nat.le_of_ble_eq_true rfl) (Nat.le_of_ble_eq_true rfl) dX8_goBackTo_15 ?_
  refine v_nmS (fun S9 eS9 => ?_)
  replace h := h S9 eS9
  have hk10 : hK S9 a0 = 7 := by rw [eS9]; exact hk1
  have hk11 : hK S9 r3 = 12 := by rw [eS9]; exact hk4
  have hk12 : hK S9 r2 = 12 := by rw [eS9]; exact hk5
  have hr13 : hR S9 a0 1 = some r2 := by rw [eS9]; exact hr2
  have hr14 : hR S9 a0 0 = some r3 := by rw [eS9]; exact hr3
  refine v_iconst X (v := 0) dX8_goBackTo_18 (by decide) ?_
  refine v_istore_n X (lv' := [(2, .int (0 : Int32)), (0, .ref a0), (1, .int x1)]) dX8_goBackTo_19 rfl (by decide) rfl ?_
  refine v_lv (lv' := [(0, .ref a0), (1, .int x1), (2, .int (0 : Int32))]) [1, 2, 0] rfl ?_
  obtain ⟨n, h⟩ := h
  exact l20 n _ _ _ _ h
def wp_X11_was (Q : Int32 → hp → Prop) (S : hp) (a0 : Nat) (x1 : Int32) (x2 : Int32) (x3 : Int32) : Prop :=
  ((x1 < 0 → Q (-1000001 : Int32) S) ∧ (¬ x1 < 0 → hK S a0 = 10 ∧ ∃ r3 : Nat, hR S a0 2 = some r3 ∧ hK S r3 = 7 ∧ (((hI S r3 9) < x1 → Q (-1000001 : Int32) S) ∧ (¬ (hI S r3 9) < x1 → wp_X8_hasPlace (fun r7 S6 => ((¬ r7 = 0 → hK S6 a0 = 10 ∧ ∃ r10 : Nat, hR S6 a0 3 = some r10 ∧ ∃ r11 : Nat, hR S6 a0 2 = some r11 ∧ hK S6 r10 = 7 ∧ wp_X8_become (fun S12 => hK S12 a0 = 10 ∧ ∃ r15 : Nat, hR S12 a0 3 = some r15 ∧ hK S12 r15 = 7 ∧ wp_X8_goBackTo (fun S16 => hK S16 a0 = 10 ∧ ∃ r19 : Nat, hR S16 a0 3 = some r19 ∧ hK S16 r19 = 7 ∧ ∃ r21 : Nat, hR S16 r19 0 = some r21 ∧ wp_X8_at (fun r23 S22 => hK S22 r21 = 12 ∧ vp_in r23 (hN S22 r21) ∧ Q (hI S22 r21 (r23).toNatClampNeg) S22) S16 x2 x3) S12 r15 x1) S6 r10 r11) ∧ (r7 = 0 → Q (-1000001 : Int32) S6))) S r3 x2 x3))))
theorem k_X11_was : Cond.code yX11_was cX11_was 4 (some .int) ∈ gtb := mg 605 (by decide +kernel) (by decide +kernel)
theorem dn_X11_was : yX11_was.cls ≠ "java/lang/invoke/MethodHandle" ∧ yX11_was.cls ≠ "java/lang/invoke/VarHandle" ∧ (parseMethodDescriptor yX11_was.desc).map (fun d => d.parameters.length) = some 3 := by decide +kernel
set_option maxRecDepth 100000 in
set_option maxHeartbeats 4000000 in
theorem s_X11_was (l : Launch) (b : Nat) (D : va_G) (cy : Nat → ClassId) {Q : Int32 → hp → Prop} {S : hp} {a0 : Nat} {x1 : Int32} {x2 : Int32} {x3 : Int32} (h : wp_X11_was Q S a0 x1 x2 x3) : MT l yX11_was cX11_was 4 (some .int) 4 88 0 0 b D cy S [.ref a0, .int x1, .int x2, .int x3] (pI Q) := by
  refine MT.of (by decide +kernel) (Nat.le_of_ble_eq_true rfl) ?_
  intro p e s m args below meth c X hr hlk hnm
  unfold wp_X11_was at h
  show VM l b D cy 4 4 88 0 0 (pI Q) p e s m args below meth c S 0 0 0 [(0, .ref a0), (1, .int x1), (2, .int x2), (3, .int x3)] []
  refine v_iload_n X 1 dX11_was_0 rfl rfl ?_
  refine v_if_lt X (tgt := 27) dX11_was_1 (by decide) (fun c1 => ?_) (fun c1 => ?_)
  · replace h := h.1 c1
    refine v_ldc X wd262 dX11_was_27 ?_
    exact v_iret X hr hlk ⟨_, rfl, h⟩ dX11_was_29
  · replace h := h.2 c1
    refine v_iload_n X 1 dX11_was_4 rfl rfl ?_
    refine v_aload_n X 0 dX11_was_5 rfl rfl ?_
    obtain ⟨hk2, h⟩ := h
    obtain ⟨r3, hr3, h⟩ := h
    refine v_getR X (T := TX11) (N := 12) (k := 2) hk2 (by decide) rfl (by decide) inX11 wd217 rfl dX11_was_6 hr3 ?_
    obtain ⟨hk4, h⟩ := h
    refine v_getI X (T := TX8) (N := 10) (k := 9) hk4 (by decide) rfl (by decide) inX8 wd162 rfl dX11_was_9 ?_
    refine v_icmp_gt X (tgt := 27) dX11_was_12 (by decide) (fun c5 => ?_) (fun c5 => ?_)
    · replace h := h.1 c5
      refine v_ldc X wd262 dX11_was_27 ?_
      exact v_iret X hr hlk ⟨_, rfl, h⟩ dX11_was_29
    · replace h := h.2 c5
      refine v_aload_n X 0 dX11_was_15 rfl rfl ?_
      refine v_getR X (T := TX11) (N := 12) (k := 2) hk2 (by decide) rfl (by decide) inX11 wd217 rfl dX11_was_16 hr3 ?_
      refine v_iload_n X 2 dX11_was_19 rfl rfl ?_
      refine v_iload_n X 3 dX11_was_20 rfl rfl ?_
      refine v_callV X (av := [.int x2, .int x3]) (T := TX8) (N := 10) (s_X8_hasPlace l b D cy h) hk4 (by decide) rfl wd483 wd484 wd485 wd59 k_X8_hasPlace dn_X8_hasPlace rfl ⟨Nat.le_of_ble_eq_true rfl, Nat.le_of_ble_eq_true rfl⟩ (Nat.le_of_ble_eq_true rfl) ⟨Nat.le_of_ble_eq_true rfl, Nat.le_of_ble_eq_true rfl⟩ dX11_was_21 rfl (kI (fun r7 S6 h => ?_))
      refine v_if_ne X (tgt := 30) dX11_was_24 (by decide) (fun c8 => ?_) (fun c8 => ?_)
      · replace h := h.1 c8
        refine v_aload_n X 0 dX11_was_30 rfl rfl ?_
        obtain ⟨hk9, h⟩ := h
        obtain ⟨r10, hr10, h⟩ := h
        refine v_getR X (T := TX11) (N := 12) (k := 3) hk9 (by decide) rfl (by decide) inX11 wd218 rfl dX11_was_31 hr10 ?_
        refine v_aload_n X 0 dX11_was_34 rfl rfl ?_
        obtain ⟨r11, hr11, h⟩ := h
        refine v_getR X (T := TX11) (N := 12) (k := 2) hk9 (by decide) rfl (by decide) inX11 wd217 rfl dX11_was_35 hr11 ?_
        obtain ⟨hk13, h⟩ := h
        refine v_callV X (av := [.ref r11]) (T := TX8) (N := 10) (s_X8_become l b D cy h) hk13 (by decide) rfl wd461 wd462 wd463 wd59 k_X8_become dn_X8_become rfl ⟨Nat.le_of_ble_eq_true rfl, Nat.le_of_ble_eq_true rfl⟩ (Nat.le_of_ble_eq_true rfl) ⟨Nat.le_of_ble_eq_true rfl, Nat.le_of_ble_eq_true rfl⟩ dX11_was_38 rfl (kV (fun S12 h => ?_))
        refine v_aload_n X 0 dX11_was_41 rfl rfl ?_
        obtain ⟨hk14, h⟩ := h
        obtain ⟨r15, hr15, h⟩ := h
        refine v_getR X (T := TX11) (N := 12) (k := 3) hk14 (by decide) rfl (by decide) inX11 wd218 rfl dX11_was_42 hr15 ?_
        refine v_iload_n X 1 dX11_was_45 rfl rfl ?_
        obtain ⟨hk17, h⟩ := h
        refine v_callV X (av := [.int x1]) (T := TX8) (N := 10) (s_X8_goBackTo l b D cy h) hk17 (by decide) rfl wd606 wd607 wd608 wd59 k_X8_goBackTo dn_X8_goBackTo rfl ⟨Nat.le_of_ble_eq_true rfl, Nat.le_of_ble_eq_true rfl⟩ (Nat.le_of_ble_eq_true rfl) ⟨Nat.le_of_ble_eq_true rfl, Nat.le_of_ble_eq_true rfl⟩ dX11_was_46 rfl (kV (fun S16 h => ?_))
        refine v_aload_n X 0 dX11_was_49 rfl rfl ?_
        obtain ⟨hk18, h⟩ := h
        obtain ⟨r19, hr19, h⟩ := h
        refine v_getR X (T := TX11) (N := 12) (k := 3) hk18 (by decide) rfl (by decide) inX11 wd218 rfl dX11_was_50 hr19 ?_
        obtain ⟨hk20, h⟩ := h
        obtain ⟨r21, hr21, h⟩ := h
        refine v_getR X (T := TX8) (N := 10) (k := 0) hk20 (by decide) rfl (by decide) inX8 wd141 rfl dX11_was_53 hr21 ?_
        refine v_iload_n X 2 dX11_was_56 rfl rfl ?_
        refine v_iload_n X 3 dX11_was_57 rfl rfl ?_
        refine v_callS X (av := [.int x2, .int x3]) (s_X8_at l b D cy h) wd543 wd384 wd59 k_X8_at dn_X8_at rfl ⟨Nat.le_of_ble_eq_true rfl, Nat.le_of_ble_eq_true rfl⟩ (Nat.le_of_ble_eq_true rfl) ⟨Nat.le_of_ble_eq_true rfl, Nat.le_of_ble_eq_true rfl⟩ dX11_was_58 rfl (kI (fun r23 S22 h => ?_))
        obtain ⟨hk24, h⟩ := h
        obtain ⟨hi25, h⟩ := h
        refine v_iald X hk24 hi25 dX11_was_61 ?_
        exact v_iret X hr hlk ⟨_, rfl, h⟩ dX11_was_62
      · replace h := h.2 c8
        refine v_ldc X wd262 dX11_was_27 ?_
        exact v_iret X hr hlk ⟨_, rfl, h⟩ dX11_was_29
def wB_X11_isFirstOrSecond_9 (Q : Int32 → hp → Prop) (S : hp)  : Prop :=
  Q (1 : Int32) S
def wp_X11_isFirstOrSecond (Q : Int32 → hp → Prop) (S : hp) (x0 : Int32) : Prop :=
  ((x0 = 0 → wB_X11_isFirstOrSecond_9 Q S) ∧ (¬ x0 = 0 → ((¬ x0 = (1 : Int32) → Q (0 : Int32) S) ∧ (x0 = (1 : Int32) → wB_X11_isFirstOrSecond_9 Q S))))
theorem k_X11_isFirstOrSecond : Cond.code yX11_isFirstOrSecond cX11_isFirstOrSecond 1 (some .boolean) ∈ gtb := mg 621 (by decide +kernel) (by decide +kernel)
theorem dn_X11_isFirstOrSecond : yX11_isFirstOrSecond.cls ≠ "java/lang/invoke/MethodHandle" ∧ yX11_isFirstOrSecond.cls ≠ "java/lang/invoke/VarHandle" ∧ (parseMethodDescriptor yX11_isFirstOrSecond.desc).map (fun d => d.parameters.length) = some 1 := by decide +kernel
set_option maxRecDepth 100000 in
set_option maxHeartbeats 4000000 in
theorem s_X11_isFirstOrSecond (l : Launch) (b : Nat) (D : va_G) (cy : Nat → ClassId) {Q : Int32 → hp → Prop} {S : hp} {x0 : Int32} (h : wp_X11_isFirstOrSecond Q S x0) : MT l yX11_isFirstOrSecond cX11_isFirstOrSecond 1 (some .boolean) 0 0 0 0 b D cy S [.int x0] (pI Q) := by
  refine MT.of (by decide +kernel) (Nat.le_of_ble_eq_true rfl) ?_
  intro p e s m args below meth c X hr hlk hnm
  have j9 : ∀  (S : hp) , wB_X11_isFirstOrSecond_9 Q S  → VM l b D cy 1 0 0 0 0 (pI Q) p e s m args below meth c S 0 0 9 [] [] := by
    intro  S  h
    unfold wB_X11_isFirstOrSecond_9 at h
    refine v_iconst X (v := 1) dX11_isFirstOrSecond_9 (by decide) ?_
    refine v_goto X (tgt := 14) dX11_isFirstOrSecond_10 (by decide) ?_
    exact v_zret X hr (by decide) hlk ⟨_, rfl, h⟩ dX11_isFirstOrSecond_14
  unfold wp_X11_isFirstOrSecond at h
  show VM l b D cy 1 0 0 0 0 (pI Q) p e s m args below meth c S 0 0 0 [(0, .int x0)] []
  refine v_iload_n X 0 dX11_isFirstOrSecond_0 rfl rfl ?_
  refine v_if_eq X (tgt := 9) dX11_isFirstOrSecond_1 (by decide) (fun c1 => ?_) (fun c1 => ?_)
  · replace h := h.1 c1
    refine v_lv (lv' := []) [] rfl ?_
    exact j9 _ h
  · replace h := h.2 c1
    refine v_iload_n X 0 dX11_isFirstOrSecond_4 rfl rfl ?_
    refine v_iconst X (v := 1) dX11_isFirstOrSecond_5 (by decide) ?_
    refine v_icmp_ne X (tgt := 13) dX11_isFirstOrSecond_6 (by decide) (fun c2 => ?_) (fun c2 => ?_)
    · replace h := h.1 c2
      refine v_iconst X (v := 0) dX11_isFirstOrSecond_13 (by decide) ?_
      exact v_zret X hr (by decide) hlk ⟨_, rfl, h⟩ dX11_isFirstOrSecond_14
    · replace h := h.2 c2
      refine v_lv (lv' := []) [] rfl ?_
      exact j9 _ h
def wp_X8_isTelling (Q : Int32 → hp → Prop) (S : hp) (a0 : Nat) (x1 : Int32) : Prop :=
  hK S a0 = 7 ∧ wp_X8_part (fun r3 S1 => ((¬ r3 = 0 → Q (0 : Int32) S1) ∧ (r3 = 0 → Q (1 : Int32) S1))) S a0 x1 (0 : Int32)
theorem k_X8_isTelling : Cond.code yX8_isTelling cX8_isTelling 2 (some .boolean) ∈ gtb := mg 638 (by decide +kernel) (by decide +kernel)
theorem dn_X8_isTelling : yX8_isTelling.cls ≠ "java/lang/invoke/MethodHandle" ∧ yX8_isTelling.cls ≠ "java/lang/invoke/VarHandle" ∧ (parseMethodDescriptor yX8_isTelling.desc).map (fun d => d.parameters.length) = some 1 := by decide +kernel
set_option maxRecDepth 100000 in
set_option maxHeartbeats 4000000 in
theorem s_X8_isTelling (l : Launch) (b : Nat) (D : va_G) (cy : Nat → ClassId) {Q : Int32 → hp → Prop} {S : hp} {a0 : Nat} {x1 : Int32} (h : wp_X8_isTelling Q S a0 x1) : MT l yX8_isTelling cX8_isTelling 2 (some .boolean) 1 22 0 0 b D cy S [.ref a0, .int x1] (pI Q) := by
  refine MT.of (by decide +kernel) (Nat.le_of_ble_eq_true rfl) ?_
  intro p e s m args below meth c X hr hlk hnm
  unfold wp_X8_isTelling at h
  show VM l b D cy 2 1 22 0 0 (pI Q) p e s m args below meth c S 0 0 0 [(0, .ref a0), (1, .int x1)] []
  refine v_aload_n X 0 dX8_isTelling_0 rfl rfl ?_
  refine v_iload_n X 1 dX8_isTelling_1 rfl rfl ?_
  refine v_iconst X (v := 0) dX8_isTelling_2 (by decide) ?_
  obtain ⟨hk2, h⟩ := h
  refine v_callV X (av := [.int x1, .int (0 : Int32)]) (T := TX8) (N := 10) (s_X8_part l b D cy h) hk2 (by decide) rfl wd614 wd595 wd596 wd59 k_X8_part dn_X8_part rfl ⟨Nat.le_of_ble_eq_true rfl, Nat.le_of_ble_eq_true rfl⟩ (Nat.le_of_ble_eq_true rfl) ⟨Nat.le_of_ble_eq_true rfl, Nat.le_of_ble_eq_true rfl⟩ dX8_isTelling_3 rfl (kI (fun r3 S1 h => ?_))
  refine v_if_ne X (tgt := 13) dX8_isTelling_6 (by decide) (fun c4 => ?_) (fun c4 => ?_)
  · replace h := h.1 c4
    refine v_iconst X (v := 0) dX8_isTelling_13 (by decide) ?_
    exact v_zret X hr (by decide) hlk ⟨_, rfl, h⟩ dX8_isTelling_14
  · replace h := h.2 c4
    refine v_iconst X (v := 1) dX8_isTelling_9 (by decide) ?_
    refine v_goto X (tgt := 14) dX8_isTelling_10 (by decide) ?_
    exact v_zret X hr (by decide) hlk ⟨_, rfl, h⟩ dX8_isTelling_14
def wp_X8_isTellingOf (Q : Int32 → hp → Prop) (S : hp) (a0 : Nat) (x1 : Int32) (x2 : Int32) : Prop :=
  hK S a0 = 7 ∧ wp_X8_isTelling (fun r3 S1 => ((r3 = 0 → Q (0 : Int32) S1) ∧ (¬ r3 = 0 → hK S1 a0 = 7 ∧ wp_X8_part (fun r7 S5 => ((¬ r7 = x2 → Q (0 : Int32) S5) ∧ (r7 = x2 → Q (1 : Int32) S5))) S1 a0 x1 (2 : Int32)))) S a0 x1
theorem k_X8_isTellingOf : Cond.code yX8_isTellingOf cX8_isTellingOf 3 (some .boolean) ∈ gtb := mg 634 (by decide +kernel) (by decide +kernel)
theorem dn_X8_isTellingOf : yX8_isTellingOf.cls ≠ "java/lang/invoke/MethodHandle" ∧ yX8_isTellingOf.cls ≠ "java/lang/invoke/VarHandle" ∧ (parseMethodDescriptor yX8_isTellingOf.desc).map (fun d => d.parameters.length) = some 2 := by decide +kernel
set_option maxRecDepth 100000 in
set_option maxHeartbeats 4000000 in
theorem s_X8_isTellingOf (l : Launch) (b : Nat) (D : va_G) (cy : Nat → ClassId) {Q : Int32 → hp → Prop} {S : hp} {a0 : Nat} {x1 : Int32} {x2 : Int32} (h : wp_X8_isTellingOf Q S a0 x1 x2) : MT l yX8_isTellingOf cX8_isTellingOf 3 (some .boolean) 2 43 0 0 b D cy S [.ref a0, .int x1, .int x2] (pI Q) := by
  refine MT.of (by decide +kernel) (Nat.le_of_ble_eq_true rfl) ?_
  intro p e s m args below meth c X hr hlk hnm
  unfold wp_X8_isTellingOf at h
  show VM l b D cy 3 2 43 0 0 (pI Q) p e s m args below meth c S 0 0 0 [(0, .ref a0), (1, .int x1), (2, .int x2)] []
  refine v_aload_n X 0 dX8_isTellingOf_0 rfl rfl ?_
  refine v_iload_n X 1 dX8_isTellingOf_1 rfl rfl ?_
  obtain ⟨hk2, h⟩ := h
  refine v_callV X (av := [.int x1]) (T := TX8) (N := 10) (s_X8_isTelling l b D cy h) hk2 (by decide) rfl wd635 wd636 wd637 wd59 k_X8_isTelling dn_X8_isTelling rfl ⟨Nat.le_of_ble_eq_true rfl, Nat.le_of_ble_eq_true rfl⟩ (Nat.le_of_ble_eq_true rfl) ⟨Nat.le_of_ble_eq_true rfl, Nat.le_of_ble_eq_true rfl⟩ dX8_isTellingOf_2 rfl (kI (fun r3 S1 h => ?_))
  refine v_if_eq X (tgt := 22) dX8_isTellingOf_5 (by decide) (fun c4 => ?_) (fun c4 => ?_)
  · replace h := h.1 c4
    refine v_iconst X (v := 0) dX8_isTellingOf_22 (by decide) ?_
    exact v_zret X hr (by decide) hlk ⟨_, rfl, h⟩ dX8_isTellingOf_23
  · replace h := h.2 c4
    refine v_aload_n X 0 dX8_isTellingOf_8 rfl rfl ?_
    refine v_iload_n X 1 dX8_isTellingOf_9 rfl rfl ?_
    refine v_iconst X (v := 2) dX8_isTellingOf_10 (by decide) ?_
    obtain ⟨hk6, h⟩ := h
    refine v_callV X (av := [.int x1, .int (2 : Int32)]) (T := TX8) (N := 10) (s_X8_part l b D cy h) hk6 (by decide) rfl wd614 wd595 wd596 wd59 k_X8_part dn_X8_part rfl ⟨Nat.le_of_ble_eq_true rfl, Nat.le_of_ble_eq_true rfl⟩ (Nat.le_of_ble_eq_true rfl) ⟨Nat.le_of_ble_eq_true rfl, Nat.le_of_ble_eq_true rfl⟩ dX8_isTellingOf_11 rfl (kI (fun r7 S5 h => ?_))
    refine v_iload_n X 2 dX8_isTellingOf_14 rfl rfl ?_
    refine v_icmp_ne X (tgt := 22) dX8_isTellingOf_15 (by decide) (fun c8 => ?_) (fun c8 => ?_)
    · replace h := h.1 c8
      refine v_iconst X (v := 0) dX8_isTellingOf_22 (by decide) ?_
      exact v_zret X hr (by decide) hlk ⟨_, rfl, h⟩ dX8_isTellingOf_23
    · replace h := h.2 c8
      refine v_iconst X (v := 1) dX8_isTellingOf_18 (by decide) ?_
      refine v_goto X (tgt := 23) dX8_isTellingOf_19 (by decide) ?_
      exact v_zret X hr (by decide) hlk ⟨_, rfl, h⟩ dX8_isTellingOf_23
def wB_X2_addSlips_67 (bk10 : hp → Nat → Nat → Int32 → Int32 → Prop) (Q : hp → Prop) (S : hp) (l0 : Nat) (l1 : Nat) (l2 : Int32) (l3 : Int32) : Prop :=
  ∀ v9 : Int32, v9 = l3 + (1 : Int32) → bk10 S l0 l1 l2 v9
def wB_X2_addSlips_10 (bk10 : hp → Nat → Nat → Int32 → Int32 → Prop) (Q : hp → Prop) (S : hp) (l0 : Nat) (l1 : Nat) (l2 : Int32) (l3 : Int32) : Prop :=
  hK S l1 = 7 ∧ (((hI S l1 9) ≤ l3 → Q S) ∧ (¬ (hI S l1 9) ≤ l3 → wp_X8_isTellingOf (fun r7 S6 => ((r7 = 0 → wB_X2_addSlips_67 bk10 Q S6 l0 l1 l2 l3) ∧ (¬ r7 = 0 → hK S6 l1 = 7 ∧ wp_X8_part (fun r12 S10 => hK S10 l1 = 7 ∧ wp_X8_part (fun r15 S13 => wp_X8_at (fun r17 S16 => hK S16 l0 = 2 ∧ ∃ r19 : Nat, hR S16 l0 0 = some r19 ∧ hK S16 r19 = 12 ∧ vp_in r17 (hN S16 r19) ∧ hK S16 l1 = 7 ∧ wp_X8_part (fun r24 S22 => hK S22 l1 = 7 ∧ wp_X8_part (fun r27 S25 => hK S25 r19 = 12 ∧ vp_in r17 (hN S25 r19) ∧ ∀ S30 : hp, S30 = setI S25 r19 (r17).toNatClampNeg ((hI S16 r19 (r17).toNatClampNeg) + (r24 - r27)) → wB_X2_addSlips_67 bk10 Q S30 l0 l1 l2 l3) S22 l1 l3 (5 : Int32)) S16 l1 l3 (4 : Int32)) S13 r12 r15) S10 l1 l3 (3 : Int32)) S6 l1 l3 (1 : Int32)))) S l1 l3 l2))
def wl_X2_addSlips_10 (Q : hp → Prop) : Nat → hp → Nat → Nat → Int32 → Int32 → Prop
  | 0 => fun _ _ _ _ _ => False
  | n + 1 => wB_X2_addSlips_10 (wl_X2_addSlips_10 Q n) Q
def wp_X2_addSlips (Q : hp → Prop) (S : hp) (a0 : Nat) (a1 : Nat) (x2 : Int32) : Prop :=
  hK S a0 = 2 ∧ ∃ r2 : Nat, hR S a0 0 = some r2 ∧ wp_J7_fill_53178 (fun S3 => ∃ n : Nat, wl_X2_addSlips_10 Q n S3 a0 a1 x2 (0 : Int32)) S r2 (0 : Int32)
theorem k_X2_addSlips : Cond.code yX2_addSlips cX2_addSlips 5 none ∈ gtb := mg 629 (by decide +kernel) (by decide +kernel)
theorem dn_X2_addSlips : yX2_addSlips.cls ≠ "java/lang/invoke/MethodHandle" ∧ yX2_addSlips.cls ≠ "java/lang/invoke/VarHandle" ∧ (parseMethodDescriptor yX2_addSlips.desc).map (fun d => d.parameters.length) = some 2 := by decide +kernel
set_option maxRecDepth 100000 in
set_option maxHeartbeats 4000000 in
theorem s_X2_addSlips (l : Launch) (b : Nat) (D : va_G) (cy : Nat → ClassId) {Q : hp → Prop} {S : hp} {a0 : Nat} {a1 : Nat} {x2 : Int32} (h : wp_X2_addSlips Q S a0 a1 x2) : MT l yX2_addSlips cX2_addSlips 5 none 3 65 0 0 b D cy S [.ref a0, .ref a1, .int x2] (pV Q) := by
  refine MT.of (by decide +kernel) (Nat.le_of_ble_eq_true rfl) ?_
  intro p e s m args below meth c X hr hlk hnm
  have j67 : ∀ (bk10 : hp → Nat → Nat → Int32 → Int32 → Prop) (hbk10 : ∀ (S : hp) (l0 : Nat) (l1 : Nat) (l2 : Int32) (l3 : Int32), bk10 S l0 l1 l2 l3 → VM l b D cy 5 3 65 0 0 (pV Q) p e s m args below meth c S 0 0 10 [(0, .ref l0), (1, .ref l1), (2, .int l2), (3, .int l3)] []) (S : hp) (l0 : Nat) (l1 : Nat) (l2 : Int32) (l3 : Int32), wB_X2_addSlips_67 bk10 Q S l0 l1 l2 l3 → VM l b D cy 5 3 65 0 0 (pV Q) p e s m args below meth c S 0 0 67 [(0, .ref l0), (1, .ref l1), (2, .int l2), (3, .int l3)] [] := by
    intro bk10 hbk10 S l0 l1 l2 l3 h
    unfold wB_X2_addSlips_67 at h
    obtain ⟨v9, hv9⟩ : ∃ y : Int32, y = l3 + (1 : Int32) := ⟨_, rfl⟩
    replace h := h v9 hv9
    refine v_iinc X (j := 3) (v := v9) (lv' := [(3, .int v9), (0, .ref l0), (1, .ref l1), (2, .int l2)]) dX2_addSlips_67 rfl (by rw [hv9] <;> rfl) (by decide) rfl ?_
    refine v_goto X (tgt := 10) dX2_addSlips_70 (by decide) ?_
    refine v_lv (lv' := [(0, .ref l0), (1, .ref l1), (2, .int l2), (3, .int v9)]) [1, 2, 3, 0] rfl ?_
    exact hbk10 _ _ _ _ _ h
  have j10 : ∀ (bk10 : hp → Nat → Nat → Int32 → Int32 → Prop) (hbk10 : ∀ (S : hp) (l0 : Nat) (l1 : Nat) (l2 : Int32) (l3 : Int32), bk10 S l0 l1 l2 l3 → VM l b D cy 5 3 65 0 0 (pV Q) p e s m args below meth c S 0 0 10 [(0, .ref l0), (1, .ref l1), (2, .int l2), (3, .int l3)] []) (S : hp) (l0 : Nat) (l1 : Nat) (l2 : Int32) (l3 : Int32), wB_X2_addSlips_10 bk10 Q S l0 l1 l2 l3 → VM l b D cy 5 3 65 0 0 (pV Q) p e s m args below meth c S 0 0 10 [(0, .ref l0), (1, .ref l1), (2, .int l2), (3, .int l3)] [] := by
    intro bk10 hbk10 S l0 l1 l2 l3 h
    unfold wB_X2_addSlips_10 at h
    refine v_iload_n X 3 dX2_addSlips_10 rfl rfl ?_
    refine v_aload_n X 1 dX2_addSlips_11 rfl rfl ?_
    obtain ⟨hk4, h⟩ := h
    refine v_getI X (T := TX8) (N := 10) (k := 9) hk4 (by decide) rfl (by decide) inX8 wd160 rfl dX2_addSlips_12 ?_
    refine v_icmp_ge X (tgt := 73) dX2_addSlips_15 (by decide) (fun c5 => ?_) (fun c5 => ?_)
    · replace h := h.1 c5
      exact v_vret X hr hlk ⟨rfl, h⟩ dX2_addSlips_73
    · replace h := h.2 c5
      refine v_aload_n X 1 dX2_addSlips_18 rfl rfl ?_
      refine v_iload_n X 3 dX2_addSlips_19 rfl rfl ?_
      refine v_iload_n X 2 dX2_addSlips_20 rfl rfl ?_
      refine v_callV X (av := [.int l3, .int l2]) (T := TX8) (N := 10) (s_X8_isTellingOf l b D cy h) hk4 (by decide) rfl wd631 wd632 wd633 wd59 k_X8_isTellingOf dn_X8_isTellingOf rfl ⟨Nat.le_of_ble_eq_true rfl, Nat.le_of_ble_eq_true rfl⟩ (Nat.le_of_ble_eq_true rfl) ⟨Nat.le_of_ble_eq_true rfl, Nat.le_of_ble_eq_true rfl⟩ dX2_addSlips_21 rfl (kI (fun r7 S6 h => ?_))
      refine v_if_eq X (tgt := 67) dX2_addSlips_24 (by decide) (fun c8 => ?_) (fun c8 => ?_)
      · replace h := h.1 c8
        exact j67 bk10 hbk10 _ _ _ _ _ h
      · replace h := h.2 c8
        refine v_aload_n X 1 dX2_addSlips_27 rfl rfl ?_
        refine v_iload_n X 3 dX2_addSlips_28 rfl rfl ?_
        refine v_iconst X (v := 1) dX2_addSlips_29 (by decide) ?_
        obtain ⟨hk11, h⟩ := h
        refine v_callV X (av := [.int l3, .int (1 : Int32)]) (T := TX8) (N := 10) (s_X8_part l b D cy h) hk11 (by decide) rfl wd639 wd595 wd596 wd59 k_X8_part dn_X8_part rfl ⟨Nat.le_of_ble_eq_true rfl, Nat.le_of_ble_eq_true rfl⟩ (Nat.le_of_ble_eq_true rfl) ⟨Nat.le_of_ble_eq_true rfl, Nat.le_of_ble_eq_true rfl⟩ dX2_addSlips_30 rfl (kI (fun r12 S10 h => ?_))
        refine v_aload_n X 1 dX2_addSlips_33 rfl rfl ?_
        refine v_iload_n X 3 dX2_addSlips_34 rfl rfl ?_
        refine v_iconst X (v := 3) dX2_addSlips_35 (by decide) ?_
        obtain ⟨hk14, h⟩ := h
        refine v_callV X (av := [.int l3, .int (3 : Int32)]) (T := TX8) (N := 10) (s_X8_part l b D cy h) hk14 (by decide) rfl wd639 wd595 wd596 wd59 k_X8_part dn_X8_part rfl ⟨Nat.le_of_ble_eq_true rfl, Nat.le_of_ble_eq_true rfl⟩ (Nat.le_of_ble_eq_true rfl) ⟨Nat.le_of_ble_eq_true rfl, Nat.le_of_ble_eq_true rfl⟩ dX2_addSlips_36 rfl (kI (fun r15 S13 h => ?_))
        refine v_callS X (av := [.int r12, .int r15]) (s_X8_at l b D cy h) wd640 wd384 wd59 k_X8_at dn_X8_at rfl ⟨Nat.le_of_ble_eq_true rfl, Nat.le_of_ble_eq_true rfl⟩ (Nat.le_of_ble_eq_true rfl) ⟨Nat.le_of_ble_eq_true rfl, Nat.le_of_ble_eq_true rfl⟩ dX2_addSlips_39 rfl (kI (fun r17 S16 h => ?_))
        refine v_istore X (lv' := [(4, .int r17), (0, .ref l0), (1, .ref l1), (2, .int l2), (3, .int l3)]) dX2_addSlips_42 (by decide) rfl ?_
        refine v_aload_n X 1 dX2_addSlips_44 rfl rfl ?_
        obtain ⟨hk18, h⟩ := h
        obtain ⟨r19, hr19, h⟩ := h
        refine v_getR X (T := TX2) (N := 2) (k := 0) hk18 (by decide) rfl (by decide) inX2 wd190 rfl dX2_addSlips_45 hr19 ?_
        refine v_iload X 0 dX2_addSlips_48 rfl ?_
        refine v_dup2 X dX2_addSlips_50 rfl rfl ?_
        obtain ⟨hk20, h⟩ := h
        obtain ⟨hi21, h⟩ := h
        refine v_iald X hk20 hi21 dX2_addSlips_51 ?_
        refine v_aload_n X 2 dX2_addSlips_52 rfl rfl ?_
        refine v_iload_n X 4 dX2_addSlips_53 rfl rfl ?_
        refine v_iconst X (v := 4) dX2_addSlips_54 (by decide) ?_
        obtain ⟨hk23, h⟩ := h
        refine v_callV X (av := [.int l3, .int (4 : Int32)]) (T := TX8) (N := 10) (s_X8_part l b D cy h) hk23 (by decide) rfl wd639 wd595 wd596 wd59 k_X8_part dn_X8_part rfl ⟨Nat.le_of_ble_eq_true rfl, Nat.le_of_ble_eq_true rfl⟩ (Nat.le_of_ble_eq_true rfl) ⟨Nat.le_of_ble_eq_true rfl, Nat.le_of_ble_eq_true rfl⟩ dX2_addSlips_55 rfl (kI (fun r24 S22 h => ?_))
        refine v_aload_n X 2 dX2_addSlips_58 rfl rfl ?_
        refine v_iload_n X 4 dX2_addSlips_59 rfl rfl ?_
        refine v_iconst X (v := 5) dX2_addSlips_60 (by decide) ?_
        obtain ⟨hk26, h⟩ := h
        refine v_callV X (av := [.int l3, .int (5 : Int32)]) (T := TX8) (N := 10) (s_X8_part l b D cy h) hk26 (by decide) rfl wd639 wd595 wd596 wd59 k_X8_part dn_X8_part rfl ⟨Nat.le_of_ble_eq_true rfl, Nat.le_of_ble_eq_true rfl⟩ (Nat.le_of_ble_eq_true rfl) ⟨Nat.le_of_ble_eq_true rfl, Nat.le_of_ble_eq_true rfl⟩ dX2_addSlips_61 rfl (kI (fun r27 S25 h => ?_))
        refine v_isub X dX2_addSlips_64 ?_
        refine v_iadd X dX2_addSlips_65 ?_
        obtain ⟨hk28, h⟩ := h
        obtain ⟨hi29, h⟩ := h
        refine v_iast X hk28 hi29 dX2_addSlips_66 ?_
        refine v_nmS (fun S30 eS30 => ?_)
        replace h := h S30 eS30
        have hk31 : hK S30 r19 = 12 := by rw [eS30]; exact hk28
        have hi32 : vp_in r17 (hN S30 r19) := by rw [eS30]; exact hi29
        refine v_lv (lv' := [(0, .ref l0), (1, .ref l1), (2, .int l2), (3, .int l3)]) [1, 2, 3, 4] rfl ?_
        exact j67 bk10 hbk10 _ _ _ _ _ h
  have l10 : ∀  (n : Nat) (S : hp) (l0 : Nat) (l1 : Nat) (l2 : Int32) (l3 : Int32), wl_X2_addSlips_10 Q n S l0 l1 l2 l3 → VM l b D cy 5 3 65 0 0 (pV Q) p e s m args below meth c S 0 0 10 [(0, .ref l0), (1, .ref l1), (2, .int l2), (3, .int l3)] [] := by
    intro  n
    induction n with
    | zero => intro S l0 l1 l2 l3 h; exact h.elim
    | succ n ih => intro S l0 l1 l2 l3 h; exact j10 (wl_X2_addSlips_10 Q n) ih S l0 l1 l2 l3 h
  unfold wp_X2_addSlips at h
  show VM l b D cy 5 3 65 0 0 (pV Q) p e s m args below meth c S 0 0 0 [(0, .ref a0), (1, .ref a1), (2, .int x2)] []
  refine v_aload_n X 0 dX2_addSlips_0 rfl rfl ?_
  obtain ⟨hk1, h⟩ := h
  obtain ⟨r2, hr2, h⟩ := h
  refine v_getR X (T := TX2) (N := 2) (k := 0) hk1 (by decide) rfl (by decide) inX2 wd190 rfl dX2_addSlips_1 hr2 ?_
  refine v_iconst X (v := 0) dX2_addSlips_4 (by decide) ?_
  refine v_callS X (av := [.ref r2, .int (0 : Int32)]) (s_J7_fill_53178 l b D cy h) wd630 wd273 wd63 k_J7_fill_53178 dn_J7_fill_53178 rfl ⟨Nat.le_of_ble_eq_true rfl, Nat.le_of_ble_eq_true rfl⟩ (Nat.le_of_ble_eq_true rfl) ⟨Nat.le_of_ble_eq_true rfl, Nat.le_of_ble_eq_true rfl⟩ dX2_addSlips_5 rfl (kV (fun S3 h => ?_))
  refine v_iconst X (v := 0) dX2_addSlips_8 (by decide) ?_
  refine v_istore_n X (lv' := [(3, .int (0 : Int32)), (0, .ref a0), (1, .ref a1), (2, .int x2)]) dX2_addSlips_9 rfl (by decide) rfl ?_
  refine v_lv (lv' := [(0, .ref a0), (1, .ref a1), (2, .int x2), (3, .int (0 : Int32))]) [1, 2, 3, 0] rfl ?_
  obtain ⟨n, h⟩ := h
  exact l10 n _ _ _ _ _ h
