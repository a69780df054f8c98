def wB_X8_tellingsBy_24 (bk4 : hp → Nat → Int32 → Int32 → Int32 → Prop) (Q : Int32 → hp → Prop) (S : hp) (l0 : Nat) (l1 : Int32) (l2 : Int32) (l3 : Int32) : Prop :=
  ∀ v6 : Int32, v6 = l3 + (1 : Int32) → bk4 S l0 l1 l2 v6
def wB_X8_tellingsBy_4 (bk4 : hp → Nat → Int32 → Int32 → Int32 → Prop) (Q : Int32 → hp → Prop) (S : hp) (l0 : Nat) (l1 : Int32) (l2 : Int32) (l3 : Int32) : Prop :=
  hK S l0 = 7 ∧ (((hI S l0 9) ≤ l3 → Q l2 S) ∧ (¬ (hI S l0 9) ≤ l3 → wp_X8_isTellingBy (fun r4 S3 => ((r4 = 0 → wB_X8_tellingsBy_24 bk4 Q S3 l0 l1 l2 l3) ∧ (¬ r4 = 0 → ∀ v7 : Int32, v7 = l2 + (1 : Int32) → wB_X8_tellingsBy_24 bk4 Q S3 l0 l1 v7 l3))) S l0 l3 l1))
def wl_X8_tellingsBy_4 (Q : Int32 → hp → Prop) : Nat → hp → Nat → Int32 → Int32 → Int32 → Prop
  | 0 => fun _ _ _ _ _ => False
  | n + 1 => wB_X8_tellingsBy_4 (wl_X8_tellingsBy_4 Q n) Q
def wp_X8_tellingsBy (Q : Int32 → hp → Prop) (S : hp) (a0 : Nat) (x1 : Int32) : Prop :=
  ∃ n : Nat, wl_X8_tellingsBy_4 Q n S a0 x1 (0 : Int32) (0 : Int32)
theorem k_X8_tellingsBy : Cond.code yX8_tellingsBy cX8_tellingsBy 4 (some .int) ∈ gtb := mg 851 (by decide +kernel) (by decide +kernel)
theorem dn_X8_tellingsBy : yX8_tellingsBy.cls ≠ "java/lang/invoke/MethodHandle" ∧ yX8_tellingsBy.cls ≠ "java/lang/invoke/VarHandle" ∧ (parseMethodDescriptor yX8_tellingsBy.desc).map (fun d => d.parameters.length) = some 1 := by decide +kernel
set_option maxRecDepth 100000 in
set_option maxHeartbeats 4000000 in
theorem s_X8_tellingsBy (l : Launch) (b : Nat) (D : va_G) (cy : Nat → ClassId) {Q : Int32 → hp → Prop} {S : hp} {a0 : Nat} {x1 : Int32} (h : wp_X8_tellingsBy Q S a0 x1) : MT l yX8_tellingsBy cX8_tellingsBy 4 (some .int) 3 65 0 0 b D cy S [.ref a0, .int x1] (pI Q) := by
  refine MT.of (by decide +kernel) (Nat.le_of_ble_eq_true rfl) ?_
  intro p e s m args below meth c X hr hlk hnm
  have j24 : ∀ (bk4 : hp → Nat → Int32 → Int32 → Int32 → Prop) (hbk4 : ∀ (S : hp) (l0 : Nat) (l1 : Int32) (l2 : Int32) (l3 : Int32), bk4 S l0 l1 l2 l3 → VM l b D cy 4 3 65 0 0 (pI Q) p e s m args below meth c S 0 0 4 [(0, .ref l0), (1, .int l1), (2, .int l2), (3, .int l3)] []) (S : hp) (l0 : Nat) (l1 : Int32) (l2 : Int32) (l3 : Int32), wB_X8_tellingsBy_24 bk4 Q S l0 l1 l2 l3 → VM l b D cy 4 3 65 0 0 (pI Q) p e s m args below meth c S 0 0 24 [(0, .ref l0), (1, .int l1), (2, .int l2), (3, .int l3)] [] := by
    intro bk4 hbk4 S l0 l1 l2 l3 h
    unfold wB_X8_tellingsBy_24 at h
    obtain ⟨v6, hv6⟩ : ∃ y : Int32, y = l3 + (1 : Int32) := ⟨_, rfl⟩
    replace h := h v6 hv6
    refine v_iinc X (j := 3) (v := v6) (lv' := [(3, .int v6), (0, .ref l0), (1, .int l1), (2, .int l2)]) dX8_tellingsBy_24 rfl (by rw [hv6] <;> rfl) (by decide) rfl ?_
    refine v_goto X (tgt := 4) dX8_tellingsBy_27 (by decide) ?_
    refine v_lv (lv' := [(0, .ref l0), (1, .int l1), (2, .int l2), (3, .int v6)]) [1, 2, 3, 0] rfl ?_
    exact hbk4 _ _ _ _ _ h
  have j4 : ∀ (bk4 : hp → Nat → Int32 → Int32 → Int32 → Prop) (hbk4 : ∀ (S : hp) (l0 : Nat) (l1 : Int32) (l2 : Int32) (l3 : Int32), bk4 S l0 l1 l2 l3 → VM l b D cy 4 3 65 0 0 (pI Q) p e s m args below meth c S 0 0 4 [(0, .ref l0), (1, .int l1), (2, .int l2), (3, .int l3)] []) (S : hp) (l0 : Nat) (l1 : Int32) (l2 : Int32) (l3 : Int32), wB_X8_tellingsBy_4 bk4 Q S l0 l1 l2 l3 → VM l b D cy 4 3 65 0 0 (pI Q) p e s m args below meth c S 0 0 4 [(0, .ref l0), (1, .int l1), (2, .int l2), (3, .int l3)] [] := by
    intro bk4 hbk4 S l0 l1 l2 l3 h
    unfold wB_X8_tellingsBy_4 at h
    refine v_iload_n X 3 dX8_tellingsBy_4 rfl rfl ?_
    refine v_aload_n X 0 dX8_tellingsBy_5 rfl rfl ?_
    obtain ⟨hk1, h⟩ := h
    refine v_getI X (T := TX8) (N := 10) (k := 9) hk1 (by decide) rfl (by decide) inX8 wd161 rfl dX8_tellingsBy_6 ?_
    refine v_icmp_ge X (tgt := 30) dX8_tellingsBy_9 (by decide) (fun c2 => ?_) (fun c2 => ?_)
    · replace h := h.1 c2
      refine v_iload_n X 2 dX8_tellingsBy_30 rfl rfl ?_
      exact v_iret X hr hlk ⟨_, rfl, h⟩ dX8_tellingsBy_31
    · replace h := h.2 c2
      refine v_aload_n X 0 dX8_tellingsBy_12 rfl rfl ?_
      refine v_iload_n X 3 dX8_tellingsBy_13 rfl rfl ?_
      refine v_iload_n X 1 dX8_tellingsBy_14 rfl rfl ?_
      refine v_callV X (av := [.int l3, .int l1]) (T := TX8) (N := 10) (s_X8_isTellingBy l b D cy h) hk1 (by decide) rfl wd852 wd710 wd711 wd59 k_X8_isTellingBy dn_X8_isTellingBy rfl ⟨Nat.le_of_ble_eq_true rfl, Nat.le_of_ble_eq_true rfl⟩ (Nat.le_of_ble_eq_true rfl) ⟨Nat.le_of_ble_eq_true rfl, Nat.le_of_ble_eq_true rfl⟩ dX8_tellingsBy_15 rfl (kI (fun r4 S3 h => ?_))
      refine v_if_eq X (tgt := 24) dX8_tellingsBy_18 (by decide) (fun c5 => ?_) (fun c5 => ?_)
      · replace h := h.1 c5
        exact j24 bk4 hbk4 _ _ _ _ _ h
      · replace h := h.2 c5
        obtain ⟨v7, hv7⟩ : ∃ y : Int32, y = l2 + (1 : Int32) := ⟨_, rfl⟩
        replace h := h v7 hv7
        refine v_iinc X (j := 2) (v := v7) (lv' := [(2, .int v7), (0, .ref l0), (1, .int l1), (3, .int l3)]) dX8_tellingsBy_21 rfl (by rw [hv7] <;> rfl) (by decide) rfl ?_
        refine v_lv (lv' := [(0, .ref l0), (1, .int l1), (2, .int v7), (3, .int l3)]) [1, 2, 0, 3] rfl ?_
        exact j24 bk4 hbk4 _ _ _ _ _ h
  have l4 : ∀  (n : Nat) (S : hp) (l0 : Nat) (l1 : Int32) (l2 : Int32) (l3 : Int32), wl_X8_tellingsBy_4 Q n S l0 l1 l2 l3 → VM l b D cy 4 3 65 0 0 (pI Q) p e s m args below meth c S 0 0 4 [(0, .ref l0), (1, .int l1), (2, .int l2), (3, .int l3)] [] := by
    intro  n
    induction n with
    | zero => intro S l0 l1 l2 l3 h; exact h.elim
    | succ n ih => intro S l0 l1 l2 l3 h; exact j4 (wl_X8_tellingsBy_4 Q n) ih S l0 l1 l2 l3 h
  unfold wp_X8_tellingsBy at h
  show VM l b D cy 4 3 65 0 0 (pI Q) p e s m args below meth c S 0 0 0 [(0, .ref a0), (1, .int x1)] []
  refine v_iconst X (v := 0) dX8_tellingsBy_0 (by decide) ?_
  refine v_istore_n X (lv' := [(2, .int (0 : Int32)), (0, .ref a0), (1, .int x1)]) dX8_tellingsBy_1 rfl (by decide) rfl ?_
  refine v_iconst X (v := 0) dX8_tellingsBy_2 (by decide) ?_
  refine v_istore_n X (lv' := [(3, .int (0 : Int32)), (2, .int (0 : Int32)), (0, .ref a0), (1, .int x1)]) dX8_tellingsBy_3 rfl (by decide) rfl ?_
  refine v_lv (lv' := [(0, .ref a0), (1, .int x1), (2, .int (0 : Int32)), (3, .int (0 : Int32))]) [2, 3, 1, 0] rfl ?_
  obtain ⟨n, h⟩ := h
  exact l4 n _ _ _ _ _ h
def wp_X0_startFor (Q : hp → Prop) (S : hp) (a0 : Nat) (x1 : Int32) : Prop :=
  hK S a0 = 0 ∧ ∀ S2 : hp, S2 = setI S a0 1 (0 : Int32) → ∀ S4 : hp, S4 = setI S2 a0 2 x1 → Q S4
theorem k_X0_startFor : Cond.code yX0_startFor cX0_startFor 2 none ∈ gtb := mg 856 (by decide +kernel) (by decide +kernel)
theorem dn_X0_startFor : yX0_startFor.cls ≠ "java/lang/invoke/MethodHandle" ∧ yX0_startFor.cls ≠ "java/lang/invoke/VarHandle" ∧ (parseMethodDescriptor yX0_startFor.desc).map (fun d => d.parameters.length) = some 1 := by decide +kernel
set_option maxRecDepth 100000 in
set_option maxHeartbeats 4000000 in
theorem s_X0_startFor (l : Launch) (b : Nat) (D : va_G) (cy : Nat → ClassId) {Q : hp → Prop} {S : hp} {a0 : Nat} {x1 : Int32} (h : wp_X0_startFor Q S a0 x1) : MT l yX0_startFor cX0_startFor 2 none 0 0 0 0 b D cy S [.ref a0, .int x1] (pV Q) := by
  refine MT.of (by decide +kernel) (Nat.le_of_ble_eq_true rfl) ?_
  intro p e s m args below meth c X hr hlk hnm
  unfold wp_X0_startFor at h
  show VM l b D cy 2 0 0 0 0 (pV Q) p e s m args below meth c S 0 0 0 [(0, .ref a0), (1, .int x1)] []
  refine v_aload_n X 0 dX0_startFor_0 rfl rfl ?_
  refine v_iconst X (v := 0) dX0_startFor_1 (by decide) ?_
  obtain ⟨hk1, h⟩ := h
  refine v_putI X (T := TX0) (N := 3) (k := 1) hk1 (by decide) rfl (by decide) inX0 wd204 tyX0 tyX0_ok nmX0 rfl rfl rfl rfl dX0_startFor_2 ?_
  refine v_nmS (fun S2 eS2 => ?_)
  replace h := h S2 eS2
  have hk3 : hK S2 a0 = 0 := by rw [eS2]; exact hk1
  refine v_aload_n X 0 dX0_startFor_5 rfl rfl ?_
  refine v_iload_n X 1 dX0_startFor_6 rfl rfl ?_
  refine v_putI X (T := TX0) (N := 3) (k := 2) hk3 (by decide) rfl (by decide) inX0 wd205 tyX0 tyX0_ok nmX0 rfl rfl rfl rfl dX0_startFor_7 ?_
  refine v_nmS (fun S4 eS4 => ?_)
  replace h := h S4 eS4
  have hk5 : hK S4 a0 = 0 := by rw [eS4]; exact hk3
  exact v_vret X hr hlk ⟨rfl, h⟩ dX0_startFor_10
def wp_X0_begin (Q : hp → Prop) (S : hp) (a0 : Nat) (x1 : Int32) : Prop :=
  hK S a0 = 0 ∧ (((16 : Int32) ≤ (hI S a0 1) → Q S) ∧ (¬ (16 : Int32) ≤ (hI S a0 1) → ∃ r3 : Nat, hR S a0 0 = some r3 ∧ hK S r3 = 12 ∧ vp_in (hI S a0 1) (hN S r3) ∧ ∀ S6 : hp, S6 = setI S r3 ((hI S a0 1)).toNatClampNeg x1 → ∀ S11 : hp, S11 = setI S6 a0 1 ((hI S6 a0 1) + (1 : Int32)) → Q S11))
theorem k_X0_begin : Cond.code yX0_begin cX0_begin 2 none ∈ gtb := mg 866 (by decide +kernel) (by decide +kernel)
theorem dn_X0_begin : yX0_begin.cls ≠ "java/lang/invoke/MethodHandle" ∧ yX0_begin.cls ≠ "java/lang/invoke/VarHandle" ∧ (parseMethodDescriptor yX0_begin.desc).map (fun d => d.parameters.length) = some 1 := by decide +kernel
set_option maxRecDepth 100000 in
set_option maxHeartbeats 4000000 in
theorem s_X0_begin (l : Launch) (b : Nat) (D : va_G) (cy : Nat → ClassId) {Q : hp → Prop} {S : hp} {a0 : Nat} {x1 : Int32} (h : wp_X0_begin Q S a0 x1) : MT l yX0_begin cX0_begin 2 none 0 0 0 0 b D cy S [.ref a0, .int x1] (pV Q) := by
  refine MT.of (by decide +kernel) (Nat.le_of_ble_eq_true rfl) ?_
  intro p e s m args below meth c X hr hlk hnm
  unfold wp_X0_begin at h
  show VM l b D cy 2 0 0 0 0 (pV Q) p e s m args below meth c S 0 0 0 [(0, .ref a0), (1, .int x1)] []
  refine v_aload_n X 0 dX0_begin_0 rfl rfl ?_
  obtain ⟨hk1, h⟩ := h
  refine v_getI X (T := TX0) (N := 3) (k := 1) hk1 (by decide) rfl (by decide) inX0 wd204 rfl dX0_begin_1 ?_
  refine v_bipush X (v := 16) dX0_begin_4 (by decide) ?_
  refine v_icmp_ge X (tgt := 29) dX0_begin_6 (by decide) (fun c2 => ?_) (fun c2 => ?_)
  · replace h := h.1 c2
    exact v_vret X hr hlk ⟨rfl, h⟩ dX0_begin_29
  · replace h := h.2 c2
    refine v_aload_n X 0 dX0_begin_9 rfl rfl ?_
    obtain ⟨r3, hr3, h⟩ := h
    refine v_getR X (T := TX0) (N := 3) (k := 0) hk1 (by decide) rfl (by decide) inX0 wd203 rfl dX0_begin_10 hr3 ?_
    refine v_aload_n X 0 dX0_begin_13 rfl rfl ?_
    refine v_getI X (T := TX0) (N := 3) (k := 1) hk1 (by decide) rfl (by decide) inX0 wd204 rfl dX0_begin_14 ?_
    refine v_iload_n X 1 dX0_begin_17 rfl rfl ?_
    obtain ⟨hk4, h⟩ := h
    obtain ⟨hi5, h⟩ := h
    refine v_iast X hk4 hi5 dX0_begin_18 ?_
    refine v_nmS (fun S6 eS6 => ?_)
    replace h := h S6 eS6
    have hk7 : hK S6 a0 = 0 := by rw [eS6]; exact hk1
    have hk8 : hK S6 r3 = 12 := by rw [eS6]; exact hk4
    have hi9 : vp_in (hI S a0 1) (hN S6 r3) := by rw [eS6]; exact hi5
    have hr10 : hR S6 a0 0 = some r3 := by rw [eS6]; exact hr3
    refine v_aload_n X 0 dX0_begin_19 rfl rfl ?_
    refine v_dup X dX0_begin_20 rfl ?_
    refine v_getI X (T := TX0) (N := 3) (k := 1) hk7 (by decide) rfl (by decide) inX0 wd204 rfl dX0_begin_21 ?_
    refine v_iconst X (v := 1) dX0_begin_24 (by decide) ?_
    refine v_iadd X dX0_begin_25 ?_
    refine v_putI X (T := TX0) (N := 3) (k := 1) hk7 (by decide) rfl (by decide) inX0 wd204 tyX0 tyX0_ok nmX0 rfl rfl rfl rfl dX0_begin_26 ?_
    refine v_nmS (fun S11 eS11 => ?_)
    replace h := h S11 eS11
    have hk12 : hK S11 a0 = 0 := by rw [eS11]; exact hk7
    have hk13 : hK S11 r3 = 12 := by rw [eS11]; exact hk8
    have hi14 : vp_in (hI S a0 1) (hN S11 r3) := by rw [eS11]; exact hi9
    have hr15 : hR S11 a0 0 = some r3 := by rw [eS11]; exact hr10
    exact v_vret X hr hlk ⟨rfl, h⟩ dX0_begin_29
def wp_X4_size (Q : Int32 → hp → Prop) (S : hp) (a0 : Nat) (a1 : Nat) : Prop :=
  hK S a1 = 0 ∧ wp_X0_begin (fun S1 => isM (hK S1 a0) ∧ Q (hI S1 a0 1) S1) S a1 (10 : Int32)
theorem k_X4_size : Cond.code yX4_size cX4_size 2 (some .int) ∈ gtb := mg 902 (by decide +kernel) (by decide +kernel)
theorem dn_X4_size : yX4_size.cls ≠ "java/lang/invoke/MethodHandle" ∧ yX4_size.cls ≠ "java/lang/invoke/VarHandle" ∧ (parseMethodDescriptor yX4_size.desc).map (fun d => d.parameters.length) = some 1 := by decide +kernel
theorem du_X4_size : yX4_size.name ≠ "<init>" ∧ (parseMethodDescriptor yX4_size.desc).map (fun d => d.parameters.length) = some 1 := by decide +kernel
set_option maxRecDepth 100000 in
set_option maxHeartbeats 4000000 in
theorem s_X4_size (l : Launch) (b : Nat) (D : va_G) (cy : Nat → ClassId) {Q : Int32 → hp → Prop} {S : hp} {a0 : Nat} {a1 : Nat} (h : wp_X4_size Q S a0 a1) : MT l yX4_size cX4_size 2 (some .int) 1 21 0 0 b D cy S [.ref a0, .ref a1] (pI Q) := by
  refine MT.of (by decide +kernel) (Nat.le_of_ble_eq_true rfl) ?_
  intro p e s m args below meth c X hr hlk hnm
  unfold wp_X4_size at h
  show VM l b D cy 2 1 21 0 0 (pI Q) p e s m args below meth c S 0 0 0 [(0, .ref a0), (1, .ref a1)] []
  refine v_aload_n X 1 dX4_size_0 rfl rfl ?_
  refine v_bipush X (v := 10) dX4_size_1 (by decide) ?_
  obtain ⟨hk2, h⟩ := h
  refine v_callV X (av := [.int (10 : Int32)]) (T := TX0) (N := 3) (s_X0_begin l b D cy h) hk2 (by decide) rfl wd889 wd864 wd865 wd61 k_X0_begin dn_X0_begin rfl ⟨Nat.le_of_ble_eq_true rfl, Nat.le_of_ble_eq_true rfl⟩ (Nat.le_of_ble_eq_true rfl) ⟨Nat.le_of_ble_eq_true rfl, Nat.le_of_ble_eq_true rfl⟩ dX4_size_3 rfl (kV (fun S1 h => ?_))
  refine v_aload_n X 0 dX4_size_6 rfl rfl ?_
  obtain ⟨hk3, h⟩ := h
  refine v_getM X (k := 1) hk3 (by decide) wd420 dX4_size_7 ?_
  exact v_iret X hr hlk ⟨_, rfl, h⟩ dX4_size_10
def wp_X4_mark (Q : Int32 → hp → Prop) (S : hp) (a0 : Nat) (a1 : Nat) : Prop :=
  hK S a1 = 0 ∧ wp_X0_begin (fun S1 => isM (hK S1 a0) ∧ Q (hI S1 a0 0) S1) S a1 (20 : Int32)
theorem k_X4_mark : Cond.code yX4_mark cX4_mark 2 (some .int) ∈ gtb := mg 888 (by decide +kernel) (by decide +kernel)
theorem dn_X4_mark : yX4_mark.cls ≠ "java/lang/invoke/MethodHandle" ∧ yX4_mark.cls ≠ "java/lang/invoke/VarHandle" ∧ (parseMethodDescriptor yX4_mark.desc).map (fun d => d.parameters.length) = some 1 := by decide +kernel
theorem du_X4_mark : yX4_mark.name ≠ "<init>" ∧ (parseMethodDescriptor yX4_mark.desc).map (fun d => d.parameters.length) = some 1 := by decide +kernel
set_option maxRecDepth 100000 in
set_option maxHeartbeats 4000000 in
theorem s_X4_mark (l : Launch) (b : Nat) (D : va_G) (cy : Nat → ClassId) {Q : Int32 → hp → Prop} {S : hp} {a0 : Nat} {a1 : Nat} (h : wp_X4_mark Q S a0 a1) : MT l yX4_mark cX4_mark 2 (some .int) 1 21 0 0 b D cy S [.ref a0, .ref a1] (pI Q) := by
  refine MT.of (by decide +kernel) (Nat.le_of_ble_eq_true rfl) ?_
  intro p e s m args below meth c X hr hlk hnm
  unfold wp_X4_mark at h
  show VM l b D cy 2 1 21 0 0 (pI Q) p e s m args below meth c S 0 0 0 [(0, .ref a0), (1, .ref a1)] []
  refine v_aload_n X 1 dX4_mark_0 rfl rfl ?_
  refine v_bipush X (v := 20) dX4_mark_1 (by decide) ?_
  obtain ⟨hk2, h⟩ := h
  refine v_callV X (av := [.int (20 : Int32)]) (T := TX0) (N := 3) (s_X0_begin l b D cy h) hk2 (by decide) rfl wd889 wd864 wd865 wd61 k_X0_begin dn_X0_begin rfl ⟨Nat.le_of_ble_eq_true rfl, Nat.le_of_ble_eq_true rfl⟩ (Nat.le_of_ble_eq_true rfl) ⟨Nat.le_of_ble_eq_true rfl, Nat.le_of_ble_eq_true rfl⟩ dX4_mark_3 rfl (kV (fun S1 h => ?_))
  refine v_aload_n X 0 dX4_mark_6 rfl rfl ?_
  obtain ⟨hk3, h⟩ := h
  refine v_getM X (k := 0) hk3 (by decide) wd417 dX4_mark_7 ?_
  exact v_iret X hr hlk ⟨_, rfl, h⟩ dX4_mark_10
def wp_X10_mark (Q : Int32 → hp → Prop) (S : hp) (a0 : Nat) (a1 : Nat) : Prop :=
  hK S a1 = 0 ∧ wp_X0_begin (fun S1 => hK S1 a0 < 12 ∧ wp_X4_mark (fun r5 S3 => hK S3 a1 = 0 ∧ Q (r5 + (hI S3 a1 2)) S3) S1 a0 a1) S a1 (21 : Int32)
theorem k_X10_mark : Cond.code yX10_mark cX10_mark 2 (some .int) ∈ gtb := mg 885 (by decide +kernel) (by decide +kernel)
theorem dn_X10_mark : yX10_mark.cls ≠ "java/lang/invoke/MethodHandle" ∧ yX10_mark.cls ≠ "java/lang/invoke/VarHandle" ∧ (parseMethodDescriptor yX10_mark.desc).map (fun d => d.parameters.length) = some 1 := by decide +kernel
theorem du_X10_mark : yX10_mark.name ≠ "<init>" ∧ (parseMethodDescriptor yX10_mark.desc).map (fun d => d.parameters.length) = some 1 := by decide +kernel
set_option maxRecDepth 100000 in
set_option maxHeartbeats 4000000 in
theorem s_X10_mark (l : Launch) (b : Nat) (D : va_G) (cy : Nat → ClassId) {Q : Int32 → hp → Prop} {S : hp} {a0 : Nat} {a1 : Nat} (h : wp_X10_mark Q S a0 a1) : MT l yX10_mark cX10_mark 2 (some .int) 2 42 0 0 b D cy S [.ref a0, .ref a1] (pI Q) := by
  refine MT.of (by decide +kernel) (Nat.le_of_ble_eq_true rfl) ?_
  intro p e s m args below meth c X hr hlk hnm
  unfold wp_X10_mark at h
  show VM l b D cy 2 2 42 0 0 (pI Q) p e s m args below meth c S 0 0 0 [(0, .ref a0), (1, .ref a1)] []
  refine v_aload_n X 1 dX10_mark_0 rfl rfl ?_
  refine v_bipush X (v := 21) dX10_mark_1 (by decide) ?_
  obtain ⟨hk2, h⟩ := h
  refine v_callV X (av := [.int (21 : Int32)]) (T := TX0) (N := 3) (s_X0_begin l b D cy h) hk2 (by decide) rfl wd870 wd864 wd865 wd61 k_X0_begin dn_X0_begin rfl ⟨Nat.le_of_ble_eq_true rfl, Nat.le_of_ble_eq_true rfl⟩ (Nat.le_of_ble_eq_true rfl) ⟨Nat.le_of_ble_eq_true rfl, Nat.le_of_ble_eq_true rfl⟩ dX10_mark_3 rfl (kV (fun S1 h => ?_))
  refine v_aload_n X 0 dX10_mark_6 rfl rfl ?_
  refine v_aload_n X 1 dX10_mark_7 rfl rfl ?_
  obtain ⟨hk4, h⟩ := h
  refine v_callUL X (av := [.ref a1]) (s_X4_mark l b D cy h) hk4 wd886 wd1339 wd459 wd887 wd65 k_X4_mark du_X4_mark rfl ⟨Nat.le_of_ble_eq_true rfl, Nat.le_of_ble_eq_true rfl⟩ (Nat.le_of_ble_eq_true rfl) ⟨Nat.le_of_ble_eq_true rfl, Nat.le_of_ble_eq_true rfl⟩ dX10_mark_8 rfl (kI (fun r5 S3 h => ?_))
  refine v_aload_n X 1 dX10_mark_11 rfl rfl ?_
  obtain ⟨hk6, h⟩ := h
  refine v_getI X (T := TX0) (N := 3) (k := 2) hk6 (by decide) rfl (by decide) inX0 wd206 rfl dX10_mark_12 ?_
  refine v_iadd X dX10_mark_15 ?_
  exact v_iret X hr hlk ⟨_, rfl, h⟩ dX10_mark_16
def wp_X1_mark (Q : Int32 → hp → Prop) (S : hp) (a0 : Nat) (a1 : Nat) : Prop :=
  hK S a1 = 0 ∧ wp_X0_begin (fun S1 => hK S1 a0 < 12 ∧ wp_X10_mark (fun r5 S3 => Q ((2 : Int32) * r5) S3) S1 a0 a1) S a1 (24 : Int32)
theorem k_X1_mark : Cond.code yX1_mark cX1_mark 2 (some .int) ∈ gtb := mg 878 (by decide +kernel) (by decide +kernel)
theorem dn_X1_mark : yX1_mark.cls ≠ "java/lang/invoke/MethodHandle" ∧ yX1_mark.cls ≠ "java/lang/invoke/VarHandle" ∧ (parseMethodDescriptor yX1_mark.desc).map (fun d => d.parameters.length) = some 1 := by decide +kernel
set_option maxRecDepth 100000 in
set_option maxHeartbeats 4000000 in
theorem s_X1_mark (l : Launch) (b : Nat) (D : va_G) (cy : Nat → ClassId) {Q : Int32 → hp → Prop} {S : hp} {a0 : Nat} {a1 : Nat} (h : wp_X1_mark Q S a0 a1) : MT l yX1_mark cX1_mark 2 (some .int) 3 63 0 0 b D cy S [.ref a0, .ref a1] (pI Q) := by
  refine MT.of (by decide +kernel) (Nat.le_of_ble_eq_true rfl) ?_
  intro p e s m args below meth c X hr hlk hnm
  unfold wp_X1_mark at h
  show VM l b D cy 2 3 63 0 0 (pI Q) p e s m args below meth c S 0 0 0 [(0, .ref a0), (1, .ref a1)] []
  refine v_aload_n X 1 dX1_mark_0 rfl rfl ?_
  refine v_bipush X (v := 24) dX1_mark_1 (by decide) ?_
  obtain ⟨hk2, h⟩ := h
  refine v_callV X (av := [.int (24 : Int32)]) (T := TX0) (N := 3) (s_X0_begin l b D cy h) hk2 (by decide) rfl wd863 wd864 wd865 wd61 k_X0_begin dn_X0_begin rfl ⟨Nat.le_of_ble_eq_true rfl, Nat.le_of_ble_eq_true rfl⟩ (Nat.le_of_ble_eq_true rfl) ⟨Nat.le_of_ble_eq_true rfl, Nat.le_of_ble_eq_true rfl⟩ dX1_mark_3 rfl (kV (fun S1 h => ?_))
  refine v_iconst X (v := 2) dX1_mark_6 (by decide) ?_
  refine v_aload_n X 0 dX1_mark_7 rfl rfl ?_
  refine v_aload_n X 1 dX1_mark_8 rfl rfl ?_
  obtain ⟨hk4, h⟩ := h
  refine v_callUL X (av := [.ref a1]) (s_X10_mark l b D cy h) hk4 wd879 wd875 wd426 wd873 wd66 k_X10_mark du_X10_mark rfl ⟨Nat.le_of_ble_eq_true rfl, Nat.le_of_ble_eq_true rfl⟩ (Nat.le_of_ble_eq_true rfl) ⟨Nat.le_of_ble_eq_true rfl, Nat.le_of_ble_eq_true rfl⟩ dX1_mark_9 rfl (kI (fun r5 S3 h => ?_))
  refine v_imul X dX1_mark_12 ?_
  exact v_iret X hr hlk ⟨_, rfl, h⟩ dX1_mark_13
def wp_X5_mark (Q : Int32 → hp → Prop) (S : hp) (a0 : Nat) (a1 : Nat) : Prop :=
  hK S a1 = 0 ∧ wp_X0_begin (fun S1 => hK S1 a0 < 12 ∧ wp_X10_mark (fun r5 S3 => Q (r5 - (1000 : Int32)) S3) S1 a0 a1) S a1 (22 : Int32)
theorem k_X5_mark : Cond.code yX5_mark cX5_mark 2 (some .int) ∈ gtb := mg 882 (by decide +kernel) (by decide +kernel)
theorem dn_X5_mark : yX5_mark.cls ≠ "java/lang/invoke/MethodHandle" ∧ yX5_mark.cls ≠ "java/lang/invoke/VarHandle" ∧ (parseMethodDescriptor yX5_mark.desc).map (fun d => d.parameters.length) = some 1 := by decide +kernel
set_option maxRecDepth 100000 in
set_option maxHeartbeats 4000000 in
theorem s_X5_mark (l : Launch) (b : Nat) (D : va_G) (cy : Nat → ClassId) {Q : Int32 → hp → Prop} {S : hp} {a0 : Nat} {a1 : Nat} (h : wp_X5_mark Q S a0 a1) : MT l yX5_mark cX5_mark 2 (some .int) 3 63 0 0 b D cy S [.ref a0, .ref a1] (pI Q) := by
  refine MT.of (by decide +kernel) (Nat.le_of_ble_eq_true rfl) ?_
  intro p e s m args below meth c X hr hlk hnm
  unfold wp_X5_mark at h
  show VM l b D cy 2 3 63 0 0 (pI Q) p e s m args below meth c S 0 0 0 [(0, .ref a0), (1, .ref a1)] []
  refine v_aload_n X 1 dX5_mark_0 rfl rfl ?_
  refine v_bipush X (v := 22) dX5_mark_1 (by decide) ?_
  obtain ⟨hk2, h⟩ := h
  refine v_callV X (av := [.int (22 : Int32)]) (T := TX0) (N := 3) (s_X0_begin l b D cy h) hk2 (by decide) rfl wd883 wd864 wd865 wd61 k_X0_begin dn_X0_begin rfl ⟨Nat.le_of_ble_eq_true rfl, Nat.le_of_ble_eq_true rfl⟩ (Nat.le_of_ble_eq_true rfl) ⟨Nat.le_of_ble_eq_true rfl, Nat.le_of_ble_eq_true rfl⟩ dX5_mark_3 rfl (kV (fun S1 h => ?_))
  refine v_aload_n X 0 dX5_mark_6 rfl rfl ?_
  refine v_aload_n X 1 dX5_mark_7 rfl rfl ?_
  obtain ⟨hk4, h⟩ := h
  refine v_callUL X (av := [.ref a1]) (s_X10_mark l b D cy h) hk4 wd884 wd875 wd435 wd873 wd66 k_X10_mark du_X10_mark rfl ⟨Nat.le_of_ble_eq_true rfl, Nat.le_of_ble_eq_true rfl⟩ (Nat.le_of_ble_eq_true rfl) ⟨Nat.le_of_ble_eq_true rfl, Nat.le_of_ble_eq_true rfl⟩ dX5_mark_8 rfl (kI (fun r5 S3 h => ?_))
  refine v_sipush X (v := 1000) dX5_mark_11 (by decide) ?_
  refine v_isub X dX5_mark_14 ?_
  exact v_iret X hr hlk ⟨_, rfl, h⟩ dX5_mark_15
def wd_Valet_mark (Q : Int32 → hp → Prop) (S : hp) (a0 : Nat) (a1 : Nat) : Prop :=
  (hK S a0 = 1 ∧ wp_X1_mark Q S a0 a1) ∨ (hK S a0 = 4 ∧ wp_X5_mark Q S a0 a1) ∨ (hK S a0 = 9 ∧ wp_X10_mark Q S a0 a1)
set_option maxRecDepth 100000 in
theorem v_dyn_Valet_mark {p : Program} {l : Launch} {e : Env} {R : Room} {s : State} {m : MethodId} {args : Array Value} {below : List Frame} {meth : Method} {c : Code} {b : Nat} {D : va_G} {cy : Nat → ClassId} {nL : Nat} {Qf : State → Prop} {S : hp} {cells slots pc : Nat} {lv : List (Nat × Value)} {cc : ByteArray} {own : String} (X : CX p s m args c cc nL own D cy) {Q : Int32 → hp → Prop} {a0 idx : Nat} {a1 : Nat} {rest : List Value} (h : wd_Valet_mark Q S a0 a1) (hlink : Cond.methodLink own idx ⟨"DummyInches$Valet", "mark", "(LDummyInches$Asking;)I"⟩ ∈ gtb) (hR : 3 + 1 ≤ R.frames ∧ 8 + 11 + 65 ≤ R.locals) (hW : ((rest.map (cv b)).map fun v => v.category).sum ≤ 8) (hf : cells + 0 ≤ R.cells ∧ slots + 0 ≤ R.slots) (hd : decode cc pc = .ok (.invokevirtual idx, 3)) (kk : ∀ (r : Int32) (S1 : hp), Q r S1 → V p l e R s m args below meth c b D cy nL Qf S1 cells slots (pc + 3) lv (.int r :: rest)) : V p l e R s m args below meth c b D cy nL Qf S cells slots pc lv (.ref a1 :: .ref a0 :: rest) := by
  have hdc : va_Decl s ⟨"DummyInches$Valet", "mark", "(LDummyInches$Asking;)I"⟩ := va_Decl.of (X.2.2.2.2.1 _ wd873) (X.2.2.2.2.1 _ k_X10_mark)
  rcases h with ⟨hk, h⟩ | ⟨hk, h⟩ | ⟨hk, h⟩
  · refine v_callA (x := ⟨"DummyInches$Valet", "mark", "(LDummyInches$Asking;)I"⟩) (owner := "DummyInches$Valet") X (n := 1) (av := [.ref a1]) (T := TX1) (N := 2) (s_X1_mark l b D cy h) hk (by decide) rfl hdc hlink wd875 wd876 wd877 wd67 k_X1_mark ⟨by decide, by decide, by decide +kernel⟩ rfl ⟨by omega, by omega⟩ hW hf hd rfl (kI kk)
  · refine v_callA (x := ⟨"DummyInches$Valet", "mark", "(LDummyInches$Asking;)I"⟩) (owner := "DummyInches$Valet") X (n := 1) (av := [.ref a1]) (T := TX5) (N := 2) (s_X5_mark l b D cy h) hk (by decide) rfl hdc hlink wd875 wd880 wd881 wd68 k_X5_mark ⟨by decide, by decide, by decide +kernel⟩ rfl ⟨by omega, by omega⟩ hW hf hd rfl (kI kk)
  · refine v_callA (x := ⟨"DummyInches$Valet", "mark", "(LDummyInches$Asking;)I"⟩) (owner := "DummyInches$Valet") X (n := 1) (av := [.ref a1]) (T := TX10) (N := 2) (s_X10_mark l b D cy h) hk (by decide) rfl hdc hlink wd875 wd874 wd873 wd66 k_X10_mark ⟨by decide, by decide, by decide +kernel⟩ rfl ⟨by omega, by omega⟩ hW hf hd rfl (kI kk)
def wp_X10_size (Q : Int32 → hp → Prop) (S : hp) (a0 : Nat) (a1 : Nat) : Prop :=
  hK S a1 = 0 ∧ wp_X0_begin (fun S1 => hK S1 a0 < 12 ∧ wp_X4_size (fun r5 S3 => wd_Valet_mark (fun r7 S6 => Q (r5 + r7) S6) S3 a0 a1) S1 a0 a1) S a1 (11 : Int32)
theorem k_X10_size : Cond.code yX10_size cX10_size 2 (some .int) ∈ gtb := mg 869 (by decide +kernel) (by decide +kernel)
theorem dn_X10_size : yX10_size.cls ≠ "java/lang/invoke/MethodHandle" ∧ yX10_size.cls ≠ "java/lang/invoke/VarHandle" ∧ (parseMethodDescriptor yX10_size.desc).map (fun d => d.parameters.length) = some 1 := by decide +kernel
theorem du_X10_size : yX10_size.name ≠ "<init>" ∧ (parseMethodDescriptor yX10_size.desc).map (fun d => d.parameters.length) = some 1 := by decide +kernel
set_option maxRecDepth 100000 in
set_option maxHeartbeats 4000000 in
theorem s_X10_size (l : Launch) (b : Nat) (D : va_G) (cy : Nat → ClassId) {Q : Int32 → hp → Prop} {S : hp} {a0 : Nat} {a1 : Nat} (h : wp_X10_size Q S a0 a1) : MT l yX10_size cX10_size 2 (some .int) 4 84 0 0 b D cy S [.ref a0, .ref a1] (pI Q) := by
  refine MT.of (by decide +kernel) (Nat.le_of_ble_eq_true rfl) ?_
  intro p e s m args below meth c X hr hlk hnm
  unfold wp_X10_size at h
  show VM l b D cy 2 4 84 0 0 (pI Q) p e s m args below meth c S 0 0 0 [(0, .ref a0), (1, .ref a1)] []
  refine v_aload_n X 1 dX10_size_0 rfl rfl ?_
  refine v_bipush X (v := 11) dX10_size_1 (by decide) ?_
  obtain ⟨hk2, h⟩ := h
  refine v_callV X (av := [.int (11 : Int32)]) (T := TX0) (N := 3) (s_X0_begin l b D cy h) hk2 (by decide) rfl wd870 wd864 wd865 wd61 k_X0_begin dn_X0_begin rfl ⟨Nat.le_of_ble_eq_true rfl, Nat.le_of_ble_eq_true rfl⟩ (Nat.le_of_ble_eq_true rfl) ⟨Nat.le_of_ble_eq_true rfl, Nat.le_of_ble_eq_true rfl⟩ dX10_size_3 rfl (kV (fun S1 h => ?_))
  refine v_aload_n X 0 dX10_size_6 rfl rfl ?_
  refine v_aload_n X 1 dX10_size_7 rfl rfl ?_
  obtain ⟨hk4, h⟩ := h
  refine v_callUL X (av := [.ref a1]) (s_X4_size l b D cy h) hk4 wd871 wd859 wd459 wd858 wd65 k_X4_size du_X4_size rfl ⟨Nat.le_of_ble_eq_true rfl, Nat.le_of_ble_eq_true rfl⟩ (Nat.le_of_ble_eq_true rfl) ⟨Nat.le_of_ble_eq_true rfl, Nat.le_of_ble_eq_true rfl⟩ dX10_size_8 rfl (kI (fun r5 S3 h => ?_))
  refine v_aload_n X 0 dX10_size_11 rfl rfl ?_
  refine v_aload_n X 1 dX10_size_12 rfl rfl ?_
  refine v_dyn_Valet_mark X h wd872 ⟨Nat.le_of_ble_eq_true rfl, Nat.le_of_ble_eq_true rfl⟩ (Nat.le_of_ble_eq_true rfl) ⟨Nat.le_of_ble_eq_true rfl, Nat.le_of_ble_eq_true rfl⟩ dX10_size_13 (fun r7 S6 h => ?_)
  refine v_iadd X dX10_size_16 ?_
  exact v_iret X hr hlk ⟨_, rfl, h⟩ dX10_size_17
def wp_X1_size (Q : Int32 → hp → Prop) (S : hp) (a0 : Nat) (a1 : Nat) : Prop :=
  hK S a1 = 0 ∧ wp_X0_begin (fun S1 => hK S1 a0 < 12 ∧ wp_X10_size (fun r5 S3 => Q (-r5) S3) S1 a0 a1) S a1 (12 : Int32)
theorem k_X1_size : Cond.code yX1_size cX1_size 2 (some .int) ∈ gtb := mg 862 (by decide +kernel) (by decide +kernel)
theorem dn_X1_size : yX1_size.cls ≠ "java/lang/invoke/MethodHandle" ∧ yX1_size.cls ≠ "java/lang/invoke/VarHandle" ∧ (parseMethodDescriptor yX1_size.desc).map (fun d => d.parameters.length) = some 1 := by decide +kernel
set_option maxRecDepth 100000 in
set_option maxHeartbeats 4000000 in
theorem s_X1_size (l : Launch) (b : Nat) (D : va_G) (cy : Nat → ClassId) {Q : Int32 → hp → Prop} {S : hp} {a0 : Nat} {a1 : Nat} (h : wp_X1_size Q S a0 a1) : MT l yX1_size cX1_size 2 (some .int) 5 105 0 0 b D cy S [.ref a0, .ref a1] (pI Q) := by
  refine MT.of (by decide +kernel) (Nat.le_of_ble_eq_true rfl) ?_
  intro p e s m args below meth c X hr hlk hnm
  unfold wp_X1_size at h
  show VM l b D cy 2 5 105 0 0 (pI Q) p e s m args below meth c S 0 0 0 [(0, .ref a0), (1, .ref a1)] []
  refine v_aload_n X 1 dX1_size_0 rfl rfl ?_
  refine v_bipush X (v := 12) dX1_size_1 (by decide) ?_
  obtain ⟨hk2, h⟩ := h
  refine v_callV X (av := [.int (12 : Int32)]) (T := TX0) (N := 3) (s_X0_begin l b D cy h) hk2 (by decide) rfl wd863 wd864 wd865 wd61 k_X0_begin dn_X0_begin rfl ⟨Nat.le_of_ble_eq_true rfl, Nat.le_of_ble_eq_true rfl⟩ (Nat.le_of_ble_eq_true rfl) ⟨Nat.le_of_ble_eq_true rfl, Nat.le_of_ble_eq_true rfl⟩ dX1_size_3 rfl (kV (fun S1 h => ?_))
  refine v_aload_n X 0 dX1_size_6 rfl rfl ?_
  refine v_aload_n X 1 dX1_size_7 rfl rfl ?_
  obtain ⟨hk4, h⟩ := h
  refine v_callUL X (av := [.ref a1]) (s_X10_size l b D cy h) hk4 wd867 wd1338 wd426 wd868 wd66 k_X10_size du_X10_size rfl ⟨Nat.le_of_ble_eq_true rfl, Nat.le_of_ble_eq_true rfl⟩ (Nat.le_of_ble_eq_true rfl) ⟨Nat.le_of_ble_eq_true rfl, Nat.le_of_ble_eq_true rfl⟩ dX1_size_8 rfl (kI (fun r5 S3 h => ?_))
  refine v_ineg X dX1_size_11 ?_
  exact v_iret X hr hlk ⟨_, rfl, h⟩ dX1_size_12
def wp_X3_size (Q : Int32 → hp → Prop) (S : hp) (a0 : Nat) (a1 : Nat) : Prop :=
  hK S a1 = 0 ∧ wp_X0_begin (fun S1 => hK S1 a0 < 12 ∧ wp_X4_size (fun r5 S3 => Q (r5 - (100 : Int32)) S3) S1 a0 a1) S a1 (13 : Int32)
theorem k_X3_size : Cond.code yX3_size cX3_size 2 (some .int) ∈ gtb := mg 892 (by decide +kernel) (by decide +kernel)
theorem dn_X3_size : yX3_size.cls ≠ "java/lang/invoke/MethodHandle" ∧ yX3_size.cls ≠ "java/lang/invoke/VarHandle" ∧ (parseMethodDescriptor yX3_size.desc).map (fun d => d.parameters.length) = some 1 := by decide +kernel
theorem du_X3_size : yX3_size.name ≠ "<init>" ∧ (parseMethodDescriptor yX3_size.desc).map (fun d => d.parameters.length) = some 1 := by decide +kernel
set_option maxRecDepth 100000 in
set_option maxHeartbeats 4000000 in
theorem s_X3_size (l : Launch) (b : Nat) (D : va_G) (cy : Nat → ClassId) {Q : Int32 → hp → Prop} {S : hp} {a0 : Nat} {a1 : Nat} (h : wp_X3_size Q S a0 a1) : MT l yX3_size cX3_size 2 (some .int) 2 42 0 0 b D cy S [.ref a0, .ref a1] (pI Q) := by
  refine MT.of (by decide +kernel) (Nat.le_of_ble_eq_true rfl) ?_
  intro p e s m args below meth c X hr hlk hnm
  unfold wp_X3_size at h
  show VM l b D cy 2 2 42 0 0 (pI Q) p e s m args below meth c S 0 0 0 [(0, .ref a0), (1, .ref a1)] []
  refine v_aload_n X 1 dX3_size_0 rfl rfl ?_
  refine v_bipush X (v := 13) dX3_size_1 (by decide) ?_
  obtain ⟨hk2, h⟩ := h
  refine v_callV X (av := [.int (13 : Int32)]) (T := TX0) (N := 3) (s_X0_begin l b D cy h) hk2 (by decide) rfl wd893 wd864 wd865 wd61 k_X0_begin dn_X0_begin rfl ⟨Nat.le_of_ble_eq_true rfl, Nat.le_of_ble_eq_true rfl⟩ (Nat.le_of_ble_eq_true rfl) ⟨Nat.le_of_ble_eq_true rfl, Nat.le_of_ble_eq_true rfl⟩ dX3_size_3 rfl (kV (fun S1 h => ?_))
  refine v_aload_n X 0 dX3_size_6 rfl rfl ?_
  refine v_aload_n X 1 dX3_size_7 rfl rfl ?_
  obtain ⟨hk4, h⟩ := h
  refine v_callUL X (av := [.ref a1]) (s_X4_size l b D cy h) hk4 wd894 wd859 wd444 wd858 wd65 k_X4_size du_X4_size rfl ⟨Nat.le_of_ble_eq_true rfl, Nat.le_of_ble_eq_true rfl⟩ (Nat.le_of_ble_eq_true rfl) ⟨Nat.le_of_ble_eq_true rfl, Nat.le_of_ble_eq_true rfl⟩ dX3_size_8 rfl (kI (fun r5 S3 h => ?_))
  refine v_bipush X (v := 100) dX3_size_11 (by decide) ?_
  refine v_isub X dX3_size_13 ?_
  exact v_iret X hr hlk ⟨_, rfl, h⟩ dX3_size_14
def wp_X7_size (Q : Int32 → hp → Prop) (S : hp) (a0 : Nat) (a1 : Nat) : Prop :=
  hK S a1 = 0 ∧ wp_X0_begin (fun S1 => hK S1 a0 < 12 ∧ wp_X3_size (fun r5 S3 => Q ((2 : Int32) * r5) S3) S1 a0 a1) S a1 (14 : Int32)
theorem k_X7_size : Cond.code yX7_size cX7_size 2 (some .int) ∈ gtb := mg 898 (by decide +kernel) (by decide +kernel)
theorem dn_X7_size : yX7_size.cls ≠ "java/lang/invoke/MethodHandle" ∧ yX7_size.cls ≠ "java/lang/invoke/VarHandle" ∧ (parseMethodDescriptor yX7_size.desc).map (fun d => d.parameters.length) = some 1 := by decide +kernel
set_option maxRecDepth 100000 in
set_option maxHeartbeats 4000000 in
theorem s_X7_size (l : Launch) (b : Nat) (D : va_G) (cy : Nat → ClassId) {Q : Int32 → hp → Prop} {S : hp} {a0 : Nat} {a1 : Nat} (h : wp_X7_size Q S a0 a1) : MT l yX7_size cX7_size 2 (some .int) 3 63 0 0 b D cy S [.ref a0, .ref a1] (pI Q) := by
  refine MT.of (by decide +kernel) (Nat.le_of_ble_eq_true rfl) ?_
  intro p e s m args below meth c X hr hlk hnm
  unfold wp_X7_size at h
  show VM l b D cy 2 3 63 0 0 (pI Q) p e s m args below meth c S 0 0 0 [(0, .ref a0), (1, .ref a1)] []
  refine v_aload_n X 1 dX7_size_0 rfl rfl ?_
  refine v_bipush X (v := 14) dX7_size_1 (by decide) ?_
  obtain ⟨hk2, h⟩ := h
  refine v_callV X (av := [.int (14 : Int32)]) (T := TX0) (N := 3) (s_X0_begin l b D cy h) hk2 (by decide) rfl wd899 wd864 wd865 wd61 k_X0_begin dn_X0_begin rfl ⟨Nat.le_of_ble_eq_true rfl, Nat.le_of_ble_eq_true rfl⟩ (Nat.le_of_ble_eq_true rfl) ⟨Nat.le_of_ble_eq_true rfl, Nat.le_of_ble_eq_true rfl⟩ dX7_size_3 rfl (kV (fun S1 h => ?_))
  refine v_iconst X (v := 2) dX7_size_6 (by decide) ?_
  refine v_aload_n X 0 dX7_size_7 rfl rfl ?_
  refine v_aload_n X 1 dX7_size_8 rfl rfl ?_
  obtain ⟨hk4, h⟩ := h
  refine v_callUL X (av := [.ref a1]) (s_X3_size l b D cy h) hk4 wd900 wd1340 wd453 wd891 wd69 k_X3_size du_X3_size rfl ⟨Nat.le_of_ble_eq_true rfl, Nat.le_of_ble_eq_true rfl⟩ (Nat.le_of_ble_eq_true rfl) ⟨Nat.le_of_ble_eq_true rfl, Nat.le_of_ble_eq_true rfl⟩ dX7_size_9 rfl (kI (fun r5 S3 h => ?_))
  refine v_imul X dX7_size_12 ?_
  exact v_iret X hr hlk ⟨_, rfl, h⟩ dX7_size_13
def wd_Mouth_size (Q : Int32 → hp → Prop) (S : hp) (a0 : Nat) (a1 : Nat) : Prop :=
  (hK S a0 = 1 ∧ wp_X1_size Q S a0 a1) ∨ (hK S a0 = 3 ∧ wp_X3_size Q S a0 a1) ∨ (hK S a0 = 4 ∧ wp_X10_size Q S a0 a1) ∨ (hK S a0 = 6 ∧ wp_X7_size Q S a0 a1) ∨ (hK S a0 = 9 ∧ wp_X10_size Q S a0 a1)
set_option maxRecDepth 100000 in
theorem v_dyn_Mouth_size {p : Program} {l : Launch} {e : Env} {R : Room} {s : State} {m : MethodId} {args : Array Value} {below : List Frame} {meth : Method} {c : Code} {b : Nat} {D : va_G} {cy : Nat → ClassId} {nL : Nat} {Qf : State → Prop} {S : hp} {cells slots pc : Nat} {lv : List (Nat × Value)} {cc : ByteArray} {own : String} (X : CX p s m args c cc nL own D cy) {Q : Int32 → hp → Prop} {a0 idx : Nat} {a1 : Nat} {rest : List Value} (h : wd_Mouth_size Q S a0 a1) (hlink : Cond.methodLink own idx ⟨"DummyInches$Mouth", "size", "(LDummyInches$Asking;)I"⟩ ∈ gtb) (hR : 5 + 1 ≤ R.frames ∧ 8 + 11 + 107 ≤ R.locals) (hW : ((rest.map (cv b)).map fun v => v.category).sum ≤ 8) (hf : cells + 0 ≤ R.cells ∧ slots + 0 ≤ R.slots) (hd : decode cc pc = .ok (.invokevirtual idx, 3)) (kk : ∀ (r : Int32) (S1 : hp), Q r S1 → V p l e R s m args below meth c b D cy nL Qf S1 cells slots (pc + 3) lv (.int r :: rest)) : V p l e R s m args below meth c b D cy nL Qf S cells slots pc lv (.ref a1 :: .ref a0 :: rest) := by
  have hdc : va_Decl s ⟨"DummyInches$Mouth", "size", "(LDummyInches$Asking;)I"⟩ := va_Decl.of (X.2.2.2.2.1 _ wd858) (X.2.2.2.2.1 _ k_X4_size)
  rcases h with ⟨hk, h⟩ | ⟨hk, h⟩ | ⟨hk, h⟩ | ⟨hk, h⟩ | ⟨hk, h⟩
  · refine v_callA (x := ⟨"DummyInches$Mouth", "size", "(LDummyInches$Asking;)I"⟩) (owner := "DummyInches$Mouth") X (n := 1) (av := [.ref a1]) (T := TX1) (N := 2) (s_X1_size l b D cy h) hk (by decide) rfl hdc hlink wd859 wd860 wd861 wd67 k_X1_size ⟨by decide, by decide, by decide +kernel⟩ rfl ⟨by omega, by omega⟩ hW hf hd rfl (kI kk)
  · refine v_callA (x := ⟨"DummyInches$Mouth", "size", "(LDummyInches$Asking;)I"⟩) (owner := "DummyInches$Mouth") X (n := 1) (av := [.ref a1]) (T := TX3) (N := 2) (s_X3_size l b D cy h) hk (by decide) rfl hdc hlink wd859 wd890 wd891 wd69 k_X3_size ⟨by decide, by decide, by decide +kernel⟩ rfl ⟨by omega, by omega⟩ hW hf hd rfl (kI kk)
  · refine v_callA (x := ⟨"DummyInches$Mouth", "size", "(LDummyInches$Asking;)I"⟩) (owner := "DummyInches$Mouth") X (n := 1) (av := [.ref a1]) (T := TX5) (N := 2) (s_X10_size l b D cy h) hk (by decide) rfl hdc hlink wd859 wd895 wd868 wd66 k_X10_size ⟨by decide, by decide, by decide +kernel⟩ rfl ⟨by omega, by omega⟩ hW hf hd rfl (kI kk)
  · refine v_callA (x := ⟨"DummyInches$Mouth", "size", "(LDummyInches$Asking;)I"⟩) (owner := "DummyInches$Mouth") X (n := 1) (av := [.ref a1]) (T := TX7) (N := 2) (s_X7_size l b D cy h) hk (by decide) rfl hdc hlink wd859 wd896 wd897 wd70 k_X7_size ⟨by decide, by decide, by decide +kernel⟩ rfl ⟨by omega, by omega⟩ hW hf hd rfl (kI kk)
  · refine v_callA (x := ⟨"DummyInches$Mouth", "size", "(LDummyInches$Asking;)I"⟩) (owner := "DummyInches$Mouth") X (n := 1) (av := [.ref a1]) (T := TX10) (N := 2) (s_X10_size l b D cy h) hk (by decide) rfl hdc hlink wd859 wd901 wd868 wd66 k_X10_size ⟨by decide, by decide, by decide +kernel⟩ rfl ⟨by omega, by omega⟩ hW hf hd rfl (kI kk)
def wd_Gossip_size (Q : Int32 → hp → Prop) (S : hp) (a0 : Nat) (a1 : Nat) : Prop :=
  (hK S a0 = 3 ∧ wp_X3_size Q S a0 a1) ∨ (hK S a0 = 6 ∧ wp_X7_size Q S a0 a1)
set_option maxRecDepth 100000 in
theorem v_dyn_Gossip_size {p : Program} {l : Launch} {e : Env} {R : Room} {s : State} {m : MethodId} {args : Array Value} {below : List Frame} {meth : Method} {c : Code} {b : Nat} {D : va_G} {cy : Nat → ClassId} {nL : Nat} {Qf : State → Prop} {S : hp} {cells slots pc : Nat} {lv : List (Nat × Value)} {cc : ByteArray} {own : String} (X : CX p s m args c cc nL own D cy) {Q : Int32 → hp → Prop} {a0 idx : Nat} {a1 : Nat} {rest : List Value} (h : wd_Gossip_size Q S a0 a1) (hlink : Cond.methodLink own idx ⟨"DummyInches$Gossip", "size", "(LDummyInches$Asking;)I"⟩ ∈ gtb) (hR : 3 + 1 ≤ R.frames ∧ 8 + 11 + 65 ≤ R.locals) (hW : ((rest.map (cv b)).map fun v => v.category).sum ≤ 8) (hf : cells + 0 ≤ R.cells ∧ slots + 0 ≤ R.slots) (hd : decode cc pc = .ok (.invokevirtual idx, 3)) (kk : ∀ (r : Int32) (S1 : hp), Q r S1 → V p l e R s m args below meth c b D cy nL Qf S1 cells slots (pc + 3) lv (.int r :: rest)) : V p l e R s m args below meth c b D cy nL Qf S cells slots pc lv (.ref a1 :: .ref a0 :: rest) := by
  have hdc : va_Decl s ⟨"DummyInches$Gossip", "size", "(LDummyInches$Asking;)I"⟩ := va_Decl.of (X.2.2.2.2.1 _ wd891) (X.2.2.2.2.1 _ k_X3_size)
  rcases h with ⟨hk, h⟩ | ⟨hk, h⟩
  · refine v_callA (x := ⟨"DummyInches$Gossip", "size", "(LDummyInches$Asking;)I"⟩) (owner := "DummyInches$Gossip") X (n := 1) (av := [.ref a1]) (T := TX3) (N := 2) (s_X3_size l b D cy h) hk (by decide) rfl hdc hlink wd1340 wd1343 wd891 wd69 k_X3_size ⟨by decide, by decide, by decide +kernel⟩ rfl ⟨by omega, by omega⟩ hW hf hd rfl (kI kk)
  · refine v_callA (x := ⟨"DummyInches$Gossip", "size", "(LDummyInches$Asking;)I"⟩) (owner := "DummyInches$Gossip") X (n := 1) (av := [.ref a1]) (T := TX7) (N := 2) (s_X7_size l b D cy h) hk (by decide) rfl hdc hlink wd1340 wd1344 wd897 wd70 k_X7_size ⟨by decide, by decide, by decide +kernel⟩ rfl ⟨by omega, by omega⟩ hW hf hd rfl (kI kk)
def wp_X3_mark (Q : Int32 → hp → Prop) (S : hp) (a0 : Nat) (a1 : Nat) : Prop :=
  hK S a1 = 0 ∧ wp_X0_begin (fun S1 => hK S1 a0 < 12 ∧ wp_X4_mark (fun r5 S3 => wd_Gossip_size (fun r7 S6 => Q (r5 - r7) S6) S3 a0 a1) S1 a0 a1) S a1 (23 : Int32)
theorem k_X3_mark : Cond.code yX3_mark cX3_mark 2 (some .int) ∈ gtb := mg 905 (by decide +kernel) (by decide +kernel)
theorem dn_X3_mark : yX3_mark.cls ≠ "java/lang/invoke/MethodHandle" ∧ yX3_mark.cls ≠ "java/lang/invoke/VarHandle" ∧ (parseMethodDescriptor yX3_mark.desc).map (fun d => d.parameters.length) = some 1 := by decide +kernel
set_option maxRecDepth 100000 in
set_option maxHeartbeats 4000000 in
theorem s_X3_mark (l : Launch) (b : Nat) (D : va_G) (cy : Nat → ClassId) {Q : Int32 → hp → Prop} {S : hp} {a0 : Nat} {a1 : Nat} (h : wp_X3_mark Q S a0 a1) : MT l yX3_mark cX3_mark 2 (some .int) 4 84 0 0 b D cy S [.ref a0, .ref a1] (pI Q) := by
  refine MT.of (by decide +kernel) (Nat.le_of_ble_eq_true rfl) ?_
  intro p e s m args below meth c X hr hlk hnm
  unfold wp_X3_mark at h
  show VM l b D cy 2 4 84 0 0 (pI Q) p e s m args below meth c S 0 0 0 [(0, .ref a0), (1, .ref a1)] []
  refine v_aload_n X 1 dX3_mark_0 rfl rfl ?_
  refine v_bipush X (v := 23) dX3_mark_1 (by decide) ?_
  obtain ⟨hk2, h⟩ := h
  refine v_callV X (av := [.int (23 : Int32)]) (T := TX0) (N := 3) (s_X0_begin l b D cy h) hk2 (by decide) rfl wd893 wd864 wd865 wd61 k_X0_begin dn_X0_begin rfl ⟨Nat.le_of_ble_eq_true rfl, Nat.le_of_ble_eq_true rfl⟩ (Nat.le_of_ble_eq_true rfl) ⟨Nat.le_of_ble_eq_true rfl, Nat.le_of_ble_eq_true rfl⟩ dX3_mark_3 rfl (kV (fun S1 h => ?_))
  refine v_aload_n X 0 dX3_mark_6 rfl rfl ?_
  refine v_aload_n X 1 dX3_mark_7 rfl rfl ?_
  obtain ⟨hk4, h⟩ := h
  refine v_callUL X (av := [.ref a1]) (s_X4_mark l b D cy h) hk4 wd906 wd1339 wd444 wd887 wd65 k_X4_mark du_X4_mark rfl ⟨Nat.le_of_ble_eq_true rfl, Nat.le_of_ble_eq_true rfl⟩ (Nat.le_of_ble_eq_true rfl) ⟨Nat.le_of_ble_eq_true rfl, Nat.le_of_ble_eq_true rfl⟩ dX3_mark_8 rfl (kI (fun r5 S3 h => ?_))
  refine v_aload_n X 0 dX3_mark_11 rfl rfl ?_
  refine v_aload_n X 1 dX3_mark_12 rfl rfl ?_
  refine v_dyn_Gossip_size X h wd907 ⟨Nat.le_of_ble_eq_true rfl, Nat.le_of_ble_eq_true rfl⟩ (Nat.le_of_ble_eq_true rfl) ⟨Nat.le_of_ble_eq_true rfl, Nat.le_of_ble_eq_true rfl⟩ dX3_mark_13 (fun r7 S6 h => ?_)
  refine v_isub X dX3_mark_16 ?_
  exact v_iret X hr hlk ⟨_, rfl, h⟩ dX3_mark_17
def wd_Mouth_mark (Q : Int32 → hp → Prop) (S : hp) (a0 : Nat) (a1 : Nat) : Prop :=
  (hK S a0 = 1 ∧ wp_X1_mark Q S a0 a1) ∨ (hK S a0 = 3 ∧ wp_X3_mark Q S a0 a1) ∨ (hK S a0 = 4 ∧ wp_X5_mark Q S a0 a1) ∨ (hK S a0 = 6 ∧ wp_X3_mark Q S a0 a1) ∨ (hK S a0 = 9 ∧ wp_X10_mark Q S a0 a1)
set_option maxRecDepth 100000 in
theorem v_dyn_Mouth_mark {p : Program} {l : Launch} {e : Env} {R : Room} {s : State} {m : MethodId} {args : Array Value} {below : List Frame} {meth : Method} {c : Code} {b : Nat} {D : va_G} {cy : Nat → ClassId} {nL : Nat} {Qf : State → Prop} {S : hp} {cells slots pc : Nat} {lv : List (Nat × Value)} {cc : ByteArray} {own : String} (X : CX p s m args c cc nL own D cy) {Q : Int32 → hp → Prop} {a0 idx : Nat} {a1 : Nat} {rest : List Value} (h : wd_Mouth_mark Q S a0 a1) (hlink : Cond.methodLink own idx ⟨"DummyInches$Mouth", "mark", "(LDummyInches$Asking;)I"⟩ ∈ gtb) (hR : 4 + 1 ≤ R.frames ∧ 8 + 11 + 86 ≤ R.locals) (hW : ((rest.map (cv b)).map fun v => v.category).sum ≤ 8) (hf : cells + 0 ≤ R.cells ∧ slots + 0 ≤ R.slots) (hd : decode cc pc = .ok (.invokevirtual idx, 3)) (kk : ∀ (r : Int32) (S1 : hp), Q r S1 → V p l e R s m args below meth c b D cy nL Qf S1 cells slots (pc + 3) lv (.int r :: rest)) : V p l e R s m args below meth c b D cy nL Qf S cells slots pc lv (.ref a1 :: .ref a0 :: rest) := by
  have hdc : va_Decl s ⟨"DummyInches$Mouth", "mark", "(LDummyInches$Asking;)I"⟩ := va_Decl.of (X.2.2.2.2.1 _ wd887) (X.2.2.2.2.1 _ k_X4_mark)
  rcases h with ⟨hk, h⟩ | ⟨hk, h⟩ | ⟨hk, h⟩ | ⟨hk, h⟩ | ⟨hk, h⟩
  · refine v_callA (x := ⟨"DummyInches$Mouth", "mark", "(LDummyInches$Asking;)I"⟩) (owner := "DummyInches$Mouth") X (n := 1) (av := [.ref a1]) (T := TX1) (N := 2) (s_X1_mark l b D cy h) hk (by decide) rfl hdc hlink wd1339 wd1341 wd877 wd67 k_X1_mark ⟨by decide, by decide, by decide +kernel⟩ rfl ⟨by omega, by omega⟩ hW hf hd rfl (kI kk)
  · refine v_callA (x := ⟨"DummyInches$Mouth", "mark", "(LDummyInches$Asking;)I"⟩) (owner := "DummyInches$Mouth") X (n := 1) (av := [.ref a1]) (T := TX3) (N := 2) (s_X3_mark l b D cy h) hk (by decide) rfl hdc hlink wd1339 wd1342 wd904 wd69 k_X3_mark ⟨by decide, by decide, by decide +kernel⟩ rfl ⟨by omega, by omega⟩ hW hf hd rfl (kI kk)
  · refine v_callA (x := ⟨"DummyInches$Mouth", "mark", "(LDummyInches$Asking;)I"⟩) (owner := "DummyInches$Mouth") X (n := 1) (av := [.ref a1]) (T := TX5) (N := 2) (s_X5_mark l b D cy h) hk (by decide) rfl hdc hlink wd1339 wd1345 wd881 wd68 k_X5_mark ⟨by decide, by decide, by decide +kernel⟩ rfl ⟨by omega, by omega⟩ hW hf hd rfl (kI kk)
  · refine v_callA (x := ⟨"DummyInches$Mouth", "mark", "(LDummyInches$Asking;)I"⟩) (owner := "DummyInches$Mouth") X (n := 1) (av := [.ref a1]) (T := TX7) (N := 2) (s_X3_mark l b D cy h) hk (by decide) rfl hdc hlink wd1339 wd1346 wd904 wd69 k_X3_mark ⟨by decide, by decide, by decide +kernel⟩ rfl ⟨by omega, by omega⟩ hW hf hd rfl (kI kk)
  · refine v_callA (x := ⟨"DummyInches$Mouth", "mark", "(LDummyInches$Asking;)I"⟩) (owner := "DummyInches$Mouth") X (n := 1) (av := [.ref a1]) (T := TX10) (N := 2) (s_X10_mark l b D cy h) hk (by decide) rfl hdc hlink wd1339 wd1347 wd873 wd66 k_X10_mark ⟨by decide, by decide, by decide +kernel⟩ rfl ⟨by omega, by omega⟩ hW hf hd rfl (kI kk)
def wp_X11_ask (Q : Int32 → hp → Prop) (S : hp) (a0 : Nat) (x1 : Int32) (x2 : Int32) : Prop :=
  hK S a0 = 10 ∧ ∃ r2 : Nat, hR S a0 2 = some r2 ∧ hK S r2 = 7 ∧ wp_X8_mouthAt (fun q26 S3 => (q26 = none → Q (-1000001 : Int32) S3) ∧ (∀ r5 : Nat, q26 = some r5 → wp_X11_isFirstOrSecond (fun r7 S6 => ((¬ r7 = 0 → hK S6 a0 = 10 ∧ ∃ r10 : Nat, hR S6 a0 5 = some r10 ∧ ∃ r11 : Nat, hR S6 a0 2 = some r11 ∧ hK S6 r11 = 7 ∧ wp_X8_tellingsBy (fun r14 S12 => hK S12 r10 = 0 ∧ wp_X0_startFor (fun S15 => ((¬ x2 = 0 → hK S15 a0 = 10 ∧ ∃ r19 : Nat, hR S15 a0 5 = some r19 ∧ wd_Mouth_mark (fun r21 S20 => Q r21 S20) S15 r5 r19) ∧ (x2 = 0 → hK S15 a0 = 10 ∧ ∃ r23 : Nat, hR S15 a0 5 = some r23 ∧ wd_Mouth_size (fun r25 S24 => Q r25 S24) S15 r5 r23))) S12 r10 r14) S6 r11 x1) ∧ (r7 = 0 → Q (-1000001 : Int32) S6))) S3 x2)) S r2 x1
theorem k_X11_ask : Cond.code yX11_ask cX11_ask 4 (some .int) ∈ gtb := mg 847 (by decide +kernel) (by decide +kernel)
theorem dn_X11_ask : yX11_ask.cls ≠ "java/lang/invoke/MethodHandle" ∧ yX11_ask.cls ≠ "java/lang/invoke/VarHandle" ∧ (parseMethodDescriptor yX11_ask.desc).map (fun d => d.parameters.length) = some 2 := by decide +kernel
set_option maxRecDepth 100000 in
set_option maxHeartbeats 4000000 in
theorem s_X11_ask (l : Launch) (b : Nat) (D : va_G) (cy : Nat → ClassId) {Q : Int32 → hp → Prop} {S : hp} {a0 : Nat} {x1 : Int32} {x2 : Int32} (h : wp_X11_ask Q S a0 x1 x2) : MT l yX11_ask cX11_ask 4 (some .int) 6 126 0 0 b D cy S [.ref a0, .int x1, .int x2] (pI Q) := by
  refine MT.of (by decide +kernel) (Nat.le_of_ble_eq_true rfl) ?_
  intro p e s m args below meth c X hr hlk hnm
  unfold wp_X11_ask at h
  show VM l b D cy 4 6 126 0 0 (pI Q) p e s m args below meth c S 0 0 0 [(0, .ref a0), (1, .int x1), (2, .int x2)] []
  refine v_aload_n X 0 dX11_ask_0 rfl rfl ?_
  obtain ⟨hk1, h⟩ := h
  obtain ⟨r2, hr2, h⟩ := h
  refine v_getR X (T := TX11) (N := 12) (k := 2) hk1 (by decide) rfl (by decide) inX11 wd217 rfl dX11_ask_1 hr2 ?_
  refine v_iload_n X 1 dX11_ask_4 rfl rfl ?_
  obtain ⟨hk4, h⟩ := h
  refine v_callV X (av := [.int x1]) (T := TX8) (N := 10) (s_X8_mouthAt l b D cy h) hk4 (by decide) rfl wd479 wd480 wd481 wd59 k_X8_mouthAt dn_X8_mouthAt rfl ⟨Nat.le_of_ble_eq_true rfl, Nat.le_of_ble_eq_true rfl⟩ (Nat.le_of_ble_eq_true rfl) ⟨Nat.le_of_ble_eq_true rfl, Nat.le_of_ble_eq_true rfl⟩ dX11_ask_5 rfl (kO (fun S3 h => ?_) (fun r5 S3 h => ?_))
  · replace h := h.1 rfl
    refine v_astore_nN X (lv' := [(3, .null), (0, .ref a0), (1, .int x1), (2, .int x2)]) dX11_ask_8 rfl (by decide) rfl ?_
    refine v_aload_nN X 0 dX11_ask_9 rfl rfl ?_
    refine v_ifnullN X (tgt := 20) dX11_ask_10 (by decide) ?_
    refine v_ldc X wd262 dX11_ask_20 ?_
    exact v_iret X hr hlk ⟨_, rfl, h⟩ dX11_ask_22
  · replace h := h.2 _ rfl
    refine v_astore_n X (lv' := [(3, .ref r5), (0, .ref a0), (1, .int x1), (2, .int x2)]) dX11_ask_8 rfl (by decide) rfl ?_
    refine v_aload_n X 0 dX11_ask_9 rfl rfl ?_
    refine v_ifnull X dX11_ask_10 ?_
    refine v_iload_n X 3 dX11_ask_13 rfl rfl ?_
    refine v_callS X (av := [.int x2]) (s_X11_isFirstOrSecond l b D cy h) wd619 wd620 wd56 k_X11_isFirstOrSecond dn_X11_isFirstOrSecond rfl ⟨Nat.le_of_ble_eq_true rfl, Nat.le_of_ble_eq_true rfl⟩ (Nat.le_of_ble_eq_true rfl) ⟨Nat.le_of_ble_eq_true rfl, Nat.le_of_ble_eq_true rfl⟩ dX11_ask_14 rfl (kI (fun r7 S6 h => ?_))
    refine v_if_ne X (tgt := 23) dX11_ask_17 (by decide) (fun c8 => ?_) (fun c8 => ?_)
    · replace h := h.1 c8
      refine v_aload_n X 1 dX11_ask_23 rfl rfl ?_
      obtain ⟨hk9, h⟩ := h
      obtain ⟨r10, hr10, h⟩ := h
      refine v_getR X (T := TX11) (N := 12) (k := 5) hk9 (by decide) rfl (by decide) inX11 wd220 rfl dX11_ask_24 hr10 ?_
      refine v_aload_n X 1 dX11_ask_27 rfl rfl ?_
      obtain ⟨r11, hr11, h⟩ := h
      refine v_getR X (T := TX11) (N := 12) (k := 2) hk9 (by decide) rfl (by decide) inX11 wd217 rfl dX11_ask_28 hr11 ?_
      refine v_iload_n X 2 dX11_ask_31 rfl rfl ?_
      obtain ⟨hk13, h⟩ := h
      refine v_callV X (av := [.int x1]) (T := TX8) (N := 10) (s_X8_tellingsBy l b D cy h) hk13 (by decide) rfl wd848 wd849 wd850 wd59 k_X8_tellingsBy dn_X8_tellingsBy rfl ⟨Nat.le_of_ble_eq_true rfl, Nat.le_of_ble_eq_true rfl⟩ (Nat.le_of_ble_eq_true rfl) ⟨Nat.le_of_ble_eq_true rfl, Nat.le_of_ble_eq_true rfl⟩ dX11_ask_32 rfl (kI (fun r14 S12 h => ?_))
      obtain ⟨hk16, h⟩ := h
      refine v_callV X (av := [.int r14]) (T := TX0) (N := 3) (s_X0_startFor l b D cy h) hk16 (by decide) rfl wd853 wd854 wd855 wd61 k_X0_startFor dn_X0_startFor rfl ⟨Nat.le_of_ble_eq_true rfl, Nat.le_of_ble_eq_true rfl⟩ (Nat.le_of_ble_eq_true rfl) ⟨Nat.le_of_ble_eq_true rfl, Nat.le_of_ble_eq_true rfl⟩ dX11_ask_35 rfl (kV (fun S15 h => ?_))
      refine v_iload_n X 3 dX11_ask_38 rfl rfl ?_
      refine v_if_ne X (tgt := 53) dX11_ask_39 (by decide) (fun c17 => ?_) (fun c17 => ?_)
      · replace h := h.1 c17
        refine v_aload_n X 0 dX11_ask_53 rfl rfl ?_
        refine v_aload_n X 1 dX11_ask_54 rfl rfl ?_
        obtain ⟨hk18, h⟩ := h
        obtain ⟨r19, hr19, h⟩ := h
        refine v_getR X (T := TX11) (N := 12) (k := 5) hk18 (by decide) rfl (by decide) inX11 wd220 rfl dX11_ask_55 hr19 ?_
        refine v_dyn_Mouth_mark X h wd903 ⟨Nat.le_of_ble_eq_true rfl, Nat.le_of_ble_eq_true rfl⟩ (Nat.le_of_ble_eq_true rfl) ⟨Nat.le_of_ble_eq_true rfl, Nat.le_of_ble_eq_true rfl⟩ dX11_ask_58 (fun r21 S20 h => ?_)
        exact v_iret X hr hlk ⟨_, rfl, h⟩ dX11_ask_61
      · replace h := h.2 c17
        refine v_aload_n X 0 dX11_ask_42 rfl rfl ?_
        refine v_aload_n X 1 dX11_ask_43 rfl rfl ?_
        obtain ⟨hk22, h⟩ := h
        obtain ⟨r23, hr23, h⟩ := h
        refine v_getR X (T := TX11) (N := 12) (k := 5) hk22 (by decide) rfl (by decide) inX11 wd220 rfl dX11_ask_44 hr23 ?_
        refine v_dyn_Mouth_size X h wd857 ⟨Nat.le_of_ble_eq_true rfl, Nat.le_of_ble_eq_true rfl⟩ (Nat.le_of_ble_eq_true rfl) ⟨Nat.le_of_ble_eq_true rfl, Nat.le_of_ble_eq_true rfl⟩ dX11_ask_47 (fun r25 S24 h => ?_)
        refine v_goto X (tgt := 61) dX11_ask_50 (by decide) ?_
        exact v_iret X hr hlk ⟨_, rfl, h⟩ dX11_ask_61
    · replace h := h.2 c8
      refine v_ldc X wd262 dX11_ask_20 ?_
      exact v_iret X hr hlk ⟨_, rfl, h⟩ dX11_ask_22
def wp_X0_bodyAt (Q : Int32 → hp → Prop) (S : hp) (a0 : Nat) (x1 : Int32) : Prop :=
  ((x1 < 0 → Q (-1000000 : Int32) S) ∧ (¬ x1 < 0 → hK S a0 = 0 ∧ (((hI S a0 1) ≤ x1 → Q (-1000000 : Int32) S) ∧ (¬ (hI S a0 1) ≤ x1 → ∃ r4 : Nat, hR S a0 0 = some r4 ∧ hK S r4 = 12 ∧ vp_in x1 (hN S r4) ∧ Q (hI S r4 (x1).toNatClampNeg) S))))
theorem k_X0_bodyAt : Cond.code yX0_bodyAt cX0_bodyAt 2 (some .int) ∈ gtb := mg 915 (by decide +kernel) (by decide +kernel)
theorem dn_X0_bodyAt : yX0_bodyAt.cls ≠ "java/lang/invoke/MethodHandle" ∧ yX0_bodyAt.cls ≠ "java/lang/invoke/VarHandle" ∧ (parseMethodDescriptor yX0_bodyAt.desc).map (fun d => d.parameters.length) = some 1 := by decide +kernel
set_option maxRecDepth 100000 in
set_option maxHeartbeats 4000000 in
theorem s_X0_bodyAt (l : Launch) (b : Nat) (D : va_G) (cy : Nat → ClassId) {Q : Int32 → hp → Prop} {S : hp} {a0 : Nat} {x1 : Int32} (h : wp_X0_bodyAt Q S a0 x1) : MT l yX0_bodyAt cX0_bodyAt 2 (some .int) 0 0 0 0 b D cy S [.ref a0, .int x1] (pI Q) := by
  refine MT.of (by decide +kernel) (Nat.le_of_ble_eq_true rfl) ?_
  intro p e s m args below meth c X hr hlk hnm
  unfold wp_X0_bodyAt at h
  show VM l b D cy 2 0 0 0 0 (pI Q) p e s m args below meth c S 0 0 0 [(0, .ref a0), (1, .int x1)] []
  refine v_iload_n X 1 dX0_bodyAt_0 rfl rfl ?_
  refine v_if_lt X (tgt := 21) dX0_bodyAt_1 (by decide) (fun c1 => ?_) (fun c1 => ?_)
  · replace h := h.1 c1
    refine v_ldc X wd916 dX0_bodyAt_21 ?_
    exact v_iret X hr hlk ⟨_, rfl, h⟩ dX0_bodyAt_23
  · replace h := h.2 c1
    refine v_iload_n X 1 dX0_bodyAt_4 rfl rfl ?_
    refine v_aload_n X 0 dX0_bodyAt_5 rfl rfl ?_
    obtain ⟨hk2, h⟩ := h
    refine v_getI X (T := TX0) (N := 3) (k := 1) hk2 (by decide) rfl (by decide) inX0 wd204 rfl dX0_bodyAt_6 ?_
    refine v_icmp_ge X (tgt := 21) dX0_bodyAt_9 (by decide) (fun c3 => ?_) (fun c3 => ?_)
    · replace h := h.1 c3
      refine v_ldc X wd916 dX0_bodyAt_21 ?_
      exact v_iret X hr hlk ⟨_, rfl, h⟩ dX0_bodyAt_23
    · replace h := h.2 c3
      refine v_aload_n X 0 dX0_bodyAt_12 rfl rfl ?_
      obtain ⟨r4, hr4, h⟩ := h
      refine v_getR X (T := TX0) (N := 3) (k := 0) hk2 (by decide) rfl (by decide) inX0 wd203 rfl dX0_bodyAt_13 hr4 ?_
      refine v_iload_n X 1 dX0_bodyAt_16 rfl rfl ?_
      obtain ⟨hk5, h⟩ := h
      obtain ⟨hi6, h⟩ := h
      refine v_iald X hk5 hi6 dX0_bodyAt_17 ?_
      refine v_goto X (tgt := 23) dX0_bodyAt_18 (by decide) ?_
      exact v_iret X hr hlk ⟨_, rfl, h⟩ dX0_bodyAt_23
def wp_X11_trace (Q : Int32 → hp → Prop) (S : hp) (a0 : Nat) (x1 : Int32) : Prop :=
  hK S a0 = 10 ∧ ∃ r2 : Nat, hR S a0 5 = some r2 ∧ hK S r2 = 0 ∧ wp_X0_bodyAt (fun r5 S3 => Q r5 S3) S r2 x1
theorem k_X11_trace : Cond.code yX11_trace cX11_trace 2 (some .int) ∈ gtb := mg 911 (by decide +kernel) (by decide +kernel)
theorem dn_X11_trace : yX11_trace.cls ≠ "java/lang/invoke/MethodHandle" ∧ yX11_trace.cls ≠ "java/lang/invoke/VarHandle" ∧ (parseMethodDescriptor yX11_trace.desc).map (fun d => d.parameters.length) = some 1 := by decide +kernel
set_option maxRecDepth 100000 in
set_option maxHeartbeats 4000000 in
theorem s_X11_trace (l : Launch) (b : Nat) (D : va_G) (cy : Nat → ClassId) {Q : Int32 → hp → Prop} {S : hp} {a0 : Nat} {x1 : Int32} (h : wp_X11_trace Q S a0 x1) : MT l yX11_trace cX11_trace 2 (some .int) 1 21 0 0 b D cy S [.ref a0, .int x1] (pI Q) := by
  refine MT.of (by decide +kernel) (Nat.le_of_ble_eq_true rfl) ?_
  intro p e s m args below meth c X hr hlk hnm
  unfold wp_X11_trace at h
  show VM l b D cy 2 1 21 0 0 (pI Q) p e s m args below meth c S 0 0 0 [(0, .ref a0), (1, .int x1)] []
  refine v_aload_n X 0 dX11_trace_0 rfl rfl ?_
  obtain ⟨hk1, h⟩ := h
  obtain ⟨r2, hr2, h⟩ := h
  refine v_getR X (T := TX11) (N := 12) (k := 5) hk1 (by decide) rfl (by decide) inX11 wd220 rfl dX11_trace_1 hr2 ?_
  refine v_iload_n X 1 dX11_trace_4 rfl rfl ?_
  obtain ⟨hk4, h⟩ := h
  refine v_callV X (av := [.int x1]) (T := TX0) (N := 3) (s_X0_bodyAt l b D cy h) hk4 (by decide) rfl wd912 wd913 wd914 wd61 k_X0_bodyAt dn_X0_bodyAt rfl ⟨Nat.le_of_ble_eq_true rfl, Nat.le_of_ble_eq_true rfl⟩ (Nat.le_of_ble_eq_true rfl) ⟨Nat.le_of_ble_eq_true rfl, Nat.le_of_ble_eq_true rfl⟩ dX11_trace_5 rfl (kI (fun r5 S3 h => ?_))
  exact v_iret X hr hlk ⟨_, rfl, h⟩ dX11_trace_8
def wB_X6_there_22 (bk4 : hp → Nat → Int32 → Int32 → Prop) (Q : Int32 → hp → Prop) (S : hp) (l0 : Nat) (l1 : Int32) (l2 : Int32) : Prop :=
  ∀ v7 : Int32, v7 = l2 + (1 : Int32) → bk4 S l0 l1 v7
def wB_X6_there_4 (bk4 : hp → Nat → Int32 → Int32 → Prop) (Q : Int32 → hp → Prop) (S : hp) (l0 : Nat) (l1 : Int32) (l2 : Int32) : Prop :=
  (((8 : Int32) ≤ l2 → Q l1 S) ∧ (¬ (8 : Int32) ≤ l2 → hK S l0 = 5 ∧ ∃ r3 : Nat, hR S l0 3 = some r3 ∧ hK S r3 = 13 ∧ vp_in l2 (hN S r3) ∧ (((hI S r3 (l2).toNatClampNeg) = 0 → wB_X6_there_22 bk4 Q S l0 l1 l2) ∧ (¬ (hI S r3 (l2).toNatClampNeg) = 0 → ∀ v8 : Int32, v8 = l1 + (1 : Int32) → wB_X6_there_22 bk4 Q S l0 v8 l2))))
def wl_X6_there_4 (Q : Int32 → hp → Prop) : Nat → hp → Nat → Int32 → Int32 → Prop
  | 0 => fun _ _ _ _ => False
  | n + 1 => wB_X6_there_4 (wl_X6_there_4 Q n) Q
def wp_X6_there (Q : Int32 → hp → Prop) (S : hp) (a0 : Nat) : Prop :=
  ∃ n : Nat, wl_X6_there_4 Q n S a0 (0 : Int32) (0 : Int32)
theorem k_X6_there : Cond.code yX6_there cX6_there 3 (some .int) ∈ gtb := mg 924 (by decide +kernel) (by decide +kernel)
theorem dn_X6_there : yX6_there.cls ≠ "java/lang/invoke/MethodHandle" ∧ yX6_there.cls ≠ "java/lang/invoke/VarHandle" ∧ (parseMethodDescriptor yX6_there.desc).map (fun d => d.parameters.length) = some 0 := by decide +kernel
set_option maxRecDepth 100000 in
set_option maxHeartbeats 4000000 in
theorem s_X6_there (l : Launch) (b : Nat) (D : va_G) (cy : Nat → ClassId) {Q : Int32 → hp → Prop} {S : hp} {a0 : Nat} (h : wp_X6_there Q S a0) : MT l yX6_there cX6_there 3 (some .int) 0 0 0 0 b D cy S [.ref a0] (pI Q) := by
  refine MT.of (by decide +kernel) (Nat.le_of_ble_eq_true rfl) ?_
  intro p e s m args below meth c X hr hlk hnm
  have j22 : ∀ (bk4 : hp → Nat → Int32 → Int32 → Prop) (hbk4 : ∀ (S : hp) (l0 : Nat) (l1 : Int32) (l2 : Int32), bk4 S l0 l1 l2 → VM l b D cy 3 0 0 0 0 (pI Q) p e s m args below meth c S 0 0 4 [(0, .ref l0), (1, .int l1), (2, .int l2)] []) (S : hp) (l0 : Nat) (l1 : Int32) (l2 : Int32), wB_X6_there_22 bk4 Q S l0 l1 l2 → VM l b D cy 3 0 0 0 0 (pI Q) p e s m args below meth c S 0 0 22 [(0, .ref l0), (1, .int l1), (2, .int l2)] [] := by
    intro bk4 hbk4 S l0 l1 l2 h
    unfold wB_X6_there_22 at h
    obtain ⟨v7, hv7⟩ : ∃ y : Int32, y = l2 + (1 : Int32) := ⟨_, rfl⟩
    replace h := h v7 hv7
    refine v_iinc X (j := 2) (v := v7) (lv' := [(2, .int v7), (0, .ref l0), (1, .int l1)]) dX6_there_22 rfl (by rw [hv7] <;> rfl) (by decide) rfl ?_
    refine v_goto X (tgt := 4) dX6_there_25 (by decide) ?_
    refine v_lv (lv' := [(0, .ref l0), (1, .int l1), (2, .int v7)]) [1, 2, 0] rfl ?_
    exact hbk4 _ _ _ _ h
  have j4 : ∀ (bk4 : hp → Nat → Int32 → Int32 → Prop) (hbk4 : ∀ (S : hp) (l0 : Nat) (l1 : Int32) (l2 : Int32), bk4 S l0 l1 l2 → VM l b D cy 3 0 0 0 0 (pI Q) p e s m args below meth c S 0 0 4 [(0, .ref l0), (1, .int l1), (2, .int l2)] []) (S : hp) (l0 : Nat) (l1 : Int32) (l2 : Int32), wB_X6_there_4 bk4 Q S l0 l1 l2 → VM l b D cy 3 0 0 0 0 (pI Q) p e s m args below meth c S 0 0 4 [(0, .ref l0), (1, .int l1), (2, .int l2)] [] := by
    intro bk4 hbk4 S l0 l1 l2 h
    unfold wB_X6_there_4 at h
    refine v_iload_n X 2 dX6_there_4 rfl rfl ?_
    refine v_bipush X (v := 8) dX6_there_5 (by decide) ?_
    refine v_icmp_ge X (tgt := 28) dX6_there_7 (by decide) (fun c1 => ?_) (fun c1 => ?_)
    · replace h := h.1 c1
      refine v_iload_n X 1 dX6_there_28 rfl rfl ?_
      exact v_iret X hr hlk ⟨_, rfl, h⟩ dX6_there_29
    · replace h := h.2 c1
      refine v_aload_n X 0 dX6_there_10 rfl rfl ?_
      obtain ⟨hk2, h⟩ := h
      obtain ⟨r3, hr3, h⟩ := h
      refine v_getR X (T := TX6) (N := 4) (k := 3) hk2 (by decide) rfl (by decide) inX6 wd92 rfl dX6_there_11 hr3 ?_
      refine v_iload_n X 2 dX6_there_14 rfl rfl ?_
      obtain ⟨hk4, h⟩ := h
      obtain ⟨hi5, h⟩ := h
      refine v_zald X hk4 hi5 dX6_there_15 ?_
      refine v_if_eq X (tgt := 22) dX6_there_16 (by decide) (fun c6 => ?_) (fun c6 => ?_)
      · replace h := h.1 c6
        exact j22 bk4 hbk4 _ _ _ _ h
      · replace h := h.2 c6
        obtain ⟨v8, hv8⟩ : ∃ y : Int32, y = l1 + (1 : Int32) := ⟨_, rfl⟩
        replace h := h v8 hv8
        refine v_iinc X (j := 1) (v := v8) (lv' := [(1, .int v8), (0, .ref l0), (2, .int l2)]) dX6_there_19 rfl (by rw [hv8] <;> rfl) (by decide) rfl ?_
        refine v_lv (lv' := [(0, .ref l0), (1, .int v8), (2, .int l2)]) [1, 0, 2] rfl ?_
        exact j22 bk4 hbk4 _ _ _ _ h
  have l4 : ∀  (n : Nat) (S : hp) (l0 : Nat) (l1 : Int32) (l2 : Int32), wl_X6_there_4 Q n S l0 l1 l2 → VM l b D cy 3 0 0 0 0 (pI Q) p e s m args below meth c S 0 0 4 [(0, .ref l0), (1, .int l1), (2, .int l2)] [] := by
    intro  n
    induction n with
    | zero => intro S l0 l1 l2 h; exact h.elim
    | succ n ih => intro S l0 l1 l2 h; exact j4 (wl_X6_there_4 Q n) ih S l0 l1 l2 h
  unfold wp_X6_there at h
  show VM l b D cy 3 0 0 0 0 (pI Q) p e s m args below meth c S 0 0 0 [(0, .ref a0)] []
  refine v_iconst X (v := 0) dX6_there_0 (by decide) ?_
  refine v_istore_n X (lv' := [(1, .int (0 : Int32)), (0, .ref a0)]) dX6_there_1 rfl (by decide) rfl ?_
  refine v_iconst X (v := 0) dX6_there_2 (by decide) ?_
  refine v_istore_n X (lv' := [(2, .int (0 : Int32)), (1, .int (0 : Int32)), (0, .ref a0)]) dX6_there_3 rfl (by decide) rfl ?_
  refine v_lv (lv' := [(0, .ref a0), (1, .int (0 : Int32)), (2, .int (0 : Int32))]) [2, 1, 0] rfl ?_
  obtain ⟨n, h⟩ := h
  exact l4 n _ _ _ _ h
def wB_X8_years_25 (bk4 : hp → Nat → Int32 → Int32 → Prop) (Q : Int32 → hp → Prop) (S : hp) (l0 : Nat) (l1 : Int32) (l2 : Int32) : Prop :=
  ∀ v6 : Int32, v6 = l2 + (1 : Int32) → bk4 S l0 l1 v6
def wB_X8_years_4 (bk4 : hp → Nat → Int32 → Int32 → Prop) (Q : Int32 → hp → Prop) (S : hp) (l0 : Nat) (l1 : Int32) (l2 : Int32) : Prop :=
  hK S l0 = 7 ∧ (((hI S l0 9) ≤ l2 → Q l1 S) ∧ (¬ (hI S l0 9) ≤ l2 → wp_X8_part (fun r4 S3 => ((¬ r4 = (1 : Int32) → wB_X8_years_25 bk4 Q S3 l0 l1 l2) ∧ (r4 = (1 : Int32) → ∀ v7 : Int32, v7 = l1 + (1 : Int32) → wB_X8_years_25 bk4 Q S3 l0 v7 l2))) S l0 l2 (0 : Int32)))
def wl_X8_years_4 (Q : Int32 → hp → Prop) : Nat → hp → Nat → Int32 → Int32 → Prop
  | 0 => fun _ _ _ _ => False
  | n + 1 => wB_X8_years_4 (wl_X8_years_4 Q n) Q
def wp_X8_years (Q : Int32 → hp → Prop) (S : hp) (a0 : Nat) : Prop :=
  ∃ n : Nat, wl_X8_years_4 Q n S a0 (0 : Int32) (0 : Int32)
theorem k_X8_years : Cond.code yX8_years cX8_years 3 (some .int) ∈ gtb := mg 928 (by decide +kernel) (by decide +kernel)
theorem dn_X8_years : yX8_years.cls ≠ "java/lang/invoke/MethodHandle" ∧ yX8_years.cls ≠ "java/lang/invoke/VarHandle" ∧ (parseMethodDescriptor yX8_years.desc).map (fun d => d.parameters.length) = some 0 := by decide +kernel
set_option maxRecDepth 100000 in
set_option maxHeartbeats 4000000 in
theorem s_X8_years (l : Launch) (b : Nat) (D : va_G) (cy : Nat → ClassId) {Q : Int32 → hp → Prop} {S : hp} {a0 : Nat} (h : wp_X8_years Q S a0) : MT l yX8_years cX8_years 3 (some .int) 1 22 0 0 b D cy S [.ref a0] (pI Q) := by
  refine MT.of (by decide +kernel) (Nat.le_of_ble_eq_true rfl) ?_
  intro p e s m args below meth c X hr hlk hnm
  have j25 : ∀ (bk4 : hp → Nat → Int32 → Int32 → Prop) (hbk4 : ∀ (S : hp) (l0 : Nat) (l1 : Int32) (l2 : Int32), bk4 S l0 l1 l2 → VM l b D cy 3 1 22 0 0 (pI Q) p e s m args below meth c S 0 0 4 [(0, .ref l0), (1, .int l1), (2, .int l2)] []) (S : hp) (l0 : Nat) (l1 : Int32) (l2 : Int32), wB_X8_years_25 bk4 Q S l0 l1 l2 → VM l b D cy 3 1 22 0 0 (pI Q) p e s m args below meth c S 0 0 25 [(0, .ref l0), (1, .int l1), (2, .int l2)] [] := by
    intro bk4 hbk4 S l0 l1 l2 h
    unfold wB_X8_years_25 at h
    obtain ⟨v6, hv6⟩ : ∃ y : Int32, y = l2 + (1 : Int32) := ⟨_, rfl⟩
    replace h := h v6 hv6
    refine v_iinc X (j := 2) (v := v6) (lv' := [(2, .int v6), (0, .ref l0), (1, .int l1)]) dX8_years_25 rfl (by rw [hv6] <;> rfl) (by decide) rfl ?_
    refine v_goto X (tgt := 4) dX8_years_28 (by decide) ?_
    refine v_lv (lv' := [(0, .ref l0), (1, .int l1), (2, .int v6)]) [1, 2, 0] rfl ?_
    exact hbk4 _ _ _ _ h
  have j4 : ∀ (bk4 : hp → Nat → Int32 → Int32 → Prop) (hbk4 : ∀ (S : hp) (l0 : Nat) (l1 : Int32) (l2 : Int32), bk4 S l0 l1 l2 → VM l b D cy 3 1 22 0 0 (pI Q) p e s m args below meth c S 0 0 4 [(0, .ref l0), (1, .int l1), (2, .int l2)] []) (S : hp) (l0 : Nat) (l1 : Int32) (l2 : Int32), wB_X8_years_4 bk4 Q S l0 l1 l2 → VM l b D cy 3 1 22 0 0 (pI Q) p e s m args below meth c S 0 0 4 [(0, .ref l0), (1, .int l1), (2, .int l2)] [] := by
    intro bk4 hbk4 S l0 l1 l2 h
    unfold wB_X8_years_4 at h
    refine v_iload_n X 2 dX8_years_4 rfl rfl ?_
    refine v_aload_n X 0 dX8_years_5 rfl rfl ?_
    obtain ⟨hk1, h⟩ := h
    refine v_getI X (T := TX8) (N := 10) (k := 9) hk1 (by decide) rfl (by decide) inX8 wd161 rfl dX8_years_6 ?_
    refine v_icmp_ge X (tgt := 31) dX8_years_9 (by decide) (fun c2 => ?_) (fun c2 => ?_)
    · replace h := h.1 c2
      refine v_iload_n X 1 dX8_years_31 rfl rfl ?_
      exact v_iret X hr hlk ⟨_, rfl, h⟩ dX8_years_32
    · replace h := h.2 c2
      refine v_aload_n X 0 dX8_years_12 rfl rfl ?_
      refine v_iload_n X 2 dX8_years_13 rfl rfl ?_
      refine v_iconst X (v := 0) dX8_years_14 (by decide) ?_
      refine v_callV X (av := [.int l2, .int (0 : Int32)]) (T := TX8) (N := 10) (s_X8_part l b D cy h) hk1 (by decide) rfl wd614 wd595 wd596 wd59 k_X8_part dn_X8_part rfl ⟨Nat.le_of_ble_eq_true rfl, Nat.le_of_ble_eq_true rfl⟩ (Nat.le_of_ble_eq_true rfl) ⟨Nat.le_of_ble_eq_true rfl, Nat.le_of_ble_eq_true rfl⟩ dX8_years_15 rfl (kI (fun r4 S3 h => ?_))
      refine v_iconst X (v := 1) dX8_years_18 (by decide) ?_
      refine v_icmp_ne X (tgt := 25) dX8_years_19 (by decide) (fun c5 => ?_) (fun c5 => ?_)
      · replace h := h.1 c5
        exact j25 bk4 hbk4 _ _ _ _ h
      · replace h := h.2 c5
        obtain ⟨v7, hv7⟩ : ∃ y : Int32, y = l1 + (1 : Int32) := ⟨_, rfl⟩
        replace h := h v7 hv7
        refine v_iinc X (j := 1) (v := v7) (lv' := [(1, .int v7), (0, .ref l0), (2, .int l2)]) dX8_years_22 rfl (by rw [hv7] <;> rfl) (by decide) rfl ?_
        refine v_lv (lv' := [(0, .ref l0), (1, .int v7), (2, .int l2)]) [1, 0, 2] rfl ?_
        exact j25 bk4 hbk4 _ _ _ _ h
  have l4 : ∀  (n : Nat) (S : hp) (l0 : Nat) (l1 : Int32) (l2 : Int32), wl_X8_years_4 Q n S l0 l1 l2 → VM l b D cy 3 1 22 0 0 (pI Q) p e s m args below meth c S 0 0 4 [(0, .ref l0), (1, .int l1), (2, .int l2)] [] := by
    intro  n
    induction n with
    | zero => intro S l0 l1 l2 h; exact h.elim
    | succ n ih => intro S l0 l1 l2 h; exact j4 (wl_X8_years_4 Q n) ih S l0 l1 l2 h
  unfold wp_X8_years at h
  show VM l b D cy 3 1 22 0 0 (pI Q) p e s m args below meth c S 0 0 0 [(0, .ref a0)] []
  refine v_iconst X (v := 0) dX8_years_0 (by decide) ?_
  refine v_istore_n X (lv' := [(1, .int (0 : Int32)), (0, .ref a0)]) dX8_years_1 rfl (by decide) rfl ?_
  refine v_iconst X (v := 0) dX8_years_2 (by decide) ?_
  refine v_istore_n X (lv' := [(2, .int (0 : Int32)), (1, .int (0 : Int32)), (0, .ref a0)]) dX8_years_3 rfl (by decide) rfl ?_
  refine v_lv (lv' := [(0, .ref a0), (1, .int (0 : Int32)), (2, .int (0 : Int32))]) [2, 1, 0] rfl ?_
  obtain ⟨n, h⟩ := h
  exact l4 n _ _ _ _ h
def wp_X11_count (Q : Int32 → hp → Prop) (S : hp) (a0 : Nat) (x1 : Int32) : Prop :=
  ((x1 = (0 : Int32) → hK S a0 = 10 ∧ ∃ r2 : Nat, hR S a0 0 = some r2 ∧ hK S r2 = 5 ∧ wp_X6_there (fun r5 S3 => Q r5 S3) S r2) ∧ (x1 = (1 : Int32) → hK S a0 = 10 ∧ ∃ r8 : Nat, hR S a0 2 = some r8 ∧ hK S r8 = 7 ∧ Q (hI S r8 7) S) ∧ (x1 = (2 : Int32) → hK S a0 = 10 ∧ ∃ r12 : Nat, hR S a0 2 = some r12 ∧ hK S r12 = 7 ∧ Q (hI S r12 8) S) ∧ (x1 = (3 : Int32) → hK S a0 = 10 ∧ ∃ r16 : Nat, hR S a0 2 = some r16 ∧ hK S r16 = 7 ∧ Q (hI S r16 9) S) ∧ (x1 = (4 : Int32) → hK S a0 = 10 ∧ ∃ r20 : Nat, hR S a0 2 = some r20 ∧ hK S r20 = 7 ∧ wp_X8_years (fun r23 S21 => Q r23 S21) S r20) ∧ (x1 = (5 : Int32) → hK S a0 = 10 ∧ Q (hI S a0 8) S) ∧ (x1 = (6 : Int32) → hK S a0 = 10 ∧ ∃ r28 : Nat, hR S a0 1 = some r28 ∧ hK S r28 = 8 ∧ Q (hI S r28 1) S) ∧ (¬ x1 = (0 : Int32) → ¬ x1 = (1 : Int32) → ¬ x1 = (2 : Int32) → ¬ x1 = (3 : Int32) → ¬ x1 = (4 : Int32) → ¬ x1 = (5 : Int32) → ¬ x1 = (6 : Int32) → Q (-1000001 : Int32) S))
theorem k_X11_count : Cond.code yX11_count cX11_count 2 (some .int) ∈ gtb := mg 920 (by decide +kernel) (by decide +kernel)
theorem dn_X11_count : yX11_count.cls ≠ "java/lang/invoke/MethodHandle" ∧ yX11_count.cls ≠ "java/lang/invoke/VarHandle" ∧ (parseMethodDescriptor yX11_count.desc).map (fun d => d.parameters.length) = some 1 := by decide +kernel
set_option maxRecDepth 100000 in
set_option maxHeartbeats 4000000 in
theorem s_X11_count (l : Launch) (b : Nat) (D : va_G) (cy : Nat → ClassId) {Q : Int32 → hp → Prop} {S : hp} {a0 : Nat} {x1 : Int32} (h : wp_X11_count Q S a0 x1) : MT l yX11_count cX11_count 2 (some .int) 2 44 0 0 b D cy S [.ref a0, .int x1] (pI Q) := by
  refine MT.of (by decide +kernel) (Nat.le_of_ble_eq_true rfl) ?_
  intro p e s m args below meth c X hr hlk hnm
  unfold wp_X11_count at h
  show VM l b D cy 2 2 44 0 0 (pI Q) p e s m args below meth c S 0 0 0 [(0, .ref a0), (1, .int x1)] []
  refine v_iload_n X 1 dX11_count_0 rfl rfl ?_
  by_cases c6 : x1 = (0 : Int32)
  · replace h := h.1 c6
    refine v_tabIn X (off := 43) (tgt := 44) (0 : Int32) c6 dX11_count_1 (by decide) (by decide) (by decide) (by decide) ?_
    refine v_aload_n X 0 dX11_count_44 rfl rfl ?_
    obtain ⟨hk1, h⟩ := h
    obtain ⟨r2, hr2, h⟩ := h
    refine v_getR X (T := TX11) (N := 12) (k := 0) hk1 (by decide) rfl (by decide) inX11 wd215 rfl dX11_count_45 hr2 ?_
    obtain ⟨hk4, h⟩ := h
    refine v_callV X (av := []) (T := TX6) (N := 4) (s_X6_there l b D cy h) hk4 (by decide) rfl wd921 wd922 wd923 wd57 k_X6_there dn_X6_there rfl ⟨Nat.le_of_ble_eq_true rfl, Nat.le_of_ble_eq_true rfl⟩ (Nat.le_of_ble_eq_true rfl) ⟨Nat.le_of_ble_eq_true rfl, Nat.le_of_ble_eq_true rfl⟩ dX11_count_48 rfl (kI (fun r5 S3 h => ?_))
    exact v_iret X hr hlk ⟨_, rfl, h⟩ dX11_count_51
  by_cases c10 : x1 = (1 : Int32)
  · replace h := h.2.1 c10
    refine v_tabIn X (off := 51) (tgt := 52) (1 : Int32) c10 dX11_count_1 (by decide) (by decide) (by decide) (by decide) ?_
    refine v_aload_n X 0 dX11_count_52 rfl rfl ?_
    obtain ⟨hk7, h⟩ := h
    obtain ⟨r8, hr8, h⟩ := h
    refine v_getR X (T := TX11) (N := 12) (k := 2) hk7 (by decide) rfl (by decide) inX11 wd217 rfl dX11_count_53 hr8 ?_
    obtain ⟨hk9, h⟩ := h
    refine v_getI X (T := TX8) (N := 10) (k := 7) hk9 (by decide) rfl (by decide) inX8 wd155 rfl dX11_count_56 ?_
    exact v_iret X hr hlk ⟨_, rfl, h⟩ dX11_count_59
  by_cases c14 : x1 = (2 : Int32)
  · replace h := h.2.2.1 c14
    refine v_tabIn X (off := 59) (tgt := 60) (2 : Int32) c14 dX11_count_1 (by decide) (by decide) (by decide) (by decide) ?_
    refine v_aload_n X 0 dX11_count_60 rfl rfl ?_
    obtain ⟨hk11, h⟩ := h
    obtain ⟨r12, hr12, h⟩ := h
    refine v_getR X (T := TX11) (N := 12) (k := 2) hk11 (by decide) rfl (by decide) inX11 wd217 rfl dX11_count_61 hr12 ?_
    obtain ⟨hk13, h⟩ := h
    refine v_getI X (T := TX8) (N := 10) (k := 8) hk13 (by decide) rfl (by decide) inX8 wd159 rfl dX11_count_64 ?_
    exact v_iret X hr hlk ⟨_, rfl, h⟩ dX11_count_67
  by_cases c18 : x1 = (3 : Int32)
  · replace h := h.2.2.2.1 c18
    refine v_tabIn X (off := 67) (tgt := 68) (3 : Int32) c18 dX11_count_1 (by decide) (by decide) (by decide) (by decide) ?_
    refine v_aload_n X 0 dX11_count_68 rfl rfl ?_
    obtain ⟨hk15, h⟩ := h
    obtain ⟨r16, hr16, h⟩ := h
    refine v_getR X (T := TX11) (N := 12) (k := 2) hk15 (by decide) rfl (by decide) inX11 wd217 rfl dX11_count_69 hr16 ?_
    obtain ⟨hk17, h⟩ := h
    refine v_getI X (T := TX8) (N := 10) (k := 9) hk17 (by decide) rfl (by decide) inX8 wd162 rfl dX11_count_72 ?_
    exact v_iret X hr hlk ⟨_, rfl, h⟩ dX11_count_75
  by_cases c24 : x1 = (4 : Int32)
  · replace h := h.2.2.2.2.1 c24
    refine v_tabIn X (off := 75) (tgt := 76) (4 : Int32) c24 dX11_count_1 (by decide) (by decide) (by decide) (by decide) ?_
    refine v_aload_n X 0 dX11_count_76 rfl rfl ?_
    obtain ⟨hk19, h⟩ := h
    obtain ⟨r20, hr20, h⟩ := h
    refine v_getR X (T := TX11) (N := 12) (k := 2) hk19 (by decide) rfl (by decide) inX11 wd217 rfl dX11_count_77 hr20 ?_
    obtain ⟨hk22, h⟩ := h
    refine v_callV X (av := []) (T := TX8) (N := 10) (s_X8_years l b D cy h) hk22 (by decide) rfl wd925 wd926 wd927 wd59 k_X8_years dn_X8_years rfl ⟨Nat.le_of_ble_eq_true rfl, Nat.le_of_ble_eq_true rfl⟩ (Nat.le_of_ble_eq_true rfl) ⟨Nat.le_of_ble_eq_true rfl, Nat.le_of_ble_eq_true rfl⟩ dX11_count_80 rfl (kI (fun r23 S21 h => ?_))
    exact v_iret X hr hlk ⟨_, rfl, h⟩ dX11_count_83
  by_cases c26 : x1 = (5 : Int32)
  · replace h := h.2.2.2.2.2.1 c26
    refine v_tabIn X (off := 83) (tgt := 84) (5 : Int32) c26 dX11_count_1 (by decide) (by decide) (by decide) (by decide) ?_
    refine v_aload_n X 0 dX11_count_84 rfl rfl ?_
    obtain ⟨hk25, h⟩ := h
    refine v_getI X (T := TX11) (N := 12) (k := 8) hk25 (by decide) rfl (by decide) inX11 wd223 rfl dX11_count_85 ?_
    exact v_iret X hr hlk ⟨_, rfl, h⟩ dX11_count_88
  by_cases c30 : x1 = (6 : Int32)
  · replace h := h.2.2.2.2.2.2.1 c30
    refine v_tabIn X (off := 88) (tgt := 89) (6 : Int32) c30 dX11_count_1 (by decide) (by decide) (by decide) (by decide) ?_
    refine v_aload_n X 0 dX11_count_89 rfl rfl ?_
    obtain ⟨hk27, h⟩ := h
    obtain ⟨r28, hr28, h⟩ := h
    refine v_getR X (T := TX11) (N := 12) (k := 1) hk27 (by decide) rfl (by decide) inX11 wd216 rfl dX11_count_90 hr28 ?_
    obtain ⟨hk29, h⟩ := h
    refine v_getI X (T := TX9) (N := 6) (k := 1) hk29 (by decide) rfl (by decide) inX9 wd112 rfl dX11_count_93 ?_
    exact v_iret X hr hlk ⟨_, rfl, h⟩ dX11_count_96
  replace h := h.2.2.2.2.2.2.2 c6 c10 c14 c18 c24 c26 c30
  refine v_tabOut X (tgt := 97) dX11_count_1 (by have zc6 := ne_ti (0 : Int32) 0 rfl c6; have zc10 := ne_ti (1 : Int32) 1 rfl c10; have zc14 := ne_ti (2 : Int32) 2 rfl c14; have zc18 := ne_ti (3 : Int32) 3 rfl c18; have zc24 := ne_ti (4 : Int32) 4 rfl c24; have zc26 := ne_ti (5 : Int32) 5 rfl c26; have zc30 := ne_ti (6 : Int32) 6 rfl c30; omega) (by decide) ?_
  refine v_ldc X wd262 dX11_count_97 ?_
  exact v_iret X hr hlk ⟨_, rfl, h⟩ dX11_count_99
def wp_X11_status (Q : Int32 → hp → Prop) (S : hp) (a0 : Nat) : Prop :=
  hK S a0 = 10 ∧ Q (hI S a0 11) S
theorem k_X11_status : Cond.code yX11_status cX11_status 1 (some .int) ∈ gtb := mg 932 (by decide +kernel) (by decide +kernel)
theorem dn_X11_status : yX11_status.cls ≠ "java/lang/invoke/MethodHandle" ∧ yX11_status.cls ≠ "java/lang/invoke/VarHandle" ∧ (parseMethodDescriptor yX11_status.desc).map (fun d => d.parameters.length) = some 0 := by decide +kernel
set_option maxRecDepth 100000 in
set_option maxHeartbeats 4000000 in
theorem s_X11_status (l : Launch) (b : Nat) (D : va_G) (cy : Nat → ClassId) {Q : Int32 → hp → Prop} {S : hp} {a0 : Nat} (h : wp_X11_status Q S a0) : MT l yX11_status cX11_status 1 (some .int) 0 0 0 0 b D cy S [.ref a0] (pI Q) := by
  refine MT.of (by decide +kernel) (Nat.le_of_ble_eq_true rfl) ?_
  intro p e s m args below meth c X hr hlk hnm
  unfold wp_X11_status at h
  show VM l b D cy 1 0 0 0 0 (pI Q) p e s m args below meth c S 0 0 0 [(0, .ref a0)] []
  refine v_aload_n X 0 dX11_status_0 rfl rfl ?_
  obtain ⟨hk1, h⟩ := h
  refine v_getI X (T := TX11) (N := 12) (k := 11) hk1 (by decide) rfl (by decide) inX11 wd226 rfl dX11_status_1 ?_
  exact v_iret X hr hlk ⟨_, rfl, h⟩ dX11_status_4
def wp_X12_init (Q : hp → Prop) (S : hp) (a0 : Nat) : Prop :=
  ∀ S1 : hp, S1 = newC S 12 8 → hK S1 (hC S) = 12 ∧ vp_in (0 : Int32) (hN S1 (hC S)) ∧ ∀ S4 : hp, S4 = setI S1 (hC S) ((0 : Int32)).toNatClampNeg (-1 : Int32) → vp_in (1 : Int32) (hN S4 (hC S)) ∧ ∀ S8 : hp, S8 = setI S4 (hC S) ((1 : Int32)).toNatClampNeg (-1 : Int32) → vp_in (2 : Int32) (hN S8 (hC S)) ∧ ∀ S13 : hp, S13 = setI S8 (hC S) ((2 : Int32)).toNatClampNeg (-1 : Int32) → vp_in (3 : Int32) (hN S13 (hC S)) ∧ ∀ S19 : hp, S19 = setI S13 (hC S) ((3 : Int32)).toNatClampNeg (-1 : Int32) → vp_in (4 : Int32) (hN S19 (hC S)) ∧ ∀ S26 : hp, S26 = setI S19 (hC S) ((4 : Int32)).toNatClampNeg (-1 : Int32) → vp_in (5 : Int32) (hN S26 (hC S)) ∧ ∀ S34 : hp, S34 = setI S26 (hC S) ((5 : Int32)).toNatClampNeg (-1 : Int32) → vp_in (6 : Int32) (hN S34 (hC S)) ∧ ∀ S43 : hp, S43 = setI S34 (hC S) ((6 : Int32)).toNatClampNeg (-1 : Int32) → vp_in (7 : Int32) (hN S43 (hC S)) ∧ ∀ S53 : hp, S53 = setI S43 (hC S) ((7 : Int32)).toNatClampNeg (-1 : Int32) → hK S53 a0 = 11 ∧ ∀ S64 : hp, S64 = setR S53 a0 2 (some (hC S)) → ∀ S75 : hp, S75 = newC S64 12 8 → hK S75 a0 = 11 ∧ ∀ S77 : hp, S77 = setR S75 a0 3 (some (hC S64)) → ∀ S79 : hp, S79 = newC S77 12 320 → hK S79 a0 = 11 ∧ ∀ S81 : hp, S81 = setR S79 a0 4 (some (hC S77)) → ∀ S83 : hp, S83 = newC S81 12 147 → hK S83 a0 = 11 ∧ ∀ S85 : hp, S85 = setR S83 a0 5 (some (hC S81)) → ∀ S87 : hp, S87 = newC S85 12 147 → hK S87 a0 = 11 ∧ ∀ S89 : hp, S89 = setR S87 a0 6 (some (hC S85)) → ∀ S91 : hp, S91 = newC S89 12 3528 → hK S91 a0 = 11 ∧ ∀ S93 : hp, S93 = setR S91 a0 7 (some (hC S89)) → ∀ S95 : hp, S95 = newC S93 12 140 → hK S95 a0 = 11 ∧ ∀ S97 : hp, S97 = setR S95 a0 9 (some (hC S93)) → ∀ S99 : hp, S99 = newC S97 12 12 → hK S99 a0 = 11 ∧ ∀ S101 : hp, S101 = setR S99 a0 18 (some (hC S97)) → ∀ S103 : hp, S103 = newC S101 13 2 → hK S103 a0 = 11 ∧ ∀ S105 : hp, S105 = setR S103 a0 19 (some (hC S101)) → ∀ S107 : hp, S107 = newC S105 12 294 → hK S107 a0 = 11 ∧ ∀ S109 : hp, S109 = setR S107 a0 20 (some (hC S105)) → ∀ S111 : hp, S111 = newC S109 12 4 → hK S111 a0 = 11 ∧ ∀ S113 : hp, S113 = setR S111 a0 21 (some (hC S109)) → ∀ S115 : hp, S115 = newC S113 12 4 → hK S115 a0 = 11 ∧ ∀ S117 : hp, S117 = setR S115 a0 22 (some (hC S113)) → ∀ S119 : hp, S119 = newC S117 12 4 → hK S119 a0 = 11 ∧ ∀ S121 : hp, S121 = setR S119 a0 23 (some (hC S117)) → ∀ S123 : hp, S123 = newC S121 12 16 → hK S123 a0 = 11 ∧ ∀ S125 : hp, S125 = setR S123 a0 24 (some (hC S121)) → Q S125
theorem k_X12_init : Cond.code yX12_init cX12_init 1 none ∈ gtb := mg 937 (by decide +kernel) (by decide +kernel)
theorem dn_X12_init : yX12_init.cls ≠ "java/lang/invoke/MethodHandle" ∧ yX12_init.cls ≠ "java/lang/invoke/VarHandle" ∧ (parseMethodDescriptor yX12_init.desc).map (fun d => d.parameters.length) = some 0 := by decide +kernel
set_option maxRecDepth 100000 in
set_option maxHeartbeats 4000000 in
theorem s_X12_init (l : Launch) (b : Nat) (D : va_G) (cy : Nat → ClassId) {Q : hp → Prop} {S : hp} {a0 : Nat} (h : wp_X12_init Q S a0) : MT l yX12_init cX12_init 1 none 1 20 14 4634 b D cy S [.ref a0] (pV Q) := by
  refine MT.of (by decide +kernel) (Nat.le_of_ble_eq_true rfl) ?_
  intro p e s m args below meth c X hr hlk hnm
  unfold wp_X12_init at h
  show VM l b D cy 1 1 20 14 4634 (pV Q) p e s m args below meth c S 0 0 0 [(0, .ref a0)] []
  refine v_aload_n X 0 dX12_init_0 rfl rfl ?_
  refine v_objInit X wd938 wd79 wd80 dX12_init_1 (Nat.le_of_ble_eq_true rfl) (Nat.le_of_ble_eq_true rfl) ?_
  refine v_aload_n X 0 dX12_init_4 rfl rfl ?_
  refine v_bipush X (v := 8) dX12_init_5 (by decide) ?_
  refine v_newI X (N := 8) wdaI (by decide) (by decide) (Nat.le_of_ble_eq_true rfl) (Nat.le_of_ble_eq_true rfl) (Nat.le_of_ble_eq_true rfl) dX12_init_7 ?_
  refine v_nmS (fun S1 eS1 => ?_)
  replace h := h S1 eS1
  refine v_dup X dX12_init_9 rfl ?_
  refine v_iconst X (v := 0) dX12_init_10 (by decide) ?_
  refine v_iconst X (v := -1) dX12_init_11 (by decide) ?_
  obtain ⟨hk2, h⟩ := h
  obtain ⟨hi3, h⟩ := h
  refine v_iast X hk2 hi3 dX12_init_12 ?_
  refine v_nmS (fun S4 eS4 => ?_)
  replace h := h S4 eS4
  have hk5 : hK S4 (hC S) = 12 := by rw [eS4]; exact hk2
  have hi6 : vp_in (0 : Int32) (hN S4 (hC S)) := by rw [eS4]; exact hi3
  refine v_dup X dX12_init_13 rfl ?_
  refine v_iconst X (v := 1) dX12_init_14 (by decide) ?_
  refine v_iconst X (v := -1) dX12_init_15 (by decide) ?_
  obtain ⟨hi7, h⟩ := h
  refine v_iast X hk5 hi7 dX12_init_16 ?_
  refine v_nmS (fun S8 eS8 => ?_)
  replace h := h S8 eS8
  have hk9 : hK S8 (hC S) = 12 := by rw [eS8]; exact hk5
  have hi10 : vp_in (0 : Int32) (hN S8 (hC S)) := by rw [eS8]; exact hi6
  have hi11 : vp_in (1 : Int32) (hN S8 (hC S)) := by rw [eS8]; exact hi7
  refine v_dup X dX12_init_17 rfl ?_
  refine v_iconst X (v := 2) dX12_init_18 (by decide) ?_
  refine v_iconst X (v := -1) dX12_init_19 (by decide) ?_
  obtain ⟨hi12, h⟩ := h
  refine v_iast X hk9 hi12 dX12_init_20 ?_
  refine v_nmS (fun S13 eS13 => ?_)
  replace h := h S13 eS13
  have hk14 : hK S13 (hC S) = 12 := by rw [eS13]; exact hk9
  have hi15 : vp_in (0 : Int32) (hN S13 (hC S)) := by rw [eS13]; exact hi10
  have hi16 : vp_in (1 : Int32) (hN S13 (hC S)) := by rw [eS13]; exact hi11
  have hi17 : vp_in (2 : Int32) (hN S13 (hC S)) := by rw [eS13]; exact hi12
  refine v_dup X dX12_init_21 rfl ?_
  refine v_iconst X (v := 3) dX12_init_22 (by decide) ?_
  refine v_iconst X (v := -1) dX12_init_23 (by decide) ?_
  obtain ⟨hi18, h⟩ := h
  refine v_iast X hk14 hi18 dX12_init_24 ?_
  refine v_nmS (fun S19 eS19 => ?_)
  replace h := h S19 eS19
  have hk20 : hK S19 (hC S) = 12 := by rw [eS19]; exact hk14
  have hi21 : vp_in (0 : Int32) (hN S19 (hC S)) := by rw [eS19]; exact hi15
  have hi22 : vp_in (1 : Int32) (hN S19 (hC S)) := by rw [eS19]; exact hi16
  have hi23 : vp_in (2 : Int32) (hN S19 (hC S)) := by rw [eS19]; exact hi17
  have hi24 : vp_in (3 : Int32) (hN S19 (hC S)) := by rw [eS19]; exact hi18
  refine v_dup X dX12_init_25 rfl ?_
  refine v_iconst X (v := 4) dX12_init_26 (by decide) ?_
  refine v_iconst X (v := -1) dX12_init_27 (by decide) ?_
  obtain ⟨hi25, h⟩ := h
  refine v_iast X hk20 hi25 dX12_init_28 ?_
  refine v_nmS (fun S26 eS26 => ?_)
  replace h := h S26 eS26
  have hk27 : hK S26 (hC S) = 12 := by rw [eS26]; exact hk20
  have hi28 : vp_in (0 : Int32) (hN S26 (hC S)) := by rw [eS26]; exact hi21
  have hi29 : vp_in (1 : Int32) (hN S26 (hC S)) := by rw [eS26]; exact hi22
  have hi30 : vp_in (2 : Int32) (hN S26 (hC S)) := by rw [eS26]; exact hi23
  have hi31 : vp_in (3 : Int32) (hN S26 (hC S)) := by rw [eS26]; exact hi24
  have hi32 : vp_in (4 : Int32) (hN S26 (hC S)) := by rw [eS26]; exact hi25
  refine v_dup X dX12_init_29 rfl ?_
  refine v_iconst X (v := 5) dX12_init_30 (by decide) ?_
  refine v_iconst X (v := -1) dX12_init_31 (by decide) ?_
  obtain ⟨hi33, h⟩ := h
  refine v_iast X hk27 hi33 dX12_init_32 ?_
  refine v_nmS (fun S34 eS34 => ?_)
  replace h := h S34 eS34
  have hk35 : hK S34 (hC S) = 12 := by rw [eS34]; exact hk27
  have hi36 : vp_in (0 : Int32) (hN S34 (hC S)) := by rw [eS34]; exact hi28
  have hi37 : vp_in (1 : Int32) (hN S34 (hC S)) := by rw [eS34]; exact hi29
  have hi38 : vp_in (2 : Int32) (hN S34 (hC S)) := by rw [eS34]; exact hi30
  have hi39 : vp_in (3 : Int32) (hN S34 (hC S)) := by rw [eS34]; exact hi31
  have hi40 : vp_in (4 : Int32) (hN S34 (hC S)) := by rw [eS34]; exact hi32
  have hi41 : vp_in (5 : Int32) (hN S34 (hC S)) := by rw [eS34]; exact hi33
  refine v_dup X dX12_init_33 rfl ?_
  refine v_bipush X (v := 6) dX12_init_34 (by decide) ?_
  refine v_iconst X (v := -1) dX12_init_36 (by decide) ?_
  obtain ⟨hi42, h⟩ := h
  refine v_iast X hk35 hi42 dX12_init_37 ?_
  refine v_nmS (fun S43 eS43 => ?_)
  replace h := h S43 eS43
  have hk44 : hK S43 (hC S) = 12 := by rw [eS43]; exact hk35
  have hi45 : vp_in (0 : Int32) (hN S43 (hC S)) := by rw [eS43]; exact hi36
  have hi46 : vp_in (1 : Int32) (hN S43 (hC S)) := by rw [eS43]; exact hi37
  have hi47 : vp_in (2 : Int32) (hN S43 (hC S)) := by rw [eS43]; exact hi38
  have hi48 : vp_in (3 : Int32) (hN S43 (hC S)) := by rw [eS43]; exact hi39
  have hi49 : vp_in (4 : Int32) (hN S43 (hC S)) := by rw [eS43]; exact hi40
  have hi50 : vp_in (5 : Int32) (hN S43 (hC S)) := by rw [eS43]; exact hi41
  have hi51 : vp_in (6 : Int32) (hN S43 (hC S)) := by rw [eS43]; exact hi42
  refine v_dup X dX12_init_38 rfl ?_
  refine v_bipush X (v := 7) dX12_init_39 (by decide) ?_
  refine v_iconst X (v := -1) dX12_init_41 (by decide) ?_
  obtain ⟨hi52, h⟩ := h
  refine v_iast X hk44 hi52 dX12_init_42 ?_
  refine v_nmS (fun S53 eS53 => ?_)
  replace h := h S53 eS53
  have hk54 : hK S53 (hC S) = 12 := by rw [eS53]; exact hk44
  have hi55 : vp_in (0 : Int32) (hN S53 (hC S)) := by rw [eS53]; exact hi45
  have hi56 : vp_in (1 : Int32) (hN S53 (hC S)) := by rw [eS53]; exact hi46
  have hi57 : vp_in (2 : Int32) (hN S53 (hC S)) := by rw [eS53]; exact hi47
  have hi58 : vp_in (3 : Int32) (hN S53 (hC S)) := by rw [eS53]; exact hi48
  have hi59 : vp_in (4 : Int32) (hN S53 (hC S)) := by rw [eS53]; exact hi49
  have hi60 : vp_in (5 : Int32) (hN S53 (hC S)) := by rw [eS53]; exact hi50
  have hi61 : vp_in (6 : Int32) (hN S53 (hC S)) := by rw [eS53]; exact hi51
  have hi62 : vp_in (7 : Int32) (hN S53 (hC S)) := by rw [eS53]; exact hi52
  obtain ⟨hk63, h⟩ := h
  refine v_putFR X (T := TX12) (N := 26) (k := 2) hk63 (by decide) rfl (by decide) inX12 wd941 tyX12 tyX12_ok nmX12 rfl hnm rfl rfl (fun _ => rfl) (fun _ => rfl) dX12_init_43 ?_
  refine v_nmS (fun S64 eS64 => ?_)
  replace h := h S64 eS64
  have hk65 : hK S64 (hC S) = 12 := by rw [eS64]; exact hk54
  have hk66 : hK S64 a0 = 11 := by rw [eS64]; exact hk63
  have hi67 : vp_in (0 : Int32) (hN S64 (hC S)) := by rw [eS64]; exact hi55
  have hi68 : vp_in (1 : Int32) (hN S64 (hC S)) := by rw [eS64]; exact hi56
  have hi69 : vp_in (2 : Int32) (hN S64 (hC S)) := by rw [eS64]; exact hi57
  have hi70 : vp_in (3 : Int32) (hN S64 (hC S)) := by rw [eS64]; exact hi58
  have hi71 : vp_in (4 : Int32) (hN S64 (hC S)) := by rw [eS64]; exact hi59
  have hi72 : vp_in (5 : Int32) (hN S64 (hC S)) := by rw [eS64]; exact hi60
  have hi73 : vp_in (6 : Int32) (hN S64 (hC S)) := by rw [eS64]; exact hi61
  have hi74 : vp_in (7 : Int32) (hN S64 (hC S)) := by rw [eS64]; exact hi62
  refine v_aload_n X 0 dX12_init_46 rfl rfl ?_
  refine v_bipush X (v := 8) dX12_init_47 (by decide) ?_
  refine v_newI X (N := 8) wdaI (by decide) (by decide) (Nat.le_of_ble_eq_true rfl) (Nat.le_of_ble_eq_true rfl) (Nat.le_of_ble_eq_true rfl) dX12_init_49 ?_
  refine v_nmS (fun S75 eS75 => ?_)
  replace h := h S75 eS75
  obtain ⟨hk76, h⟩ := h
  refine v_putFR X (T := TX12) (N := 26) (k := 3) hk76 (by decide) rfl (by decide) inX12 wd942 tyX12 tyX12_ok nmX12 rfl hnm rfl rfl (fun _ => rfl) (fun _ => rfl) dX12_init_51 ?_
  refine v_nmS (fun S77 eS77 => ?_)
  replace h := h S77 eS77
  have hk78 : hK S77 a0 = 11 := by rw [eS77]; exact hk76
  refine v_aload_n X 0 dX12_init_54 rfl rfl ?_
  refine v_sipush X (v := 320) dX12_init_55 (by decide) ?_
  refine v_newI X (N := 320) wdaI (by decide) (by decide) (Nat.le_of_ble_eq_true rfl) (Nat.le_of_ble_eq_true rfl) (Nat.le_of_ble_eq_true rfl) dX12_init_58 ?_
  refine v_nmS (fun S79 eS79 => ?_)
  replace h := h S79 eS79
  obtain ⟨hk80, h⟩ := h
  refine v_putFR X (T := TX12) (N := 26) (k := 4) hk80 (by decide) rfl (by decide) inX12 wd943 tyX12 tyX12_ok nmX12 rfl hnm rfl rfl (fun _ => rfl) (fun _ => rfl) dX12_init_60 ?_
  refine v_nmS (fun S81 eS81 => ?_)
  replace h := h S81 eS81
  have hk82 : hK S81 a0 = 11 := by rw [eS81]; exact hk80
  refine v_aload_n X 0 dX12_init_63 rfl rfl ?_
  refine v_sipush X (v := 147) dX12_init_64 (by decide) ?_
  refine v_newI X (N := 147) wdaI (by decide) (by decide) (Nat.le_of_ble_eq_true rfl) (Nat.le_of_ble_eq_true rfl) (Nat.le_of_ble_eq_true rfl) dX12_init_67 ?_
  refine v_nmS (fun S83 eS83 => ?_)
  replace h := h S83 eS83
  obtain ⟨hk84, h⟩ := h
  refine v_putFR X (T := TX12) (N := 26) (k := 5) hk84 (by decide) rfl (by decide) inX12 wd944 tyX12 tyX12_ok nmX12 rfl hnm rfl rfl (fun _ => rfl) (fun _ => rfl) dX12_init_69 ?_
  refine v_nmS (fun S85 eS85 => ?_)
  replace h := h S85 eS85
  have hk86 : hK S85 a0 = 11 := by rw [eS85]; exact hk84
  refine v_aload_n X 0 dX12_init_72 rfl rfl ?_
  refine v_sipush X (v := 147) dX12_init_73 (by decide) ?_
  refine v_newI X (N := 147) wdaI (by decide) (by decide) (Nat.le_of_ble_eq_true rfl) (Nat.le_of_ble_eq_true rfl) (Nat.le_of_ble_eq_true rfl) dX12_init_76 ?_
  refine v_nmS (fun S87 eS87 => ?_)
  replace h := h S87 eS87
  obtain ⟨hk88, h⟩ := h
  refine v_putFR X (T := TX12) (N := 26) (k := 6) hk88 (by decide) rfl (by decide) inX12 wd945 tyX12 tyX12_ok nmX12 rfl hnm rfl rfl (fun _ => rfl) (fun _ => rfl) dX12_init_78 ?_
  refine v_nmS (fun S89 eS89 => ?_)
  replace h := h S89 eS89
  have hk90 : hK S89 a0 = 11 := by rw [eS89]; exact hk88
  refine v_aload_n X 0 dX12_init_81 rfl rfl ?_
  refine v_sipush X (v := 3528) dX12_init_82 (by decide) ?_
  refine v_newI X (N := 3528) wdaI (by decide) (by decide) (Nat.le_of_ble_eq_true rfl) (Nat.le_of_ble_eq_true rfl) (Nat.le_of_ble_eq_true rfl) dX12_init_85 ?_
  refine v_nmS (fun S91 eS91 => ?_)
  replace h := h S91 eS91
  obtain ⟨hk92, h⟩ := h
  refine v_putFR X (T := TX12) (N := 26) (k := 7) hk92 (by decide) rfl (by decide) inX12 wd946 tyX12 tyX12_ok nmX12 rfl hnm rfl rfl (fun _ => rfl) (fun _ => rfl) dX12_init_87 ?_
  refine v_nmS (fun S93 eS93 => ?_)
  replace h := h S93 eS93
  have hk94 : hK S93 a0 = 11 := by rw [eS93]; exact hk92
  refine v_aload_n X 0 dX12_init_90 rfl rfl ?_
  refine v_sipush X (v := 140) dX12_init_91 (by decide) ?_
  refine v_newI X (N := 140) wdaI (by decide) (by decide) (Nat.le_of_ble_eq_true rfl) (Nat.le_of_ble_eq_true rfl) (Nat.le_of_ble_eq_true rfl) dX12_init_94 ?_
  refine v_nmS (fun S95 eS95 => ?_)
  replace h := h S95 eS95
  obtain ⟨hk96, h⟩ := h
  refine v_putFR X (T := TX12) (N := 26) (k := 9) hk96 (by decide) rfl (by decide) inX12 wd948 tyX12 tyX12_ok nmX12 rfl hnm rfl rfl (fun _ => rfl) (fun _ => rfl) dX12_init_96 ?_
  refine v_nmS (fun S97 eS97 => ?_)
  replace h := h S97 eS97
  have hk98 : hK S97 a0 = 11 := by rw [eS97]; exact hk96
  refine v_aload_n X 0 dX12_init_99 rfl rfl ?_
  refine v_bipush X (v := 12) dX12_init_100 (by decide) ?_
  refine v_newI X (N := 12) wdaI (by decide) (by decide) (Nat.le_of_ble_eq_true rfl) (Nat.le_of_ble_eq_true rfl) (Nat.le_of_ble_eq_true rfl) dX12_init_102 ?_
  refine v_nmS (fun S99 eS99 => ?_)
  replace h := h S99 eS99
  obtain ⟨hk100, h⟩ := h
  refine v_putFR X (T := TX12) (N := 26) (k := 18) hk100 (by decide) rfl (by decide) inX12 wd957 tyX12 tyX12_ok nmX12 rfl hnm rfl rfl (fun _ => rfl) (fun _ => rfl) dX12_init_104 ?_
  refine v_nmS (fun S101 eS101 => ?_)
  replace h := h S101 eS101
  have hk102 : hK S101 a0 = 11 := by rw [eS101]; exact hk100
  refine v_aload_n X 0 dX12_init_107 rfl rfl ?_
  refine v_iconst X (v := 2) dX12_init_108 (by decide) ?_
  refine v_newZ X (N := 2) wdaZ (by decide) (by decide) (Nat.le_of_ble_eq_true rfl) (Nat.le_of_ble_eq_true rfl) (Nat.le_of_ble_eq_true rfl) dX12_init_109 ?_
  refine v_nmS (fun S103 eS103 => ?_)
  replace h := h S103 eS103
  obtain ⟨hk104, h⟩ := h
  refine v_putFR X (T := TX12) (N := 26) (k := 19) hk104 (by decide) rfl (by decide) inX12 wd958 tyX12 tyX12_ok nmX12 rfl hnm rfl rfl (fun _ => rfl) (fun _ => rfl) dX12_init_111 ?_
  refine v_nmS (fun S105 eS105 => ?_)
  replace h := h S105 eS105
  have hk106 : hK S105 a0 = 11 := by rw [eS105]; exact hk104
  refine v_aload_n X 0 dX12_init_114 rfl rfl ?_
  refine v_sipush X (v := 294) dX12_init_115 (by decide) ?_
  refine v_newI X (N := 294) wdaI (by decide) (by decide) (Nat.le_of_ble_eq_true rfl) (Nat.le_of_ble_eq_true rfl) (Nat.le_of_ble_eq_true rfl) dX12_init_118 ?_
  refine v_nmS (fun S107 eS107 => ?_)
  replace h := h S107 eS107
  obtain ⟨hk108, h⟩ := h
  refine v_putFR X (T := TX12) (N := 26) (k := 20) hk108 (by decide) rfl (by decide) inX12 wd959 tyX12 tyX12_ok nmX12 rfl hnm rfl rfl (fun _ => rfl) (fun _ => rfl) dX12_init_120 ?_
  refine v_nmS (fun S109 eS109 => ?_)
  replace h := h S109 eS109
  have hk110 : hK S109 a0 = 11 := by rw [eS109]; exact hk108
  refine v_aload_n X 0 dX12_init_123 rfl rfl ?_
  refine v_iconst X (v := 4) dX12_init_124 (by decide) ?_
  refine v_newI X (N := 4) wdaI (by decide) (by decide) (Nat.le_of_ble_eq_true rfl) (Nat.le_of_ble_eq_true rfl) (Nat.le_of_ble_eq_true rfl) dX12_init_125 ?_
  refine v_nmS (fun S111 eS111 => ?_)
  replace h := h S111 eS111
  obtain ⟨hk112, h⟩ := h
  refine v_putFR X (T := TX12) (N := 26) (k := 21) hk112 (by decide) rfl (by decide) inX12 wd960 tyX12 tyX12_ok nmX12 rfl hnm rfl rfl (fun _ => rfl) (fun _ => rfl) dX12_init_127 ?_
  refine v_nmS (fun S113 eS113 => ?_)
  replace h := h S113 eS113
  have hk114 : hK S113 a0 = 11 := by rw [eS113]; exact hk112
  refine v_aload_n X 0 dX12_init_130 rfl rfl ?_
  refine v_iconst X (v := 4) dX12_init_131 (by decide) ?_
  refine v_newI X (N := 4) wdaI (by decide) (by decide) (Nat.le_of_ble_eq_true rfl) (Nat.le_of_ble_eq_true rfl) (Nat.le_of_ble_eq_true rfl) dX12_init_132 ?_
  refine v_nmS (fun S115 eS115 => ?_)
  replace h := h S115 eS115
  obtain ⟨hk116, h⟩ := h
  refine v_putFR X (T := TX12) (N := 26) (k := 22) hk116 (by decide) rfl (by decide) inX12 wd961 tyX12 tyX12_ok nmX12 rfl hnm rfl rfl (fun _ => rfl) (fun _ => rfl) dX12_init_134 ?_
  refine v_nmS (fun S117 eS117 => ?_)
  replace h := h S117 eS117
  have hk118 : hK S117 a0 = 11 := by rw [eS117]; exact hk116
  refine v_aload_n X 0 dX12_init_137 rfl rfl ?_
  refine v_iconst X (v := 4) dX12_init_138 (by decide) ?_
  refine v_newI X (N := 4) wdaI (by decide) (by decide) (Nat.le_of_ble_eq_true rfl) (Nat.le_of_ble_eq_true rfl) (Nat.le_of_ble_eq_true rfl) dX12_init_139 ?_
  refine v_nmS (fun S119 eS119 => ?_)
  replace h := h S119 eS119
  obtain ⟨hk120, h⟩ := h
  refine v_putFR X (T := TX12) (N := 26) (k := 23) hk120 (by decide) rfl (by decide) inX12 wd962 tyX12 tyX12_ok nmX12 rfl hnm rfl rfl (fun _ => rfl) (fun _ => rfl) dX12_init_141 ?_
  refine v_nmS (fun S121 eS121 => ?_)
  replace h := h S121 eS121
  have hk122 : hK S121 a0 = 11 := by rw [eS121]; exact hk120
  refine v_aload_n X 0 dX12_init_144 rfl rfl ?_
  refine v_bipush X (v := 16) dX12_init_145 (by decide) ?_
  refine v_newI X (N := 16) wdaI (by decide) (by decide) (Nat.le_of_ble_eq_true rfl) (Nat.le_of_ble_eq_true rfl) (Nat.le_of_ble_eq_true rfl) dX12_init_147 ?_
  refine v_nmS (fun S123 eS123 => ?_)
  replace h := h S123 eS123
  obtain ⟨hk124, h⟩ := h
  refine v_putFR X (T := TX12) (N := 26) (k := 24) hk124 (by decide) rfl (by decide) inX12 wd963 tyX12 tyX12_ok nmX12 rfl hnm rfl rfl (fun _ => rfl) (fun _ => rfl) dX12_init_149 ?_
  refine v_nmS (fun S125 eS125 => ?_)
  replace h := h S125 eS125
  have hk126 : hK S125 a0 = 11 := by rw [eS125]; exact hk124
  exact v_vret X hr hlk ⟨rfl, h⟩ dX12_init_152
def wp_X12_in (Q : Int32 → hp → Prop) (S : hp) (x0 : Int64) (x2 : Int64) (x4 : Int64) : Prop :=
  (((lg_cmp x0 x2) < 0 → Q (0 : Int32) S) ∧ (¬ (lg_cmp x0 x2) < 0 → ((0 < (lg_cmp x0 x4) → Q (0 : Int32) S) ∧ (¬ 0 < (lg_cmp x0 x4) → Q (1 : Int32) S))))
theorem k_X12_in : Cond.code yX12_in cX12_in 6 (some .boolean) ∈ gtb := mg 1028 (by decide +kernel) (by decide +kernel)
theorem dn_X12_in : yX12_in.cls ≠ "java/lang/invoke/MethodHandle" ∧ yX12_in.cls ≠ "java/lang/invoke/VarHandle" ∧ (parseMethodDescriptor yX12_in.desc).map (fun d => d.parameters.length) = some 3 := by decide +kernel
set_option maxRecDepth 100000 in
set_option maxHeartbeats 4000000 in
theorem s_X12_in (l : Launch) (b : Nat) (D : va_G) (cy : Nat → ClassId) {Q : Int32 → hp → Prop} {S : hp} {x0 : Int64} {x2 : Int64} {x4 : Int64} (h : wp_X12_in Q S x0 x2 x4) : MT l yX12_in cX12_in 6 (some .boolean) 0 0 0 0 b D cy S [.long x0, .long x2, .long x4] (pI Q) := by
  refine MT.of (by decide +kernel) (Nat.le_of_ble_eq_true rfl) ?_
  intro p e s m args below meth c X hr hlk hnm
  unfold wp_X12_in at h
  show VM l b D cy 6 0 0 0 0 (pI Q) p e s m args below meth c S 0 0 0 [(0, .long x0), (2, .long x2), (4, .long x4)] []
  refine v_lload_n X 0 dX12_in_0 rfl rfl ?_
  refine v_lload_n X 1 dX12_in_1 rfl rfl ?_
  refine v_lcmp X dX12_in_2 ?_
  refine v_if_lt X (tgt := 17) dX12_in_3 (by decide) (fun c1 => ?_) (fun c1 => ?_)
  · replace h := h.1 c1
    refine v_iconst X (v := 0) dX12_in_17 (by decide) ?_
    exact v_zret X hr (by decide) hlk ⟨_, rfl, h⟩ dX12_in_18
  · replace h := h.2 c1
    refine v_lload_n X 0 dX12_in_6 rfl rfl ?_
    refine v_lload X 2 dX12_in_7 rfl ?_
    refine v_lcmp X dX12_in_9 ?_
    refine v_if_gt X (tgt := 17) dX12_in_10 (by decide) (fun c2 => ?_) (fun c2 => ?_)
    · replace h := h.1 c2
      refine v_iconst X (v := 0) dX12_in_17 (by decide) ?_
      exact v_zret X hr (by decide) hlk ⟨_, rfl, h⟩ dX12_in_18
    · replace h := h.2 c2
      refine v_iconst X (v := 1) dX12_in_13 (by decide) ?_
      refine v_goto X (tgt := 18) dX12_in_14 (by decide) ?_
      exact v_zret X hr (by decide) hlk ⟨_, rfl, h⟩ dX12_in_18
def wp_X12_finding (Q : Int32 → hp → Prop) (S : hp) (a0 : Nat) (x1 : Int32) : Prop :=
  hK S a0 = 11 ∧ ∀ S2 : hp, S2 = setI S a0 1 x1 → Q ((-1000010 : Int32) - x1) S2
theorem k_X12_finding : Cond.code yX12_finding cX12_finding 2 (some .int) ∈ gtb := mg 1034 (by decide +kernel) (by decide +kernel)
theorem dn_X12_finding : yX12_finding.cls ≠ "java/lang/invoke/MethodHandle" ∧ yX12_finding.cls ≠ "java/lang/invoke/VarHandle" ∧ (parseMethodDescriptor yX12_finding.desc).map (fun d => d.parameters.length) = some 1 := by decide +kernel
set_option maxRecDepth 100000 in
set_option maxHeartbeats 4000000 in
theorem s_X12_finding (l : Launch) (b : Nat) (D : va_G) (cy : Nat → ClassId) {Q : Int32 → hp → Prop} {S : hp} {a0 : Nat} {x1 : Int32} (h : wp_X12_finding Q S a0 x1) : MT l yX12_finding cX12_finding 2 (some .int) 0 0 0 0 b D cy S [.ref a0, .int x1] (pI Q) := by
  refine MT.of (by decide +kernel) (Nat.le_of_ble_eq_true rfl) ?_
  intro p e s m args below meth c X hr hlk hnm
  unfold wp_X12_finding at h
  show VM l b D cy 2 0 0 0 0 (pI Q) p e s m args below meth c S 0 0 0 [(0, .ref a0), (1, .int x1)] []
  refine v_aload_n X 0 dX12_finding_0 rfl rfl ?_
  refine v_iload_n X 1 dX12_finding_1 rfl rfl ?_
  obtain ⟨hk1, h⟩ := h
  refine v_putI X (T := TX12) (N := 26) (k := 1) hk1 (by decide) rfl (by decide) inX12 wd940 tyX12 tyX12_ok nmX12 rfl rfl rfl rfl dX12_finding_2 ?_
  refine v_nmS (fun S2 eS2 => ?_)
  replace h := h S2 eS2
  have hk3 : hK S2 a0 = 11 := by rw [eS2]; exact hk1
  refine v_ldc X wd1035 dX12_finding_5 ?_
  refine v_iload_n X 1 dX12_finding_7 rfl rfl ?_
  refine v_isub X dX12_finding_8 ?_
  exact v_iret X hr hlk ⟨_, rfl, h⟩ dX12_finding_9
def wp_X12_isRow (Q : Int32 → hp → Prop) (S : hp) (x0 : Int32) : Prop :=
  wp_X12_in (fun r2 S1 => isZ r2 ∧ Q r2 S1) S ((x0).toInt64) ((0 : Int64)) ((7 : Int64))
theorem k_X12_isRow : Cond.code yX12_isRow cX12_isRow 1 (some .boolean) ∈ gtb := mg 1024 (by decide +kernel) (by decide +kernel)
theorem dn_X12_isRow : yX12_isRow.cls ≠ "java/lang/invoke/MethodHandle" ∧ yX12_isRow.cls ≠ "java/lang/invoke/VarHandle" ∧ (parseMethodDescriptor yX12_isRow.desc).map (fun d => d.parameters.length) = some 1 := by decide +kernel
set_option maxRecDepth 100000 in
set_option maxHeartbeats 4000000 in
theorem s_X12_isRow (l : Launch) (b : Nat) (D : va_G) (cy : Nat → ClassId) {Q : Int32 → hp → Prop} {S : hp} {x0 : Int32} (h : wp_X12_isRow Q S x0) : MT l yX12_isRow cX12_isRow 1 (some .boolean) 1 25 0 0 b D cy S [.int x0] (pI Q) := by
  refine MT.of (by decide +kernel) (Nat.le_of_ble_eq_true rfl) ?_
  intro p e s m args below meth c X hr hlk hnm
  unfold wp_X12_isRow at h
  show VM l b D cy 1 1 25 0 0 (pI Q) p e s m args below meth c S 0 0 0 [(0, .int x0)] []
  refine v_iload_n X 0 dX12_isRow_0 rfl rfl ?_
  refine v_i2l X dX12_isRow_1 ?_
  refine v_lconst X (v := 0) dX12_isRow_2 (by decide) ?_
  refine v_ldc2 X wd1025 dX12_isRow_3 ?_
  refine v_callS X (av := [.long (x0).toInt64, .long (0 : Int64), .long (7 : Int64)]) (s_X12_in l b D cy h) wd1026 wd1027 wd62 k_X12_in dn_X12_in rfl ⟨Nat.le_of_ble_eq_true rfl, Nat.le_of_ble_eq_true rfl⟩ (Nat.le_of_ble_eq_true rfl) ⟨Nat.le_of_ble_eq_true rfl, Nat.le_of_ble_eq_true rfl⟩ dX12_isRow_6 rfl (kI (fun r2 S1 h => ?_))
  obtain ⟨hz3, h⟩ := h
  exact v_zret X hr hz3 hlk ⟨_, rfl, h⟩ dX12_isRow_9
