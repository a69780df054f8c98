def wp_X6_init (Q : hp → Prop) (S : hp) (a0 : Nat) : Prop :=
  ∀ S1 : hp, S1 = newG S 8 40 → hK S1 a0 = 5 ∧ ∀ S3 : hp, S3 = setR S1 a0 0 (some (hC S)) → ∀ S5 : hp, S5 = newC S3 12 8 → hK S5 a0 = 5 ∧ ∀ S7 : hp, S7 = setR S5 a0 1 (some (hC S3)) → ∀ S9 : hp, S9 = newC S7 12 8 → hK S9 a0 = 5 ∧ ∀ S11 : hp, S11 = setR S9 a0 2 (some (hC S7)) → ∀ S13 : hp, S13 = newC S11 13 8 → hK S13 a0 = 5 ∧ ∀ S15 : hp, S15 = setR S13 a0 3 (some (hC S11)) → Q S15
theorem k_X6_init : Cond.code yX6_init cX6_init 1 none ∈ gtb := mg 85 (by decide +kernel) (by decide +kernel)
theorem dn_X6_init : yX6_init.cls ≠ "java/lang/invoke/MethodHandle" ∧ yX6_init.cls ≠ "java/lang/invoke/VarHandle" ∧ (parseMethodDescriptor yX6_init.desc).map (fun d => d.parameters.length) = some 0 := by decide +kernel
set_option maxRecDepth 100000 in
set_option maxHeartbeats 4000000 in
theorem s_X6_init (l : Launch) (b : Nat) (D : va_G) (cy : Nat → ClassId) {Q : hp → Prop} {S : hp} {a0 : Nat} (h : wp_X6_init Q S a0) : MT l yX6_init cX6_init 1 none 1 20 12 352 b D cy S [.ref a0] (pV Q) := by
  refine MT.of (by decide +kernel) (Nat.le_of_ble_eq_true rfl) ?_
  intro p e s m args below meth c X hr hlk hnm
  unfold wp_X6_init at h
  show VM l b D cy 1 1 20 12 352 (pV Q) p e s m args below meth c S 0 0 0 [(0, .ref a0)] []
  refine v_aload_n X 0 dX6_init_0 rfl rfl ?_
  refine v_objInit X wd86 wd79 wd80 dX6_init_1 (Nat.le_of_ble_eq_true rfl) (Nat.le_of_ble_eq_true rfl) ?_
  refine v_aload_n X 0 dX6_init_4 rfl rfl ?_
  refine v_bipush X (v := 8) dX6_init_5 (by decide) ?_
  refine v_bipush X (v := 40) dX6_init_7 (by decide) ?_
  refine v_mna X (N := 8) (K := 40) wd87 wdaI (by decide) (by decide) (by decide) (by decide) (by decide) (by decide) (Nat.le_of_ble_eq_true rfl) (Nat.le_of_ble_eq_true rfl) dX6_init_9 ?_
  refine v_nmS (fun S1 eS1 => ?_)
  replace h := h S1 eS1
  obtain ⟨hk2, h⟩ := h
  refine v_putFR X (T := TX6) (N := 4) (k := 0) hk2 (by decide) rfl (by decide) inX6 wd89 tyX6 tyX6_ok nmX6 rfl hnm rfl rfl (fun _ => rfl) (fun _ => rfl) dX6_init_13 ?_
  refine v_nmS (fun S3 eS3 => ?_)
  replace h := h S3 eS3
  have hk4 : hK S3 a0 = 5 := by rw [eS3]; exact hk2
  refine v_aload_n X 0 dX6_init_16 rfl rfl ?_
  refine v_bipush X (v := 8) dX6_init_17 (by decide) ?_
  refine v_newI X (N := 8) wdaI (by decide) (by decide) (Nat.le_of_ble_eq_true rfl) (Nat.le_of_ble_eq_true rfl) (Nat.le_of_ble_eq_true rfl) dX6_init_19 ?_
  refine v_nmS (fun S5 eS5 => ?_)
  replace h := h S5 eS5
  obtain ⟨hk6, h⟩ := h
  refine v_putFR X (T := TX6) (N := 4) (k := 1) hk6 (by decide) rfl (by decide) inX6 wd90 tyX6 tyX6_ok nmX6 rfl hnm rfl rfl (fun _ => rfl) (fun _ => rfl) dX6_init_21 ?_
  refine v_nmS (fun S7 eS7 => ?_)
  replace h := h S7 eS7
  have hk8 : hK S7 a0 = 5 := by rw [eS7]; exact hk6
  refine v_aload_n X 0 dX6_init_24 rfl rfl ?_
  refine v_bipush X (v := 8) dX6_init_25 (by decide) ?_
  refine v_newI X (N := 8) wdaI (by decide) (by decide) (Nat.le_of_ble_eq_true rfl) (Nat.le_of_ble_eq_true rfl) (Nat.le_of_ble_eq_true rfl) dX6_init_27 ?_
  refine v_nmS (fun S9 eS9 => ?_)
  replace h := h S9 eS9
  obtain ⟨hk10, h⟩ := h
  refine v_putFR X (T := TX6) (N := 4) (k := 2) hk10 (by decide) rfl (by decide) inX6 wd91 tyX6 tyX6_ok nmX6 rfl hnm rfl rfl (fun _ => rfl) (fun _ => rfl) dX6_init_29 ?_
  refine v_nmS (fun S11 eS11 => ?_)
  replace h := h S11 eS11
  have hk12 : hK S11 a0 = 5 := by rw [eS11]; exact hk10
  refine v_aload_n X 0 dX6_init_32 rfl rfl ?_
  refine v_bipush X (v := 8) dX6_init_33 (by decide) ?_
  refine v_newZ X (N := 8) wdaZ (by decide) (by decide) (Nat.le_of_ble_eq_true rfl) (Nat.le_of_ble_eq_true rfl) (Nat.le_of_ble_eq_true rfl) dX6_init_35 ?_
  refine v_nmS (fun S13 eS13 => ?_)
  replace h := h S13 eS13
  obtain ⟨hk14, h⟩ := h
  refine v_putFR X (T := TX6) (N := 4) (k := 3) hk14 (by decide) rfl (by decide) inX6 wd92 tyX6 tyX6_ok nmX6 rfl hnm rfl rfl (fun _ => rfl) (fun _ => rfl) dX6_init_37 ?_
  refine v_nmS (fun S15 eS15 => ?_)
  replace h := h S15 eS15
  have hk16 : hK S15 a0 = 5 := by rw [eS15]; exact hk14
  exact v_vret X hr hlk ⟨rfl, h⟩ dX6_init_40
def wp_X9_init (Q : hp → Prop) (S : hp) (a0 : Nat) : Prop :=
  ∀ S1 : hp, S1 = newC S 12 140 → hK S1 a0 = 8 ∧ ∀ S3 : hp, S3 = setR S1 a0 0 (some (hC S)) → Q S3
theorem k_X9_init : Cond.code yX9_init cX9_init 1 none ∈ gtb := mg 108 (by decide +kernel) (by decide +kernel)
theorem dn_X9_init : yX9_init.cls ≠ "java/lang/invoke/MethodHandle" ∧ yX9_init.cls ≠ "java/lang/invoke/VarHandle" ∧ (parseMethodDescriptor yX9_init.desc).map (fun d => d.parameters.length) = some 0 := by decide +kernel
set_option maxRecDepth 100000 in
set_option maxHeartbeats 4000000 in
theorem s_X9_init (l : Launch) (b : Nat) (D : va_G) (cy : Nat → ClassId) {Q : hp → Prop} {S : hp} {a0 : Nat} (h : wp_X9_init Q S a0) : MT l yX9_init cX9_init 1 none 1 20 1 140 b D cy S [.ref a0] (pV Q) := by
  refine MT.of (by decide +kernel) (Nat.le_of_ble_eq_true rfl) ?_
  intro p e s m args below meth c X hr hlk hnm
  unfold wp_X9_init at h
  show VM l b D cy 1 1 20 1 140 (pV Q) p e s m args below meth c S 0 0 0 [(0, .ref a0)] []
  refine v_aload_n X 0 dX9_init_0 rfl rfl ?_
  refine v_objInit X wd109 wd79 wd80 dX9_init_1 (Nat.le_of_ble_eq_true rfl) (Nat.le_of_ble_eq_true rfl) ?_
  refine v_aload_n X 0 dX9_init_4 rfl rfl ?_
  refine v_sipush X (v := 140) dX9_init_5 (by decide) ?_
  refine v_newI X (N := 140) wdaI (by decide) (by decide) (Nat.le_of_ble_eq_true rfl) (Nat.le_of_ble_eq_true rfl) (Nat.le_of_ble_eq_true rfl) dX9_init_8 ?_
  refine v_nmS (fun S1 eS1 => ?_)
  replace h := h S1 eS1
  obtain ⟨hk2, h⟩ := h
  refine v_putFR X (T := TX9) (N := 6) (k := 0) hk2 (by decide) rfl (by decide) inX9 wd110 tyX9 tyX9_ok nmX9 rfl hnm rfl rfl (fun _ => rfl) (fun _ => rfl) dX9_init_10 ?_
  refine v_nmS (fun S3 eS3 => ?_)
  replace h := h S3 eS3
  have hk4 : hK S3 a0 = 8 := by rw [eS3]; exact hk2
  exact v_vret X hr hlk ⟨rfl, h⟩ dX9_init_13
def wp_X8_init (Q : hp → Prop) (S : hp) (a0 : Nat) : Prop :=
  ∀ S1 : hp, S1 = newC S 12 12 → hK S1 a0 = 7 ∧ ∀ S3 : hp, S3 = setR S1 a0 0 (some (hC S)) → ∀ S5 : hp, S5 = newC S3 12 12 → hK S5 a0 = 7 ∧ ∀ S7 : hp, S7 = setR S5 a0 1 (some (hC S3)) → ∀ S9 : hp, S9 = newC S7 12 12 → hK S9 a0 = 7 ∧ ∀ S11 : hp, S11 = setR S9 a0 2 (some (hC S7)) → ∀ S13 : hp, S13 = newC S11 14 5 → hK S13 a0 = 7 ∧ ∀ S15 : hp, S15 = setR S13 a0 3 (some (hC S11)) → ∀ S17 : hp, S17 = newC S15 12 96 → hK S17 a0 = 7 ∧ ∀ S19 : hp, S19 = setR S17 a0 4 (some (hC S15)) → Q S19
theorem k_X8_init : Cond.code yX8_init cX8_init 1 none ∈ gtb := mg 136 (by decide +kernel) (by decide +kernel)
theorem dn_X8_init : yX8_init.cls ≠ "java/lang/invoke/MethodHandle" ∧ yX8_init.cls ≠ "java/lang/invoke/VarHandle" ∧ (parseMethodDescriptor yX8_init.desc).map (fun d => d.parameters.length) = some 0 := by decide +kernel
set_option maxRecDepth 100000 in
set_option maxHeartbeats 4000000 in
theorem s_X8_init (l : Launch) (b : Nat) (D : va_G) (cy : Nat → ClassId) {Q : hp → Prop} {S : hp} {a0 : Nat} (h : wp_X8_init Q S a0) : MT l yX8_init cX8_init 1 none 1 20 5 137 b D cy S [.ref a0] (pV Q) := by
  refine MT.of (by decide +kernel) (Nat.le_of_ble_eq_true rfl) ?_
  intro p e s m args below meth c X hr hlk hnm
  unfold wp_X8_init at h
  show VM l b D cy 1 1 20 5 137 (pV Q) p e s m args below meth c S 0 0 0 [(0, .ref a0)] []
  refine v_aload_n X 0 dX8_init_0 rfl rfl ?_
  refine v_objInit X wd137 wd79 wd80 dX8_init_1 (Nat.le_of_ble_eq_true rfl) (Nat.le_of_ble_eq_true rfl) ?_
  refine v_aload_n X 0 dX8_init_4 rfl rfl ?_
  refine v_bipush X (v := 12) dX8_init_5 (by decide) ?_
  refine v_newI X (N := 12) wdaI (by decide) (by decide) (Nat.le_of_ble_eq_true rfl) (Nat.le_of_ble_eq_true rfl) (Nat.le_of_ble_eq_true rfl) dX8_init_7 ?_
  refine v_nmS (fun S1 eS1 => ?_)
  replace h := h S1 eS1
  obtain ⟨hk2, h⟩ := h
  refine v_putFR X (T := TX8) (N := 10) (k := 0) hk2 (by decide) rfl (by decide) inX8 wd140 tyX8 tyX8_ok nmX8 rfl hnm rfl rfl (fun _ => rfl) (fun _ => rfl) dX8_init_9 ?_
  refine v_nmS (fun S3 eS3 => ?_)
  replace h := h S3 eS3
  have hk4 : hK S3 a0 = 7 := by rw [eS3]; exact hk2
  refine v_aload_n X 0 dX8_init_12 rfl rfl ?_
  refine v_bipush X (v := 12) dX8_init_13 (by decide) ?_
  refine v_newI X (N := 12) wdaI (by decide) (by decide) (Nat.le_of_ble_eq_true rfl) (Nat.le_of_ble_eq_true rfl) (Nat.le_of_ble_eq_true rfl) dX8_init_15 ?_
  refine v_nmS (fun S5 eS5 => ?_)
  replace h := h S5 eS5
  obtain ⟨hk6, h⟩ := h
  refine v_putFR X (T := TX8) (N := 10) (k := 1) hk6 (by decide) rfl (by decide) inX8 wd143 tyX8 tyX8_ok nmX8 rfl hnm rfl rfl (fun _ => rfl) (fun _ => rfl) dX8_init_17 ?_
  refine v_nmS (fun S7 eS7 => ?_)
  replace h := h S7 eS7
  have hk8 : hK S7 a0 = 7 := by rw [eS7]; exact hk6
  refine v_aload_n X 0 dX8_init_20 rfl rfl ?_
  refine v_bipush X (v := 12) dX8_init_21 (by decide) ?_
  refine v_newI X (N := 12) wdaI (by decide) (by decide) (Nat.le_of_ble_eq_true rfl) (Nat.le_of_ble_eq_true rfl) (Nat.le_of_ble_eq_true rfl) dX8_init_23 ?_
  refine v_nmS (fun S9 eS9 => ?_)
  replace h := h S9 eS9
  obtain ⟨hk10, h⟩ := h
  refine v_putFR X (T := TX8) (N := 10) (k := 2) hk10 (by decide) rfl (by decide) inX8 wd145 tyX8 tyX8_ok nmX8 rfl hnm rfl rfl (fun _ => rfl) (fun _ => rfl) dX8_init_25 ?_
  refine v_nmS (fun S11 eS11 => ?_)
  replace h := h S11 eS11
  have hk12 : hK S11 a0 = 7 := by rw [eS11]; exact hk10
  refine v_aload_n X 0 dX8_init_28 rfl rfl ?_
  refine v_iconst X (v := 5) dX8_init_29 (by decide) ?_
  refine v_newM X (N := 5) wd138 (by decide) (by decide) (Nat.le_of_ble_eq_true rfl) (Nat.le_of_ble_eq_true rfl) (Nat.le_of_ble_eq_true rfl) dX8_init_30 ?_
  refine v_nmS (fun S13 eS13 => ?_)
  replace h := h S13 eS13
  obtain ⟨hk14, h⟩ := h
  refine v_putFR X (T := TX8) (N := 10) (k := 3) hk14 (by decide) rfl (by decide) inX8 wd147 tyX8 tyX8_ok nmX8 rfl hnm rfl rfl (fun _ => rfl) (fun _ => rfl) dX8_init_33 ?_
  refine v_nmS (fun S15 eS15 => ?_)
  replace h := h S15 eS15
  have hk16 : hK S15 a0 = 7 := by rw [eS15]; exact hk14
  refine v_aload_n X 0 dX8_init_36 rfl rfl ?_
  refine v_bipush X (v := 96) dX8_init_37 (by decide) ?_
  refine v_newI X (N := 96) wdaI (by decide) (by decide) (Nat.le_of_ble_eq_true rfl) (Nat.le_of_ble_eq_true rfl) (Nat.le_of_ble_eq_true rfl) dX8_init_39 ?_
  refine v_nmS (fun S17 eS17 => ?_)
  replace h := h S17 eS17
  obtain ⟨hk18, h⟩ := h
  refine v_putFR X (T := TX8) (N := 10) (k := 4) hk18 (by decide) rfl (by decide) inX8 wd148 tyX8 tyX8_ok nmX8 rfl hnm rfl rfl (fun _ => rfl) (fun _ => rfl) dX8_init_41 ?_
  refine v_nmS (fun S19 eS19 => ?_)
  replace h := h S19 eS19
  have hk20 : hK S19 a0 = 7 := by rw [eS19]; exact hk18
  exact v_vret X hr hlk ⟨rfl, h⟩ dX8_init_44
def wp_X2_init (Q : hp → Prop) (S : hp) (a0 : Nat) : Prop :=
  ∀ S1 : hp, S1 = newC S 12 15 → hK S1 a0 = 2 ∧ ∀ S3 : hp, S3 = setR S1 a0 0 (some (hC S)) → ∀ S5 : hp, S5 = newC S3 12 16 → hK S5 a0 = 2 ∧ ∀ S7 : hp, S7 = setR S5 a0 1 (some (hC S3)) → Q S7
theorem k_X2_init : Cond.code yX2_init cX2_init 1 none ∈ gtb := mg 188 (by decide +kernel) (by decide +kernel)
theorem dn_X2_init : yX2_init.cls ≠ "java/lang/invoke/MethodHandle" ∧ yX2_init.cls ≠ "java/lang/invoke/VarHandle" ∧ (parseMethodDescriptor yX2_init.desc).map (fun d => d.parameters.length) = some 0 := by decide +kernel
set_option maxRecDepth 100000 in
set_option maxHeartbeats 4000000 in
theorem s_X2_init (l : Launch) (b : Nat) (D : va_G) (cy : Nat → ClassId) {Q : hp → Prop} {S : hp} {a0 : Nat} (h : wp_X2_init Q S a0) : MT l yX2_init cX2_init 1 none 1 20 2 31 b D cy S [.ref a0] (pV Q) := by
  refine MT.of (by decide +kernel) (Nat.le_of_ble_eq_true rfl) ?_
  intro p e s m args below meth c X hr hlk hnm
  unfold wp_X2_init at h
  show VM l b D cy 1 1 20 2 31 (pV Q) p e s m args below meth c S 0 0 0 [(0, .ref a0)] []
  refine v_aload_n X 0 dX2_init_0 rfl rfl ?_
  refine v_objInit X wd189 wd79 wd80 dX2_init_1 (Nat.le_of_ble_eq_true rfl) (Nat.le_of_ble_eq_true rfl) ?_
  refine v_aload_n X 0 dX2_init_4 rfl rfl ?_
  refine v_bipush X (v := 15) dX2_init_5 (by decide) ?_
  refine v_newI X (N := 15) wdaI (by decide) (by decide) (Nat.le_of_ble_eq_true rfl) (Nat.le_of_ble_eq_true rfl) (Nat.le_of_ble_eq_true rfl) dX2_init_7 ?_
  refine v_nmS (fun S1 eS1 => ?_)
  replace h := h S1 eS1
  obtain ⟨hk2, h⟩ := h
  refine v_putFR X (T := TX2) (N := 2) (k := 0) hk2 (by decide) rfl (by decide) inX2 wd190 tyX2 tyX2_ok nmX2 rfl hnm rfl rfl (fun _ => rfl) (fun _ => rfl) dX2_init_9 ?_
  refine v_nmS (fun S3 eS3 => ?_)
  replace h := h S3 eS3
  have hk4 : hK S3 a0 = 2 := by rw [eS3]; exact hk2
  refine v_aload_n X 0 dX2_init_12 rfl rfl ?_
  refine v_bipush X (v := 16) dX2_init_13 (by decide) ?_
  refine v_newI X (N := 16) wdaI (by decide) (by decide) (Nat.le_of_ble_eq_true rfl) (Nat.le_of_ble_eq_true rfl) (Nat.le_of_ble_eq_true rfl) dX2_init_15 ?_
  refine v_nmS (fun S5 eS5 => ?_)
  replace h := h S5 eS5
  obtain ⟨hk6, h⟩ := h
  refine v_putFR X (T := TX2) (N := 2) (k := 1) hk6 (by decide) rfl (by decide) inX2 wd191 tyX2 tyX2_ok nmX2 rfl hnm rfl rfl (fun _ => rfl) (fun _ => rfl) dX2_init_17 ?_
  refine v_nmS (fun S7 eS7 => ?_)
  replace h := h S7 eS7
  have hk8 : hK S7 a0 = 2 := by rw [eS7]; exact hk6
  exact v_vret X hr hlk ⟨rfl, h⟩ dX2_init_20
def wp_X0_init (Q : hp → Prop) (S : hp) (a0 : Nat) : Prop :=
  ∀ S1 : hp, S1 = newC S 12 16 → hK S1 a0 = 0 ∧ ∀ S3 : hp, S3 = setR S1 a0 0 (some (hC S)) → Q S3
theorem k_X0_init : Cond.code yX0_init cX0_init 1 none ∈ gtb := mg 201 (by decide +kernel) (by decide +kernel)
theorem dn_X0_init : yX0_init.cls ≠ "java/lang/invoke/MethodHandle" ∧ yX0_init.cls ≠ "java/lang/invoke/VarHandle" ∧ (parseMethodDescriptor yX0_init.desc).map (fun d => d.parameters.length) = some 0 := by decide +kernel
set_option maxRecDepth 100000 in
set_option maxHeartbeats 4000000 in
theorem s_X0_init (l : Launch) (b : Nat) (D : va_G) (cy : Nat → ClassId) {Q : hp → Prop} {S : hp} {a0 : Nat} (h : wp_X0_init Q S a0) : MT l yX0_init cX0_init 1 none 1 20 1 16 b D cy S [.ref a0] (pV Q) := by
  refine MT.of (by decide +kernel) (Nat.le_of_ble_eq_true rfl) ?_
  intro p e s m args below meth c X hr hlk hnm
  unfold wp_X0_init at h
  show VM l b D cy 1 1 20 1 16 (pV Q) p e s m args below meth c S 0 0 0 [(0, .ref a0)] []
  refine v_aload_n X 0 dX0_init_0 rfl rfl ?_
  refine v_objInit X wd202 wd79 wd80 dX0_init_1 (Nat.le_of_ble_eq_true rfl) (Nat.le_of_ble_eq_true rfl) ?_
  refine v_aload_n X 0 dX0_init_4 rfl rfl ?_
  refine v_bipush X (v := 16) dX0_init_5 (by decide) ?_
  refine v_newI X (N := 16) wdaI (by decide) (by decide) (Nat.le_of_ble_eq_true rfl) (Nat.le_of_ble_eq_true rfl) (Nat.le_of_ble_eq_true rfl) dX0_init_7 ?_
  refine v_nmS (fun S1 eS1 => ?_)
  replace h := h S1 eS1
  obtain ⟨hk2, h⟩ := h
  refine v_putFR X (T := TX0) (N := 3) (k := 0) hk2 (by decide) rfl (by decide) inX0 wd203 tyX0 tyX0_ok nmX0 rfl hnm rfl rfl (fun _ => rfl) (fun _ => rfl) dX0_init_9 ?_
  refine v_nmS (fun S3 eS3 => ?_)
  replace h := h S3 eS3
  have hk4 : hK S3 a0 = 0 := by rw [eS3]; exact hk2
  exact v_vret X hr hlk ⟨rfl, h⟩ dX0_init_12
def wp_X11_init (Q : hp → Prop) (S : hp) (a0 : Nat) : Prop :=
  ∀ S1 : hp, S1 = newC S 5 0 → wp_X6_init (fun S3 => hK S3 a0 = 10 ∧ ∀ S5 : hp, S5 = setR S3 a0 0 (some (hC S)) → ∀ S7 : hp, S7 = newC S5 8 0 → wp_X9_init (fun S9 => hK S9 a0 = 10 ∧ ∀ S11 : hp, S11 = setR S9 a0 1 (some (hC S5)) → ∀ S13 : hp, S13 = newC S11 7 0 → wp_X8_init (fun S15 => hK S15 a0 = 10 ∧ ∀ S17 : hp, S17 = setR S15 a0 2 (some (hC S11)) → ∀ S19 : hp, S19 = newC S17 7 0 → wp_X8_init (fun S21 => hK S21 a0 = 10 ∧ ∀ S23 : hp, S23 = setR S21 a0 3 (some (hC S17)) → ∀ S25 : hp, S25 = newC S23 2 0 → wp_X2_init (fun S27 => hK S27 a0 = 10 ∧ ∀ S29 : hp, S29 = setR S27 a0 4 (some (hC S23)) → ∀ S31 : hp, S31 = newC S29 0 0 → wp_X0_init (fun S33 => hK S33 a0 = 10 ∧ ∀ S35 : hp, S35 = setR S33 a0 5 (some (hC S29)) → ∀ S37 : hp, S37 = newC S35 15 2 → hK S37 a0 = 10 ∧ ∀ S39 : hp, S39 = setR S37 a0 6 (some (hC S35)) → ∀ S41 : hp, S41 = newC S39 15 24 → hK S41 a0 = 10 ∧ ∀ S43 : hp, S43 = setR S41 a0 7 (some (hC S39)) → Q S43) S31 ((hC S29))) S25 ((hC S23))) S19 ((hC S17))) S13 ((hC S11))) S7 ((hC S5))) S1 ((hC S))
theorem k_X11_init : Cond.code yX11_init cX11_init 1 none ∈ gtb := mg 77 (by decide +kernel) (by decide +kernel)
theorem dn_X11_init : yX11_init.cls ≠ "java/lang/invoke/MethodHandle" ∧ yX11_init.cls ≠ "java/lang/invoke/VarHandle" ∧ (parseMethodDescriptor yX11_init.desc).map (fun d => d.parameters.length) = some 0 := by decide +kernel
set_option maxRecDepth 100000 in
set_option maxHeartbeats 4000000 in
theorem s_X11_init (l : Launch) (b : Nat) (D : va_G) (cy : Nat → ClassId) {Q : hp → Prop} {S : hp} {a0 : Nat} (h : wp_X11_init Q S a0) : MT l yX11_init cX11_init 1 none 2 40 34 874 b D cy S [.ref a0] (pV Q) := by
  refine MT.of (by decide +kernel) (Nat.le_of_ble_eq_true rfl) ?_
  intro p e s m args below meth c X hr hlk hnm
  unfold wp_X11_init at h
  show VM l b D cy 1 2 40 34 874 (pV Q) p e s m args below meth c S 0 0 0 [(0, .ref a0)] []
  refine v_aload_n X 0 dX11_init_0 rfl rfl ?_
  refine v_objInit X wd78 wd79 wd80 dX11_init_1 (Nat.le_of_ble_eq_true rfl) (Nat.le_of_ble_eq_true rfl) ?_
  refine v_aload_n X 0 dX11_init_4 rfl rfl ?_
  refine v_new X (T := TX6) (N := 4) (ci := 5) rfl (by decide) inX6 tyX6 tyX6_ok wd81 wd82 wd57 dfX6 (Nat.le_of_ble_eq_true rfl) (Nat.le_of_ble_eq_true rfl) dX11_init_5 ?_
  refine v_nmS (fun S1 eS1 => ?_)
  replace h := h S1 eS1
  have hk2 : hK S1 (hC S) = 5 := by rw [eS1, hK_newC, if_pos rfl]
  refine v_dup X dX11_init_8 rfl ?_
  refine v_callIN X (ret := none) (av := []) (s_X6_init l b D cy h) rfl (List.mem_of_getElem? (i := 0) rfl) wd84 wd57 k_X6_init rfl dn_X6_init rfl ⟨Nat.le_of_ble_eq_true rfl, Nat.le_of_ble_eq_true rfl⟩ (Nat.le_of_ble_eq_true rfl) ⟨Nat.le_of_ble_eq_true rfl, Nat.le_of_ble_eq_true rfl⟩ dX11_init_9 rfl (kV (fun S3 h => ?_))
  obtain ⟨hk4, h⟩ := h
  refine v_putFR X (T := TX11) (N := 12) (k := 0) hk4 (by decide) rfl (by decide) inX11 wd215 tyX11 tyX11_ok nmX11 rfl hnm rfl rfl (fun _ => rfl) (fun _ => rfl) dX11_init_12 ?_
  refine v_nmS (fun S5 eS5 => ?_)
  replace h := h S5 eS5
  have hk6 : hK S5 a0 = 10 := by rw [eS5]; exact hk4
  refine v_aload_n X 0 dX11_init_15 rfl rfl ?_
  refine v_new X (T := TX9) (N := 6) (ci := 8) rfl (by decide) inX9 tyX9 tyX9_ok wd104 wd105 wd58 dfX9 (Nat.le_of_ble_eq_true rfl) (Nat.le_of_ble_eq_true rfl) dX11_init_16 ?_
  refine v_nmS (fun S7 eS7 => ?_)
  replace h := h S7 eS7
  have hk8 : hK S7 (hC S5) = 8 := by rw [eS7, hK_newC, if_pos rfl]
  refine v_dup X dX11_init_19 rfl ?_
  refine v_callIN X (ret := none) (av := []) (s_X9_init l b D cy h) rfl (List.mem_of_getElem? (i := 1) rfl) wd107 wd58 k_X9_init rfl dn_X9_init rfl ⟨Nat.le_of_ble_eq_true rfl, Nat.le_of_ble_eq_true rfl⟩ (Nat.le_of_ble_eq_true rfl) ⟨Nat.le_of_ble_eq_true rfl, Nat.le_of_ble_eq_true rfl⟩ dX11_init_20 rfl (kV (fun S9 h => ?_))
  obtain ⟨hk10, h⟩ := h
  refine v_putFR X (T := TX11) (N := 12) (k := 1) hk10 (by decide) rfl (by decide) inX11 wd216 tyX11 tyX11_ok nmX11 rfl hnm rfl rfl (fun _ => rfl) (fun _ => rfl) dX11_init_23 ?_
  refine v_nmS (fun S11 eS11 => ?_)
  replace h := h S11 eS11
  have hk12 : hK S11 a0 = 10 := by rw [eS11]; exact hk10
  refine v_aload_n X 0 dX11_init_26 rfl rfl ?_
  refine v_new X (T := TX8) (N := 10) (ci := 7) rfl (by decide) inX8 tyX8 tyX8_ok wd132 wd133 wd59 dfX8 (Nat.le_of_ble_eq_true rfl) (Nat.le_of_ble_eq_true rfl) dX11_init_27 ?_
  refine v_nmS (fun S13 eS13 => ?_)
  replace h := h S13 eS13
  have hk14 : hK S13 (hC S11) = 7 := by rw [eS13, hK_newC, if_pos rfl]
  refine v_dup X dX11_init_30 rfl ?_
  refine v_callIN X (ret := none) (av := []) (s_X8_init l b D cy h) rfl (List.mem_of_getElem? (i := 2) rfl) wd135 wd59 k_X8_init rfl dn_X8_init rfl ⟨Nat.le_of_ble_eq_true rfl, Nat.le_of_ble_eq_true rfl⟩ (Nat.le_of_ble_eq_true rfl) ⟨Nat.le_of_ble_eq_true rfl, Nat.le_of_ble_eq_true rfl⟩ dX11_init_31 rfl (kV (fun S15 h => ?_))
  obtain ⟨hk16, h⟩ := h
  refine v_putFR X (T := TX11) (N := 12) (k := 2) hk16 (by decide) rfl (by decide) inX11 wd217 tyX11 tyX11_ok nmX11 rfl hnm rfl rfl (fun _ => rfl) (fun _ => rfl) dX11_init_34 ?_
  refine v_nmS (fun S17 eS17 => ?_)
  replace h := h S17 eS17
  have hk18 : hK S17 a0 = 10 := by rw [eS17]; exact hk16
  refine v_aload_n X 0 dX11_init_37 rfl rfl ?_
  refine v_new X (T := TX8) (N := 10) (ci := 7) rfl (by decide) inX8 tyX8 tyX8_ok wd132 wd133 wd59 dfX8 (Nat.le_of_ble_eq_true rfl) (Nat.le_of_ble_eq_true rfl) dX11_init_38 ?_
  refine v_nmS (fun S19 eS19 => ?_)
  replace h := h S19 eS19
  have hk20 : hK S19 (hC S17) = 7 := by rw [eS19, hK_newC, if_pos rfl]
  refine v_dup X dX11_init_41 rfl ?_
  refine v_callIN X (ret := none) (av := []) (s_X8_init l b D cy h) rfl (List.mem_of_getElem? (i := 2) rfl) wd135 wd59 k_X8_init rfl dn_X8_init rfl ⟨Nat.le_of_ble_eq_true rfl, Nat.le_of_ble_eq_true rfl⟩ (Nat.le_of_ble_eq_true rfl) ⟨Nat.le_of_ble_eq_true rfl, Nat.le_of_ble_eq_true rfl⟩ dX11_init_42 rfl (kV (fun S21 h => ?_))
  obtain ⟨hk22, h⟩ := h
  refine v_putFR X (T := TX11) (N := 12) (k := 3) hk22 (by decide) rfl (by decide) inX11 wd218 tyX11 tyX11_ok nmX11 rfl hnm rfl rfl (fun _ => rfl) (fun _ => rfl) dX11_init_45 ?_
  refine v_nmS (fun S23 eS23 => ?_)
  replace h := h S23 eS23
  have hk24 : hK S23 a0 = 10 := by rw [eS23]; exact hk22
  refine v_aload_n X 0 dX11_init_48 rfl rfl ?_
  refine v_new X (T := TX2) (N := 2) (ci := 2) rfl (by decide) inX2 tyX2 tyX2_ok wd184 wd185 wd60 dfX2 (Nat.le_of_ble_eq_true rfl) (Nat.le_of_ble_eq_true rfl) dX11_init_49 ?_
  refine v_nmS (fun S25 eS25 => ?_)
  replace h := h S25 eS25
  have hk26 : hK S25 (hC S23) = 2 := by rw [eS25, hK_newC, if_pos rfl]
  refine v_dup X dX11_init_52 rfl ?_
  refine v_callIN X (ret := none) (av := []) (s_X2_init l b D cy h) rfl (List.mem_of_getElem? (i := 3) rfl) wd187 wd60 k_X2_init rfl dn_X2_init rfl ⟨Nat.le_of_ble_eq_true rfl, Nat.le_of_ble_eq_true rfl⟩ (Nat.le_of_ble_eq_true rfl) ⟨Nat.le_of_ble_eq_true rfl, Nat.le_of_ble_eq_true rfl⟩ dX11_init_53 rfl (kV (fun S27 h => ?_))
  obtain ⟨hk28, h⟩ := h
  refine v_putFR X (T := TX11) (N := 12) (k := 4) hk28 (by decide) rfl (by decide) inX11 wd219 tyX11 tyX11_ok nmX11 rfl hnm rfl rfl (fun _ => rfl) (fun _ => rfl) dX11_init_56 ?_
  refine v_nmS (fun S29 eS29 => ?_)
  replace h := h S29 eS29
  have hk30 : hK S29 a0 = 10 := by rw [eS29]; exact hk28
  refine v_aload_n X 0 dX11_init_59 rfl rfl ?_
  refine v_new X (T := TX0) (N := 3) (ci := 0) rfl (by decide) inX0 tyX0 tyX0_ok wd197 wd198 wd61 dfX0 (Nat.le_of_ble_eq_true rfl) (Nat.le_of_ble_eq_true rfl) dX11_init_60 ?_
  refine v_nmS (fun S31 eS31 => ?_)
  replace h := h S31 eS31
  have hk32 : hK S31 (hC S29) = 0 := by rw [eS31, hK_newC, if_pos rfl]
  refine v_dup X dX11_init_63 rfl ?_
  refine v_callIN X (ret := none) (av := []) (s_X0_init l b D cy h) rfl (List.mem_of_getElem? (i := 4) rfl) wd200 wd61 k_X0_init rfl dn_X0_init rfl ⟨Nat.le_of_ble_eq_true rfl, Nat.le_of_ble_eq_true rfl⟩ (Nat.le_of_ble_eq_true rfl) ⟨Nat.le_of_ble_eq_true rfl, Nat.le_of_ble_eq_true rfl⟩ dX11_init_64 rfl (kV (fun S33 h => ?_))
  obtain ⟨hk34, h⟩ := h
  refine v_putFR X (T := TX11) (N := 12) (k := 5) hk34 (by decide) rfl (by decide) inX11 wd220 tyX11 tyX11_ok nmX11 rfl hnm rfl rfl (fun _ => rfl) (fun _ => rfl) dX11_init_67 ?_
  refine v_nmS (fun S35 eS35 => ?_)
  replace h := h S35 eS35
  have hk36 : hK S35 a0 = 10 := by rw [eS35]; exact hk34
  refine v_aload_n X 0 dX11_init_70 rfl rfl ?_
  refine v_iconst X (v := 2) dX11_init_71 (by decide) ?_
  refine v_newS X (N := 2) wd132 (by decide) (by decide) (Nat.le_of_ble_eq_true rfl) (Nat.le_of_ble_eq_true rfl) (Nat.le_of_ble_eq_true rfl) dX11_init_72 ?_
  refine v_nmS (fun S37 eS37 => ?_)
  replace h := h S37 eS37
  obtain ⟨hk38, h⟩ := h
  refine v_putFR X (T := TX11) (N := 12) (k := 6) hk38 (by decide) rfl (by decide) inX11 wd221 tyX11 tyX11_ok nmX11 rfl hnm rfl rfl (fun _ => rfl) (fun _ => rfl) dX11_init_75 ?_
  refine v_nmS (fun S39 eS39 => ?_)
  replace h := h S39 eS39
  have hk40 : hK S39 a0 = 10 := by rw [eS39]; exact hk38
  refine v_aload_n X 0 dX11_init_78 rfl rfl ?_
  refine v_bipush X (v := 24) dX11_init_79 (by decide) ?_
  refine v_newS X (N := 24) wd132 (by decide) (by decide) (Nat.le_of_ble_eq_true rfl) (Nat.le_of_ble_eq_true rfl) (Nat.le_of_ble_eq_true rfl) dX11_init_81 ?_
  refine v_nmS (fun S41 eS41 => ?_)
  replace h := h S41 eS41
  obtain ⟨hk42, h⟩ := h
  refine v_putFR X (T := TX11) (N := 12) (k := 7) hk42 (by decide) rfl (by decide) inX11 wd222 tyX11 tyX11_ok nmX11 rfl hnm rfl rfl (fun _ => rfl) (fun _ => rfl) dX11_init_84 ?_
  refine v_nmS (fun S43 eS43 => ?_)
  replace h := h S43 eS43
  have hk44 : hK S43 a0 = 10 := by rw [eS43]; exact hk42
  exact v_vret X hr hlk ⟨rfl, h⟩ dX11_init_87
def wp_X6_isRow (Q : Int32 → hp → Prop) (S : hp) (x0 : Int32) : Prop :=
  ((x0 < 0 → Q (0 : Int32) S) ∧ (¬ x0 < 0 → (((8 : Int32) ≤ x0 → Q (0 : Int32) S) ∧ (¬ (8 : Int32) ≤ x0 → Q (1 : Int32) S))))
theorem k_X6_isRow : Cond.code yX6_isRow cX6_isRow 1 (some .boolean) ∈ gtb := mg 258 (by decide +kernel) (by decide +kernel)
theorem dn_X6_isRow : yX6_isRow.cls ≠ "java/lang/invoke/MethodHandle" ∧ yX6_isRow.cls ≠ "java/lang/invoke/VarHandle" ∧ (parseMethodDescriptor yX6_isRow.desc).map (fun d => d.parameters.length) = some 1 := by decide +kernel
set_option maxRecDepth 100000 in
set_option maxHeartbeats 4000000 in
theorem s_X6_isRow (l : Launch) (b : Nat) (D : va_G) (cy : Nat → ClassId) {Q : Int32 → hp → Prop} {S : hp} {x0 : Int32} (h : wp_X6_isRow Q S x0) : MT l yX6_isRow cX6_isRow 1 (some .boolean) 0 0 0 0 b D cy S [.int x0] (pI Q) := by
  refine MT.of (by decide +kernel) (Nat.le_of_ble_eq_true rfl) ?_
  intro p e s m args below meth c X hr hlk hnm
  unfold wp_X6_isRow at h
  show VM l b D cy 1 0 0 0 0 (pI Q) p e s m args below meth c S 0 0 0 [(0, .int x0)] []
  refine v_iload_n X 0 dX6_isRow_0 rfl rfl ?_
  refine v_if_lt X (tgt := 14) dX6_isRow_1 (by decide) (fun c1 => ?_) (fun c1 => ?_)
  · replace h := h.1 c1
    refine v_iconst X (v := 0) dX6_isRow_14 (by decide) ?_
    exact v_zret X hr (by decide) hlk ⟨_, rfl, h⟩ dX6_isRow_15
  · replace h := h.2 c1
    refine v_iload_n X 0 dX6_isRow_4 rfl rfl ?_
    refine v_bipush X (v := 8) dX6_isRow_5 (by decide) ?_
    refine v_icmp_ge X (tgt := 14) dX6_isRow_7 (by decide) (fun c2 => ?_) (fun c2 => ?_)
    · replace h := h.1 c2
      refine v_iconst X (v := 0) dX6_isRow_14 (by decide) ?_
      exact v_zret X hr (by decide) hlk ⟨_, rfl, h⟩ dX6_isRow_15
    · replace h := h.2 c2
      refine v_iconst X (v := 1) dX6_isRow_10 (by decide) ?_
      refine v_goto X (tgt := 15) dX6_isRow_11 (by decide) ?_
      exact v_zret X hr (by decide) hlk ⟨_, rfl, h⟩ dX6_isRow_15
def wp_X6_isLane (Q : Int32 → hp → Prop) (S : hp) (x0 : Int32) : Prop :=
  ((x0 < 0 → Q (0 : Int32) S) ∧ (¬ x0 < 0 → (((2 : Int32) < x0 → Q (0 : Int32) S) ∧ (¬ (2 : Int32) < x0 → Q (1 : Int32) S))))
theorem k_X6_isLane : Cond.code yX6_isLane cX6_isLane 1 (some .boolean) ∈ gtb := mg 261 (by decide +kernel) (by decide +kernel)
theorem dn_X6_isLane : yX6_isLane.cls ≠ "java/lang/invoke/MethodHandle" ∧ yX6_isLane.cls ≠ "java/lang/invoke/VarHandle" ∧ (parseMethodDescriptor yX6_isLane.desc).map (fun d => d.parameters.length) = some 1 := by decide +kernel
set_option maxRecDepth 100000 in
set_option maxHeartbeats 4000000 in
theorem s_X6_isLane (l : Launch) (b : Nat) (D : va_G) (cy : Nat → ClassId) {Q : Int32 → hp → Prop} {S : hp} {x0 : Int32} (h : wp_X6_isLane Q S x0) : MT l yX6_isLane cX6_isLane 1 (some .boolean) 0 0 0 0 b D cy S [.int x0] (pI Q) := by
  refine MT.of (by decide +kernel) (Nat.le_of_ble_eq_true rfl) ?_
  intro p e s m args below meth c X hr hlk hnm
  unfold wp_X6_isLane at h
  show VM l b D cy 1 0 0 0 0 (pI Q) p e s m args below meth c S 0 0 0 [(0, .int x0)] []
  refine v_iload_n X 0 dX6_isLane_0 rfl rfl ?_
  refine v_if_lt X (tgt := 13) dX6_isLane_1 (by decide) (fun c1 => ?_) (fun c1 => ?_)
  · replace h := h.1 c1
    refine v_iconst X (v := 0) dX6_isLane_13 (by decide) ?_
    exact v_zret X hr (by decide) hlk ⟨_, rfl, h⟩ dX6_isLane_14
  · replace h := h.2 c1
    refine v_iload_n X 0 dX6_isLane_4 rfl rfl ?_
    refine v_iconst X (v := 2) dX6_isLane_5 (by decide) ?_
    refine v_icmp_gt X (tgt := 13) dX6_isLane_6 (by decide) (fun c2 => ?_) (fun c2 => ?_)
    · replace h := h.1 c2
      refine v_iconst X (v := 0) dX6_isLane_13 (by decide) ?_
      exact v_zret X hr (by decide) hlk ⟨_, rfl, h⟩ dX6_isLane_14
    · replace h := h.2 c2
      refine v_iconst X (v := 1) dX6_isLane_9 (by decide) ?_
      refine v_goto X (tgt := 14) dX6_isLane_10 (by decide) ?_
      exact v_zret X hr (by decide) hlk ⟨_, rfl, h⟩ dX6_isLane_14
def wp_X11_found (Q : Int32 → hp → Prop) (S : hp) (a0 : Nat) (x1 : Int32) : Prop :=
  hK S a0 = 10 ∧ ∀ S2 : hp, S2 = setI S a0 11 x1 → Q ((-1000010 : Int32) - x1) S2
theorem k_X11_found : Cond.code yX11_found cX11_found 2 (some .int) ∈ gtb := mg 266 (by decide +kernel) (by decide +kernel)
theorem dn_X11_found : yX11_found.cls ≠ "java/lang/invoke/MethodHandle" ∧ yX11_found.cls ≠ "java/lang/invoke/VarHandle" ∧ (parseMethodDescriptor yX11_found.desc).map (fun d => d.parameters.length) = some 1 := by decide +kernel
set_option maxRecDepth 100000 in
set_option maxHeartbeats 4000000 in
theorem s_X11_found (l : Launch) (b : Nat) (D : va_G) (cy : Nat → ClassId) {Q : Int32 → hp → Prop} {S : hp} {a0 : Nat} {x1 : Int32} (h : wp_X11_found Q S a0 x1) : MT l yX11_found cX11_found 2 (some .int) 0 0 0 0 b D cy S [.ref a0, .int x1] (pI Q) := by
  refine MT.of (by decide +kernel) (Nat.le_of_ble_eq_true rfl) ?_
  intro p e s m args below meth c X hr hlk hnm
  unfold wp_X11_found at h
  show VM l b D cy 2 0 0 0 0 (pI Q) p e s m args below meth c S 0 0 0 [(0, .ref a0), (1, .int x1)] []
  refine v_aload_n X 0 dX11_found_0 rfl rfl ?_
  refine v_iload_n X 1 dX11_found_1 rfl rfl ?_
  obtain ⟨hk1, h⟩ := h
  refine v_putI X (T := TX11) (N := 12) (k := 11) hk1 (by decide) rfl (by decide) inX11 wd226 tyX11 tyX11_ok nmX11 rfl rfl rfl rfl dX11_found_2 ?_
  refine v_nmS (fun S2 eS2 => ?_)
  replace h := h S2 eS2
  have hk3 : hK S2 a0 = 10 := by rw [eS2]; exact hk1
  refine v_ldcw X wd267 dX11_found_5 ?_
  refine v_iload_n X 1 dX11_found_8 rfl rfl ?_
  refine v_isub X dX11_found_9 ?_
  exact v_iret X hr hlk ⟨_, rfl, h⟩ dX11_found_10
def wB_J7_fill_53178_5 (bk5 : hp → Nat → Int32 → Int32 → Int32 → Prop) (Q : hp → Prop) (S : hp) (l0 : Nat) (l1 : Int32) (l2 : Int32) (l3 : Int32) : Prop :=
  ((l3 ≤ l2 → Q S) ∧ (¬ l3 ≤ l2 → hK S l0 = 12 ∧ vp_in l2 (hN S l0) ∧ ∀ S6 : hp, S6 = setI S l0 (l2).toNatClampNeg l1 → ∀ v9 : Int32, v9 = l2 + (1 : Int32) → bk5 S6 l0 l1 v9 l3))
def wl_J7_fill_53178_5 (Q : hp → Prop) : Nat → hp → Nat → Int32 → Int32 → Int32 → Prop
  | 0 => fun _ _ _ _ _ => False
  | n + 1 => wB_J7_fill_53178_5 (wl_J7_fill_53178_5 Q n) Q
def wp_J7_fill_53178 (Q : hp → Prop) (S : hp) (a0 : Nat) (x1 : Int32) : Prop :=
  hK S a0 = 12 ∧ ∀ v2 : Int32, v2 = (nI (hN S a0)) → ∃ n : Nat, wl_J7_fill_53178_5 Q n S a0 x1 (0 : Int32) v2
theorem k_J7_fill_53178 : Cond.code yJ7_fill_53178 cJ7_fill_53178 4 none ∈ gtb := mg 274 (by decide +kernel) (by decide +kernel)
theorem dn_J7_fill_53178 : yJ7_fill_53178.cls ≠ "java/lang/invoke/MethodHandle" ∧ yJ7_fill_53178.cls ≠ "java/lang/invoke/VarHandle" ∧ (parseMethodDescriptor yJ7_fill_53178.desc).map (fun d => d.parameters.length) = some 2 := by decide +kernel
set_option maxRecDepth 100000 in
set_option maxHeartbeats 4000000 in
theorem s_J7_fill_53178 (l : Launch) (b : Nat) (D : va_G) (cy : Nat → ClassId) {Q : hp → Prop} {S : hp} {a0 : Nat} {x1 : Int32} (h : wp_J7_fill_53178 Q S a0 x1) : MT l yJ7_fill_53178 cJ7_fill_53178 4 none 0 0 0 0 b D cy S [.ref a0, .int x1] (pV Q) := by
  refine MT.of (by decide +kernel) (Nat.le_of_ble_eq_true rfl) ?_
  intro p e s m args below meth c X hr hlk hnm
  have j5 : ∀ (bk5 : hp → Nat → Int32 → Int32 → Int32 → Prop) (hbk5 : ∀ (S : hp) (l0 : Nat) (l1 : Int32) (l2 : Int32) (l3 : Int32), bk5 S l0 l1 l2 l3 → VM l b D cy 4 0 0 0 0 (pV Q) p e s m args below meth c S 0 0 5 [(0, .ref l0), (1, .int l1), (2, .int l2), (3, .int l3)] []) (S : hp) (l0 : Nat) (l1 : Int32) (l2 : Int32) (l3 : Int32), wB_J7_fill_53178_5 bk5 Q S l0 l1 l2 l3 → VM l b D cy 4 0 0 0 0 (pV Q) p e s m args below meth c S 0 0 5 [(0, .ref l0), (1, .int l1), (2, .int l2), (3, .int l3)] [] := by
    intro bk5 hbk5 S l0 l1 l2 l3 h
    unfold wB_J7_fill_53178_5 at h
    refine v_iload_n X 2 dJ7_fill_53178_5 rfl rfl ?_
    refine v_iload_n X 3 dJ7_fill_53178_6 rfl rfl ?_
    refine v_icmp_ge X (tgt := 20) dJ7_fill_53178_7 (by decide) (fun c3 => ?_) (fun c3 => ?_)
    · replace h := h.1 c3
      exact v_vret X hr hlk ⟨rfl, h⟩ dJ7_fill_53178_20
    · replace h := h.2 c3
      refine v_aload_n X 0 dJ7_fill_53178_10 rfl rfl ?_
      refine v_iload_n X 2 dJ7_fill_53178_11 rfl rfl ?_
      refine v_iload_n X 1 dJ7_fill_53178_12 rfl rfl ?_
      obtain ⟨hk4, h⟩ := h
      obtain ⟨hi5, h⟩ := h
      refine v_iast X hk4 hi5 dJ7_fill_53178_13 ?_
      refine v_nmS (fun S6 eS6 => ?_)
      replace h := h S6 eS6
      have hk7 : hK S6 l0 = 12 := by rw [eS6]; exact hk4
      have hi8 : vp_in l2 (hN S6 l0) := by rw [eS6]; exact hi5
      obtain ⟨v9, hv9⟩ : ∃ y : Int32, y = l2 + (1 : Int32) := ⟨_, rfl⟩
      replace h := h v9 hv9
      refine v_iinc X (j := 2) (v := v9) (lv' := [(2, .int v9), (0, .ref l0), (1, .int l1), (3, .int l3)]) dJ7_fill_53178_14 rfl (by rw [hv9] <;> rfl) (by decide) rfl ?_
      refine v_goto X (tgt := 5) dJ7_fill_53178_17 (by decide) ?_
      refine v_lv (lv' := [(0, .ref l0), (1, .int l1), (2, .int v9), (3, .int l3)]) [1, 2, 0, 3] rfl ?_
      exact hbk5 _ _ _ _ _ h
  have l5 : ∀  (n : Nat) (S : hp) (l0 : Nat) (l1 : Int32) (l2 : Int32) (l3 : Int32), wl_J7_fill_53178_5 Q n S l0 l1 l2 l3 → VM l b D cy 4 0 0 0 0 (pV Q) p e s m args below meth c S 0 0 5 [(0, .ref l0), (1, .int l1), (2, .int l2), (3, .int l3)] [] := by
    intro  n
    induction n with
    | zero => intro S l0 l1 l2 l3 h; exact h.elim
    | succ n ih => intro S l0 l1 l2 l3 h; exact j5 (wl_J7_fill_53178_5 Q n) ih S l0 l1 l2 l3 h
  unfold wp_J7_fill_53178 at h
  show VM l b D cy 4 0 0 0 0 (pV Q) p e s m args below meth c S 0 0 0 [(0, .ref a0), (1, .int x1)] []
  refine v_iconst X (v := 0) dJ7_fill_53178_0 (by decide) ?_
  refine v_istore_n X (lv' := [(2, .int (0 : Int32)), (0, .ref a0), (1, .int x1)]) dJ7_fill_53178_1 rfl (by decide) rfl ?_
  refine v_aload_n X 1 dJ7_fill_53178_2 rfl rfl ?_
  obtain ⟨hk1, h⟩ := h
  refine v_alen X hk1 (by decide) (by decide) rfl dJ7_fill_53178_3 ?_
  refine v_nm (fun v2 hv2 => ?_)
  replace h := h v2 hv2
  refine v_istore_n X (lv' := [(3, .int v2), (2, .int (0 : Int32)), (0, .ref a0), (1, .int x1)]) dJ7_fill_53178_4 rfl (by decide) rfl ?_
  refine v_lv (lv' := [(0, .ref a0), (1, .int x1), (2, .int (0 : Int32)), (3, .int v2)]) [2, 3, 1, 0] rfl ?_
  obtain ⟨n, h⟩ := h
  exact l5 n _ _ _ _ _ h
def wp_X6_lay (Q : hp → Prop) (S : hp) (a0 : Nat) (x1 : Int32) (x2 : Int32) (x3 : Int32) : Prop :=
  hK S a0 = 5 ∧ ∃ r2 : Nat, hR S a0 3 = some r2 ∧ hK S r2 = 13 ∧ vp_in x1 (hN S r2) ∧ ∀ S5 : hp, S5 = setI S r2 (x1).toNatClampNeg (vp_nar .boolean (1 : Int32)) → ∃ r10 : Nat, hR S5 a0 1 = some r10 ∧ hK S5 r10 = 12 ∧ vp_in x1 (hN S5 r10) ∧ ∀ S13 : hp, S13 = setI S5 r10 (x1).toNatClampNeg x2 → ∃ r21 : Nat, hR S13 a0 2 = some r21 ∧ hK S13 r21 = 12 ∧ vp_in x1 (hN S13 r21) ∧ ∀ S24 : hp, S24 = setI S13 r21 (x1).toNatClampNeg x3 → ∃ r35 : Nat, hR S24 a0 0 = some r35 ∧ hK S24 r35 = 16 ∧ vp_in x1 (hN S24 r35) ∧ ∃ r38 : Nat, hR S24 r35 (x1).toNatClampNeg = some r38 ∧ wp_J7_fill_53178 (fun S39 => Q S39) S24 r38 (0 : Int32)
theorem k_X6_lay : Cond.code yX6_lay cX6_lay 4 none ∈ gtb := mg 271 (by decide +kernel) (by decide +kernel)
theorem dn_X6_lay : yX6_lay.cls ≠ "java/lang/invoke/MethodHandle" ∧ yX6_lay.cls ≠ "java/lang/invoke/VarHandle" ∧ (parseMethodDescriptor yX6_lay.desc).map (fun d => d.parameters.length) = some 3 := by decide +kernel
set_option maxRecDepth 100000 in
set_option maxHeartbeats 4000000 in
theorem s_X6_lay (l : Launch) (b : Nat) (D : va_G) (cy : Nat → ClassId) {Q : hp → Prop} {S : hp} {a0 : Nat} {x1 : Int32} {x2 : Int32} {x3 : Int32} (h : wp_X6_lay Q S a0 x1 x2 x3) : MT l yX6_lay cX6_lay 4 none 1 23 0 0 b D cy S [.ref a0, .int x1, .int x2, .int x3] (pV Q) := by
  refine MT.of (by decide +kernel) (Nat.le_of_ble_eq_true rfl) ?_
  intro p e s m args below meth c X hr hlk hnm
  unfold wp_X6_lay at h
  show VM l b D cy 4 1 23 0 0 (pV Q) p e s m args below meth c S 0 0 0 [(0, .ref a0), (1, .int x1), (2, .int x2), (3, .int x3)] []
  refine v_aload_n X 0 dX6_lay_0 rfl rfl ?_
  obtain ⟨hk1, h⟩ := h
  obtain ⟨r2, hr2, h⟩ := h
  refine v_getR X (T := TX6) (N := 4) (k := 3) hk1 (by decide) rfl (by decide) inX6 wd92 rfl dX6_lay_1 hr2 ?_
  refine v_iload_n X 1 dX6_lay_4 rfl rfl ?_
  refine v_iconst X (v := 1) dX6_lay_5 (by decide) ?_
  obtain ⟨hk3, h⟩ := h
  obtain ⟨hi4, h⟩ := h
  refine v_zast X hk3 hi4 dX6_lay_6 ?_
  refine v_nmS (fun S5 eS5 => ?_)
  replace h := h S5 eS5
  have hk6 : hK S5 a0 = 5 := by rw [eS5]; exact hk1
  have hk7 : hK S5 r2 = 13 := by rw [eS5]; exact hk3
  have hi8 : vp_in x1 (hN S5 r2) := by rw [eS5]; exact hi4
  have hr9 : hR S5 a0 3 = some r2 := by rw [eS5]; exact hr2
  refine v_aload_n X 0 dX6_lay_7 rfl rfl ?_
  obtain ⟨r10, hr10, h⟩ := h
  refine v_getR X (T := TX6) (N := 4) (k := 1) hk6 (by decide) rfl (by decide) inX6 wd90 rfl dX6_lay_8 hr10 ?_
  refine v_iload_n X 1 dX6_lay_11 rfl rfl ?_
  refine v_iload_n X 2 dX6_lay_12 rfl rfl ?_
  obtain ⟨hk11, h⟩ := h
  obtain ⟨hi12, h⟩ := h
  refine v_iast X hk11 hi12 dX6_lay_13 ?_
  refine v_nmS (fun S13 eS13 => ?_)
  replace h := h S13 eS13
  have hk14 : hK S13 a0 = 5 := by rw [eS13]; exact hk6
  have hk15 : hK S13 r2 = 13 := by rw [eS13]; exact hk7
  have hk16 : hK S13 r10 = 12 := by rw [eS13]; exact hk11
  have hi17 : vp_in x1 (hN S13 r2) := by rw [eS13]; exact hi8
  have hi18 : vp_in x1 (hN S13 r10) := by rw [eS13]; exact hi12
  have hr19 : hR S13 a0 3 = some r2 := by rw [eS13]; exact hr9
  have hr20 : hR S13 a0 1 = some r10 := by rw [eS13]; exact hr10
  refine v_aload_n X 0 dX6_lay_14 rfl rfl ?_
  obtain ⟨r21, hr21, h⟩ := h
  refine v_getR X (T := TX6) (N := 4) (k := 2) hk14 (by decide) rfl (by decide) inX6 wd91 rfl dX6_lay_15 hr21 ?_
  refine v_iload_n X 1 dX6_lay_18 rfl rfl ?_
  refine v_iload_n X 3 dX6_lay_19 rfl rfl ?_
  obtain ⟨hk22, h⟩ := h
  obtain ⟨hi23, h⟩ := h
  refine v_iast X hk22 hi23 dX6_lay_20 ?_
  refine v_nmS (fun S24 eS24 => ?_)
  replace h := h S24 eS24
  have hk25 : hK S24 a0 = 5 := by rw [eS24]; exact hk14
  have hk26 : hK S24 r2 = 13 := by rw [eS24]; exact hk15
  have hk27 : hK S24 r10 = 12 := by rw [eS24]; exact hk16
  have hk28 : hK S24 r21 = 12 := by rw [eS24]; exact hk22
  have hi29 : vp_in x1 (hN S24 r2) := by rw [eS24]; exact hi17
  have hi30 : vp_in x1 (hN S24 r10) := by rw [eS24]; exact hi18
  have hi31 : vp_in x1 (hN S24 r21) := by rw [eS24]; exact hi23
  have hr32 : hR S24 a0 3 = some r2 := by rw [eS24]; exact hr19
  have hr33 : hR S24 a0 1 = some r10 := by rw [eS24]; exact hr20
  have hr34 : hR S24 a0 2 = some r21 := by rw [eS24]; exact hr21
  refine v_aload_n X 0 dX6_lay_21 rfl rfl ?_
  obtain ⟨r35, hr35, h⟩ := h
  refine v_getR X (T := TX6) (N := 4) (k := 0) hk25 (by decide) rfl (by decide) inX6 wd89 rfl dX6_lay_22 hr35 ?_
  refine v_iload_n X 1 dX6_lay_25 rfl rfl ?_
  obtain ⟨hk36, h⟩ := h
  obtain ⟨hi37, h⟩ := h
  obtain ⟨r38, hr38, h⟩ := h
  refine v_aald16 X hk36 hi37 dX6_lay_26 (by rw [hr38] <;> rfl) ?_
  refine v_iconst X (v := 0) dX6_lay_27 (by decide) ?_
  refine v_callS X (av := [.ref r38, .int (0 : Int32)]) (s_J7_fill_53178 l b D cy h) wd272 wd273 wd63 k_J7_fill_53178 dn_J7_fill_53178 rfl ⟨Nat.le_of_ble_eq_true rfl, Nat.le_of_ble_eq_true rfl⟩ (Nat.le_of_ble_eq_true rfl) ⟨Nat.le_of_ble_eq_true rfl, Nat.le_of_ble_eq_true rfl⟩ dX6_lay_28 rfl (kV (fun S39 h => ?_))
  exact v_vret X hr hlk ⟨rfl, h⟩ dX6_lay_31
def wp_X11_answered (Q : Int32 → hp → Prop) (S : hp) (a0 : Nat) (x1 : Int32) : Prop :=
  hK S a0 = 10 ∧ ∀ S2 : hp, S2 = setI S a0 11 (0 : Int32) → Q x1 S2
theorem k_X11_answered : Cond.code yX11_answered cX11_answered 2 (some .int) ∈ gtb := mg 278 (by decide +kernel) (by decide +kernel)
theorem dn_X11_answered : yX11_answered.cls ≠ "java/lang/invoke/MethodHandle" ∧ yX11_answered.cls ≠ "java/lang/invoke/VarHandle" ∧ (parseMethodDescriptor yX11_answered.desc).map (fun d => d.parameters.length) = some 1 := by decide +kernel
set_option maxRecDepth 100000 in
set_option maxHeartbeats 4000000 in
theorem s_X11_answered (l : Launch) (b : Nat) (D : va_G) (cy : Nat → ClassId) {Q : Int32 → hp → Prop} {S : hp} {a0 : Nat} {x1 : Int32} (h : wp_X11_answered Q S a0 x1) : MT l yX11_answered cX11_answered 2 (some .int) 0 0 0 0 b D cy S [.ref a0, .int x1] (pI Q) := by
  refine MT.of (by decide +kernel) (Nat.le_of_ble_eq_true rfl) ?_
  intro p e s m args below meth c X hr hlk hnm
  unfold wp_X11_answered at h
  show VM l b D cy 2 0 0 0 0 (pI Q) p e s m args below meth c S 0 0 0 [(0, .ref a0), (1, .int x1)] []
  refine v_aload_n X 0 dX11_answered_0 rfl rfl ?_
  refine v_iconst X (v := 0) dX11_answered_1 (by decide) ?_
  obtain ⟨hk1, h⟩ := h
  refine v_putI X (T := TX11) (N := 12) (k := 11) hk1 (by decide) rfl (by decide) inX11 wd226 tyX11 tyX11_ok nmX11 rfl rfl rfl rfl dX11_answered_2 ?_
  refine v_nmS (fun S2 eS2 => ?_)
  replace h := h S2 eS2
  have hk3 : hK S2 a0 = 10 := by rw [eS2]; exact hk1
  refine v_iload_n X 1 dX11_answered_5 rfl rfl ?_
  exact v_iret X hr hlk ⟨_, rfl, h⟩ dX11_answered_6
def wp_X11_row (Q : Int32 → hp → Prop) (S : hp) (a0 : Nat) (x1 : Int32) (x2 : Int32) (x3 : Int32) : Prop :=
  wp_X6_isRow (fun r2 S1 => ((r2 = 0 → Q (-1000001 : Int32) S1) ∧ (¬ r2 = 0 → wp_X6_isLane (fun r5 S4 => ((r5 = 0 → Q (-1000001 : Int32) S4) ∧ (¬ r5 = 0 → ((x3 ≤ (40 : Int32) → ((0 ≤ x3 → hK S4 a0 = 10 ∧ ∃ r10 : Nat, hR S4 a0 0 = some r10 ∧ hK S4 r10 = 5 ∧ wp_X6_lay (fun S11 => hK S11 a0 = 10 ∧ wp_X11_answered (fun r15 S13 => Q r15 S13) S11 a0 x3) S4 r10 x1 x2 x3) ∧ (¬ 0 ≤ x3 → hK S4 a0 = 10 ∧ wp_X11_found (fun r18 S16 => Q r18 S16) S4 a0 (4 : Int32)))) ∧ (¬ x3 ≤ (40 : Int32) → Q (-1000001 : Int32) S4))))) S1 x2))) S x1
theorem k_X11_row : Cond.code yX11_row cX11_row 4 (some .int) ∈ gtb := mg 255 (by decide +kernel) (by decide +kernel)
theorem dn_X11_row : yX11_row.cls ≠ "java/lang/invoke/MethodHandle" ∧ yX11_row.cls ≠ "java/lang/invoke/VarHandle" ∧ (parseMethodDescriptor yX11_row.desc).map (fun d => d.parameters.length) = some 3 := by decide +kernel
set_option maxRecDepth 100000 in
set_option maxHeartbeats 4000000 in
theorem s_X11_row (l : Launch) (b : Nat) (D : va_G) (cy : Nat → ClassId) {Q : Int32 → hp → Prop} {S : hp} {a0 : Nat} {x1 : Int32} {x2 : Int32} {x3 : Int32} (h : wp_X11_row Q S a0 x1 x2 x3) : MT l yX11_row cX11_row 4 (some .int) 2 46 0 0 b D cy S [.ref a0, .int x1, .int x2, .int x3] (pI Q) := by
  refine MT.of (by decide +kernel) (Nat.le_of_ble_eq_true rfl) ?_
  intro p e s m args below meth c X hr hlk hnm
  unfold wp_X11_row at h
  show VM l b D cy 4 2 46 0 0 (pI Q) p e s m args below meth c S 0 0 0 [(0, .ref a0), (1, .int x1), (2, .int x2), (3, .int x3)] []
  refine v_iload_n X 1 dX11_row_0 rfl rfl ?_
  refine v_callS X (av := [.int x1]) (s_X6_isRow l b D cy h) wd256 wd257 wd57 k_X6_isRow dn_X6_isRow rfl ⟨Nat.le_of_ble_eq_true rfl, Nat.le_of_ble_eq_true rfl⟩ (Nat.le_of_ble_eq_true rfl) ⟨Nat.le_of_ble_eq_true rfl, Nat.le_of_ble_eq_true rfl⟩ dX11_row_1 rfl (kI (fun r2 S1 h => ?_))
  refine v_if_eq X (tgt := 20) dX11_row_4 (by decide) (fun c3 => ?_) (fun c3 => ?_)
  · replace h := h.1 c3
    refine v_ldc X wd262 dX11_row_20 ?_
    exact v_iret X hr hlk ⟨_, rfl, h⟩ dX11_row_22
  · replace h := h.2 c3
    refine v_iload_n X 2 dX11_row_7 rfl rfl ?_
    refine v_callS X (av := [.int x2]) (s_X6_isLane l b D cy h) wd259 wd260 wd57 k_X6_isLane dn_X6_isLane rfl ⟨Nat.le_of_ble_eq_true rfl, Nat.le_of_ble_eq_true rfl⟩ (Nat.le_of_ble_eq_true rfl) ⟨Nat.le_of_ble_eq_true rfl, Nat.le_of_ble_eq_true rfl⟩ dX11_row_8 rfl (kI (fun r5 S4 h => ?_))
    refine v_if_eq X (tgt := 20) dX11_row_11 (by decide) (fun c6 => ?_) (fun c6 => ?_)
    · replace h := h.1 c6
      refine v_ldc X wd262 dX11_row_20 ?_
      exact v_iret X hr hlk ⟨_, rfl, h⟩ dX11_row_22
    · replace h := h.2 c6
      refine v_iload_n X 3 dX11_row_14 rfl rfl ?_
      refine v_bipush X (v := 40) dX11_row_15 (by decide) ?_
      refine v_icmp_le X (tgt := 23) dX11_row_17 (by decide) (fun c7 => ?_) (fun c7 => ?_)
      · replace h := h.1 c7
        refine v_iload_n X 3 dX11_row_23 rfl rfl ?_
        refine v_if_ge X (tgt := 33) dX11_row_24 (by decide) (fun c8 => ?_) (fun c8 => ?_)
        · replace h := h.1 c8
          refine v_aload_n X 0 dX11_row_33 rfl rfl ?_
          obtain ⟨hk9, h⟩ := h
          obtain ⟨r10, hr10, h⟩ := h
          refine v_getR X (T := TX11) (N := 12) (k := 0) hk9 (by decide) rfl (by decide) inX11 wd215 rfl dX11_row_34 hr10 ?_
          refine v_iload_n X 1 dX11_row_37 rfl rfl ?_
          refine v_iload_n X 2 dX11_row_38 rfl rfl ?_
          refine v_iload_n X 3 dX11_row_39 rfl rfl ?_
          obtain ⟨hk12, h⟩ := h
          refine v_callV X (av := [.int x1, .int x2, .int x3]) (T := TX6) (N := 4) (s_X6_lay l b D cy h) hk12 (by decide) rfl wd268 wd269 wd270 wd57 k_X6_lay dn_X6_lay rfl ⟨Nat.le_of_ble_eq_true rfl, Nat.le_of_ble_eq_true rfl⟩ (Nat.le_of_ble_eq_true rfl) ⟨Nat.le_of_ble_eq_true rfl, Nat.le_of_ble_eq_true rfl⟩ dX11_row_40 rfl (kV (fun S11 h => ?_))
          refine v_aload_n X 0 dX11_row_43 rfl rfl ?_
          refine v_iload_n X 3 dX11_row_44 rfl rfl ?_
          obtain ⟨hk14, h⟩ := h
          refine v_callV X (av := [.int x3]) (T := TX11) (N := 12) (s_X11_answered l b D cy h) hk14 (by decide) rfl wd275 wd277 wd1 wd56 k_X11_answered dn_X11_answered rfl ⟨Nat.le_of_ble_eq_true rfl, Nat.le_of_ble_eq_true rfl⟩ (Nat.le_of_ble_eq_true rfl) ⟨Nat.le_of_ble_eq_true rfl, Nat.le_of_ble_eq_true rfl⟩ dX11_row_45 rfl (kI (fun r15 S13 h => ?_))
          exact v_iret X hr hlk ⟨_, rfl, h⟩ dX11_row_48
        · replace h := h.2 c8
          refine v_aload_n X 0 dX11_row_27 rfl rfl ?_
          refine v_iconst X (v := 4) dX11_row_28 (by decide) ?_
          obtain ⟨hk17, h⟩ := h
          refine v_callV X (av := [.int (4 : Int32)]) (T := TX11) (N := 12) (s_X11_found l b D cy h) hk17 (by decide) rfl wd263 wd265 wd0 wd56 k_X11_found dn_X11_found rfl ⟨Nat.le_of_ble_eq_true rfl, Nat.le_of_ble_eq_true rfl⟩ (Nat.le_of_ble_eq_true rfl) ⟨Nat.le_of_ble_eq_true rfl, Nat.le_of_ble_eq_true rfl⟩ dX11_row_29 rfl (kI (fun r18 S16 h => ?_))
          exact v_iret X hr hlk ⟨_, rfl, h⟩ dX11_row_32
      · replace h := h.2 c7
        refine v_ldc X wd262 dX11_row_20 ?_
        exact v_iret X hr hlk ⟨_, rfl, h⟩ dX11_row_22
def wp_X6_isMissing (Q : Int32 → hp → Prop) (S : hp) (a0 : Nat) (x1 : Int32) : Prop :=
  hK S a0 = 5 ∧ ∃ r2 : Nat, hR S a0 3 = some r2 ∧ hK S r2 = 13 ∧ vp_in x1 (hN S r2) ∧ ((¬ (hI S r2 (x1).toNatClampNeg) = 0 → Q (0 : Int32) S) ∧ ((hI S r2 (x1).toNatClampNeg) = 0 → Q (1 : Int32) S))
theorem k_X6_isMissing : Cond.code yX6_isMissing cX6_isMissing 2 (some .boolean) ∈ gtb := mg 290 (by decide +kernel) (by decide +kernel)
theorem dn_X6_isMissing : yX6_isMissing.cls ≠ "java/lang/invoke/MethodHandle" ∧ yX6_isMissing.cls ≠ "java/lang/invoke/VarHandle" ∧ (parseMethodDescriptor yX6_isMissing.desc).map (fun d => d.parameters.length) = some 1 := by decide +kernel
set_option maxRecDepth 100000 in
set_option maxHeartbeats 4000000 in
theorem s_X6_isMissing (l : Launch) (b : Nat) (D : va_G) (cy : Nat → ClassId) {Q : Int32 → hp → Prop} {S : hp} {a0 : Nat} {x1 : Int32} (h : wp_X6_isMissing Q S a0 x1) : MT l yX6_isMissing cX6_isMissing 2 (some .boolean) 0 0 0 0 b D cy S [.ref a0, .int x1] (pI Q) := by
  refine MT.of (by decide +kernel) (Nat.le_of_ble_eq_true rfl) ?_
  intro p e s m args below meth c X hr hlk hnm
  unfold wp_X6_isMissing at h
  show VM l b D cy 2 0 0 0 0 (pI Q) p e s m args below meth c S 0 0 0 [(0, .ref a0), (1, .int x1)] []
  refine v_aload_n X 0 dX6_isMissing_0 rfl rfl ?_
  obtain ⟨hk1, h⟩ := h
  obtain ⟨r2, hr2, h⟩ := h
  refine v_getR X (T := TX6) (N := 4) (k := 3) hk1 (by decide) rfl (by decide) inX6 wd92 rfl dX6_isMissing_1 hr2 ?_
  refine v_iload_n X 1 dX6_isMissing_4 rfl rfl ?_
  obtain ⟨hk3, h⟩ := h
  obtain ⟨hi4, h⟩ := h
  refine v_zald X hk3 hi4 dX6_isMissing_5 ?_
  refine v_if_ne X (tgt := 13) dX6_isMissing_6 (by decide) (fun c5 => ?_) (fun c5 => ?_)
  · replace h := h.1 c5
    refine v_iconst X (v := 0) dX6_isMissing_13 (by decide) ?_
    exact v_zret X hr (by decide) hlk ⟨_, rfl, h⟩ dX6_isMissing_14
  · replace h := h.2 c5
    refine v_iconst X (v := 1) dX6_isMissing_9 (by decide) ?_
    refine v_goto X (tgt := 14) dX6_isMissing_10 (by decide) ?_
    exact v_zret X hr (by decide) hlk ⟨_, rfl, h⟩ dX6_isMissing_14
def wp_X6_holds (Q : Int32 → hp → Prop) (S : hp) (a0 : Nat) (x1 : Int32) (x2 : Int32) (x3 : Int32) : Prop :=
  ((x2 < 0 → Q (0 : Int32) S) ∧ (¬ x2 < 0 → ((x3 < 0 → Q (0 : Int32) S) ∧ (¬ x3 < 0 → hK S a0 = 5 ∧ ∃ r4 : Nat, hR S a0 2 = some r4 ∧ hK S r4 = 12 ∧ vp_in x1 (hN S r4) ∧ (((hI S r4 (x1).toNatClampNeg) < x2 → Q (0 : Int32) S) ∧ (¬ (hI S r4 (x1).toNatClampNeg) < x2 → ((((hI S r4 (x1).toNatClampNeg) - x2) < x3 → Q (0 : Int32) S) ∧ (¬ ((hI S r4 (x1).toNatClampNeg) - x2) < x3 → Q (1 : Int32) S))))))))
theorem k_X6_holds : Cond.code yX6_holds cX6_holds 4 (some .boolean) ∈ gtb := mg 294 (by decide +kernel) (by decide +kernel)
theorem dn_X6_holds : yX6_holds.cls ≠ "java/lang/invoke/MethodHandle" ∧ yX6_holds.cls ≠ "java/lang/invoke/VarHandle" ∧ (parseMethodDescriptor yX6_holds.desc).map (fun d => d.parameters.length) = some 3 := by decide +kernel
set_option maxRecDepth 100000 in
set_option maxHeartbeats 4000000 in
theorem s_X6_holds (l : Launch) (b : Nat) (D : va_G) (cy : Nat → ClassId) {Q : Int32 → hp → Prop} {S : hp} {a0 : Nat} {x1 : Int32} {x2 : Int32} {x3 : Int32} (h : wp_X6_holds Q S a0 x1 x2 x3) : MT l yX6_holds cX6_holds 4 (some .boolean) 0 0 0 0 b D cy S [.ref a0, .int x1, .int x2, .int x3] (pI Q) := by
  refine MT.of (by decide +kernel) (Nat.le_of_ble_eq_true rfl) ?_
  intro p e s m args below meth c X hr hlk hnm
  unfold wp_X6_holds at h
  show VM l b D cy 4 0 0 0 0 (pI Q) p e s m args below meth c S 0 0 0 [(0, .ref a0), (1, .int x1), (2, .int x2), (3, .int x3)] []
  refine v_iload_n X 2 dX6_holds_0 rfl rfl ?_
  refine v_if_lt X (tgt := 34) dX6_holds_1 (by decide) (fun c1 => ?_) (fun c1 => ?_)
  · replace h := h.1 c1
    refine v_iconst X (v := 0) dX6_holds_34 (by decide) ?_
    exact v_zret X hr (by decide) hlk ⟨_, rfl, h⟩ dX6_holds_35
  · replace h := h.2 c1
    refine v_iload_n X 3 dX6_holds_4 rfl rfl ?_
    refine v_if_lt X (tgt := 34) dX6_holds_5 (by decide) (fun c2 => ?_) (fun c2 => ?_)
    · replace h := h.1 c2
      refine v_iconst X (v := 0) dX6_holds_34 (by decide) ?_
      exact v_zret X hr (by decide) hlk ⟨_, rfl, h⟩ dX6_holds_35
    · replace h := h.2 c2
      refine v_iload_n X 2 dX6_holds_8 rfl rfl ?_
      refine v_aload_n X 0 dX6_holds_9 rfl rfl ?_
      obtain ⟨hk3, h⟩ := h
      obtain ⟨r4, hr4, h⟩ := h
      refine v_getR X (T := TX6) (N := 4) (k := 2) hk3 (by decide) rfl (by decide) inX6 wd91 rfl dX6_holds_10 hr4 ?_
      refine v_iload_n X 1 dX6_holds_13 rfl rfl ?_
      obtain ⟨hk5, h⟩ := h
      obtain ⟨hi6, h⟩ := h
      refine v_iald X hk5 hi6 dX6_holds_14 ?_
      refine v_icmp_gt X (tgt := 34) dX6_holds_15 (by decide) (fun c7 => ?_) (fun c7 => ?_)
      · replace h := h.1 c7
        refine v_iconst X (v := 0) dX6_holds_34 (by decide) ?_
        exact v_zret X hr (by decide) hlk ⟨_, rfl, h⟩ dX6_holds_35
      · replace h := h.2 c7
        refine v_iload_n X 3 dX6_holds_18 rfl rfl ?_
        refine v_aload_n X 0 dX6_holds_19 rfl rfl ?_
        refine v_getR X (T := TX6) (N := 4) (k := 2) hk3 (by decide) rfl (by decide) inX6 wd91 rfl dX6_holds_20 hr4 ?_
        refine v_iload_n X 1 dX6_holds_23 rfl rfl ?_
        refine v_iald X hk5 hi6 dX6_holds_24 ?_
        refine v_iload_n X 2 dX6_holds_25 rfl rfl ?_
        refine v_isub X dX6_holds_26 ?_
        refine v_icmp_gt X (tgt := 34) dX6_holds_27 (by decide) (fun c8 => ?_) (fun c8 => ?_)
        · replace h := h.1 c8
          refine v_iconst X (v := 0) dX6_holds_34 (by decide) ?_
          exact v_zret X hr (by decide) hlk ⟨_, rfl, h⟩ dX6_holds_35
        · replace h := h.2 c8
          refine v_iconst X (v := 1) dX6_holds_30 (by decide) ?_
          refine v_goto X (tgt := 35) dX6_holds_31 (by decide) ?_
          exact v_zret X hr (by decide) hlk ⟨_, rfl, h⟩ dX6_holds_35
def wp_X6_findingAt (Q : Int32 → hp → Prop) (S : hp) (a0 : Nat) (x1 : Int32) (x2 : Int32) (x3 : Int32) : Prop :=
  hK S a0 = 5 ∧ wp_X6_isMissing (fun r3 S1 => ((r3 = 0 → hK S1 a0 = 5 ∧ wp_X6_holds (fun r7 S5 => ((r7 = 0 → Q (2 : Int32) S5) ∧ (¬ r7 = 0 → Q (0 : Int32) S5))) S1 a0 x1 x2 x3) ∧ (¬ r3 = 0 → Q (1 : Int32) S1))) S a0 x1
theorem k_X6_findingAt : Cond.code yX6_findingAt cX6_findingAt 4 (some .int) ∈ gtb := mg 286 (by decide +kernel) (by decide +kernel)
theorem dn_X6_findingAt : yX6_findingAt.cls ≠ "java/lang/invoke/MethodHandle" ∧ yX6_findingAt.cls ≠ "java/lang/invoke/VarHandle" ∧ (parseMethodDescriptor yX6_findingAt.desc).map (fun d => d.parameters.length) = some 3 := by decide +kernel
set_option maxRecDepth 100000 in
set_option maxHeartbeats 4000000 in
theorem s_X6_findingAt (l : Launch) (b : Nat) (D : va_G) (cy : Nat → ClassId) {Q : Int32 → hp → Prop} {S : hp} {a0 : Nat} {x1 : Int32} {x2 : Int32} {x3 : Int32} (h : wp_X6_findingAt Q S a0 x1 x2 x3) : MT l yX6_findingAt cX6_findingAt 4 (some .int) 1 23 0 0 b D cy S [.ref a0, .int x1, .int x2, .int x3] (pI Q) := by
  refine MT.of (by decide +kernel) (Nat.le_of_ble_eq_true rfl) ?_
  intro p e s m args below meth c X hr hlk hnm
  unfold wp_X6_findingAt at h
  show VM l b D cy 4 1 23 0 0 (pI Q) p e s m args below meth c S 0 0 0 [(0, .ref a0), (1, .int x1), (2, .int x2), (3, .int x3)] []
  refine v_aload_n X 0 dX6_findingAt_0 rfl rfl ?_
  refine v_iload_n X 1 dX6_findingAt_1 rfl rfl ?_
  obtain ⟨hk2, h⟩ := h
  refine v_callV X (av := [.int x1]) (T := TX6) (N := 4) (s_X6_isMissing l b D cy h) hk2 (by decide) rfl wd287 wd288 wd289 wd57 k_X6_isMissing dn_X6_isMissing rfl ⟨Nat.le_of_ble_eq_true rfl, Nat.le_of_ble_eq_true rfl⟩ (Nat.le_of_ble_eq_true rfl) ⟨Nat.le_of_ble_eq_true rfl, Nat.le_of_ble_eq_true rfl⟩ dX6_findingAt_2 rfl (kI (fun r3 S1 h => ?_))
  refine v_if_eq X (tgt := 10) dX6_findingAt_5 (by decide) (fun c4 => ?_) (fun c4 => ?_)
  · replace h := h.1 c4
    refine v_aload_n X 0 dX6_findingAt_10 rfl rfl ?_
    refine v_iload_n X 1 dX6_findingAt_11 rfl rfl ?_
    refine v_iload_n X 2 dX6_findingAt_12 rfl rfl ?_
    refine v_iload_n X 3 dX6_findingAt_13 rfl rfl ?_
    obtain ⟨hk6, h⟩ := h
    refine v_callV X (av := [.int x1, .int x2, .int x3]) (T := TX6) (N := 4) (s_X6_holds l b D cy h) hk6 (by decide) rfl wd291 wd293 wd2 wd57 k_X6_holds dn_X6_holds rfl ⟨Nat.le_of_ble_eq_true rfl, Nat.le_of_ble_eq_true rfl⟩ (Nat.le_of_ble_eq_true rfl) ⟨Nat.le_of_ble_eq_true rfl, Nat.le_of_ble_eq_true rfl⟩ dX6_findingAt_14 rfl (kI (fun r7 S5 h => ?_))
    refine v_if_eq X (tgt := 24) dX6_findingAt_17 (by decide) (fun c8 => ?_) (fun c8 => ?_)
    · replace h := h.1 c8
      refine v_iconst X (v := 2) dX6_findingAt_24 (by decide) ?_
      exact v_iret X hr hlk ⟨_, rfl, h⟩ dX6_findingAt_25
    · replace h := h.2 c8
      refine v_iconst X (v := 0) dX6_findingAt_20 (by decide) ?_
      refine v_goto X (tgt := 25) dX6_findingAt_21 (by decide) ?_
      exact v_iret X hr hlk ⟨_, rfl, h⟩ dX6_findingAt_25
  · replace h := h.2 c4
    refine v_iconst X (v := 1) dX6_findingAt_8 (by decide) ?_
    exact v_iret X hr hlk ⟨_, rfl, h⟩ dX6_findingAt_9
def wp_X6_cut (Q : Int32 → hp → Prop) (S : hp) (x0 : Int32) (x1 : Int32) : Prop :=
  ((x1 = (0 : Int32) → Q (x0).toInt8.toInt32 S) ∧ (x1 = (1 : Int32) → Q (x0).toInt16.toInt32 S) ∧ (¬ x1 = (0 : Int32) → ¬ x1 = (1 : Int32) → Q x0 S))
theorem k_X6_cut : Cond.code yX6_cut cX6_cut 2 (some .int) ∈ gtb := mg 301 (by decide +kernel) (by decide +kernel)
theorem dn_X6_cut : yX6_cut.cls ≠ "java/lang/invoke/MethodHandle" ∧ yX6_cut.cls ≠ "java/lang/invoke/VarHandle" ∧ (parseMethodDescriptor yX6_cut.desc).map (fun d => d.parameters.length) = some 2 := by decide +kernel
set_option maxRecDepth 100000 in
set_option maxHeartbeats 4000000 in
theorem s_X6_cut (l : Launch) (b : Nat) (D : va_G) (cy : Nat → ClassId) {Q : Int32 → hp → Prop} {S : hp} {x0 : Int32} {x1 : Int32} (h : wp_X6_cut Q S x0 x1) : MT l yX6_cut cX6_cut 2 (some .int) 0 0 0 0 b D cy S [.int x0, .int x1] (pI Q) := by
  refine MT.of (by decide +kernel) (Nat.le_of_ble_eq_true rfl) ?_
  intro p e s m args below meth c X hr hlk hnm
  unfold wp_X6_cut at h
  show VM l b D cy 2 0 0 0 0 (pI Q) p e s m args below meth c S 0 0 0 [(0, .int x0), (1, .int x1)] []
  refine v_iload_n X 1 dX6_cut_0 rfl rfl ?_
  by_cases c1 : x1 = (0 : Int32)
  · replace h := h.1 c1
    refine v_look X (tgt := 28) dX6_cut_1 (by decide) (by rw [c1] <;> rfl) (by decide) ?_
    refine v_iload_n X 0 dX6_cut_28 rfl rfl ?_
    refine v_i2b X dX6_cut_29 ?_
    exact v_iret X hr hlk ⟨_, rfl, h⟩ dX6_cut_30
  by_cases c2 : x1 = (1 : Int32)
  · replace h := h.2.1 c2
    refine v_look X (tgt := 31) dX6_cut_1 (by decide) (by rw [c2] <;> rfl) (by decide) ?_
    refine v_iload_n X 0 dX6_cut_31 rfl rfl ?_
    refine v_i2s X dX6_cut_32 ?_
    exact v_iret X hr hlk ⟨_, rfl, h⟩ dX6_cut_33
  replace h := h.2.2 c1 c2
  refine v_look X (off := 33) (tgt := 34) dX6_cut_1 (by decide) ((lv_osw c1 rfl).trans ((lv_osw c2 rfl).trans rfl)) (by decide) ?_
  refine v_iload_n X 0 dX6_cut_34 rfl rfl ?_
  exact v_iret X hr hlk ⟨_, rfl, h⟩ dX6_cut_35
def wp_X6_put (Q : Int32 → hp → Prop) (S : hp) (a0 : Nat) (x1 : Int32) (x2 : Int32) (x3 : Int32) : Prop :=
  hK S a0 = 5 ∧ ∃ r2 : Nat, hR S a0 0 = some r2 ∧ hK S r2 = 16 ∧ vp_in x1 (hN S r2) ∧ ∃ r5 : Nat, hR S r2 (x1).toNatClampNeg = some r5 ∧ ∃ r6 : Nat, hR S a0 1 = some r6 ∧ hK S r6 = 12 ∧ vp_in x1 (hN S r6) ∧ wp_X6_cut (fun r10 S9 => hK S9 r5 = 12 ∧ vp_in x2 (hN S9 r5) ∧ ∀ S13 : hp, S13 = setI S9 r5 (x2).toNatClampNeg r10 → hK S13 a0 = 5 ∧ ∃ r17 : Nat, hR S13 a0 0 = some r17 ∧ hK S13 r17 = 16 ∧ vp_in x1 (hN S13 r17) ∧ ∃ r20 : Nat, hR S13 r17 (x1).toNatClampNeg = some r20 ∧ hK S13 r20 = 12 ∧ vp_in x2 (hN S13 r20) ∧ Q (hI S13 r20 (x2).toNatClampNeg) S13) S x3 ((hI S r6 (x1).toNatClampNeg))
theorem k_X6_put : Cond.code yX6_put cX6_put 4 (some .int) ∈ gtb := mg 298 (by decide +kernel) (by decide +kernel)
theorem dn_X6_put : yX6_put.cls ≠ "java/lang/invoke/MethodHandle" ∧ yX6_put.cls ≠ "java/lang/invoke/VarHandle" ∧ (parseMethodDescriptor yX6_put.desc).map (fun d => d.parameters.length) = some 3 := by decide +kernel
set_option maxRecDepth 100000 in
set_option maxHeartbeats 4000000 in
theorem s_X6_put (l : Launch) (b : Nat) (D : va_G) (cy : Nat → ClassId) {Q : Int32 → hp → Prop} {S : hp} {a0 : Nat} {x1 : Int32} {x2 : Int32} {x3 : Int32} (h : wp_X6_put Q S a0 x1 x2 x3) : MT l yX6_put cX6_put 4 (some .int) 1 21 0 0 b D cy S [.ref a0, .int x1, .int x2, .int x3] (pI Q) := by
  refine MT.of (by decide +kernel) (Nat.le_of_ble_eq_true rfl) ?_
  intro p e s m args below meth c X hr hlk hnm
  unfold wp_X6_put at h
  show VM l b D cy 4 1 21 0 0 (pI Q) p e s m args below meth c S 0 0 0 [(0, .ref a0), (1, .int x1), (2, .int x2), (3, .int x3)] []
  refine v_aload_n X 0 dX6_put_0 rfl rfl ?_
  obtain ⟨hk1, h⟩ := h
  obtain ⟨r2, hr2, h⟩ := h
  refine v_getR X (T := TX6) (N := 4) (k := 0) hk1 (by decide) rfl (by decide) inX6 wd89 rfl dX6_put_1 hr2 ?_
  refine v_iload_n X 1 dX6_put_4 rfl rfl ?_
  obtain ⟨hk3, h⟩ := h
  obtain ⟨hi4, h⟩ := h
  obtain ⟨r5, hr5, h⟩ := h
  refine v_aald16 X hk3 hi4 dX6_put_5 (by rw [hr5] <;> rfl) ?_
  refine v_iload_n X 2 dX6_put_6 rfl rfl ?_
  refine v_iload_n X 3 dX6_put_7 rfl rfl ?_
  refine v_aload_n X 0 dX6_put_8 rfl rfl ?_
  obtain ⟨r6, hr6, h⟩ := h
  refine v_getR X (T := TX6) (N := 4) (k := 1) hk1 (by decide) rfl (by decide) inX6 wd90 rfl dX6_put_9 hr6 ?_
  refine v_iload_n X 1 dX6_put_12 rfl rfl ?_
  obtain ⟨hk7, h⟩ := h
  obtain ⟨hi8, h⟩ := h
  refine v_iald X hk7 hi8 dX6_put_13 ?_
  refine v_callS X (av := [.int x3, .int (hI S r6 (x1).toNatClampNeg)]) (s_X6_cut l b D cy h) wd299 wd300 wd57 k_X6_cut dn_X6_cut rfl ⟨Nat.le_of_ble_eq_true rfl, Nat.le_of_ble_eq_true rfl⟩ (Nat.le_of_ble_eq_true rfl) ⟨Nat.le_of_ble_eq_true rfl, Nat.le_of_ble_eq_true rfl⟩ dX6_put_14 rfl (kI (fun r10 S9 h => ?_))
  obtain ⟨hk11, h⟩ := h
  obtain ⟨hi12, h⟩ := h
  refine v_iast X hk11 hi12 dX6_put_17 ?_
  refine v_nmS (fun S13 eS13 => ?_)
  replace h := h S13 eS13
  have hk14 : hK S13 r5 = 12 := by rw [eS13]; exact hk11
  have hi15 : vp_in x2 (hN S13 r5) := by rw [eS13]; exact hi12
  refine v_aload_n X 0 dX6_put_18 rfl rfl ?_
  obtain ⟨hk16, h⟩ := h
  obtain ⟨r17, hr17, h⟩ := h
  refine v_getR X (T := TX6) (N := 4) (k := 0) hk16 (by decide) rfl (by decide) inX6 wd89 rfl dX6_put_19 hr17 ?_
  refine v_iload_n X 1 dX6_put_22 rfl rfl ?_
  obtain ⟨hk18, h⟩ := h
  obtain ⟨hi19, h⟩ := h
  obtain ⟨r20, hr20, h⟩ := h
  refine v_aald16 X hk18 hi19 dX6_put_23 (by rw [hr20] <;> rfl) ?_
  refine v_iload_n X 2 dX6_put_24 rfl rfl ?_
  obtain ⟨hk21, h⟩ := h
  obtain ⟨hi22, h⟩ := h
  refine v_iald X hk21 hi22 dX6_put_25 ?_
  exact v_iret X hr hlk ⟨_, rfl, h⟩ dX6_put_26
def wp_X11_set (Q : Int32 → hp → Prop) (S : hp) (a0 : Nat) (x1 : Int32) (x2 : Int32) (x3 : Int32) : Prop :=
  wp_X6_isRow (fun r2 S1 => ((¬ r2 = 0 → hK S1 a0 = 10 ∧ ∃ r5 : Nat, hR S1 a0 0 = some r5 ∧ hK S1 r5 = 5 ∧ wp_X6_findingAt (fun r8 S6 => ((r8 = 0 → hK S6 a0 = 10 ∧ ∃ r11 : Nat, hR S6 a0 0 = some r11 ∧ hK S6 r11 = 5 ∧ wp_X6_put (fun r14 S12 => hK S12 a0 = 10 ∧ wp_X11_answered (fun r17 S15 => Q r17 S15) S12 a0 r14) S6 r11 x1 x2 x3) ∧ (¬ r8 = 0 → hK S6 a0 = 10 ∧ wp_X11_found (fun r20 S18 => Q r20 S18) S6 a0 r8))) S1 r5 x1 x2 (1 : Int32)) ∧ (r2 = 0 → Q (-1000001 : Int32) S1))) S x1
theorem k_X11_set : Cond.code yX11_set cX11_set 5 (some .int) ∈ gtb := mg 282 (by decide +kernel) (by decide +kernel)
theorem dn_X11_set : yX11_set.cls ≠ "java/lang/invoke/MethodHandle" ∧ yX11_set.cls ≠ "java/lang/invoke/VarHandle" ∧ (parseMethodDescriptor yX11_set.desc).map (fun d => d.parameters.length) = some 3 := by decide +kernel
set_option maxRecDepth 100000 in
set_option maxHeartbeats 4000000 in
theorem s_X11_set (l : Launch) (b : Nat) (D : va_G) (cy : Nat → ClassId) {Q : Int32 → hp → Prop} {S : hp} {a0 : Nat} {x1 : Int32} {x2 : Int32} {x3 : Int32} (h : wp_X11_set Q S a0 x1 x2 x3) : MT l yX11_set cX11_set 5 (some .int) 2 46 0 0 b D cy S [.ref a0, .int x1, .int x2, .int x3] (pI Q) := by
  refine MT.of (by decide +kernel) (Nat.le_of_ble_eq_true rfl) ?_
  intro p e s m args below meth c X hr hlk hnm
  unfold wp_X11_set at h
  show VM l b D cy 5 2 46 0 0 (pI Q) p e s m args below meth c S 0 0 0 [(0, .ref a0), (1, .int x1), (2, .int x2), (3, .int x3)] []
  refine v_iload_n X 1 dX11_set_0 rfl rfl ?_
  refine v_callS X (av := [.int x1]) (s_X6_isRow l b D cy h) wd256 wd257 wd57 k_X6_isRow dn_X6_isRow rfl ⟨Nat.le_of_ble_eq_true rfl, Nat.le_of_ble_eq_true rfl⟩ (Nat.le_of_ble_eq_true rfl) ⟨Nat.le_of_ble_eq_true rfl, Nat.le_of_ble_eq_true rfl⟩ dX11_set_1 rfl (kI (fun r2 S1 h => ?_))
  refine v_if_ne X (tgt := 10) dX11_set_4 (by decide) (fun c3 => ?_) (fun c3 => ?_)
  · replace h := h.1 c3
    refine v_aload_n X 0 dX11_set_10 rfl rfl ?_
    obtain ⟨hk4, h⟩ := h
    obtain ⟨r5, hr5, h⟩ := h
    refine v_getR X (T := TX11) (N := 12) (k := 0) hk4 (by decide) rfl (by decide) inX11 wd215 rfl dX11_set_11 hr5 ?_
    refine v_iload_n X 1 dX11_set_14 rfl rfl ?_
    refine v_iload_n X 2 dX11_set_15 rfl rfl ?_
    refine v_iconst X (v := 1) dX11_set_16 (by decide) ?_
    obtain ⟨hk7, h⟩ := h
    refine v_callV X (av := [.int x1, .int x2, .int (1 : Int32)]) (T := TX6) (N := 4) (s_X6_findingAt l b D cy h) hk7 (by decide) rfl wd283 wd284 wd285 wd57 k_X6_findingAt dn_X6_findingAt rfl ⟨Nat.le_of_ble_eq_true rfl, Nat.le_of_ble_eq_true rfl⟩ (Nat.le_of_ble_eq_true rfl) ⟨Nat.le_of_ble_eq_true rfl, Nat.le_of_ble_eq_true rfl⟩ dX11_set_17 rfl (kI (fun r8 S6 h => ?_))
    refine v_istore X (lv' := [(4, .int r8), (0, .ref a0), (1, .int x1), (2, .int x2), (3, .int x3)]) dX11_set_20 (by decide) rfl ?_
    refine v_iload X 0 dX11_set_22 rfl ?_
    refine v_if_eq X (tgt := 34) dX11_set_24 (by decide) (fun c9 => ?_) (fun c9 => ?_)
    · replace h := h.1 c9
      refine v_aload_n X 1 dX11_set_34 rfl rfl ?_
      refine v_aload_n X 1 dX11_set_35 rfl rfl ?_
      obtain ⟨hk10, h⟩ := h
      obtain ⟨r11, hr11, h⟩ := h
      refine v_getR X (T := TX11) (N := 12) (k := 0) hk10 (by decide) rfl (by decide) inX11 wd215 rfl dX11_set_36 hr11 ?_
      refine v_iload_n X 2 dX11_set_39 rfl rfl ?_
      refine v_iload_n X 3 dX11_set_40 rfl rfl ?_
      refine v_iload_n X 4 dX11_set_41 rfl rfl ?_
      obtain ⟨hk13, h⟩ := h
      refine v_callV X (av := [.int x1, .int x2, .int x3]) (T := TX6) (N := 4) (s_X6_put l b D cy h) hk13 (by decide) rfl wd295 wd296 wd297 wd57 k_X6_put dn_X6_put rfl ⟨Nat.le_of_ble_eq_true rfl, Nat.le_of_ble_eq_true rfl⟩ (Nat.le_of_ble_eq_true rfl) ⟨Nat.le_of_ble_eq_true rfl, Nat.le_of_ble_eq_true rfl⟩ dX11_set_42 rfl (kI (fun r14 S12 h => ?_))
      obtain ⟨hk16, h⟩ := h
      refine v_callV X (av := [.int r14]) (T := TX11) (N := 12) (s_X11_answered l b D cy h) hk16 (by decide) rfl wd275 wd277 wd1 wd56 k_X11_answered dn_X11_answered rfl ⟨Nat.le_of_ble_eq_true rfl, Nat.le_of_ble_eq_true rfl⟩ (Nat.le_of_ble_eq_true rfl) ⟨Nat.le_of_ble_eq_true rfl, Nat.le_of_ble_eq_true rfl⟩ dX11_set_45 rfl (kI (fun r17 S15 h => ?_))
      exact v_iret X hr hlk ⟨_, rfl, h⟩ dX11_set_48
    · replace h := h.2 c9
      refine v_aload_n X 1 dX11_set_27 rfl rfl ?_
      refine v_iload X 0 dX11_set_28 rfl ?_
      obtain ⟨hk19, h⟩ := h
      refine v_callV X (av := [.int r8]) (T := TX11) (N := 12) (s_X11_found l b D cy h) hk19 (by decide) rfl wd263 wd265 wd0 wd56 k_X11_found dn_X11_found rfl ⟨Nat.le_of_ble_eq_true rfl, Nat.le_of_ble_eq_true rfl⟩ (Nat.le_of_ble_eq_true rfl) ⟨Nat.le_of_ble_eq_true rfl, Nat.le_of_ble_eq_true rfl⟩ dX11_set_30 rfl (kI (fun r20 S18 h => ?_))
      exact v_iret X hr hlk ⟨_, rfl, h⟩ dX11_set_33
  · replace h := h.2 c3
    refine v_ldc X wd262 dX11_set_7 ?_
    exact v_iret X hr hlk ⟨_, rfl, h⟩ dX11_set_9
def wp_X6_findingOfMove (Q : Int32 → hp → Prop) (S : hp) (a0 : Nat) (x1 : Int32) (x2 : Int32) (x3 : Int32) (x4 : Int32) (x5 : Int32) : Prop :=
  hK S a0 = 5 ∧ wp_X6_isMissing (fun r3 S1 => ((¬ r3 = 0 → Q (1 : Int32) S1) ∧ (r3 = 0 → hK S1 a0 = 5 ∧ wp_X6_isMissing (fun r7 S5 => ((r7 = 0 → hK S5 a0 = 5 ∧ ∃ r10 : Nat, hR S5 a0 1 = some r10 ∧ hK S5 r10 = 12 ∧ vp_in x1 (hN S5 r10) ∧ vp_in x3 (hN S5 r10) ∧ (((hI S5 r10 (x1).toNatClampNeg) = (hI S5 r10 (x3).toNatClampNeg) → wp_X6_holds (fun r16 S15 => ((r16 = 0 → Q (2 : Int32) S15) ∧ (¬ r16 = 0 → hK S15 a0 = 5 ∧ wp_X6_holds (fun r20 S18 => ((r20 = 0 → Q (2 : Int32) S18) ∧ (¬ r20 = 0 → Q (0 : Int32) S18))) S15 a0 x3 x4 x5))) S5 a0 x1 x2 x5) ∧ (¬ (hI S5 r10 (x1).toNatClampNeg) = (hI S5 r10 (x3).toNatClampNeg) → Q (5 : Int32) S5))) ∧ (¬ r7 = 0 → Q (1 : Int32) S5))) S1 a0 x3))) S a0 x1
theorem k_X6_findingOfMove : Cond.code yX6_findingOfMove cX6_findingOfMove 6 (some .int) ∈ gtb := mg 309 (by decide +kernel) (by decide +kernel)
theorem dn_X6_findingOfMove : yX6_findingOfMove.cls ≠ "java/lang/invoke/MethodHandle" ∧ yX6_findingOfMove.cls ≠ "java/lang/invoke/VarHandle" ∧ (parseMethodDescriptor yX6_findingOfMove.desc).map (fun d => d.parameters.length) = some 5 := by decide +kernel
set_option maxRecDepth 100000 in
set_option maxHeartbeats 4000000 in
theorem s_X6_findingOfMove (l : Launch) (b : Nat) (D : va_G) (cy : Nat → ClassId) {Q : Int32 → hp → Prop} {S : hp} {a0 : Nat} {x1 : Int32} {x2 : Int32} {x3 : Int32} {x4 : Int32} {x5 : Int32} (h : wp_X6_findingOfMove Q S a0 x1 x2 x3 x4 x5) : MT l yX6_findingOfMove cX6_findingOfMove 6 (some .int) 1 23 0 0 b D cy S [.ref a0, .int x1, .int x2, .int x3, .int x4, .int x5] (pI Q) := by
  refine MT.of (by decide +kernel) (Nat.le_of_ble_eq_true rfl) ?_
  intro p e s m args below meth c X hr hlk hnm
  unfold wp_X6_findingOfMove at h
  show VM l b D cy 6 1 23 0 0 (pI Q) p e s m args below meth c S 0 0 0 [(0, .ref a0), (1, .int x1), (2, .int x2), (3, .int x3), (4, .int x4), (5, .int x5)] []
  refine v_aload_n X 0 dX6_findingOfMove_0 rfl rfl ?_
  refine v_iload_n X 1 dX6_findingOfMove_1 rfl rfl ?_
  obtain ⟨hk2, h⟩ := h
  refine v_callV X (av := [.int x1]) (T := TX6) (N := 4) (s_X6_isMissing l b D cy h) hk2 (by decide) rfl wd287 wd288 wd289 wd57 k_X6_isMissing dn_X6_isMissing rfl ⟨Nat.le_of_ble_eq_true rfl, Nat.le_of_ble_eq_true rfl⟩ (Nat.le_of_ble_eq_true rfl) ⟨Nat.le_of_ble_eq_true rfl, Nat.le_of_ble_eq_true rfl⟩ dX6_findingOfMove_2 rfl (kI (fun r3 S1 h => ?_))
  refine v_if_ne X (tgt := 16) dX6_findingOfMove_5 (by decide) (fun c4 => ?_) (fun c4 => ?_)
  · replace h := h.1 c4
    refine v_iconst X (v := 1) dX6_findingOfMove_16 (by decide) ?_
    exact v_iret X hr hlk ⟨_, rfl, h⟩ dX6_findingOfMove_17
  · replace h := h.2 c4
    refine v_aload_n X 0 dX6_findingOfMove_8 rfl rfl ?_
    refine v_iload_n X 3 dX6_findingOfMove_9 rfl rfl ?_
    obtain ⟨hk6, h⟩ := h
    refine v_callV X (av := [.int x3]) (T := TX6) (N := 4) (s_X6_isMissing l b D cy h) hk6 (by decide) rfl wd287 wd288 wd289 wd57 k_X6_isMissing dn_X6_isMissing rfl ⟨Nat.le_of_ble_eq_true rfl, Nat.le_of_ble_eq_true rfl⟩ (Nat.le_of_ble_eq_true rfl) ⟨Nat.le_of_ble_eq_true rfl, Nat.le_of_ble_eq_true rfl⟩ dX6_findingOfMove_10 rfl (kI (fun r7 S5 h => ?_))
    refine v_if_eq X (tgt := 18) dX6_findingOfMove_13 (by decide) (fun c8 => ?_) (fun c8 => ?_)
    · replace h := h.1 c8
      refine v_aload_n X 0 dX6_findingOfMove_18 rfl rfl ?_
      obtain ⟨hk9, h⟩ := h
      obtain ⟨r10, hr10, h⟩ := h
      refine v_getR X (T := TX6) (N := 4) (k := 1) hk9 (by decide) rfl (by decide) inX6 wd90 rfl dX6_findingOfMove_19 hr10 ?_
      refine v_iload_n X 1 dX6_findingOfMove_22 rfl rfl ?_
      obtain ⟨hk11, h⟩ := h
      obtain ⟨hi12, h⟩ := h
      refine v_iald X hk11 hi12 dX6_findingOfMove_23 ?_
      refine v_aload_n X 0 dX6_findingOfMove_24 rfl rfl ?_
      refine v_getR X (T := TX6) (N := 4) (k := 1) hk9 (by decide) rfl (by decide) inX6 wd90 rfl dX6_findingOfMove_25 hr10 ?_
      refine v_iload_n X 3 dX6_findingOfMove_28 rfl rfl ?_
      obtain ⟨hi13, h⟩ := h
      refine v_iald X hk11 hi13 dX6_findingOfMove_29 ?_
      refine v_icmp_eq X (tgt := 35) dX6_findingOfMove_30 (by decide) (fun c14 => ?_) (fun c14 => ?_)
      · replace h := h.1 c14
        refine v_aload_n X 0 dX6_findingOfMove_35 rfl rfl ?_
        refine v_iload_n X 1 dX6_findingOfMove_36 rfl rfl ?_
        refine v_iload_n X 2 dX6_findingOfMove_37 rfl rfl ?_
        refine v_iload X 5 dX6_findingOfMove_38 rfl ?_
        refine v_callV X (av := [.int x1, .int x2, .int x5]) (T := TX6) (N := 4) (s_X6_holds l b D cy h) hk9 (by decide) rfl wd291 wd293 wd2 wd57 k_X6_holds dn_X6_holds rfl ⟨Nat.le_of_ble_eq_true rfl, Nat.le_of_ble_eq_true rfl⟩ (Nat.le_of_ble_eq_true rfl) ⟨Nat.le_of_ble_eq_true rfl, Nat.le_of_ble_eq_true rfl⟩ dX6_findingOfMove_40 rfl (kI (fun r16 S15 h => ?_))
        refine v_if_eq X (tgt := 62) dX6_findingOfMove_43 (by decide) (fun c17 => ?_) (fun c17 => ?_)
        · replace h := h.1 c17
          refine v_iconst X (v := 2) dX6_findingOfMove_62 (by decide) ?_
          exact v_iret X hr hlk ⟨_, rfl, h⟩ dX6_findingOfMove_63
        · replace h := h.2 c17
          refine v_aload_n X 0 dX6_findingOfMove_46 rfl rfl ?_
          refine v_iload_n X 3 dX6_findingOfMove_47 rfl rfl ?_
          refine v_iload X 4 dX6_findingOfMove_48 rfl ?_
          refine v_iload X 5 dX6_findingOfMove_50 rfl ?_
          obtain ⟨hk19, h⟩ := h
          refine v_callV X (av := [.int x3, .int x4, .int x5]) (T := TX6) (N := 4) (s_X6_holds l b D cy h) hk19 (by decide) rfl wd291 wd293 wd2 wd57 k_X6_holds dn_X6_holds rfl ⟨Nat.le_of_ble_eq_true rfl, Nat.le_of_ble_eq_true rfl⟩ (Nat.le_of_ble_eq_true rfl) ⟨Nat.le_of_ble_eq_true rfl, Nat.le_of_ble_eq_true rfl⟩ dX6_findingOfMove_52 rfl (kI (fun r20 S18 h => ?_))
          refine v_if_eq X (tgt := 62) dX6_findingOfMove_55 (by decide) (fun c21 => ?_) (fun c21 => ?_)
          · replace h := h.1 c21
            refine v_iconst X (v := 2) dX6_findingOfMove_62 (by decide) ?_
            exact v_iret X hr hlk ⟨_, rfl, h⟩ dX6_findingOfMove_63
          · replace h := h.2 c21
            refine v_iconst X (v := 0) dX6_findingOfMove_58 (by decide) ?_
            refine v_goto X (tgt := 63) dX6_findingOfMove_59 (by decide) ?_
            exact v_iret X hr hlk ⟨_, rfl, h⟩ dX6_findingOfMove_63
      · replace h := h.2 c14
        refine v_iconst X (v := 5) dX6_findingOfMove_33 (by decide) ?_
        exact v_iret X hr hlk ⟨_, rfl, h⟩ dX6_findingOfMove_34
    · replace h := h.2 c8
      refine v_iconst X (v := 1) dX6_findingOfMove_16 (by decide) ?_
      exact v_iret X hr hlk ⟨_, rfl, h⟩ dX6_findingOfMove_17
def wp_X6_move (Q : hp → Prop) (S : hp) (a0 : Nat) (x1 : Int32) (x2 : Int32) (x3 : Int32) (x4 : Int32) (x5 : Int32) : Prop :=
  hK S a0 = 5 ∧ ∃ r2 : Nat, hR S a0 0 = some r2 ∧ hK S r2 = 16 ∧ vp_in x1 (hN S r2) ∧ ∃ r5 : Nat, hR S r2 (x1).toNatClampNeg = some r5 ∧ vp_in x3 (hN S r2) ∧ ∃ r7 : Nat, hR S r2 (x3).toNatClampNeg = some r7 ∧ hK S r5 = 12 ∧ hK S r7 = 12 ∧ ¬ x2 < 0 ∧ ¬ x4 < 0 ∧ ¬ x5 < 0 ∧ (x2).toNatClampNeg + (x5).toNatClampNeg ≤ hN S r5 ∧ (x4).toNatClampNeg + (x5).toNatClampNeg ≤ hN S r7 ∧ ∀ S15 : hp, S15 = cpyI S r5 r7 (x2).toNatClampNeg (x4).toNatClampNeg (x5).toNatClampNeg → Q S15
theorem k_X6_move : Cond.code yX6_move cX6_move 6 none ∈ gtb := mg 313 (by decide +kernel) (by decide +kernel)
theorem dn_X6_move : yX6_move.cls ≠ "java/lang/invoke/MethodHandle" ∧ yX6_move.cls ≠ "java/lang/invoke/VarHandle" ∧ (parseMethodDescriptor yX6_move.desc).map (fun d => d.parameters.length) = some 5 := by decide +kernel
set_option maxRecDepth 100000 in
set_option maxHeartbeats 4000000 in
theorem s_X6_move (l : Launch) (b : Nat) (D : va_G) (cy : Nat → ClassId) {Q : hp → Prop} {S : hp} {a0 : Nat} {x1 : Int32} {x2 : Int32} {x3 : Int32} {x4 : Int32} {x5 : Int32} (h : wp_X6_move Q S a0 x1 x2 x3 x4 x5) : MT l yX6_move cX6_move 6 none 1 24 0 0 b D cy S [.ref a0, .int x1, .int x2, .int x3, .int x4, .int x5] (pV Q) := by
  refine MT.of (by decide +kernel) (Nat.le_of_ble_eq_true rfl) ?_
  intro p e s m args below meth c X hr hlk hnm
  unfold wp_X6_move at h
  show VM l b D cy 6 1 24 0 0 (pV Q) p e s m args below meth c S 0 0 0 [(0, .ref a0), (1, .int x1), (2, .int x2), (3, .int x3), (4, .int x4), (5, .int x5)] []
  refine v_aload_n X 0 dX6_move_0 rfl rfl ?_
  obtain ⟨hk1, h⟩ := h
  obtain ⟨r2, hr2, h⟩ := h
  refine v_getR X (T := TX6) (N := 4) (k := 0) hk1 (by decide) rfl (by decide) inX6 wd89 rfl dX6_move_1 hr2 ?_
  refine v_iload_n X 1 dX6_move_4 rfl rfl ?_
  obtain ⟨hk3, h⟩ := h
  obtain ⟨hi4, h⟩ := h
  obtain ⟨r5, hr5, h⟩ := h
  refine v_aald16 X hk3 hi4 dX6_move_5 (by rw [hr5] <;> rfl) ?_
  refine v_iload_n X 2 dX6_move_6 rfl rfl ?_
  refine v_aload_n X 0 dX6_move_7 rfl rfl ?_
  refine v_getR X (T := TX6) (N := 4) (k := 0) hk1 (by decide) rfl (by decide) inX6 wd89 rfl dX6_move_8 hr2 ?_
  refine v_iload_n X 3 dX6_move_11 rfl rfl ?_
  obtain ⟨hi6, h⟩ := h
  obtain ⟨r7, hr7, h⟩ := h
  refine v_aald16 X hk3 hi6 dX6_move_12 (by rw [hr7] <;> rfl) ?_
  refine v_iload X 4 dX6_move_13 rfl ?_
  refine v_iload X 5 dX6_move_15 rfl ?_
  obtain ⟨hk8, h⟩ := h
  obtain ⟨hk9, h⟩ := h
  obtain ⟨hz10, h⟩ := h
  obtain ⟨hz11, h⟩ := h
  obtain ⟨hz12, h⟩ := h
  obtain ⟨hz13, h⟩ := h
  obtain ⟨hz14, h⟩ := h
  refine v_copy X hk8 hk9 hz10 hz11 hz12 hz13 hz14 wd314 wd316 wd315 wd64 (Nat.le_of_ble_eq_true rfl) (Nat.le_of_ble_eq_true rfl) dX6_move_17 ?_
  refine v_nmS (fun S15 eS15 => ?_)
  replace h := h S15 eS15
  have hk16 : hK S15 a0 = 5 := by rw [eS15]; exact hk1
  have hk17 : hK S15 r2 = 16 := by rw [eS15]; exact hk3
  have hk18 : hK S15 r5 = 12 := by rw [eS15]; exact hk8
  have hk19 : hK S15 r7 = 12 := by rw [eS15]; exact hk9
  have hi20 : vp_in x1 (hN S15 r2) := by rw [eS15]; exact hi4
  have hi21 : vp_in x3 (hN S15 r2) := by rw [eS15]; exact hi6
  have hr22 : hR S15 a0 0 = some r2 := by rw [eS15]; exact hr2
  exact v_vret X hr hlk ⟨rfl, h⟩ dX6_move_20
def wp_X11_copy (Q : Int32 → hp → Prop) (S : hp) (a0 : Nat) (x1 : Int32) (x2 : Int32) (x3 : Int32) (x4 : Int32) (x5 : Int32) : Prop :=
  wp_X6_isRow (fun r2 S1 => ((r2 = 0 → Q (-1000001 : Int32) S1) ∧ (¬ r2 = 0 → wp_X6_isRow (fun r5 S4 => ((¬ r5 = 0 → hK S4 a0 = 10 ∧ ∃ r8 : Nat, hR S4 a0 0 = some r8 ∧ hK S4 r8 = 5 ∧ wp_X6_findingOfMove (fun r11 S9 => ((r11 = 0 → hK S9 a0 = 10 ∧ ∃ r14 : Nat, hR S9 a0 0 = some r14 ∧ hK S9 r14 = 5 ∧ wp_X6_move (fun S15 => hK S15 a0 = 10 ∧ wp_X11_answered (fun r19 S17 => Q r19 S17) S15 a0 x5) S9 r14 x1 x2 x3 x4 x5) ∧ (¬ r11 = 0 → hK S9 a0 = 10 ∧ wp_X11_found (fun r22 S20 => Q r22 S20) S9 a0 r11))) S4 r8 x1 x2 x3 x4 x5) ∧ (r5 = 0 → Q (-1000001 : Int32) S4))) S1 x3))) S x1
theorem k_X11_copy : Cond.code yX11_copy cX11_copy 7 (some .int) ∈ gtb := mg 305 (by decide +kernel) (by decide +kernel)
theorem dn_X11_copy : yX11_copy.cls ≠ "java/lang/invoke/MethodHandle" ∧ yX11_copy.cls ≠ "java/lang/invoke/VarHandle" ∧ (parseMethodDescriptor yX11_copy.desc).map (fun d => d.parameters.length) = some 5 := by decide +kernel
set_option maxRecDepth 100000 in
set_option maxHeartbeats 4000000 in
theorem s_X11_copy (l : Launch) (b : Nat) (D : va_G) (cy : Nat → ClassId) {Q : Int32 → hp → Prop} {S : hp} {a0 : Nat} {x1 : Int32} {x2 : Int32} {x3 : Int32} {x4 : Int32} {x5 : Int32} (h : wp_X11_copy Q S a0 x1 x2 x3 x4 x5) : MT l yX11_copy cX11_copy 7 (some .int) 2 49 0 0 b D cy S [.ref a0, .int x1, .int x2, .int x3, .int x4, .int x5] (pI Q) := by
  refine MT.of (by decide +kernel) (Nat.le_of_ble_eq_true rfl) ?_
  intro p e s m args below meth c X hr hlk hnm
  unfold wp_X11_copy at h
  show VM l b D cy 7 2 49 0 0 (pI Q) p e s m args below meth c S 0 0 0 [(0, .ref a0), (1, .int x1), (2, .int x2), (3, .int x3), (4, .int x4), (5, .int x5)] []
  refine v_iload_n X 1 dX11_copy_0 rfl rfl ?_
  refine v_callS X (av := [.int x1]) (s_X6_isRow l b D cy h) wd256 wd257 wd57 k_X6_isRow dn_X6_isRow rfl ⟨Nat.le_of_ble_eq_true rfl, Nat.le_of_ble_eq_true rfl⟩ (Nat.le_of_ble_eq_true rfl) ⟨Nat.le_of_ble_eq_true rfl, Nat.le_of_ble_eq_true rfl⟩ dX11_copy_1 rfl (kI (fun r2 S1 h => ?_))
  refine v_if_eq X (tgt := 14) dX11_copy_4 (by decide) (fun c3 => ?_) (fun c3 => ?_)
  · replace h := h.1 c3
    refine v_ldc X wd262 dX11_copy_14 ?_
    exact v_iret X hr hlk ⟨_, rfl, h⟩ dX11_copy_16
  · replace h := h.2 c3
    refine v_iload_n X 3 dX11_copy_7 rfl rfl ?_
    refine v_callS X (av := [.int x3]) (s_X6_isRow l b D cy h) wd256 wd257 wd57 k_X6_isRow dn_X6_isRow rfl ⟨Nat.le_of_ble_eq_true rfl, Nat.le_of_ble_eq_true rfl⟩ (Nat.le_of_ble_eq_true rfl) ⟨Nat.le_of_ble_eq_true rfl, Nat.le_of_ble_eq_true rfl⟩ dX11_copy_8 rfl (kI (fun r5 S4 h => ?_))
    refine v_if_ne X (tgt := 17) dX11_copy_11 (by decide) (fun c6 => ?_) (fun c6 => ?_)
    · replace h := h.1 c6
      refine v_aload_n X 0 dX11_copy_17 rfl rfl ?_
      obtain ⟨hk7, h⟩ := h
      obtain ⟨r8, hr8, h⟩ := h
      refine v_getR X (T := TX11) (N := 12) (k := 0) hk7 (by decide) rfl (by decide) inX11 wd215 rfl dX11_copy_18 hr8 ?_
      refine v_iload_n X 1 dX11_copy_21 rfl rfl ?_
      refine v_iload_n X 2 dX11_copy_22 rfl rfl ?_
      refine v_iload_n X 3 dX11_copy_23 rfl rfl ?_
      refine v_iload X 4 dX11_copy_24 rfl ?_
      refine v_iload X 5 dX11_copy_26 rfl ?_
      obtain ⟨hk10, h⟩ := h
      refine v_callV X (av := [.int x1, .int x2, .int x3, .int x4, .int x5]) (T := TX6) (N := 4) (s_X6_findingOfMove l b D cy h) hk10 (by decide) rfl wd306 wd307 wd308 wd57 k_X6_findingOfMove dn_X6_findingOfMove rfl ⟨Nat.le_of_ble_eq_true rfl, Nat.le_of_ble_eq_true rfl⟩ (Nat.le_of_ble_eq_true rfl) ⟨Nat.le_of_ble_eq_true rfl, Nat.le_of_ble_eq_true rfl⟩ dX11_copy_28 rfl (kI (fun r11 S9 h => ?_))
      refine v_istore X (lv' := [(6, .int r11), (0, .ref a0), (1, .int x1), (2, .int x2), (3, .int x3), (4, .int x4), (5, .int x5)]) dX11_copy_31 (by decide) rfl ?_
      refine v_iload X 0 dX11_copy_33 rfl ?_
      refine v_if_eq X (tgt := 45) dX11_copy_35 (by decide) (fun c12 => ?_) (fun c12 => ?_)
      · replace h := h.1 c12
        refine v_aload_n X 1 dX11_copy_45 rfl rfl ?_
        obtain ⟨hk13, h⟩ := h
        obtain ⟨r14, hr14, h⟩ := h
        refine v_getR X (T := TX11) (N := 12) (k := 0) hk13 (by decide) rfl (by decide) inX11 wd215 rfl dX11_copy_46 hr14 ?_
        refine v_iload_n X 2 dX11_copy_49 rfl rfl ?_
        refine v_iload_n X 3 dX11_copy_50 rfl rfl ?_
        refine v_iload_n X 4 dX11_copy_51 rfl rfl ?_
        refine v_iload X 5 dX11_copy_52 rfl ?_
        refine v_iload X 6 dX11_copy_54 rfl ?_
        obtain ⟨hk16, h⟩ := h
        refine v_callV X (av := [.int x1, .int x2, .int x3, .int x4, .int x5]) (T := TX6) (N := 4) (s_X6_move l b D cy h) hk16 (by decide) rfl wd310 wd311 wd312 wd57 k_X6_move dn_X6_move rfl ⟨Nat.le_of_ble_eq_true rfl, Nat.le_of_ble_eq_true rfl⟩ (Nat.le_of_ble_eq_true rfl) ⟨Nat.le_of_ble_eq_true rfl, Nat.le_of_ble_eq_true rfl⟩ dX11_copy_56 rfl (kV (fun S15 h => ?_))
        refine v_aload_n X 1 dX11_copy_59 rfl rfl ?_
        refine v_iload X 6 dX11_copy_60 rfl ?_
        obtain ⟨hk18, h⟩ := h
        refine v_callV X (av := [.int x5]) (T := TX11) (N := 12) (s_X11_answered l b D cy h) hk18 (by decide) rfl wd275 wd277 wd1 wd56 k_X11_answered dn_X11_answered rfl ⟨Nat.le_of_ble_eq_true rfl, Nat.le_of_ble_eq_true rfl⟩ (Nat.le_of_ble_eq_true rfl) ⟨Nat.le_of_ble_eq_true rfl, Nat.le_of_ble_eq_true rfl⟩ dX11_copy_62 rfl (kI (fun r19 S17 h => ?_))
        exact v_iret X hr hlk ⟨_, rfl, h⟩ dX11_copy_65
      · replace h := h.2 c12
        refine v_aload_n X 1 dX11_copy_38 rfl rfl ?_
        refine v_iload X 0 dX11_copy_39 rfl ?_
        obtain ⟨hk21, h⟩ := h
        refine v_callV X (av := [.int r11]) (T := TX11) (N := 12) (s_X11_found l b D cy h) hk21 (by decide) rfl wd263 wd265 wd0 wd56 k_X11_found dn_X11_found rfl ⟨Nat.le_of_ble_eq_true rfl, Nat.le_of_ble_eq_true rfl⟩ (Nat.le_of_ble_eq_true rfl) ⟨Nat.le_of_ble_eq_true rfl, Nat.le_of_ble_eq_true rfl⟩ dX11_copy_41 rfl (kI (fun r22 S20 h => ?_))
        exact v_iret X hr hlk ⟨_, rfl, h⟩ dX11_copy_44
    · replace h := h.2 c6
      refine v_ldc X wd262 dX11_copy_14 ?_
      exact v_iret X hr hlk ⟨_, rfl, h⟩ dX11_copy_16
def wp_X6_lose (Q : Int32 → hp → Prop) (S : hp) (a0 : Nat) (x1 : Int32) : Prop :=
  hK S a0 = 5 ∧ ∃ r2 : Nat, hR S a0 3 = some r2 ∧ hK S r2 = 13 ∧ vp_in x1 (hN S r2) ∧ ∀ S5 : hp, S5 = setI S r2 (x1).toNatClampNeg (vp_nar .boolean (0 : Int32)) → ∃ r10 : Nat, hR S5 a0 2 = some r10 ∧ hK S5 r10 = 12 ∧ vp_in x1 (hN S5 r10) ∧ Q (hI S5 r10 (x1).toNatClampNeg) S5
theorem k_X6_lose : Cond.code yX6_lose cX6_lose 2 (some .int) ∈ gtb := mg 325 (by decide +kernel) (by decide +kernel)
theorem dn_X6_lose : yX6_lose.cls ≠ "java/lang/invoke/MethodHandle" ∧ yX6_lose.cls ≠ "java/lang/invoke/VarHandle" ∧ (parseMethodDescriptor yX6_lose.desc).map (fun d => d.parameters.length) = some 1 := by decide +kernel
set_option maxRecDepth 100000 in
set_option maxHeartbeats 4000000 in
theorem s_X6_lose (l : Launch) (b : Nat) (D : va_G) (cy : Nat → ClassId) {Q : Int32 → hp → Prop} {S : hp} {a0 : Nat} {x1 : Int32} (h : wp_X6_lose Q S a0 x1) : MT l yX6_lose cX6_lose 2 (some .int) 0 0 0 0 b D cy S [.ref a0, .int x1] (pI Q) := by
  refine MT.of (by decide +kernel) (Nat.le_of_ble_eq_true rfl) ?_
  intro p e s m args below meth c X hr hlk hnm
  unfold wp_X6_lose at h
  show VM l b D cy 2 0 0 0 0 (pI Q) p e s m args below meth c S 0 0 0 [(0, .ref a0), (1, .int x1)] []
  refine v_aload_n X 0 dX6_lose_0 rfl rfl ?_
  obtain ⟨hk1, h⟩ := h
  obtain ⟨r2, hr2, h⟩ := h
  refine v_getR X (T := TX6) (N := 4) (k := 3) hk1 (by decide) rfl (by decide) inX6 wd92 rfl dX6_lose_1 hr2 ?_
  refine v_iload_n X 1 dX6_lose_4 rfl rfl ?_
  refine v_iconst X (v := 0) dX6_lose_5 (by decide) ?_
  obtain ⟨hk3, h⟩ := h
  obtain ⟨hi4, h⟩ := h
  refine v_zast X hk3 hi4 dX6_lose_6 ?_
  refine v_nmS (fun S5 eS5 => ?_)
  replace h := h S5 eS5
  have hk6 : hK S5 a0 = 5 := by rw [eS5]; exact hk1
  have hk7 : hK S5 r2 = 13 := by rw [eS5]; exact hk3
  have hi8 : vp_in x1 (hN S5 r2) := by rw [eS5]; exact hi4
  have hr9 : hR S5 a0 3 = some r2 := by rw [eS5]; exact hr2
  refine v_aload_n X 0 dX6_lose_7 rfl rfl ?_
  obtain ⟨r10, hr10, h⟩ := h
  refine v_getR X (T := TX6) (N := 4) (k := 2) hk6 (by decide) rfl (by decide) inX6 wd91 rfl dX6_lose_8 hr10 ?_
  refine v_iload_n X 1 dX6_lose_11 rfl rfl ?_
  obtain ⟨hk11, h⟩ := h
  obtain ⟨hi12, h⟩ := h
  refine v_iald X hk11 hi12 dX6_lose_12 ?_
  exact v_iret X hr hlk ⟨_, rfl, h⟩ dX6_lose_13
def wp_X11_drop (Q : Int32 → hp → Prop) (S : hp) (a0 : Nat) (x1 : Int32) : Prop :=
  wp_X6_isRow (fun r2 S1 => ((¬ r2 = 0 → hK S1 a0 = 10 ∧ ∃ r5 : Nat, hR S1 a0 0 = some r5 ∧ hK S1 r5 = 5 ∧ wp_X6_isMissing (fun r8 S6 => ((r8 = 0 → hK S6 a0 = 10 ∧ ∃ r11 : Nat, hR S6 a0 0 = some r11 ∧ hK S6 r11 = 5 ∧ wp_X6_lose (fun r14 S12 => hK S12 a0 = 10 ∧ wp_X11_answered (fun r17 S15 => Q r17 S15) S12 a0 r14) S6 r11 x1) ∧ (¬ r8 = 0 → hK S6 a0 = 10 ∧ wp_X11_found (fun r20 S18 => Q r20 S18) S6 a0 (1 : Int32)))) S1 r5 x1) ∧ (r2 = 0 → Q (-1000001 : Int32) S1))) S x1
theorem k_X11_drop : Cond.code yX11_drop cX11_drop 2 (some .int) ∈ gtb := mg 320 (by decide +kernel) (by decide +kernel)
theorem dn_X11_drop : yX11_drop.cls ≠ "java/lang/invoke/MethodHandle" ∧ yX11_drop.cls ≠ "java/lang/invoke/VarHandle" ∧ (parseMethodDescriptor yX11_drop.desc).map (fun d => d.parameters.length) = some 1 := by decide +kernel
set_option maxRecDepth 100000 in
set_option maxHeartbeats 4000000 in
theorem s_X11_drop (l : Launch) (b : Nat) (D : va_G) (cy : Nat → ClassId) {Q : Int32 → hp → Prop} {S : hp} {a0 : Nat} {x1 : Int32} (h : wp_X11_drop Q S a0 x1) : MT l yX11_drop cX11_drop 2 (some .int) 1 21 0 0 b D cy S [.ref a0, .int x1] (pI Q) := by
  refine MT.of (by decide +kernel) (Nat.le_of_ble_eq_true rfl) ?_
  intro p e s m args below meth c X hr hlk hnm
  unfold wp_X11_drop at h
  show VM l b D cy 2 1 21 0 0 (pI Q) p e s m args below meth c S 0 0 0 [(0, .ref a0), (1, .int x1)] []
  refine v_iload_n X 1 dX11_drop_0 rfl rfl ?_
  refine v_callS X (av := [.int x1]) (s_X6_isRow l b D cy h) wd256 wd257 wd57 k_X6_isRow dn_X6_isRow rfl ⟨Nat.le_of_ble_eq_true rfl, Nat.le_of_ble_eq_true rfl⟩ (Nat.le_of_ble_eq_true rfl) ⟨Nat.le_of_ble_eq_true rfl, Nat.le_of_ble_eq_true rfl⟩ dX11_drop_1 rfl (kI (fun r2 S1 h => ?_))
  refine v_if_ne X (tgt := 10) dX11_drop_4 (by decide) (fun c3 => ?_) (fun c3 => ?_)
  · replace h := h.1 c3
    refine v_aload_n X 0 dX11_drop_10 rfl rfl ?_
    obtain ⟨hk4, h⟩ := h
    obtain ⟨r5, hr5, h⟩ := h
    refine v_getR X (T := TX11) (N := 12) (k := 0) hk4 (by decide) rfl (by decide) inX11 wd215 rfl dX11_drop_11 hr5 ?_
    refine v_iload_n X 1 dX11_drop_14 rfl rfl ?_
    obtain ⟨hk7, h⟩ := h
    refine v_callV X (av := [.int x1]) (T := TX6) (N := 4) (s_X6_isMissing l b D cy h) hk7 (by decide) rfl wd321 wd288 wd289 wd57 k_X6_isMissing dn_X6_isMissing rfl ⟨Nat.le_of_ble_eq_true rfl, Nat.le_of_ble_eq_true rfl⟩ (Nat.le_of_ble_eq_true rfl) ⟨Nat.le_of_ble_eq_true rfl, Nat.le_of_ble_eq_true rfl⟩ dX11_drop_15 rfl (kI (fun r8 S6 h => ?_))
    refine v_if_eq X (tgt := 27) dX11_drop_18 (by decide) (fun c9 => ?_) (fun c9 => ?_)
    · replace h := h.1 c9
      refine v_aload_n X 0 dX11_drop_27 rfl rfl ?_
      refine v_aload_n X 0 dX11_drop_28 rfl rfl ?_
      obtain ⟨hk10, h⟩ := h
      obtain ⟨r11, hr11, h⟩ := h
      refine v_getR X (T := TX11) (N := 12) (k := 0) hk10 (by decide) rfl (by decide) inX11 wd215 rfl dX11_drop_29 hr11 ?_
      refine v_iload_n X 1 dX11_drop_32 rfl rfl ?_
      obtain ⟨hk13, h⟩ := h
      refine v_callV X (av := [.int x1]) (T := TX6) (N := 4) (s_X6_lose l b D cy h) hk13 (by decide) rfl wd322 wd323 wd324 wd57 k_X6_lose dn_X6_lose rfl ⟨Nat.le_of_ble_eq_true rfl, Nat.le_of_ble_eq_true rfl⟩ (Nat.le_of_ble_eq_true rfl) ⟨Nat.le_of_ble_eq_true rfl, Nat.le_of_ble_eq_true rfl⟩ dX11_drop_33 rfl (kI (fun r14 S12 h => ?_))
      obtain ⟨hk16, h⟩ := h
      refine v_callV X (av := [.int r14]) (T := TX11) (N := 12) (s_X11_answered l b D cy h) hk16 (by decide) rfl wd275 wd277 wd1 wd56 k_X11_answered dn_X11_answered rfl ⟨Nat.le_of_ble_eq_true rfl, Nat.le_of_ble_eq_true rfl⟩ (Nat.le_of_ble_eq_true rfl) ⟨Nat.le_of_ble_eq_true rfl, Nat.le_of_ble_eq_true rfl⟩ dX11_drop_36 rfl (kI (fun r17 S15 h => ?_))
      exact v_iret X hr hlk ⟨_, rfl, h⟩ dX11_drop_39
    · replace h := h.2 c9
      refine v_aload_n X 0 dX11_drop_21 rfl rfl ?_
      refine v_iconst X (v := 1) dX11_drop_22 (by decide) ?_
      obtain ⟨hk19, h⟩ := h
      refine v_callV X (av := [.int (1 : Int32)]) (T := TX11) (N := 12) (s_X11_found l b D cy h) hk19 (by decide) rfl wd263 wd265 wd0 wd56 k_X11_found dn_X11_found rfl ⟨Nat.le_of_ble_eq_true rfl, Nat.le_of_ble_eq_true rfl⟩ (Nat.le_of_ble_eq_true rfl) ⟨Nat.le_of_ble_eq_true rfl, Nat.le_of_ble_eq_true rfl⟩ dX11_drop_23 rfl (kI (fun r20 S18 h => ?_))
      exact v_iret X hr hlk ⟨_, rfl, h⟩ dX11_drop_26
  · replace h := h.2 c3
    refine v_ldc X wd262 dX11_drop_7 ?_
    exact v_iret X hr hlk ⟨_, rfl, h⟩ dX11_drop_9
def wp_X9_isFull (Q : Int32 → hp → Prop) (S : hp) (a0 : Nat) : Prop :=
  hK S a0 = 8 ∧ (((hI S a0 1) < (140 : Int32) → Q (0 : Int32) S) ∧ (¬ (hI S a0 1) < (140 : Int32) → Q (1 : Int32) S))
theorem k_X9_isFull : Cond.code yX9_isFull cX9_isFull 1 (some .boolean) ∈ gtb := mg 333 (by decide +kernel) (by decide +kernel)
theorem dn_X9_isFull : yX9_isFull.cls ≠ "java/lang/invoke/MethodHandle" ∧ yX9_isFull.cls ≠ "java/lang/invoke/VarHandle" ∧ (parseMethodDescriptor yX9_isFull.desc).map (fun d => d.parameters.length) = some 0 := by decide +kernel
set_option maxRecDepth 100000 in
set_option maxHeartbeats 4000000 in
theorem s_X9_isFull (l : Launch) (b : Nat) (D : va_G) (cy : Nat → ClassId) {Q : Int32 → hp → Prop} {S : hp} {a0 : Nat} (h : wp_X9_isFull Q S a0) : MT l yX9_isFull cX9_isFull 1 (some .boolean) 0 0 0 0 b D cy S [.ref a0] (pI Q) := by
  refine MT.of (by decide +kernel) (Nat.le_of_ble_eq_true rfl) ?_
  intro p e s m args below meth c X hr hlk hnm
  unfold wp_X9_isFull at h
  show VM l b D cy 1 0 0 0 0 (pI Q) p e s m args below meth c S 0 0 0 [(0, .ref a0)] []
  refine v_aload_n X 0 dX9_isFull_0 rfl rfl ?_
  obtain ⟨hk1, h⟩ := h
  refine v_getI X (T := TX9) (N := 6) (k := 1) hk1 (by decide) rfl (by decide) inX9 wd111 rfl dX9_isFull_1 ?_
  refine v_sipush X (v := 140) dX9_isFull_4 (by decide) ?_
  refine v_icmp_lt X (tgt := 14) dX9_isFull_7 (by decide) (fun c2 => ?_) (fun c2 => ?_)
  · replace h := h.1 c2
    refine v_iconst X (v := 0) dX9_isFull_14 (by decide) ?_
    exact v_zret X hr (by decide) hlk ⟨_, rfl, h⟩ dX9_isFull_15
  · replace h := h.2 c2
    refine v_iconst X (v := 1) dX9_isFull_10 (by decide) ?_
    refine v_goto X (tgt := 15) dX9_isFull_11 (by decide) ?_
    exact v_zret X hr (by decide) hlk ⟨_, rfl, h⟩ dX9_isFull_15
def wp_X9_add (Q : Int32 → hp → Prop) (S : hp) (a0 : Nat) (x1 : Int32) : Prop :=
  hK S a0 = 8 ∧ ∃ r2 : Nat, hR S a0 0 = some r2 ∧ hK S r2 = 12 ∧ vp_in (hI S a0 1) (hN S r2) ∧ ∀ S5 : hp, S5 = setI S r2 ((hI S a0 1)).toNatClampNeg x1 → ∀ S10 : hp, S10 = setI S5 a0 1 ((hI S5 a0 1) + (1 : Int32)) → Q (hI S10 a0 1) S10
theorem k_X9_add : Cond.code yX9_add cX9_add 2 (some .int) ∈ gtb := mg 338 (by decide +kernel) (by decide +kernel)
theorem dn_X9_add : yX9_add.cls ≠ "java/lang/invoke/MethodHandle" ∧ yX9_add.cls ≠ "java/lang/invoke/VarHandle" ∧ (parseMethodDescriptor yX9_add.desc).map (fun d => d.parameters.length) = some 1 := by decide +kernel
set_option maxRecDepth 100000 in
set_option maxHeartbeats 4000000 in
theorem s_X9_add (l : Launch) (b : Nat) (D : va_G) (cy : Nat → ClassId) {Q : Int32 → hp → Prop} {S : hp} {a0 : Nat} {x1 : Int32} (h : wp_X9_add Q S a0 x1) : MT l yX9_add cX9_add 2 (some .int) 0 0 0 0 b D cy S [.ref a0, .int x1] (pI Q) := by
  refine MT.of (by decide +kernel) (Nat.le_of_ble_eq_true rfl) ?_
  intro p e s m args below meth c X hr hlk hnm
  unfold wp_X9_add at h
  show VM l b D cy 2 0 0 0 0 (pI Q) p e s m args below meth c S 0 0 0 [(0, .ref a0), (1, .int x1)] []
  refine v_aload_n X 0 dX9_add_0 rfl rfl ?_
  obtain ⟨hk1, h⟩ := h
  obtain ⟨r2, hr2, h⟩ := h
  refine v_getR X (T := TX9) (N := 6) (k := 0) hk1 (by decide) rfl (by decide) inX9 wd110 rfl dX9_add_1 hr2 ?_
  refine v_aload_n X 0 dX9_add_4 rfl rfl ?_
  refine v_getI X (T := TX9) (N := 6) (k := 1) hk1 (by decide) rfl (by decide) inX9 wd111 rfl dX9_add_5 ?_
  refine v_iload_n X 1 dX9_add_8 rfl rfl ?_
  obtain ⟨hk3, h⟩ := h
  obtain ⟨hi4, h⟩ := h
  refine v_iast X hk3 hi4 dX9_add_9 ?_
  refine v_nmS (fun S5 eS5 => ?_)
  replace h := h S5 eS5
  have hk6 : hK S5 a0 = 8 := by rw [eS5]; exact hk1
  have hk7 : hK S5 r2 = 12 := by rw [eS5]; exact hk3
  have hi8 : vp_in (hI S a0 1) (hN S5 r2) := by rw [eS5]; exact hi4
  have hr9 : hR S5 a0 0 = some r2 := by rw [eS5]; exact hr2
  refine v_aload_n X 0 dX9_add_10 rfl rfl ?_
  refine v_dup X dX9_add_11 rfl ?_
  refine v_getI X (T := TX9) (N := 6) (k := 1) hk6 (by decide) rfl (by decide) inX9 wd111 rfl dX9_add_12 ?_
  refine v_iconst X (v := 1) dX9_add_15 (by decide) ?_
  refine v_iadd X dX9_add_16 ?_
  refine v_putI X (T := TX9) (N := 6) (k := 1) hk6 (by decide) rfl (by decide) inX9 wd111 tyX9 tyX9_ok nmX9 rfl rfl rfl rfl dX9_add_17 ?_
  refine v_nmS (fun S10 eS10 => ?_)
  replace h := h S10 eS10
  have hk11 : hK S10 a0 = 8 := by rw [eS10]; exact hk6
  have hk12 : hK S10 r2 = 12 := by rw [eS10]; exact hk7
  have hi13 : vp_in (hI S a0 1) (hN S10 r2) := by rw [eS10]; exact hi8
  have hr14 : hR S10 a0 0 = some r2 := by rw [eS10]; exact hr9
  refine v_aload_n X 0 dX9_add_20 rfl rfl ?_
  refine v_getI X (T := TX9) (N := 6) (k := 1) hk11 (by decide) rfl (by decide) inX9 wd111 rfl dX9_add_21 ?_
  exact v_iret X hr hlk ⟨_, rfl, h⟩ dX9_add_24
def wp_X11_feed (Q : Int32 → hp → Prop) (S : hp) (a0 : Nat) (x1 : Int32) : Prop :=
  ((x1 < 0 → Q (-1000001 : Int32) S) ∧ (¬ x1 < 0 → ((x1 ≤ (255 : Int32) → hK S a0 = 10 ∧ ∃ r4 : Nat, hR S a0 1 = some r4 ∧ hK S r4 = 8 ∧ wp_X9_isFull (fun r7 S5 => ((r7 = 0 → hK S5 a0 = 10 ∧ ∃ r10 : Nat, hR S5 a0 1 = some r10 ∧ hK S5 r10 = 8 ∧ wp_X9_add (fun r13 S11 => Q r13 S11) S5 r10 x1) ∧ (¬ r7 = 0 → Q (-1000003 : Int32) S5))) S r4) ∧ (¬ x1 ≤ (255 : Int32) → Q (-1000001 : Int32) S))))
theorem k_X11_feed : Cond.code yX11_feed cX11_feed 2 (some .int) ∈ gtb := mg 329 (by decide +kernel) (by decide +kernel)
theorem dn_X11_feed : yX11_feed.cls ≠ "java/lang/invoke/MethodHandle" ∧ yX11_feed.cls ≠ "java/lang/invoke/VarHandle" ∧ (parseMethodDescriptor yX11_feed.desc).map (fun d => d.parameters.length) = some 1 := by decide +kernel
set_option maxRecDepth 100000 in
set_option maxHeartbeats 4000000 in
theorem s_X11_feed (l : Launch) (b : Nat) (D : va_G) (cy : Nat → ClassId) {Q : Int32 → hp → Prop} {S : hp} {a0 : Nat} {x1 : Int32} (h : wp_X11_feed Q S a0 x1) : MT l yX11_feed cX11_feed 2 (some .int) 1 21 0 0 b D cy S [.ref a0, .int x1] (pI Q) := by
  refine MT.of (by decide +kernel) (Nat.le_of_ble_eq_true rfl) ?_
  intro p e s m args below meth c X hr hlk hnm
  unfold wp_X11_feed at h
  show VM l b D cy 2 1 21 0 0 (pI Q) p e s m args below meth c S 0 0 0 [(0, .ref a0), (1, .int x1)] []
  refine v_iload_n X 1 dX11_feed_0 rfl rfl ?_
  refine v_if_lt X (tgt := 11) dX11_feed_1 (by decide) (fun c1 => ?_) (fun c1 => ?_)
  · replace h := h.1 c1
    refine v_ldc X wd262 dX11_feed_11 ?_
    exact v_iret X hr hlk ⟨_, rfl, h⟩ dX11_feed_13
  · replace h := h.2 c1
    refine v_iload_n X 1 dX11_feed_4 rfl rfl ?_
    refine v_sipush X (v := 255) dX11_feed_5 (by decide) ?_
    refine v_icmp_le X (tgt := 14) dX11_feed_8 (by decide) (fun c2 => ?_) (fun c2 => ?_)
    · replace h := h.1 c2
      refine v_aload_n X 0 dX11_feed_14 rfl rfl ?_
      obtain ⟨hk3, h⟩ := h
      obtain ⟨r4, hr4, h⟩ := h
      refine v_getR X (T := TX11) (N := 12) (k := 1) hk3 (by decide) rfl (by decide) inX11 wd216 rfl dX11_feed_15 hr4 ?_
      obtain ⟨hk6, h⟩ := h
      refine v_callV X (av := []) (T := TX9) (N := 6) (s_X9_isFull l b D cy h) hk6 (by decide) rfl wd330 wd331 wd332 wd58 k_X9_isFull dn_X9_isFull rfl ⟨Nat.le_of_ble_eq_true rfl, Nat.le_of_ble_eq_true rfl⟩ (Nat.le_of_ble_eq_true rfl) ⟨Nat.le_of_ble_eq_true rfl, Nat.le_of_ble_eq_true rfl⟩ dX11_feed_18 rfl (kI (fun r7 S5 h => ?_))
      refine v_if_eq X (tgt := 27) dX11_feed_21 (by decide) (fun c8 => ?_) (fun c8 => ?_)
      · replace h := h.1 c8
        refine v_aload_n X 0 dX11_feed_27 rfl rfl ?_
        obtain ⟨hk9, h⟩ := h
        obtain ⟨r10, hr10, h⟩ := h
        refine v_getR X (T := TX11) (N := 12) (k := 1) hk9 (by decide) rfl (by decide) inX11 wd216 rfl dX11_feed_28 hr10 ?_
        refine v_iload_n X 1 dX11_feed_31 rfl rfl ?_
        obtain ⟨hk12, h⟩ := h
        refine v_callV X (av := [.int x1]) (T := TX9) (N := 6) (s_X9_add l b D cy h) hk12 (by decide) rfl wd335 wd336 wd337 wd58 k_X9_add dn_X9_add rfl ⟨Nat.le_of_ble_eq_true rfl, Nat.le_of_ble_eq_true rfl⟩ (Nat.le_of_ble_eq_true rfl) ⟨Nat.le_of_ble_eq_true rfl, Nat.le_of_ble_eq_true rfl⟩ dX11_feed_32 rfl (kI (fun r13 S11 h => ?_))
        exact v_iret X hr hlk ⟨_, rfl, h⟩ dX11_feed_35
      · replace h := h.2 c8
        refine v_ldc X wd334 dX11_feed_24 ?_
        exact v_iret X hr hlk ⟨_, rfl, h⟩ dX11_feed_26
    · replace h := h.2 c2
      refine v_ldc X wd262 dX11_feed_11 ?_
      exact v_iret X hr hlk ⟨_, rfl, h⟩ dX11_feed_13
def wp_X8_empty (Q : hp → Prop) (S : hp) (a0 : Nat) : Prop :=
  hK S a0 = 7 ∧ ∀ S2 : hp, S2 = setI S a0 5 (1 : Int32) → ∀ S4 : hp, S4 = setI S2 a0 7 (0 : Int32) → ∀ S6 : hp, S6 = setI S4 a0 8 (0 : Int32) → ∀ S8 : hp, S8 = setI S6 a0 9 (0 : Int32) → Q S8
theorem k_X8_empty : Cond.code yX8_empty cX8_empty 1 none ∈ gtb := mg 350 (by decide +kernel) (by decide +kernel)
theorem dn_X8_empty : yX8_empty.cls ≠ "java/lang/invoke/MethodHandle" ∧ yX8_empty.cls ≠ "java/lang/invoke/VarHandle" ∧ (parseMethodDescriptor yX8_empty.desc).map (fun d => d.parameters.length) = some 0 := by decide +kernel
set_option maxRecDepth 100000 in
set_option maxHeartbeats 4000000 in
theorem s_X8_empty (l : Launch) (b : Nat) (D : va_G) (cy : Nat → ClassId) {Q : hp → Prop} {S : hp} {a0 : Nat} (h : wp_X8_empty Q S a0) : MT l yX8_empty cX8_empty 1 none 0 0 0 0 b D cy S [.ref a0] (pV Q) := by
  refine MT.of (by decide +kernel) (Nat.le_of_ble_eq_true rfl) ?_
  intro p e s m args below meth c X hr hlk hnm
  unfold wp_X8_empty at h
  show VM l b D cy 1 0 0 0 0 (pV Q) p e s m args below meth c S 0 0 0 [(0, .ref a0)] []
  refine v_aload_n X 0 dX8_empty_0 rfl rfl ?_
  refine v_iconst X (v := 1) dX8_empty_1 (by decide) ?_
  obtain ⟨hk1, h⟩ := h
  refine v_putI X (T := TX8) (N := 10) (k := 5) hk1 (by decide) rfl (by decide) inX8 wd149 tyX8 tyX8_ok nmX8 rfl rfl (nz (by decide)) (fz (by decide)) dX8_empty_2 ?_
  refine v_nmS (fun S2 eS2 => ?_)
  replace h := h S2 eS2
  have hk3 : hK S2 a0 = 7 := by rw [eS2]; exact hk1
  refine v_aload_n X 0 dX8_empty_5 rfl rfl ?_
  refine v_iconst X (v := 0) dX8_empty_6 (by decide) ?_
  refine v_putI X (T := TX8) (N := 10) (k := 7) hk3 (by decide) rfl (by decide) inX8 wd153 tyX8 tyX8_ok nmX8 rfl rfl rfl rfl dX8_empty_7 ?_
  refine v_nmS (fun S4 eS4 => ?_)
  replace h := h S4 eS4
  have hk5 : hK S4 a0 = 7 := by rw [eS4]; exact hk3
  refine v_aload_n X 0 dX8_empty_10 rfl rfl ?_
  refine v_iconst X (v := 0) dX8_empty_11 (by decide) ?_
  refine v_putI X (T := TX8) (N := 10) (k := 8) hk5 (by decide) rfl (by decide) inX8 wd158 tyX8 tyX8_ok nmX8 rfl rfl rfl rfl dX8_empty_12 ?_
  refine v_nmS (fun S6 eS6 => ?_)
  replace h := h S6 eS6
  have hk7 : hK S6 a0 = 7 := by rw [eS6]; exact hk5
  refine v_aload_n X 0 dX8_empty_15 rfl rfl ?_
  refine v_iconst X (v := 0) dX8_empty_16 (by decide) ?_
  refine v_putI X (T := TX8) (N := 10) (k := 9) hk7 (by decide) rfl (by decide) inX8 wd161 tyX8 tyX8_ok nmX8 rfl rfl rfl rfl dX8_empty_17 ?_
  refine v_nmS (fun S8 eS8 => ?_)
  replace h := h S8 eS8
  have hk9 : hK S8 a0 = 7 := by rw [eS8]; exact hk7
  exact v_vret X hr hlk ⟨rfl, h⟩ dX8_empty_20
