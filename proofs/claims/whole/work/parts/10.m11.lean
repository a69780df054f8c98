def wp_X12_logs (Q : hp → Prop) (S : hp) (a0 : Nat) (x1 : Int32) (x2 : Int32) (x3 : Int32) (x4 : Int32) (x5 : Int32) (x6 : Int32) : Prop :=
  hK S a0 = 11 ∧ ∃ r2 : Nat, hR S a0 5 = some r2 ∧ hK S r2 = 12 ∧ vp_in (4 : Int32) (hN S r2) ∧ ∀ v5 : Int32, v5 = ((51 : Int32) + ((6 : Int32) * (hI S r2 ((4 : Int32)).toNatClampNeg))) → vp_in v5 (hN S r2) ∧ ∀ S7 : hp, S7 = setI S r2 (v5).toNatClampNeg x1 → vp_in (v5 + (1 : Int32)) (hN S7 r2) ∧ ∀ S14 : hp, S14 = setI S7 r2 ((v5 + (1 : Int32))).toNatClampNeg x2 → vp_in (v5 + (2 : Int32)) (hN S14 r2) ∧ ∀ S22 : hp, S22 = setI S14 r2 ((v5 + (2 : Int32))).toNatClampNeg x3 → vp_in (v5 + (3 : Int32)) (hN S22 r2) ∧ ∀ S31 : hp, S31 = setI S22 r2 ((v5 + (3 : Int32))).toNatClampNeg x4 → vp_in (v5 + (4 : Int32)) (hN S31 r2) ∧ ∀ S41 : hp, S41 = setI S31 r2 ((v5 + (4 : Int32))).toNatClampNeg x5 → vp_in (v5 + (5 : Int32)) (hN S41 r2) ∧ ∀ S52 : hp, S52 = setI S41 r2 ((v5 + (5 : Int32))).toNatClampNeg x6 → ∀ S63 : hp, S63 = setI S52 r2 ((4 : Int32)).toNatClampNeg ((hI S52 r2 ((4 : Int32)).toNatClampNeg) + (1 : Int32)) → Q S63
theorem k_X12_logs : Cond.code yX12_logs cX12_logs 8 none ∈ gtb := mg 1145 (by decide +kernel) (by decide +kernel)
theorem dn_X12_logs : yX12_logs.cls ≠ "java/lang/invoke/MethodHandle" ∧ yX12_logs.cls ≠ "java/lang/invoke/VarHandle" ∧ (parseMethodDescriptor yX12_logs.desc).map (fun d => d.parameters.length) = some 6 := by decide +kernel
set_option maxRecDepth 100000 in
set_option maxHeartbeats 4000000 in
theorem s_X12_logs (l : Launch) (b : Nat) (D : va_G) (cy : Nat → ClassId) {Q : hp → Prop} {S : hp} {a0 : Nat} {x1 : Int32} {x2 : Int32} {x3 : Int32} {x4 : Int32} {x5 : Int32} {x6 : Int32} (h : wp_X12_logs Q S a0 x1 x2 x3 x4 x5 x6) : MT l yX12_logs cX12_logs 8 none 0 0 0 0 b D cy S [.ref a0, .int x1, .int x2, .int x3, .int x4, .int x5, .int x6] (pV Q) := by
  refine MT.of (by decide +kernel) (Nat.le_of_ble_eq_true rfl) ?_
  intro p e s m args below meth c X hr hlk hnm
  unfold wp_X12_logs at h
  show VM l b D cy 8 0 0 0 0 (pV Q) p e s m args below meth c S 0 0 0 [(0, .ref a0), (1, .int x1), (2, .int x2), (3, .int x3), (4, .int x4), (5, .int x5), (6, .int x6)] []
  refine v_bipush X (v := 51) dX12_logs_0 (by decide) ?_
  refine v_bipush X (v := 6) dX12_logs_2 (by decide) ?_
  refine v_aload_n X 0 dX12_logs_4 rfl rfl ?_
  obtain ⟨hk1, h⟩ := h
  obtain ⟨r2, hr2, h⟩ := h
  refine v_getR X (T := TX12) (N := 26) (k := 5) hk1 (by decide) rfl (by decide) inX12 wd944 rfl dX12_logs_5 hr2 ?_
  refine v_iconst X (v := 4) dX12_logs_8 (by decide) ?_
  obtain ⟨hk3, h⟩ := h
  obtain ⟨hi4, h⟩ := h
  refine v_iald X hk3 hi4 dX12_logs_9 ?_
  refine v_imul X dX12_logs_10 ?_
  refine v_iadd X dX12_logs_11 ?_
  refine v_nm (fun v5 hv5 => ?_)
  replace h := h v5 hv5
  refine v_istore X (lv' := [(7, .int v5), (0, .ref a0), (1, .int x1), (2, .int x2), (3, .int x3), (4, .int x4), (5, .int x5), (6, .int x6)]) dX12_logs_12 (by decide) rfl ?_
  refine v_aload_n X 1 dX12_logs_14 rfl rfl ?_
  refine v_getR X (T := TX12) (N := 26) (k := 5) hk1 (by decide) rfl (by decide) inX12 wd944 rfl dX12_logs_15 hr2 ?_
  refine v_iload X 0 dX12_logs_18 rfl ?_
  refine v_iload_n X 2 dX12_logs_20 rfl rfl ?_
  obtain ⟨hi6, h⟩ := h
  refine v_iast X hk3 hi6 dX12_logs_21 ?_
  refine v_nmS (fun S7 eS7 => ?_)
  replace h := h S7 eS7
  have hk8 : hK S7 a0 = 11 := by rw [eS7]; exact hk1
  have hk9 : hK S7 r2 = 12 := by rw [eS7]; exact hk3
  have hi10 : vp_in (4 : Int32) (hN S7 r2) := by rw [eS7]; exact hi4
  have hi11 : vp_in v5 (hN S7 r2) := by rw [eS7]; exact hi6
  have hr12 : hR S7 a0 5 = some r2 := by rw [eS7]; exact hr2
  refine v_aload_n X 1 dX12_logs_22 rfl rfl ?_
  refine v_getR X (T := TX12) (N := 26) (k := 5) hk8 (by decide) rfl (by decide) inX12 wd944 rfl dX12_logs_23 hr12 ?_
  refine v_iload X 0 dX12_logs_26 rfl ?_
  refine v_iconst X (v := 1) dX12_logs_28 (by decide) ?_
  refine v_iadd X dX12_logs_29 ?_
  refine v_iload_n X 3 dX12_logs_30 rfl rfl ?_
  obtain ⟨hi13, h⟩ := h
  refine v_iast X hk9 hi13 dX12_logs_31 ?_
  refine v_nmS (fun S14 eS14 => ?_)
  replace h := h S14 eS14
  have hk15 : hK S14 a0 = 11 := by rw [eS14]; exact hk8
  have hk16 : hK S14 r2 = 12 := by rw [eS14]; exact hk9
  have hi17 : vp_in (4 : Int32) (hN S14 r2) := by rw [eS14]; exact hi10
  have hi18 : vp_in v5 (hN S14 r2) := by rw [eS14]; exact hi11
  have hi19 : vp_in (v5 + (1 : Int32)) (hN S14 r2) := by rw [eS14]; exact hi13
  have hr20 : hR S14 a0 5 = some r2 := by rw [eS14]; exact hr12
  refine v_aload_n X 1 dX12_logs_32 rfl rfl ?_
  refine v_getR X (T := TX12) (N := 26) (k := 5) hk15 (by decide) rfl (by decide) inX12 wd944 rfl dX12_logs_33 hr20 ?_
  refine v_iload X 0 dX12_logs_36 rfl ?_
  refine v_iconst X (v := 2) dX12_logs_38 (by decide) ?_
  refine v_iadd X dX12_logs_39 ?_
  refine v_iload_n X 4 dX12_logs_40 rfl rfl ?_
  obtain ⟨hi21, h⟩ := h
  refine v_iast X hk16 hi21 dX12_logs_41 ?_
  refine v_nmS (fun S22 eS22 => ?_)
  replace h := h S22 eS22
  have hk23 : hK S22 a0 = 11 := by rw [eS22]; exact hk15
  have hk24 : hK S22 r2 = 12 := by rw [eS22]; exact hk16
  have hi25 : vp_in (4 : Int32) (hN S22 r2) := by rw [eS22]; exact hi17
  have hi26 : vp_in v5 (hN S22 r2) := by rw [eS22]; exact hi18
  have hi27 : vp_in (v5 + (1 : Int32)) (hN S22 r2) := by rw [eS22]; exact hi19
  have hi28 : vp_in (v5 + (2 : Int32)) (hN S22 r2) := by rw [eS22]; exact hi21
  have hr29 : hR S22 a0 5 = some r2 := by rw [eS22]; exact hr20
  refine v_aload_n X 1 dX12_logs_42 rfl rfl ?_
  refine v_getR X (T := TX12) (N := 26) (k := 5) hk23 (by decide) rfl (by decide) inX12 wd944 rfl dX12_logs_43 hr29 ?_
  refine v_iload X 0 dX12_logs_46 rfl ?_
  refine v_iconst X (v := 3) dX12_logs_48 (by decide) ?_
  refine v_iadd X dX12_logs_49 ?_
  refine v_iload X 5 dX12_logs_50 rfl ?_
  obtain ⟨hi30, h⟩ := h
  refine v_iast X hk24 hi30 dX12_logs_52 ?_
  refine v_nmS (fun S31 eS31 => ?_)
  replace h := h S31 eS31
  have hk32 : hK S31 a0 = 11 := by rw [eS31]; exact hk23
  have hk33 : hK S31 r2 = 12 := by rw [eS31]; exact hk24
  have hi34 : vp_in (4 : Int32) (hN S31 r2) := by rw [eS31]; exact hi25
  have hi35 : vp_in v5 (hN S31 r2) := by rw [eS31]; exact hi26
  have hi36 : vp_in (v5 + (1 : Int32)) (hN S31 r2) := by rw [eS31]; exact hi27
  have hi37 : vp_in (v5 + (2 : Int32)) (hN S31 r2) := by rw [eS31]; exact hi28
  have hi38 : vp_in (v5 + (3 : Int32)) (hN S31 r2) := by rw [eS31]; exact hi30
  have hr39 : hR S31 a0 5 = some r2 := by rw [eS31]; exact hr29
  refine v_aload_n X 1 dX12_logs_53 rfl rfl ?_
  refine v_getR X (T := TX12) (N := 26) (k := 5) hk32 (by decide) rfl (by decide) inX12 wd944 rfl dX12_logs_54 hr39 ?_
  refine v_iload X 0 dX12_logs_57 rfl ?_
  refine v_iconst X (v := 4) dX12_logs_59 (by decide) ?_
  refine v_iadd X dX12_logs_60 ?_
  refine v_iload X 6 dX12_logs_61 rfl ?_
  obtain ⟨hi40, h⟩ := h
  refine v_iast X hk33 hi40 dX12_logs_63 ?_
  refine v_nmS (fun S41 eS41 => ?_)
  replace h := h S41 eS41
  have hk42 : hK S41 a0 = 11 := by rw [eS41]; exact hk32
  have hk43 : hK S41 r2 = 12 := by rw [eS41]; exact hk33
  have hi44 : vp_in (4 : Int32) (hN S41 r2) := by rw [eS41]; exact hi34
  have hi45 : vp_in v5 (hN S41 r2) := by rw [eS41]; exact hi35
  have hi46 : vp_in (v5 + (1 : Int32)) (hN S41 r2) := by rw [eS41]; exact hi36
  have hi47 : vp_in (v5 + (2 : Int32)) (hN S41 r2) := by rw [eS41]; exact hi37
  have hi48 : vp_in (v5 + (3 : Int32)) (hN S41 r2) := by rw [eS41]; exact hi38
  have hi49 : vp_in (v5 + (4 : Int32)) (hN S41 r2) := by rw [eS41]; exact hi40
  have hr50 : hR S41 a0 5 = some r2 := by rw [eS41]; exact hr39
  refine v_aload_n X 1 dX12_logs_64 rfl rfl ?_
  refine v_getR X (T := TX12) (N := 26) (k := 5) hk42 (by decide) rfl (by decide) inX12 wd944 rfl dX12_logs_65 hr50 ?_
  refine v_iload X 0 dX12_logs_68 rfl ?_
  refine v_iconst X (v := 5) dX12_logs_70 (by decide) ?_
  refine v_iadd X dX12_logs_71 ?_
  refine v_iload X 7 dX12_logs_72 rfl ?_
  obtain ⟨hi51, h⟩ := h
  refine v_iast X hk43 hi51 dX12_logs_74 ?_
  refine v_nmS (fun S52 eS52 => ?_)
  replace h := h S52 eS52
  have hk53 : hK S52 a0 = 11 := by rw [eS52]; exact hk42
  have hk54 : hK S52 r2 = 12 := by rw [eS52]; exact hk43
  have hi55 : vp_in (4 : Int32) (hN S52 r2) := by rw [eS52]; exact hi44
  have hi56 : vp_in v5 (hN S52 r2) := by rw [eS52]; exact hi45
  have hi57 : vp_in (v5 + (1 : Int32)) (hN S52 r2) := by rw [eS52]; exact hi46
  have hi58 : vp_in (v5 + (2 : Int32)) (hN S52 r2) := by rw [eS52]; exact hi47
  have hi59 : vp_in (v5 + (3 : Int32)) (hN S52 r2) := by rw [eS52]; exact hi48
  have hi60 : vp_in (v5 + (4 : Int32)) (hN S52 r2) := by rw [eS52]; exact hi49
  have hi61 : vp_in (v5 + (5 : Int32)) (hN S52 r2) := by rw [eS52]; exact hi51
  have hr62 : hR S52 a0 5 = some r2 := by rw [eS52]; exact hr50
  refine v_aload_n X 1 dX12_logs_75 rfl rfl ?_
  refine v_getR X (T := TX12) (N := 26) (k := 5) hk53 (by decide) rfl (by decide) inX12 wd944 rfl dX12_logs_76 hr62 ?_
  refine v_iconst X (v := 4) dX12_logs_79 (by decide) ?_
  refine v_dup2 X dX12_logs_80 rfl rfl ?_
  refine v_iald X hk54 hi55 dX12_logs_81 ?_
  refine v_iconst X (v := 1) dX12_logs_82 (by decide) ?_
  refine v_iadd X dX12_logs_83 ?_
  refine v_iast X hk54 hi55 dX12_logs_84 ?_
  refine v_nmS (fun S63 eS63 => ?_)
  replace h := h S63 eS63
  have hk64 : hK S63 a0 = 11 := by rw [eS63]; exact hk53
  have hk65 : hK S63 r2 = 12 := by rw [eS63]; exact hk54
  have hi66 : vp_in (4 : Int32) (hN S63 r2) := by rw [eS63]; exact hi55
  have hi67 : vp_in v5 (hN S63 r2) := by rw [eS63]; exact hi56
  have hi68 : vp_in (v5 + (1 : Int32)) (hN S63 r2) := by rw [eS63]; exact hi57
  have hi69 : vp_in (v5 + (2 : Int32)) (hN S63 r2) := by rw [eS63]; exact hi58
  have hi70 : vp_in (v5 + (3 : Int32)) (hN S63 r2) := by rw [eS63]; exact hi59
  have hi71 : vp_in (v5 + (4 : Int32)) (hN S63 r2) := by rw [eS63]; exact hi60
  have hi72 : vp_in (v5 + (5 : Int32)) (hN S63 r2) := by rw [eS63]; exact hi61
  have hr73 : hR S63 a0 5 = some r2 := by rw [eS63]; exact hr62
  exact v_vret X hr hlk ⟨rfl, h⟩ dX12_logs_85
def wp_X12_tell (Q : Int32 → hp → Prop) (S : hp) (a0 : Nat) (x1 : Int32) (x2 : Int32) (x3 : Int32) (x4 : Int32) : Prop :=
  hK S a0 = 11 ∧ ∀ S2 : hp, S2 = setI S a0 0 (0 : Int32) → wp_X12_isMouth (fun r5 S4 => ((r5 = 0 → Q (-1000001 : Int32) S4) ∧ (¬ r5 = 0 → hK S4 a0 = 11 ∧ wp_X12_isDummy (fun r9 S7 => ((r9 = 0 → Q (-1000001 : Int32) S7) ∧ (¬ r9 = 0 → wp_X12_isPlace (fun r12 S11 => ((r12 = 0 → Q (-1000001 : Int32) S11) ∧ (¬ r12 = 0 → wp_X12_in (fun r15 S14 => ((¬ r15 = 0 → hK S14 a0 = 11 ∧ wp_X12_padsOf (fun r19 S17 => ∀ v20 : Int32, v20 = (((3 : Int32) * x2) + x3) → hK S17 a0 = 11 ∧ ∃ r22 : Nat, hR S17 a0 5 = some r22 ∧ hK S17 r22 = 12 ∧ vp_in (4 : Int32) (hN S17 r22) ∧ (((hI S17 r22 ((4 : Int32)).toNatClampNeg) = (16 : Int32) → Q (-1000003 : Int32) S17) ∧ (¬ (hI S17 r22 ((4 : Int32)).toNatClampNeg) = (16 : Int32) → vp_in ((5 : Int32) + v20) (hN S17 r22) ∧ wp_X12_in (fun r28 S27 => ((r28 = 0 → Q (-1000003 : Int32) S27) ∧ (¬ r28 = 0 → hK S27 a0 = 11 ∧ ∃ r31 : Nat, hR S27 a0 5 = some r31 ∧ hK S27 r31 = 12 ∧ vp_in ((29 : Int32) + v20) (hN S27 r31) ∧ wp_X12_in (fun r35 S34 => ((¬ r35 = 0 → hK S34 a0 = 11 ∧ wp_X12_keep (fun S37 => hK S37 a0 = 11 ∧ wp_X12_logs (fun S39 => hK S39 a0 = 11 ∧ ∃ r42 : Nat, hR S39 a0 5 = some r42 ∧ hK S39 r42 = 12 ∧ vp_in ((5 : Int32) + v20) (hN S39 r42) ∧ ∀ S45 : hp, S45 = setI S39 r42 (((5 : Int32) + v20)).toNatClampNeg ((hI S39 r42 (((5 : Int32) + v20)).toNatClampNeg) + r19) → vp_in ((29 : Int32) + v20) (hN S45 r42) ∧ ∀ S51 : hp, S51 = setI S45 r42 (((29 : Int32) + v20)).toNatClampNeg ((hI S45 r42 (((29 : Int32) + v20)).toNatClampNeg) + x4) → Q (hI S51 r42 (((5 : Int32) + v20)).toNatClampNeg) S51) S37 a0 (0 : Int32) x1 x2 x3 x4 r19) S34 a0) ∧ (r35 = 0 → Q (-1000003 : Int32) S34))) S27 ((((hI S27 r31 (((29 : Int32) + v20)).toNatClampNeg) + x4)).toInt64) ((-999 : Int64)) ((999 : Int64))))) S17 ((((hI S17 r22 (((5 : Int32) + v20)).toNatClampNeg) + r19)).toInt64) ((-999 : Int64)) ((999 : Int64))))) S14 a0 x1 x4) ∧ (r15 = 0 → Q (-1000001 : Int32) S14))) S11 ((x4).toInt64) ((-99 : Int64)) ((99 : Int64))))) S7 x3))) S4 a0 x2))) S2 a0 x1
theorem k_X12_tell : Cond.code yX12_tell cX12_tell 7 (some .int) ∈ gtb := mg 1114 (by decide +kernel) (by decide +kernel)
theorem dn_X12_tell : yX12_tell.cls ≠ "java/lang/invoke/MethodHandle" ∧ yX12_tell.cls ≠ "java/lang/invoke/VarHandle" ∧ (parseMethodDescriptor yX12_tell.desc).map (fun d => d.parameters.length) = some 4 := by decide +kernel
set_option maxRecDepth 100000 in
set_option maxHeartbeats 4000000 in
theorem s_X12_tell (l : Launch) (b : Nat) (D : va_G) (cy : Nat → ClassId) {Q : Int32 → hp → Prop} {S : hp} {a0 : Nat} {x1 : Int32} {x2 : Int32} {x3 : Int32} {x4 : Int32} (h : wp_X12_tell Q S a0 x1 x2 x3 x4) : MT l yX12_tell cX12_tell 7 (some .int) 2 46 0 0 b D cy S [.ref a0, .int x1, .int x2, .int x3, .int x4] (pI Q) := by
  refine MT.of (by decide +kernel) (Nat.le_of_ble_eq_true rfl) ?_
  intro p e s m args below meth c X hr hlk hnm
  unfold wp_X12_tell at h
  show VM l b D cy 7 2 46 0 0 (pI Q) p e s m args below meth c S 0 0 0 [(0, .ref a0), (1, .int x1), (2, .int x2), (3, .int x3), (4, .int x4)] []
  refine v_aload_n X 0 dX12_tell_0 rfl rfl ?_
  refine v_iconst X (v := 0) dX12_tell_1 (by decide) ?_
  obtain ⟨hk1, h⟩ := h
  refine v_putI X (T := TX12) (N := 26) (k := 0) hk1 (by decide) rfl (by decide) inX12 wd939 tyX12 tyX12_ok nmX12 rfl rfl rfl rfl dX12_tell_2 ?_
  refine v_nmS (fun S2 eS2 => ?_)
  replace h := h S2 eS2
  have hk3 : hK S2 a0 = 11 := by rw [eS2]; exact hk1
  refine v_aload_n X 0 dX12_tell_5 rfl rfl ?_
  refine v_iload_n X 1 dX12_tell_6 rfl rfl ?_
  refine v_callV X (av := [.int x1]) (T := TX12) (N := 26) (s_X12_isMouth l b D cy h) hk3 (by decide) rfl wd1115 wd1117 wd31 wd62 k_X12_isMouth dn_X12_isMouth rfl ⟨Nat.le_of_ble_eq_true rfl, Nat.le_of_ble_eq_true rfl⟩ (Nat.le_of_ble_eq_true rfl) ⟨Nat.le_of_ble_eq_true rfl, Nat.le_of_ble_eq_true rfl⟩ dX12_tell_7 rfl (kI (fun r5 S4 h => ?_))
  refine v_if_eq X (tgt := 43) dX12_tell_10 (by decide) (fun c6 => ?_) (fun c6 => ?_)
  · replace h := h.1 c6
    refine v_ldc X wd1030 dX12_tell_43 ?_
    exact v_iret X hr hlk ⟨_, rfl, h⟩ dX12_tell_45
  · replace h := h.2 c6
    refine v_aload_n X 0 dX12_tell_13 rfl rfl ?_
    refine v_iload_n X 2 dX12_tell_14 rfl rfl ?_
    obtain ⟨hk8, h⟩ := h
    refine v_callV X (av := [.int x2]) (T := TX12) (N := 26) (s_X12_isDummy l b D cy h) hk8 (by decide) rfl wd1119 wd1121 wd32 wd62 k_X12_isDummy dn_X12_isDummy rfl ⟨Nat.le_of_ble_eq_true rfl, Nat.le_of_ble_eq_true rfl⟩ (Nat.le_of_ble_eq_true rfl) ⟨Nat.le_of_ble_eq_true rfl, Nat.le_of_ble_eq_true rfl⟩ dX12_tell_15 rfl (kI (fun r9 S7 h => ?_))
    refine v_if_eq X (tgt := 43) dX12_tell_18 (by decide) (fun c10 => ?_) (fun c10 => ?_)
    · replace h := h.1 c10
      refine v_ldc X wd1030 dX12_tell_43 ?_
      exact v_iret X hr hlk ⟨_, rfl, h⟩ dX12_tell_45
    · replace h := h.2 c10
      refine v_iload_n X 3 dX12_tell_21 rfl rfl ?_
      refine v_callS X (av := [.int x3]) (s_X12_isPlace l b D cy h) wd1123 wd1124 wd62 k_X12_isPlace dn_X12_isPlace rfl ⟨Nat.le_of_ble_eq_true rfl, Nat.le_of_ble_eq_true rfl⟩ (Nat.le_of_ble_eq_true rfl) ⟨Nat.le_of_ble_eq_true rfl, Nat.le_of_ble_eq_true rfl⟩ dX12_tell_22 rfl (kI (fun r12 S11 h => ?_))
      refine v_if_eq X (tgt := 43) dX12_tell_25 (by decide) (fun c13 => ?_) (fun c13 => ?_)
      · replace h := h.1 c13
        refine v_ldc X wd1030 dX12_tell_43 ?_
        exact v_iret X hr hlk ⟨_, rfl, h⟩ dX12_tell_45
      · replace h := h.2 c13
        refine v_iload X 4 dX12_tell_28 rfl ?_
        refine v_i2l X dX12_tell_30 ?_
        refine v_ldc2 X wd1126 dX12_tell_31 ?_
        refine v_ldc2 X wd1127 dX12_tell_34 ?_
        refine v_callS X (av := [.long (x4).toInt64, .long (-99 : Int64), .long (99 : Int64)]) (s_X12_in l b D cy h) wd1026 wd1027 wd62 k_X12_in dn_X12_in rfl ⟨Nat.le_of_ble_eq_true rfl, Nat.le_of_ble_eq_true rfl⟩ (Nat.le_of_ble_eq_true rfl) ⟨Nat.le_of_ble_eq_true rfl, Nat.le_of_ble_eq_true rfl⟩ dX12_tell_37 rfl (kI (fun r15 S14 h => ?_))
        refine v_if_ne X (tgt := 46) dX12_tell_40 (by decide) (fun c16 => ?_) (fun c16 => ?_)
        · replace h := h.1 c16
          refine v_aload_n X 0 dX12_tell_46 rfl rfl ?_
          refine v_iload_n X 1 dX12_tell_47 rfl rfl ?_
          refine v_iload X 4 dX12_tell_48 rfl ?_
          obtain ⟨hk18, h⟩ := h
          refine v_callV X (av := [.int x1, .int x4]) (T := TX12) (N := 26) (s_X12_padsOf l b D cy h) hk18 (by decide) rfl wd1128 wd1130 wd33 wd62 k_X12_padsOf dn_X12_padsOf rfl ⟨Nat.le_of_ble_eq_true rfl, Nat.le_of_ble_eq_true rfl⟩ (Nat.le_of_ble_eq_true rfl) ⟨Nat.le_of_ble_eq_true rfl, Nat.le_of_ble_eq_true rfl⟩ dX12_tell_50 rfl (kI (fun r19 S17 h => ?_))
          refine v_istore X (lv' := [(5, .int r19), (0, .ref a0), (1, .int x1), (2, .int x2), (3, .int x3), (4, .int x4)]) dX12_tell_53 (by decide) rfl ?_
          refine v_iconst X (v := 3) dX12_tell_55 (by decide) ?_
          refine v_iload_n X 3 dX12_tell_56 rfl rfl ?_
          refine v_imul X dX12_tell_57 ?_
          refine v_iload_n X 4 dX12_tell_58 rfl rfl ?_
          refine v_iadd X dX12_tell_59 ?_
          refine v_nm (fun v20 hv20 => ?_)
          replace h := h v20 hv20
          refine v_istore X (lv' := [(6, .int v20), (5, .int r19), (0, .ref a0), (1, .int x1), (2, .int x2), (3, .int x3), (4, .int x4)]) dX12_tell_60 (by decide) rfl ?_
          refine v_aload_n X 2 dX12_tell_62 rfl rfl ?_
          obtain ⟨hk21, h⟩ := h
          obtain ⟨r22, hr22, h⟩ := h
          refine v_getR X (T := TX12) (N := 26) (k := 5) hk21 (by decide) rfl (by decide) inX12 wd944 rfl dX12_tell_63 hr22 ?_
          refine v_iconst X (v := 4) dX12_tell_66 (by decide) ?_
          obtain ⟨hk23, h⟩ := h
          obtain ⟨hi24, h⟩ := h
          refine v_iald X hk23 hi24 dX12_tell_67 ?_
          refine v_bipush X (v := 16) dX12_tell_68 (by decide) ?_
          refine v_icmp_eq X (tgt := 124) dX12_tell_70 (by decide) (fun c25 => ?_) (fun c25 => ?_)
          · replace h := h.1 c25
            refine v_ldc X wd1053 dX12_tell_124 ?_
            exact v_iret X hr hlk ⟨_, rfl, h⟩ dX12_tell_126
          · replace h := h.2 c25
            refine v_aload_n X 2 dX12_tell_73 rfl rfl ?_
            refine v_getR X (T := TX12) (N := 26) (k := 5) hk21 (by decide) rfl (by decide) inX12 wd944 rfl dX12_tell_74 hr22 ?_
            refine v_iconst X (v := 5) dX12_tell_77 (by decide) ?_
            refine v_iload X 0 dX12_tell_78 rfl ?_
            refine v_iadd X dX12_tell_80 ?_
            obtain ⟨hi26, h⟩ := h
            refine v_iald X hk23 hi26 dX12_tell_81 ?_
            refine v_iload X 1 dX12_tell_82 rfl ?_
            refine v_iadd X dX12_tell_84 ?_
            refine v_i2l X dX12_tell_85 ?_
            refine v_ldc2 X wd1136 dX12_tell_86 ?_
            refine v_ldc2 X wd1137 dX12_tell_89 ?_
            refine v_callS X (av := [.long (((hI S17 r22 (((5 : Int32) + v20)).toNatClampNeg) + r19)).toInt64, .long (-999 : Int64), .long (999 : Int64)]) (s_X12_in l b D cy h) wd1026 wd1027 wd62 k_X12_in dn_X12_in rfl ⟨Nat.le_of_ble_eq_true rfl, Nat.le_of_ble_eq_true rfl⟩ (Nat.le_of_ble_eq_true rfl) ⟨Nat.le_of_ble_eq_true rfl, Nat.le_of_ble_eq_true rfl⟩ dX12_tell_92 rfl (kI (fun r28 S27 h => ?_))
            refine v_if_eq X (tgt := 124) dX12_tell_95 (by decide) (fun c29 => ?_) (fun c29 => ?_)
            · replace h := h.1 c29
              refine v_ldc X wd1053 dX12_tell_124 ?_
              exact v_iret X hr hlk ⟨_, rfl, h⟩ dX12_tell_126
            · replace h := h.2 c29
              refine v_aload_n X 2 dX12_tell_98 rfl rfl ?_
              obtain ⟨hk30, h⟩ := h
              obtain ⟨r31, hr31, h⟩ := h
              refine v_getR X (T := TX12) (N := 26) (k := 5) hk30 (by decide) rfl (by decide) inX12 wd944 rfl dX12_tell_99 hr31 ?_
              refine v_bipush X (v := 29) dX12_tell_102 (by decide) ?_
              refine v_iload X 0 dX12_tell_104 rfl ?_
              refine v_iadd X dX12_tell_106 ?_
              obtain ⟨hk32, h⟩ := h
              obtain ⟨hi33, h⟩ := h
              refine v_iald X hk32 hi33 dX12_tell_107 ?_
              refine v_iload X 6 dX12_tell_108 rfl ?_
              refine v_iadd X dX12_tell_110 ?_
              refine v_i2l X dX12_tell_111 ?_
              refine v_ldc2 X wd1136 dX12_tell_112 ?_
              refine v_ldc2 X wd1137 dX12_tell_115 ?_
              refine v_callS X (av := [.long (((hI S27 r31 (((29 : Int32) + v20)).toNatClampNeg) + x4)).toInt64, .long (-999 : Int64), .long (999 : Int64)]) (s_X12_in l b D cy h) wd1026 wd1027 wd62 k_X12_in dn_X12_in rfl ⟨Nat.le_of_ble_eq_true rfl, Nat.le_of_ble_eq_true rfl⟩ (Nat.le_of_ble_eq_true rfl) ⟨Nat.le_of_ble_eq_true rfl, Nat.le_of_ble_eq_true rfl⟩ dX12_tell_118 rfl (kI (fun r35 S34 h => ?_))
              refine v_if_ne X (tgt := 127) dX12_tell_121 (by decide) (fun c36 => ?_) (fun c36 => ?_)
              · replace h := h.1 c36
                refine v_aload_n X 2 dX12_tell_127 rfl rfl ?_
                obtain ⟨hk38, h⟩ := h
                refine v_callV X (av := []) (T := TX12) (N := 26) (s_X12_keep l b D cy h) hk38 (by decide) rfl wd1138 wd1140 wd35 wd62 k_X12_keep dn_X12_keep rfl ⟨Nat.le_of_ble_eq_true rfl, Nat.le_of_ble_eq_true rfl⟩ (Nat.le_of_ble_eq_true rfl) ⟨Nat.le_of_ble_eq_true rfl, Nat.le_of_ble_eq_true rfl⟩ dX12_tell_128 rfl (kV (fun S37 h => ?_))
                refine v_aload_n X 2 dX12_tell_131 rfl rfl ?_
                refine v_iconst X (v := 0) dX12_tell_132 (by decide) ?_
                refine v_iload_n X 3 dX12_tell_133 rfl rfl ?_
                refine v_iload_n X 4 dX12_tell_134 rfl rfl ?_
                refine v_iload_n X 5 dX12_tell_135 rfl rfl ?_
                refine v_iload X 6 dX12_tell_136 rfl ?_
                refine v_iload X 1 dX12_tell_138 rfl ?_
                obtain ⟨hk40, h⟩ := h
                refine v_callV X (av := [.int (0 : Int32), .int x1, .int x2, .int x3, .int x4, .int r19]) (T := TX12) (N := 26) (s_X12_logs l b D cy h) hk40 (by decide) rfl wd1142 wd1144 wd36 wd62 k_X12_logs dn_X12_logs rfl ⟨Nat.le_of_ble_eq_true rfl, Nat.le_of_ble_eq_true rfl⟩ (Nat.le_of_ble_eq_true rfl) ⟨Nat.le_of_ble_eq_true rfl, Nat.le_of_ble_eq_true rfl⟩ dX12_tell_140 rfl (kV (fun S39 h => ?_))
                refine v_aload_n X 2 dX12_tell_143 rfl rfl ?_
                obtain ⟨hk41, h⟩ := h
                obtain ⟨r42, hr42, h⟩ := h
                refine v_getR X (T := TX12) (N := 26) (k := 5) hk41 (by decide) rfl (by decide) inX12 wd944 rfl dX12_tell_144 hr42 ?_
                refine v_iconst X (v := 5) dX12_tell_147 (by decide) ?_
                refine v_iload X 0 dX12_tell_148 rfl ?_
                refine v_iadd X dX12_tell_150 ?_
                refine v_dup2 X dX12_tell_151 rfl rfl ?_
                obtain ⟨hk43, h⟩ := h
                obtain ⟨hi44, h⟩ := h
                refine v_iald X hk43 hi44 dX12_tell_152 ?_
                refine v_iload X 1 dX12_tell_153 rfl ?_
                refine v_iadd X dX12_tell_155 ?_
                refine v_iast X hk43 hi44 dX12_tell_156 ?_
                refine v_nmS (fun S45 eS45 => ?_)
                replace h := h S45 eS45
                have hk46 : hK S45 a0 = 11 := by rw [eS45]; exact hk41
                have hk47 : hK S45 r42 = 12 := by rw [eS45]; exact hk43
                have hi48 : vp_in ((5 : Int32) + v20) (hN S45 r42) := by rw [eS45]; exact hi44
                have hr49 : hR S45 a0 5 = some r42 := by rw [eS45]; exact hr42
                refine v_aload_n X 2 dX12_tell_157 rfl rfl ?_
                refine v_getR X (T := TX12) (N := 26) (k := 5) hk46 (by decide) rfl (by decide) inX12 wd944 rfl dX12_tell_158 hr49 ?_
                refine v_bipush X (v := 29) dX12_tell_161 (by decide) ?_
                refine v_iload X 0 dX12_tell_163 rfl ?_
                refine v_iadd X dX12_tell_165 ?_
                refine v_dup2 X dX12_tell_166 rfl rfl ?_
                obtain ⟨hi50, h⟩ := h
                refine v_iald X hk47 hi50 dX12_tell_167 ?_
                refine v_iload X 6 dX12_tell_168 rfl ?_
                refine v_iadd X dX12_tell_170 ?_
                refine v_iast X hk47 hi50 dX12_tell_171 ?_
                refine v_nmS (fun S51 eS51 => ?_)
                replace h := h S51 eS51
                have hk52 : hK S51 a0 = 11 := by rw [eS51]; exact hk46
                have hk53 : hK S51 r42 = 12 := by rw [eS51]; exact hk47
                have hi54 : vp_in ((5 : Int32) + v20) (hN S51 r42) := by rw [eS51]; exact hi48
                have hi55 : vp_in ((29 : Int32) + v20) (hN S51 r42) := by rw [eS51]; exact hi50
                have hr56 : hR S51 a0 5 = some r42 := by rw [eS51]; exact hr49
                refine v_aload_n X 2 dX12_tell_172 rfl rfl ?_
                refine v_getR X (T := TX12) (N := 26) (k := 5) hk52 (by decide) rfl (by decide) inX12 wd944 rfl dX12_tell_173 hr56 ?_
                refine v_iconst X (v := 5) dX12_tell_176 (by decide) ?_
                refine v_iload X 0 dX12_tell_177 rfl ?_
                refine v_iadd X dX12_tell_179 ?_
                refine v_iald X hk53 hi54 dX12_tell_180 ?_
                exact v_iret X hr hlk ⟨_, rfl, h⟩ dX12_tell_181
              · replace h := h.2 c36
                refine v_ldc X wd1053 dX12_tell_124 ?_
                exact v_iret X hr hlk ⟨_, rfl, h⟩ dX12_tell_126
        · replace h := h.2 c16
          refine v_ldc X wd1030 dX12_tell_43 ?_
          exact v_iret X hr hlk ⟨_, rfl, h⟩ dX12_tell_45
def wp_X12_lessOf (Q : Int32 → hp → Prop) (S : hp) (a0 : Nat) (x1 : Int32) (x2 : Int32) : Prop :=
  ((x1 ≤ x2 → Q (0 : Int32) S) ∧ (¬ x1 ≤ x2 → hK S a0 = 11 ∧ ∃ r3 : Nat, hR S a0 5 = some r3 ∧ hK S r3 = 12 ∧ vp_in (1 : Int32) (hN S r3) ∧ ¬ (hI S r3 ((1 : Int32)).toNatClampNeg) = 0 ∧ Q ((x1 - x2) / (hI S r3 ((1 : Int32)).toNatClampNeg)) S))
theorem k_X12_lessOf : Cond.code yX12_lessOf cX12_lessOf 3 (some .int) ∈ gtb := mg 1158 (by decide +kernel) (by decide +kernel)
theorem dn_X12_lessOf : yX12_lessOf.cls ≠ "java/lang/invoke/MethodHandle" ∧ yX12_lessOf.cls ≠ "java/lang/invoke/VarHandle" ∧ (parseMethodDescriptor yX12_lessOf.desc).map (fun d => d.parameters.length) = some 2 := by decide +kernel
set_option maxRecDepth 100000 in
set_option maxHeartbeats 4000000 in
theorem s_X12_lessOf (l : Launch) (b : Nat) (D : va_G) (cy : Nat → ClassId) {Q : Int32 → hp → Prop} {S : hp} {a0 : Nat} {x1 : Int32} {x2 : Int32} (h : wp_X12_lessOf Q S a0 x1 x2) : MT l yX12_lessOf cX12_lessOf 3 (some .int) 0 0 0 0 b D cy S [.ref a0, .int x1, .int x2] (pI Q) := by
  refine MT.of (by decide +kernel) (Nat.le_of_ble_eq_true rfl) ?_
  intro p e s m args below meth c X hr hlk hnm
  unfold wp_X12_lessOf at h
  show VM l b D cy 3 0 0 0 0 (pI Q) p e s m args below meth c S 0 0 0 [(0, .ref a0), (1, .int x1), (2, .int x2)] []
  refine v_iload_n X 1 dX12_lessOf_0 rfl rfl ?_
  refine v_iload_n X 2 dX12_lessOf_1 rfl rfl ?_
  refine v_icmp_le X (tgt := 18) dX12_lessOf_2 (by decide) (fun c1 => ?_) (fun c1 => ?_)
  · replace h := h.1 c1
    refine v_iconst X (v := 0) dX12_lessOf_18 (by decide) ?_
    exact v_iret X hr hlk ⟨_, rfl, h⟩ dX12_lessOf_19
  · replace h := h.2 c1
    refine v_iload_n X 1 dX12_lessOf_5 rfl rfl ?_
    refine v_iload_n X 2 dX12_lessOf_6 rfl rfl ?_
    refine v_isub X dX12_lessOf_7 ?_
    refine v_aload_n X 0 dX12_lessOf_8 rfl rfl ?_
    obtain ⟨hk2, h⟩ := h
    obtain ⟨r3, hr3, h⟩ := h
    refine v_getR X (T := TX12) (N := 26) (k := 5) hk2 (by decide) rfl (by decide) inX12 wd944 rfl dX12_lessOf_9 hr3 ?_
    refine v_iconst X (v := 1) dX12_lessOf_12 (by decide) ?_
    obtain ⟨hk4, h⟩ := h
    obtain ⟨hi5, h⟩ := h
    refine v_iald X hk4 hi5 dX12_lessOf_13 ?_
    obtain ⟨hz6, h⟩ := h
    refine v_idiv X dX12_lessOf_14 hz6 ?_
    refine v_goto X (tgt := 19) dX12_lessOf_15 (by decide) ?_
    exact v_iret X hr hlk ⟨_, rfl, h⟩ dX12_lessOf_19
def wB_X12_year_50 (bk50 : hp → Nat → Int32 → Int32 → Prop) (Q : Int32 → hp → Prop) (S : hp) (l0 : Nat) (l1 : Int32) (l2 : Int32) : Prop :=
  hK S l0 = 11 ∧ ∃ r16 : Nat, hR S l0 5 = some r16 ∧ hK S r16 = 12 ∧ vp_in (2 : Int32) (hN S r16) ∧ ((((3 : Int32) * (hI S r16 ((2 : Int32)).toNatClampNeg)) ≤ l2 → Q l1 S) ∧ (¬ ((3 : Int32) * (hI S r16 ((2 : Int32)).toNatClampNeg)) ≤ l2 → vp_in ((5 : Int32) + l2) (hN S r16) ∧ vp_in ((17 : Int32) + l2) (hN S r16) ∧ wp_X12_lessOf (fun r23 S22 => hK S22 l0 = 11 ∧ ∃ r25 : Nat, hR S22 l0 5 = some r25 ∧ hK S22 r25 = 12 ∧ vp_in ((5 : Int32) + l2) (hN S22 r25) ∧ ∀ S28 : hp, S28 = setI S22 r25 (((5 : Int32) + l2)).toNatClampNeg ((hI S22 r25 (((5 : Int32) + l2)).toNatClampNeg) - r23) → ∀ v33 : Int32, v33 = (l1 + r23) → ∀ v34 : Int32, v34 = l2 + (1 : Int32) → bk50 S28 l0 v33 v34) S l0 ((hI S r16 (((5 : Int32) + l2)).toNatClampNeg)) ((hI S r16 (((17 : Int32) + l2)).toNatClampNeg))))
def wl_X12_year_50 (Q : Int32 → hp → Prop) : Nat → hp → Nat → Int32 → Int32 → Prop
  | 0 => fun _ _ _ _ => False
  | n + 1 => wB_X12_year_50 (wl_X12_year_50 Q n) Q
def wp_X12_year (Q : Int32 → hp → Prop) (S : hp) (a0 : Nat) : Prop :=
  hK S a0 = 11 ∧ ∀ S2 : hp, S2 = setI S a0 0 (0 : Int32) → wp_X12_isThere (fun r5 S4 => ((¬ r5 = 0 → hK S4 a0 = 11 ∧ ∃ r8 : Nat, hR S4 a0 5 = some r8 ∧ hK S4 r8 = 12 ∧ vp_in (4 : Int32) (hN S4 r8) ∧ ((¬ (hI S4 r8 ((4 : Int32)).toNatClampNeg) = (16 : Int32) → wp_X12_keep (fun S12 => hK S12 a0 = 11 ∧ wp_X12_logs (fun S13 => ∃ n : Nat, wl_X12_year_50 Q n S13 a0 (0 : Int32) (0 : Int32)) S12 a0 (1 : Int32) (-1000000 : Int32) (-1000000 : Int32) (-1000000 : Int32) (0 : Int32) (0 : Int32)) S4 a0) ∧ ((hI S4 r8 ((4 : Int32)).toNatClampNeg) = (16 : Int32) → Q (-1000003 : Int32) S4))) ∧ (r5 = 0 → Q (-1000002 : Int32) S4))) S2 a0
theorem k_X12_year : Cond.code yX12_year cX12_year 4 (some .int) ∈ gtb := mg 1149 (by decide +kernel) (by decide +kernel)
theorem dn_X12_year : yX12_year.cls ≠ "java/lang/invoke/MethodHandle" ∧ yX12_year.cls ≠ "java/lang/invoke/VarHandle" ∧ (parseMethodDescriptor yX12_year.desc).map (fun d => d.parameters.length) = some 0 := by decide +kernel
set_option maxRecDepth 100000 in
set_option maxHeartbeats 4000000 in
theorem s_X12_year (l : Launch) (b : Nat) (D : va_G) (cy : Nat → ClassId) {Q : Int32 → hp → Prop} {S : hp} {a0 : Nat} (h : wp_X12_year Q S a0) : MT l yX12_year cX12_year 4 (some .int) 1 27 0 0 b D cy S [.ref a0] (pI Q) := by
  refine MT.of (by decide +kernel) (Nat.le_of_ble_eq_true rfl) ?_
  intro p e s m args below meth c X hr hlk hnm
  have j50 : ∀ (bk50 : hp → Nat → Int32 → Int32 → Prop) (hbk50 : ∀ (S : hp) (l0 : Nat) (l1 : Int32) (l2 : Int32), bk50 S l0 l1 l2 → VM l b D cy 4 1 27 0 0 (pI Q) p e s m args below meth c S 0 0 50 [(0, .ref l0), (1, .int l1), (2, .int l2)] []) (S : hp) (l0 : Nat) (l1 : Int32) (l2 : Int32), wB_X12_year_50 bk50 Q S l0 l1 l2 → VM l b D cy 4 1 27 0 0 (pI Q) p e s m args below meth c S 0 0 50 [(0, .ref l0), (1, .int l1), (2, .int l2)] [] := by
    intro bk50 hbk50 S l0 l1 l2 h
    unfold wB_X12_year_50 at h
    refine v_iload_n X 2 dX12_year_50 rfl rfl ?_
    refine v_iconst X (v := 3) dX12_year_51 (by decide) ?_
    refine v_aload_n X 0 dX12_year_52 rfl rfl ?_
    obtain ⟨hk15, h⟩ := h
    obtain ⟨r16, hr16, h⟩ := h
    refine v_getR X (T := TX12) (N := 26) (k := 5) hk15 (by decide) rfl (by decide) inX12 wd944 rfl dX12_year_53 hr16 ?_
    refine v_iconst X (v := 2) dX12_year_56 (by decide) ?_
    obtain ⟨hk17, h⟩ := h
    obtain ⟨hi18, h⟩ := h
    refine v_iald X hk17 hi18 dX12_year_57 ?_
    refine v_imul X dX12_year_58 ?_
    refine v_icmp_ge X (tgt := 106) dX12_year_59 (by decide) (fun c19 => ?_) (fun c19 => ?_)
    · replace h := h.1 c19
      refine v_iload_n X 1 dX12_year_106 rfl rfl ?_
      exact v_iret X hr hlk ⟨_, rfl, h⟩ dX12_year_107
    · replace h := h.2 c19
      refine v_aload_n X 0 dX12_year_62 rfl rfl ?_
      refine v_aload_n X 0 dX12_year_63 rfl rfl ?_
      refine v_getR X (T := TX12) (N := 26) (k := 5) hk15 (by decide) rfl (by decide) inX12 wd944 rfl dX12_year_64 hr16 ?_
      refine v_iconst X (v := 5) dX12_year_67 (by decide) ?_
      refine v_iload_n X 2 dX12_year_68 rfl rfl ?_
      refine v_iadd X dX12_year_69 ?_
      obtain ⟨hi20, h⟩ := h
      refine v_iald X hk17 hi20 dX12_year_70 ?_
      refine v_aload_n X 0 dX12_year_71 rfl rfl ?_
      refine v_getR X (T := TX12) (N := 26) (k := 5) hk15 (by decide) rfl (by decide) inX12 wd944 rfl dX12_year_72 hr16 ?_
      refine v_bipush X (v := 17) dX12_year_75 (by decide) ?_
      refine v_iload_n X 2 dX12_year_77 rfl rfl ?_
      refine v_iadd X dX12_year_78 ?_
      obtain ⟨hi21, h⟩ := h
      refine v_iald X hk17 hi21 dX12_year_79 ?_
      refine v_callV X (av := [.int (hI S r16 (((5 : Int32) + l2)).toNatClampNeg), .int (hI S r16 (((17 : Int32) + l2)).toNatClampNeg)]) (T := TX12) (N := 26) (s_X12_lessOf l b D cy h) hk15 (by decide) rfl wd1155 wd1157 wd38 wd62 k_X12_lessOf dn_X12_lessOf rfl ⟨Nat.le_of_ble_eq_true rfl, Nat.le_of_ble_eq_true rfl⟩ (Nat.le_of_ble_eq_true rfl) ⟨Nat.le_of_ble_eq_true rfl, Nat.le_of_ble_eq_true rfl⟩ dX12_year_80 rfl (kI (fun r23 S22 h => ?_))
      refine v_istore_n X (lv' := [(3, .int r23), (0, .ref l0), (1, .int l1), (2, .int l2)]) dX12_year_83 rfl (by decide) rfl ?_
      refine v_aload_n X 1 dX12_year_84 rfl rfl ?_
      obtain ⟨hk24, h⟩ := h
      obtain ⟨r25, hr25, h⟩ := h
      refine v_getR X (T := TX12) (N := 26) (k := 5) hk24 (by decide) rfl (by decide) inX12 wd944 rfl dX12_year_85 hr25 ?_
      refine v_iconst X (v := 5) dX12_year_88 (by decide) ?_
      refine v_iload_n X 3 dX12_year_89 rfl rfl ?_
      refine v_iadd X dX12_year_90 ?_
      refine v_dup2 X dX12_year_91 rfl rfl ?_
      obtain ⟨hk26, h⟩ := h
      obtain ⟨hi27, h⟩ := h
      refine v_iald X hk26 hi27 dX12_year_92 ?_
      refine v_iload_n X 0 dX12_year_93 rfl rfl ?_
      refine v_isub X dX12_year_94 ?_
      refine v_iast X hk26 hi27 dX12_year_95 ?_
      refine v_nmS (fun S28 eS28 => ?_)
      replace h := h S28 eS28
      have hk29 : hK S28 l0 = 11 := by rw [eS28]; exact hk24
      have hk30 : hK S28 r25 = 12 := by rw [eS28]; exact hk26
      have hi31 : vp_in ((5 : Int32) + l2) (hN S28 r25) := by rw [eS28]; exact hi27
      have hr32 : hR S28 l0 5 = some r25 := by rw [eS28]; exact hr25
      refine v_iload_n X 2 dX12_year_96 rfl rfl ?_
      refine v_iload_n X 0 dX12_year_97 rfl rfl ?_
      refine v_iadd X dX12_year_98 ?_
      refine v_nm (fun v33 hv33 => ?_)
      replace h := h v33 hv33
      refine v_istore_n X (lv' := [(1, .int v33), (3, .int r23), (0, .ref l0), (2, .int l2)]) dX12_year_99 rfl (by decide) rfl ?_
      obtain ⟨v34, hv34⟩ : ∃ y : Int32, y = l2 + (1 : Int32) := ⟨_, rfl⟩
      replace h := h v34 hv34
      refine v_iinc X (j := 3) (v := v34) (lv' := [(2, .int v34), (1, .int v33), (3, .int r23), (0, .ref l0)]) dX12_year_100 rfl (by rw [hv34] <;> rfl) (by decide) rfl ?_
      refine v_goto X (tgt := 50) dX12_year_103 (by decide) ?_
      refine v_lv (lv' := [(0, .ref l0), (1, .int v33), (2, .int v34)]) [3, 1, 0] rfl ?_
      exact hbk50 _ _ _ _ h
  have l50 : ∀  (n : Nat) (S : hp) (l0 : Nat) (l1 : Int32) (l2 : Int32), wl_X12_year_50 Q n S l0 l1 l2 → VM l b D cy 4 1 27 0 0 (pI Q) p e s m args below meth c S 0 0 50 [(0, .ref l0), (1, .int l1), (2, .int l2)] [] := by
    intro  n
    induction n with
    | zero => intro S l0 l1 l2 h; exact h.elim
    | succ n ih => intro S l0 l1 l2 h; exact j50 (wl_X12_year_50 Q n) ih S l0 l1 l2 h
  unfold wp_X12_year at h
  show VM l b D cy 4 1 27 0 0 (pI Q) p e s m args below meth c S 0 0 0 [(0, .ref a0)] []
  refine v_aload_n X 0 dX12_year_0 rfl rfl ?_
  refine v_iconst X (v := 0) dX12_year_1 (by decide) ?_
  obtain ⟨hk1, h⟩ := h
  refine v_putI X (T := TX12) (N := 26) (k := 0) hk1 (by decide) rfl (by decide) inX12 wd939 tyX12 tyX12_ok nmX12 rfl rfl rfl rfl dX12_year_2 ?_
  refine v_nmS (fun S2 eS2 => ?_)
  replace h := h S2 eS2
  have hk3 : hK S2 a0 = 11 := by rw [eS2]; exact hk1
  refine v_aload_n X 0 dX12_year_5 rfl rfl ?_
  refine v_callV X (av := []) (T := TX12) (N := 26) (s_X12_isThere l b D cy h) hk3 (by decide) rfl wd1150 wd1152 wd37 wd62 k_X12_isThere dn_X12_isThere rfl ⟨Nat.le_of_ble_eq_true rfl, Nat.le_of_ble_eq_true rfl⟩ (Nat.le_of_ble_eq_true rfl) ⟨Nat.le_of_ble_eq_true rfl, Nat.le_of_ble_eq_true rfl⟩ dX12_year_6 rfl (kI (fun r5 S4 h => ?_))
  refine v_if_ne X (tgt := 15) dX12_year_9 (by decide) (fun c6 => ?_) (fun c6 => ?_)
  · replace h := h.1 c6
    refine v_aload_n X 0 dX12_year_15 rfl rfl ?_
    obtain ⟨hk7, h⟩ := h
    obtain ⟨r8, hr8, h⟩ := h
    refine v_getR X (T := TX12) (N := 26) (k := 5) hk7 (by decide) rfl (by decide) inX12 wd944 rfl dX12_year_16 hr8 ?_
    refine v_iconst X (v := 4) dX12_year_19 (by decide) ?_
    obtain ⟨hk9, h⟩ := h
    obtain ⟨hi10, h⟩ := h
    refine v_iald X hk9 hi10 dX12_year_20 ?_
    refine v_bipush X (v := 16) dX12_year_21 (by decide) ?_
    refine v_icmp_ne X (tgt := 29) dX12_year_23 (by decide) (fun c11 => ?_) (fun c11 => ?_)
    · replace h := h.1 c11
      refine v_aload_n X 0 dX12_year_29 rfl rfl ?_
      refine v_callV X (av := []) (T := TX12) (N := 26) (s_X12_keep l b D cy h) hk7 (by decide) rfl wd1138 wd1140 wd35 wd62 k_X12_keep dn_X12_keep rfl ⟨Nat.le_of_ble_eq_true rfl, Nat.le_of_ble_eq_true rfl⟩ (Nat.le_of_ble_eq_true rfl) ⟨Nat.le_of_ble_eq_true rfl, Nat.le_of_ble_eq_true rfl⟩ dX12_year_30 rfl (kV (fun S12 h => ?_))
      refine v_aload_n X 0 dX12_year_33 rfl rfl ?_
      refine v_iconst X (v := 1) dX12_year_34 (by decide) ?_
      refine v_ldc X wd1070 dX12_year_35 ?_
      refine v_ldc X wd1070 dX12_year_37 ?_
      refine v_ldc X wd1070 dX12_year_39 ?_
      refine v_iconst X (v := 0) dX12_year_41 (by decide) ?_
      refine v_iconst X (v := 0) dX12_year_42 (by decide) ?_
      obtain ⟨hk14, h⟩ := h
      refine v_callV X (av := [.int (1 : Int32), .int (-1000000 : Int32), .int (-1000000 : Int32), .int (-1000000 : Int32), .int (0 : Int32), .int (0 : Int32)]) (T := TX12) (N := 26) (s_X12_logs l b D cy h) hk14 (by decide) rfl wd1142 wd1144 wd36 wd62 k_X12_logs dn_X12_logs rfl ⟨Nat.le_of_ble_eq_true rfl, Nat.le_of_ble_eq_true rfl⟩ (Nat.le_of_ble_eq_true rfl) ⟨Nat.le_of_ble_eq_true rfl, Nat.le_of_ble_eq_true rfl⟩ dX12_year_43 rfl (kV (fun S13 h => ?_))
      refine v_iconst X (v := 0) dX12_year_46 (by decide) ?_
      refine v_istore_n X (lv' := [(1, .int (0 : Int32)), (0, .ref a0)]) dX12_year_47 rfl (by decide) rfl ?_
      refine v_iconst X (v := 0) dX12_year_48 (by decide) ?_
      refine v_istore_n X (lv' := [(2, .int (0 : Int32)), (1, .int (0 : Int32)), (0, .ref a0)]) dX12_year_49 rfl (by decide) rfl ?_
      refine v_lv (lv' := [(0, .ref a0), (1, .int (0 : Int32)), (2, .int (0 : Int32))]) [2, 1, 0] rfl ?_
      obtain ⟨n, h⟩ := h
      exact l50 n _ _ _ _ h
    · replace h := h.2 c11
      refine v_ldc X wd1053 dX12_year_26 ?_
      exact v_iret X hr hlk ⟨_, rfl, h⟩ dX12_year_28
  · replace h := h.2 c6
    refine v_ldc X wd1154 dX12_year_12 ?_
    exact v_iret X hr hlk ⟨_, rfl, h⟩ dX12_year_14
def wB_X12_swap_78 (bk78 : hp → Nat → Int32 → Int32 → Int32 → Prop) (Q : Int32 → hp → Prop) (S : hp) (l0 : Nat) (l1 : Int32) (l2 : Int32) (l3 : Int32) : Prop :=
  (((3 : Int32) ≤ l3 → hK S l0 = 11 ∧ ∃ r24 : Nat, hR S l0 5 = some r24 ∧ hK S r24 = 12 ∧ vp_in (4 : Int32) (hN S r24) ∧ Q (hI S r24 ((4 : Int32)).toNatClampNeg) S) ∧ (¬ (3 : Int32) ≤ l3 → hK S l0 = 11 ∧ ∃ r28 : Nat, hR S l0 5 = some r28 ∧ hK S r28 = 12 ∧ vp_in (((5 : Int32) + ((3 : Int32) * l1)) + l3) (hN S r28) ∧ ∀ v31 : Int32, v31 = (hI S r28 ((((5 : Int32) + ((3 : Int32) * l1)) + l3)).toNatClampNeg) → vp_in (((5 : Int32) + ((3 : Int32) * l2)) + l3) (hN S r28) ∧ ∀ S33 : hp, S33 = setI S r28 ((((5 : Int32) + ((3 : Int32) * l1)) + l3)).toNatClampNeg (hI S r28 ((((5 : Int32) + ((3 : Int32) * l2)) + l3)).toNatClampNeg) → ∀ S39 : hp, S39 = setI S33 r28 ((((5 : Int32) + ((3 : Int32) * l2)) + l3)).toNatClampNeg v31 → ∀ v45 : Int32, v45 = l3 + (1 : Int32) → bk78 S39 l0 l1 l2 v45))
def wl_X12_swap_78 (Q : Int32 → hp → Prop) : Nat → hp → Nat → Int32 → Int32 → Int32 → Prop
  | 0 => fun _ _ _ _ _ => False
  | n + 1 => wB_X12_swap_78 (wl_X12_swap_78 Q n) Q
def wB_X12_swap_69 (Q : Int32 → hp → Prop) (S : hp) (l0 : Nat) (l1 : Int32) (l2 : Int32) (k0 : Int32) (k1 : Int32) (k2 : Int32) (k3 : Nat) : Prop :=
  hK S k3 = 11 ∧ wp_X12_logs (fun S20 => ∃ n : Nat, wl_X12_swap_78 Q n S20 l0 l1 l2 (0 : Int32)) S k3 k2 k1 k0 (-1000000 : Int32) (0 : Int32) (0 : Int32)
def wB_X12_swap_59 (Q : Int32 → hp → Prop) (S : hp) (l0 : Nat) (l1 : Int32) (l2 : Int32) (k0 : Int32) (k1 : Int32) (k2 : Nat) : Prop :=
  ((l2 ≤ l1 → wB_X12_swap_69 Q S l0 l1 l2 l1 k0 k1 k2) ∧ (¬ l2 ≤ l1 → wB_X12_swap_69 Q S l0 l1 l2 l2 k0 k1 k2))
def wp_X12_swap (Q : Int32 → hp → Prop) (S : hp) (a0 : Nat) (x1 : Int32) (x2 : Int32) : Prop :=
  hK S a0 = 11 ∧ ∀ S2 : hp, S2 = setI S a0 0 (0 : Int32) → wp_X12_isDummy (fun r5 S4 => ((r5 = 0 → Q (-1000001 : Int32) S4) ∧ (¬ r5 = 0 → hK S4 a0 = 11 ∧ wp_X12_isDummy (fun r9 S7 => ((r9 = 0 → Q (-1000001 : Int32) S7) ∧ (¬ r9 = 0 → ((¬ x1 = x2 → hK S7 a0 = 11 ∧ ∃ r13 : Nat, hR S7 a0 5 = some r13 ∧ hK S7 r13 = 12 ∧ vp_in (4 : Int32) (hN S7 r13) ∧ ((¬ (hI S7 r13 ((4 : Int32)).toNatClampNeg) = (16 : Int32) → wp_X12_keep (fun S17 => ((x2 ≤ x1 → wB_X12_swap_59 Q S17 a0 x1 x2 x2 (2 : Int32) a0) ∧ (¬ x2 ≤ x1 → wB_X12_swap_59 Q S17 a0 x1 x2 x1 (2 : Int32) a0))) S7 a0) ∧ ((hI S7 r13 ((4 : Int32)).toNatClampNeg) = (16 : Int32) → Q (-1000003 : Int32) S7))) ∧ (x1 = x2 → Q (-1000001 : Int32) S7))))) S4 a0 x2))) S2 a0 x1
theorem k_X12_swap : Cond.code yX12_swap cX12_swap 5 (some .int) ∈ gtb := mg 1162 (by decide +kernel) (by decide +kernel)
theorem dn_X12_swap : yX12_swap.cls ≠ "java/lang/invoke/MethodHandle" ∧ yX12_swap.cls ≠ "java/lang/invoke/VarHandle" ∧ (parseMethodDescriptor yX12_swap.desc).map (fun d => d.parameters.length) = some 2 := by decide +kernel
set_option maxRecDepth 100000 in
set_option maxHeartbeats 4000000 in
theorem s_X12_swap (l : Launch) (b : Nat) (D : va_G) (cy : Nat → ClassId) {Q : Int32 → hp → Prop} {S : hp} {a0 : Nat} {x1 : Int32} {x2 : Int32} (h : wp_X12_swap Q S a0 x1 x2) : MT l yX12_swap cX12_swap 5 (some .int) 2 46 0 0 b D cy S [.ref a0, .int x1, .int x2] (pI Q) := by
  refine MT.of (by decide +kernel) (Nat.le_of_ble_eq_true rfl) ?_
  intro p e s m args below meth c X hr hlk hnm
  have j78 : ∀ (bk78 : hp → Nat → Int32 → Int32 → Int32 → Prop) (hbk78 : ∀ (S : hp) (l0 : Nat) (l1 : Int32) (l2 : Int32) (l3 : Int32), bk78 S l0 l1 l2 l3 → VM l b D cy 5 2 46 0 0 (pI Q) p e s m args below meth c S 0 0 78 [(0, .ref l0), (1, .int l1), (2, .int l2), (3, .int l3)] []) (S : hp) (l0 : Nat) (l1 : Int32) (l2 : Int32) (l3 : Int32), wB_X12_swap_78 bk78 Q S l0 l1 l2 l3 → VM l b D cy 5 2 46 0 0 (pI Q) p e s m args below meth c S 0 0 78 [(0, .ref l0), (1, .int l1), (2, .int l2), (3, .int l3)] [] := by
    intro bk78 hbk78 S l0 l1 l2 l3 h
    unfold wB_X12_swap_78 at h
    refine v_iload_n X 3 dX12_swap_78 rfl rfl ?_
    refine v_iconst X (v := 3) dX12_swap_79 (by decide) ?_
    refine v_icmp_ge X (tgt := 141) dX12_swap_80 (by decide) (fun c22 => ?_) (fun c22 => ?_)
    · replace h := h.1 c22
      refine v_aload_n X 0 dX12_swap_141 rfl rfl ?_
      obtain ⟨hk23, h⟩ := h
      obtain ⟨r24, hr24, h⟩ := h
      refine v_getR X (T := TX12) (N := 26) (k := 5) hk23 (by decide) rfl (by decide) inX12 wd944 rfl dX12_swap_142 hr24 ?_
      refine v_iconst X (v := 4) dX12_swap_145 (by decide) ?_
      obtain ⟨hk25, h⟩ := h
      obtain ⟨hi26, h⟩ := h
      refine v_iald X hk25 hi26 dX12_swap_146 ?_
      exact v_iret X hr hlk ⟨_, rfl, h⟩ dX12_swap_147
    · replace h := h.2 c22
      refine v_aload_n X 0 dX12_swap_83 rfl rfl ?_
      obtain ⟨hk27, h⟩ := h
      obtain ⟨r28, hr28, h⟩ := h
      refine v_getR X (T := TX12) (N := 26) (k := 5) hk27 (by decide) rfl (by decide) inX12 wd944 rfl dX12_swap_84 hr28 ?_
      refine v_iconst X (v := 5) dX12_swap_87 (by decide) ?_
      refine v_iconst X (v := 3) dX12_swap_88 (by decide) ?_
      refine v_iload_n X 1 dX12_swap_89 rfl rfl ?_
      refine v_imul X dX12_swap_90 ?_
      refine v_iadd X dX12_swap_91 ?_
      refine v_iload_n X 3 dX12_swap_92 rfl rfl ?_
      refine v_iadd X dX12_swap_93 ?_
      obtain ⟨hk29, h⟩ := h
      obtain ⟨hi30, h⟩ := h
      refine v_iald X hk29 hi30 dX12_swap_94 ?_
      refine v_nm (fun v31 hv31 => ?_)
      replace h := h v31 hv31
      refine v_istore X (lv' := [(4, .int v31), (0, .ref l0), (1, .int l1), (2, .int l2), (3, .int l3)]) dX12_swap_95 (by decide) rfl ?_
      refine v_aload_n X 1 dX12_swap_97 rfl rfl ?_
      refine v_getR X (T := TX12) (N := 26) (k := 5) hk27 (by decide) rfl (by decide) inX12 wd944 rfl dX12_swap_98 hr28 ?_
      refine v_iconst X (v := 5) dX12_swap_101 (by decide) ?_
      refine v_iconst X (v := 3) dX12_swap_102 (by decide) ?_
      refine v_iload_n X 2 dX12_swap_103 rfl rfl ?_
      refine v_imul X dX12_swap_104 ?_
      refine v_iadd X dX12_swap_105 ?_
      refine v_iload_n X 4 dX12_swap_106 rfl rfl ?_
      refine v_iadd X dX12_swap_107 ?_
      refine v_aload_n X 1 dX12_swap_108 rfl rfl ?_
      refine v_getR X (T := TX12) (N := 26) (k := 5) hk27 (by decide) rfl (by decide) inX12 wd944 rfl dX12_swap_109 hr28 ?_
      refine v_iconst X (v := 5) dX12_swap_112 (by decide) ?_
      refine v_iconst X (v := 3) dX12_swap_113 (by decide) ?_
      refine v_iload_n X 3 dX12_swap_114 rfl rfl ?_
      refine v_imul X dX12_swap_115 ?_
      refine v_iadd X dX12_swap_116 ?_
      refine v_iload_n X 4 dX12_swap_117 rfl rfl ?_
      refine v_iadd X dX12_swap_118 ?_
      obtain ⟨hi32, h⟩ := h
      refine v_iald X hk29 hi32 dX12_swap_119 ?_
      refine v_iast X hk29 hi30 dX12_swap_120 ?_
      refine v_nmS (fun S33 eS33 => ?_)
      replace h := h S33 eS33
      have hk34 : hK S33 l0 = 11 := by rw [eS33]; exact hk27
      have hk35 : hK S33 r28 = 12 := by rw [eS33]; exact hk29
      have hi36 : vp_in (((5 : Int32) + ((3 : Int32) * l1)) + l3) (hN S33 r28) := by rw [eS33]; exact hi30
      have hi37 : vp_in (((5 : Int32) + ((3 : Int32) * l2)) + l3) (hN S33 r28) := by rw [eS33]; exact hi32
      have hr38 : hR S33 l0 5 = some r28 := by rw [eS33]; exact hr28
      refine v_aload_n X 1 dX12_swap_121 rfl rfl ?_
      refine v_getR X (T := TX12) (N := 26) (k := 5) hk34 (by decide) rfl (by decide) inX12 wd944 rfl dX12_swap_122 hr38 ?_
      refine v_iconst X (v := 5) dX12_swap_125 (by decide) ?_
      refine v_iconst X (v := 3) dX12_swap_126 (by decide) ?_
      refine v_iload_n X 3 dX12_swap_127 rfl rfl ?_
      refine v_imul X dX12_swap_128 ?_
      refine v_iadd X dX12_swap_129 ?_
      refine v_iload_n X 4 dX12_swap_130 rfl rfl ?_
      refine v_iadd X dX12_swap_131 ?_
      refine v_iload X 0 dX12_swap_132 rfl ?_
      refine v_iast X hk35 hi37 dX12_swap_134 ?_
      refine v_nmS (fun S39 eS39 => ?_)
      replace h := h S39 eS39
      have hk40 : hK S39 l0 = 11 := by rw [eS39]; exact hk34
      have hk41 : hK S39 r28 = 12 := by rw [eS39]; exact hk35
      have hi42 : vp_in (((5 : Int32) + ((3 : Int32) * l1)) + l3) (hN S39 r28) := by rw [eS39]; exact hi36
      have hi43 : vp_in (((5 : Int32) + ((3 : Int32) * l2)) + l3) (hN S39 r28) := by rw [eS39]; exact hi37
      have hr44 : hR S39 l0 5 = some r28 := by rw [eS39]; exact hr38
      obtain ⟨v45, hv45⟩ : ∃ y : Int32, y = l3 + (1 : Int32) := ⟨_, rfl⟩
      replace h := h v45 hv45
      refine v_iinc X (j := 4) (v := v45) (lv' := [(3, .int v45), (4, .int v31), (0, .ref l0), (1, .int l1), (2, .int l2)]) dX12_swap_135 rfl (by rw [hv45] <;> rfl) (by decide) rfl ?_
      refine v_goto X (tgt := 78) dX12_swap_138 (by decide) ?_
      refine v_lv (lv' := [(0, .ref l0), (1, .int l1), (2, .int l2), (3, .int v45)]) [2, 3, 4, 0] rfl ?_
      exact hbk78 _ _ _ _ _ h
  have l78 : ∀  (n : Nat) (S : hp) (l0 : Nat) (l1 : Int32) (l2 : Int32) (l3 : Int32), wl_X12_swap_78 Q n S l0 l1 l2 l3 → VM l b D cy 5 2 46 0 0 (pI Q) p e s m args below meth c S 0 0 78 [(0, .ref l0), (1, .int l1), (2, .int l2), (3, .int l3)] [] := by
    intro  n
    induction n with
    | zero => intro S l0 l1 l2 l3 h; exact h.elim
    | succ n ih => intro S l0 l1 l2 l3 h; exact j78 (wl_X12_swap_78 Q n) ih S l0 l1 l2 l3 h
  have j69 : ∀  (S : hp) (l0 : Nat) (l1 : Int32) (l2 : Int32) (k0 : Int32) (k1 : Int32) (k2 : Int32) (k3 : Nat), wB_X12_swap_69 Q S l0 l1 l2 k0 k1 k2 k3 → VM l b D cy 5 2 46 0 0 (pI Q) p e s m args below meth c S 0 0 69 [(0, .ref l0), (1, .int l1), (2, .int l2)] [.int k0, .int k1, .int k2, .ref k3] := by
    intro  S l0 l1 l2 k0 k1 k2 k3 h
    unfold wB_X12_swap_69 at h
    refine v_ldc X wd1070 dX12_swap_69 ?_
    refine v_iconst X (v := 0) dX12_swap_71 (by decide) ?_
    refine v_iconst X (v := 0) dX12_swap_72 (by decide) ?_
    obtain ⟨hk21, h⟩ := h
    refine v_callV X (av := [.int k2, .int k1, .int k0, .int (-1000000 : Int32), .int (0 : Int32), .int (0 : Int32)]) (T := TX12) (N := 26) (s_X12_logs l b D cy h) hk21 (by decide) rfl wd1142 wd1144 wd36 wd62 k_X12_logs dn_X12_logs rfl ⟨Nat.le_of_ble_eq_true rfl, Nat.le_of_ble_eq_true rfl⟩ (Nat.le_of_ble_eq_true rfl) ⟨Nat.le_of_ble_eq_true rfl, Nat.le_of_ble_eq_true rfl⟩ dX12_swap_73 rfl (kV (fun S20 h => ?_))
    refine v_iconst X (v := 0) dX12_swap_76 (by decide) ?_
    refine v_istore_n X (lv' := [(3, .int (0 : Int32)), (0, .ref l0), (1, .int l1), (2, .int l2)]) dX12_swap_77 rfl (by decide) rfl ?_
    refine v_lv (lv' := [(0, .ref l0), (1, .int l1), (2, .int l2), (3, .int (0 : Int32))]) [1, 2, 3, 0] rfl ?_
    obtain ⟨n, h⟩ := h
    exact l78 n _ _ _ _ _ h
  have j59 : ∀  (S : hp) (l0 : Nat) (l1 : Int32) (l2 : Int32) (k0 : Int32) (k1 : Int32) (k2 : Nat), wB_X12_swap_59 Q S l0 l1 l2 k0 k1 k2 → VM l b D cy 5 2 46 0 0 (pI Q) p e s m args below meth c S 0 0 59 [(0, .ref l0), (1, .int l1), (2, .int l2)] [.int k0, .int k1, .ref k2] := by
    intro  S l0 l1 l2 k0 k1 k2 h
    unfold wB_X12_swap_59 at h
    refine v_iload_n X 1 dX12_swap_59 rfl rfl ?_
    refine v_iload_n X 2 dX12_swap_60 rfl rfl ?_
    refine v_icmp_ge X (tgt := 68) dX12_swap_61 (by decide) (fun c19 => ?_) (fun c19 => ?_)
    · replace h := h.1 c19
      refine v_iload_n X 1 dX12_swap_68 rfl rfl ?_
      exact j69 _ _ _ _ _ _ _ _ h
    · replace h := h.2 c19
      refine v_iload_n X 2 dX12_swap_64 rfl rfl ?_
      refine v_goto X (tgt := 69) dX12_swap_65 (by decide) ?_
      exact j69 _ _ _ _ _ _ _ _ h
  unfold wp_X12_swap at h
  show VM l b D cy 5 2 46 0 0 (pI Q) p e s m args below meth c S 0 0 0 [(0, .ref a0), (1, .int x1), (2, .int x2)] []
  refine v_aload_n X 0 dX12_swap_0 rfl rfl ?_
  refine v_iconst X (v := 0) dX12_swap_1 (by decide) ?_
  obtain ⟨hk1, h⟩ := h
  refine v_putI X (T := TX12) (N := 26) (k := 0) hk1 (by decide) rfl (by decide) inX12 wd939 tyX12 tyX12_ok nmX12 rfl rfl rfl rfl dX12_swap_2 ?_
  refine v_nmS (fun S2 eS2 => ?_)
  replace h := h S2 eS2
  have hk3 : hK S2 a0 = 11 := by rw [eS2]; exact hk1
  refine v_aload_n X 0 dX12_swap_5 rfl rfl ?_
  refine v_iload_n X 1 dX12_swap_6 rfl rfl ?_
  refine v_callV X (av := [.int x1]) (T := TX12) (N := 26) (s_X12_isDummy l b D cy h) hk3 (by decide) rfl wd1119 wd1121 wd32 wd62 k_X12_isDummy dn_X12_isDummy rfl ⟨Nat.le_of_ble_eq_true rfl, Nat.le_of_ble_eq_true rfl⟩ (Nat.le_of_ble_eq_true rfl) ⟨Nat.le_of_ble_eq_true rfl, Nat.le_of_ble_eq_true rfl⟩ dX12_swap_7 rfl (kI (fun r5 S4 h => ?_))
  refine v_if_eq X (tgt := 26) dX12_swap_10 (by decide) (fun c6 => ?_) (fun c6 => ?_)
  · replace h := h.1 c6
    refine v_ldc X wd1030 dX12_swap_26 ?_
    exact v_iret X hr hlk ⟨_, rfl, h⟩ dX12_swap_28
  · replace h := h.2 c6
    refine v_aload_n X 0 dX12_swap_13 rfl rfl ?_
    refine v_iload_n X 2 dX12_swap_14 rfl rfl ?_
    obtain ⟨hk8, h⟩ := h
    refine v_callV X (av := [.int x2]) (T := TX12) (N := 26) (s_X12_isDummy l b D cy h) hk8 (by decide) rfl wd1119 wd1121 wd32 wd62 k_X12_isDummy dn_X12_isDummy rfl ⟨Nat.le_of_ble_eq_true rfl, Nat.le_of_ble_eq_true rfl⟩ (Nat.le_of_ble_eq_true rfl) ⟨Nat.le_of_ble_eq_true rfl, Nat.le_of_ble_eq_true rfl⟩ dX12_swap_15 rfl (kI (fun r9 S7 h => ?_))
    refine v_if_eq X (tgt := 26) dX12_swap_18 (by decide) (fun c10 => ?_) (fun c10 => ?_)
    · replace h := h.1 c10
      refine v_ldc X wd1030 dX12_swap_26 ?_
      exact v_iret X hr hlk ⟨_, rfl, h⟩ dX12_swap_28
    · replace h := h.2 c10
      refine v_iload_n X 1 dX12_swap_21 rfl rfl ?_
      refine v_iload_n X 2 dX12_swap_22 rfl rfl ?_
      refine v_icmp_ne X (tgt := 29) dX12_swap_23 (by decide) (fun c11 => ?_) (fun c11 => ?_)
      · replace h := h.1 c11
        refine v_aload_n X 0 dX12_swap_29 rfl rfl ?_
        obtain ⟨hk12, h⟩ := h
        obtain ⟨r13, hr13, h⟩ := h
        refine v_getR X (T := TX12) (N := 26) (k := 5) hk12 (by decide) rfl (by decide) inX12 wd944 rfl dX12_swap_30 hr13 ?_
        refine v_iconst X (v := 4) dX12_swap_33 (by decide) ?_
        obtain ⟨hk14, h⟩ := h
        obtain ⟨hi15, h⟩ := h
        refine v_iald X hk14 hi15 dX12_swap_34 ?_
        refine v_bipush X (v := 16) dX12_swap_35 (by decide) ?_
        refine v_icmp_ne X (tgt := 43) dX12_swap_37 (by decide) (fun c16 => ?_) (fun c16 => ?_)
        · replace h := h.1 c16
          refine v_aload_n X 0 dX12_swap_43 rfl rfl ?_
          refine v_callV X (av := []) (T := TX12) (N := 26) (s_X12_keep l b D cy h) hk12 (by decide) rfl wd1138 wd1140 wd35 wd62 k_X12_keep dn_X12_keep rfl ⟨Nat.le_of_ble_eq_true rfl, Nat.le_of_ble_eq_true rfl⟩ (Nat.le_of_ble_eq_true rfl) ⟨Nat.le_of_ble_eq_true rfl, Nat.le_of_ble_eq_true rfl⟩ dX12_swap_44 rfl (kV (fun S17 h => ?_))
          refine v_aload_n X 0 dX12_swap_47 rfl rfl ?_
          refine v_iconst X (v := 2) dX12_swap_48 (by decide) ?_
          refine v_iload_n X 1 dX12_swap_49 rfl rfl ?_
          refine v_iload_n X 2 dX12_swap_50 rfl rfl ?_
          refine v_icmp_ge X (tgt := 58) dX12_swap_51 (by decide) (fun c18 => ?_) (fun c18 => ?_)
          · replace h := h.1 c18
            refine v_iload_n X 2 dX12_swap_58 rfl rfl ?_
            exact j59 _ _ _ _ _ _ _ h
          · replace h := h.2 c18
            refine v_iload_n X 1 dX12_swap_54 rfl rfl ?_
            refine v_goto X (tgt := 59) dX12_swap_55 (by decide) ?_
            exact j59 _ _ _ _ _ _ _ h
        · replace h := h.2 c16
          refine v_ldc X wd1053 dX12_swap_40 ?_
          exact v_iret X hr hlk ⟨_, rfl, h⟩ dX12_swap_42
      · replace h := h.2 c11
        refine v_ldc X wd1030 dX12_swap_26 ?_
        exact v_iret X hr hlk ⟨_, rfl, h⟩ dX12_swap_28
def wB_X12_close_35 (bk35 : hp → Nat → Int32 → Int32 → Prop) (Q : Int32 → hp → Prop) (S : hp) (l0 : Nat) (l1 : Int32) (l2 : Int32) : Prop :=
  (((12 : Int32) ≤ l2 → Q l1 S) ∧ (¬ (12 : Int32) ≤ l2 → hK S l0 = 11 ∧ ∃ r21 : Nat, hR S l0 5 = some r21 ∧ hK S r21 = 12 ∧ vp_in ((5 : Int32) + l2) (hN S r21) ∧ vp_in ((17 : Int32) + l2) (hN S r21) ∧ ∀ S25 : hp, S25 = setI S r21 (((17 : Int32) + l2)).toNatClampNeg (hI S r21 (((5 : Int32) + l2)).toNatClampNeg) → vp_in ((29 : Int32) + l2) (hN S25 r21) ∧ ∀ S32 : hp, S32 = setI S25 r21 (((29 : Int32) + l2)).toNatClampNeg (hI S25 r21 (((5 : Int32) + l2)).toNatClampNeg) → ∀ v39 : Int32, v39 = l2 + (1 : Int32) → bk35 S32 l0 l1 v39))
def wl_X12_close_35 (Q : Int32 → hp → Prop) : Nat → hp → Nat → Int32 → Int32 → Prop
  | 0 => fun _ _ _ _ => False
  | n + 1 => wB_X12_close_35 (wl_X12_close_35 Q n) Q
def wp_X12_close (Q : Int32 → hp → Prop) (S : hp) (a0 : Nat) : Prop :=
  hK S a0 = 11 ∧ ∀ S2 : hp, S2 = setI S a0 0 (0 : Int32) → wp_X12_isThere (fun r5 S4 => ((¬ r5 = 0 → hK S4 a0 = 11 ∧ wp_X12_keep (fun S7 => hK S7 a0 = 11 ∧ ∃ r10 : Nat, hR S7 a0 5 = some r10 ∧ hK S7 r10 = 12 ∧ vp_in (4 : Int32) (hN S7 r10) ∧ ∀ v13 : Int32, v13 = (hI S7 r10 ((4 : Int32)).toNatClampNeg) → ∀ S14 : hp, S14 = setI S7 r10 ((4 : Int32)).toNatClampNeg (0 : Int32) → ∃ n : Nat, wl_X12_close_35 Q n S14 a0 v13 (0 : Int32)) S4 a0) ∧ (r5 = 0 → Q (-1000002 : Int32) S4))) S2 a0
theorem k_X12_close : Cond.code yX12_close cX12_close 3 (some .int) ∈ gtb := mg 1166 (by decide +kernel) (by decide +kernel)
theorem dn_X12_close : yX12_close.cls ≠ "java/lang/invoke/MethodHandle" ∧ yX12_close.cls ≠ "java/lang/invoke/VarHandle" ∧ (parseMethodDescriptor yX12_close.desc).map (fun d => d.parameters.length) = some 0 := by decide +kernel
set_option maxRecDepth 100000 in
set_option maxHeartbeats 4000000 in
theorem s_X12_close (l : Launch) (b : Nat) (D : va_G) (cy : Nat → ClassId) {Q : Int32 → hp → Prop} {S : hp} {a0 : Nat} (h : wp_X12_close Q S a0) : MT l yX12_close cX12_close 3 (some .int) 1 21 0 0 b D cy S [.ref a0] (pI Q) := by
  refine MT.of (by decide +kernel) (Nat.le_of_ble_eq_true rfl) ?_
  intro p e s m args below meth c X hr hlk hnm
  have j35 : ∀ (bk35 : hp → Nat → Int32 → Int32 → Prop) (hbk35 : ∀ (S : hp) (l0 : Nat) (l1 : Int32) (l2 : Int32), bk35 S l0 l1 l2 → VM l b D cy 3 1 21 0 0 (pI Q) p e s m args below meth c S 0 0 35 [(0, .ref l0), (1, .int l1), (2, .int l2)] []) (S : hp) (l0 : Nat) (l1 : Int32) (l2 : Int32), wB_X12_close_35 bk35 Q S l0 l1 l2 → VM l b D cy 3 1 21 0 0 (pI Q) p e s m args below meth c S 0 0 35 [(0, .ref l0), (1, .int l1), (2, .int l2)] [] := by
    intro bk35 hbk35 S l0 l1 l2 h
    unfold wB_X12_close_35 at h
    refine v_iload_n X 2 dX12_close_35 rfl rfl ?_
    refine v_bipush X (v := 12) dX12_close_36 (by decide) ?_
    refine v_icmp_ge X (tgt := 81) dX12_close_38 (by decide) (fun c19 => ?_) (fun c19 => ?_)
    · replace h := h.1 c19
      refine v_iload_n X 1 dX12_close_81 rfl rfl ?_
      exact v_iret X hr hlk ⟨_, rfl, h⟩ dX12_close_82
    · replace h := h.2 c19
      refine v_aload_n X 0 dX12_close_41 rfl rfl ?_
      obtain ⟨hk20, h⟩ := h
      obtain ⟨r21, hr21, h⟩ := h
      refine v_getR X (T := TX12) (N := 26) (k := 5) hk20 (by decide) rfl (by decide) inX12 wd944 rfl dX12_close_42 hr21 ?_
      refine v_bipush X (v := 17) dX12_close_45 (by decide) ?_
      refine v_iload_n X 2 dX12_close_47 rfl rfl ?_
      refine v_iadd X dX12_close_48 ?_
      refine v_aload_n X 0 dX12_close_49 rfl rfl ?_
      refine v_getR X (T := TX12) (N := 26) (k := 5) hk20 (by decide) rfl (by decide) inX12 wd944 rfl dX12_close_50 hr21 ?_
      refine v_iconst X (v := 5) dX12_close_53 (by decide) ?_
      refine v_iload_n X 2 dX12_close_54 rfl rfl ?_
      refine v_iadd X dX12_close_55 ?_
      obtain ⟨hk22, h⟩ := h
      obtain ⟨hi23, h⟩ := h
      refine v_iald X hk22 hi23 dX12_close_56 ?_
      obtain ⟨hi24, h⟩ := h
      refine v_iast X hk22 hi24 dX12_close_57 ?_
      refine v_nmS (fun S25 eS25 => ?_)
      replace h := h S25 eS25
      have hk26 : hK S25 l0 = 11 := by rw [eS25]; exact hk20
      have hk27 : hK S25 r21 = 12 := by rw [eS25]; exact hk22
      have hi28 : vp_in ((5 : Int32) + l2) (hN S25 r21) := by rw [eS25]; exact hi23
      have hi29 : vp_in ((17 : Int32) + l2) (hN S25 r21) := by rw [eS25]; exact hi24
      have hr30 : hR S25 l0 5 = some r21 := by rw [eS25]; exact hr21
      refine v_aload_n X 0 dX12_close_58 rfl rfl ?_
      refine v_getR X (T := TX12) (N := 26) (k := 5) hk26 (by decide) rfl (by decide) inX12 wd944 rfl dX12_close_59 hr30 ?_
      refine v_bipush X (v := 29) dX12_close_62 (by decide) ?_
      refine v_iload_n X 2 dX12_close_64 rfl rfl ?_
      refine v_iadd X dX12_close_65 ?_
      refine v_aload_n X 0 dX12_close_66 rfl rfl ?_
      refine v_getR X (T := TX12) (N := 26) (k := 5) hk26 (by decide) rfl (by decide) inX12 wd944 rfl dX12_close_67 hr30 ?_
      refine v_iconst X (v := 5) dX12_close_70 (by decide) ?_
      refine v_iload_n X 2 dX12_close_71 rfl rfl ?_
      refine v_iadd X dX12_close_72 ?_
      refine v_iald X hk27 hi28 dX12_close_73 ?_
      obtain ⟨hi31, h⟩ := h
      refine v_iast X hk27 hi31 dX12_close_74 ?_
      refine v_nmS (fun S32 eS32 => ?_)
      replace h := h S32 eS32
      have hk33 : hK S32 l0 = 11 := by rw [eS32]; exact hk26
      have hk34 : hK S32 r21 = 12 := by rw [eS32]; exact hk27
      have hi35 : vp_in ((5 : Int32) + l2) (hN S32 r21) := by rw [eS32]; exact hi28
      have hi36 : vp_in ((17 : Int32) + l2) (hN S32 r21) := by rw [eS32]; exact hi29
      have hi37 : vp_in ((29 : Int32) + l2) (hN S32 r21) := by rw [eS32]; exact hi31
      have hr38 : hR S32 l0 5 = some r21 := by rw [eS32]; exact hr30
      obtain ⟨v39, hv39⟩ : ∃ y : Int32, y = l2 + (1 : Int32) := ⟨_, rfl⟩
      replace h := h v39 hv39
      refine v_iinc X (j := 2) (v := v39) (lv' := [(2, .int v39), (0, .ref l0), (1, .int l1)]) dX12_close_75 rfl (by rw [hv39] <;> rfl) (by decide) rfl ?_
      refine v_goto X (tgt := 35) dX12_close_78 (by decide) ?_
      refine v_lv (lv' := [(0, .ref l0), (1, .int l1), (2, .int v39)]) [1, 2, 0] rfl ?_
      exact hbk35 _ _ _ _ h
  have l35 : ∀  (n : Nat) (S : hp) (l0 : Nat) (l1 : Int32) (l2 : Int32), wl_X12_close_35 Q n S l0 l1 l2 → VM l b D cy 3 1 21 0 0 (pI Q) p e s m args below meth c S 0 0 35 [(0, .ref l0), (1, .int l1), (2, .int l2)] [] := by
    intro  n
    induction n with
    | zero => intro S l0 l1 l2 h; exact h.elim
    | succ n ih => intro S l0 l1 l2 h; exact j35 (wl_X12_close_35 Q n) ih S l0 l1 l2 h
  unfold wp_X12_close at h
  show VM l b D cy 3 1 21 0 0 (pI Q) p e s m args below meth c S 0 0 0 [(0, .ref a0)] []
  refine v_aload_n X 0 dX12_close_0 rfl rfl ?_
  refine v_iconst X (v := 0) dX12_close_1 (by decide) ?_
  obtain ⟨hk1, h⟩ := h
  refine v_putI X (T := TX12) (N := 26) (k := 0) hk1 (by decide) rfl (by decide) inX12 wd939 tyX12 tyX12_ok nmX12 rfl rfl rfl rfl dX12_close_2 ?_
  refine v_nmS (fun S2 eS2 => ?_)
  replace h := h S2 eS2
  have hk3 : hK S2 a0 = 11 := by rw [eS2]; exact hk1
  refine v_aload_n X 0 dX12_close_5 rfl rfl ?_
  refine v_callV X (av := []) (T := TX12) (N := 26) (s_X12_isThere l b D cy h) hk3 (by decide) rfl wd1150 wd1152 wd37 wd62 k_X12_isThere dn_X12_isThere rfl ⟨Nat.le_of_ble_eq_true rfl, Nat.le_of_ble_eq_true rfl⟩ (Nat.le_of_ble_eq_true rfl) ⟨Nat.le_of_ble_eq_true rfl, Nat.le_of_ble_eq_true rfl⟩ dX12_close_6 rfl (kI (fun r5 S4 h => ?_))
  refine v_if_ne X (tgt := 15) dX12_close_9 (by decide) (fun c6 => ?_) (fun c6 => ?_)
  · replace h := h.1 c6
    refine v_aload_n X 0 dX12_close_15 rfl rfl ?_
    obtain ⟨hk8, h⟩ := h
    refine v_callV X (av := []) (T := TX12) (N := 26) (s_X12_keep l b D cy h) hk8 (by decide) rfl wd1138 wd1140 wd35 wd62 k_X12_keep dn_X12_keep rfl ⟨Nat.le_of_ble_eq_true rfl, Nat.le_of_ble_eq_true rfl⟩ (Nat.le_of_ble_eq_true rfl) ⟨Nat.le_of_ble_eq_true rfl, Nat.le_of_ble_eq_true rfl⟩ dX12_close_16 rfl (kV (fun S7 h => ?_))
    refine v_aload_n X 0 dX12_close_19 rfl rfl ?_
    obtain ⟨hk9, h⟩ := h
    obtain ⟨r10, hr10, h⟩ := h
    refine v_getR X (T := TX12) (N := 26) (k := 5) hk9 (by decide) rfl (by decide) inX12 wd944 rfl dX12_close_20 hr10 ?_
    refine v_iconst X (v := 4) dX12_close_23 (by decide) ?_
    obtain ⟨hk11, h⟩ := h
    obtain ⟨hi12, h⟩ := h
    refine v_iald X hk11 hi12 dX12_close_24 ?_
    refine v_nm (fun v13 hv13 => ?_)
    replace h := h v13 hv13
    refine v_istore_n X (lv' := [(1, .int v13), (0, .ref a0)]) dX12_close_25 rfl (by decide) rfl ?_
    refine v_aload_n X 1 dX12_close_26 rfl rfl ?_
    refine v_getR X (T := TX12) (N := 26) (k := 5) hk9 (by decide) rfl (by decide) inX12 wd944 rfl dX12_close_27 hr10 ?_
    refine v_iconst X (v := 4) dX12_close_30 (by decide) ?_
    refine v_iconst X (v := 0) dX12_close_31 (by decide) ?_
    refine v_iast X hk11 hi12 dX12_close_32 ?_
    refine v_nmS (fun S14 eS14 => ?_)
    replace h := h S14 eS14
    have hk15 : hK S14 a0 = 11 := by rw [eS14]; exact hk9
    have hk16 : hK S14 r10 = 12 := by rw [eS14]; exact hk11
    have hi17 : vp_in (4 : Int32) (hN S14 r10) := by rw [eS14]; exact hi12
    have hr18 : hR S14 a0 5 = some r10 := by rw [eS14]; exact hr10
    refine v_iconst X (v := 0) dX12_close_33 (by decide) ?_
    refine v_istore_n X (lv' := [(2, .int (0 : Int32)), (1, .int v13), (0, .ref a0)]) dX12_close_34 rfl (by decide) rfl ?_
    refine v_lv (lv' := [(0, .ref a0), (1, .int v13), (2, .int (0 : Int32))]) [2, 1, 0] rfl ?_
    obtain ⟨n, h⟩ := h
    exact l35 n _ _ _ _ h
  · replace h := h.2 c6
    refine v_ldc X wd1154 dX12_close_12 ?_
    exact v_iret X hr hlk ⟨_, rfl, h⟩ dX12_close_14
def wB_X12_undo_27 (bk27 : hp → Nat → Int32 → Prop) (Q : Int32 → hp → Prop) (S : hp) (l0 : Nat) (l1 : Int32) : Prop :=
  (((147 : Int32) ≤ l1 → hK S l0 = 11 ∧ Q (hI S l0 8) S) ∧ (¬ (147 : Int32) ≤ l1 → hK S l0 = 11 ∧ ∃ r10 : Nat, hR S l0 5 = some r10 ∧ ∃ r11 : Nat, hR S l0 7 = some r11 ∧ hK S r11 = 12 ∧ vp_in (((147 : Int32) * (hI S l0 8)) + l1) (hN S r11) ∧ hK S r10 = 12 ∧ vp_in l1 (hN S r10) ∧ ∀ S16 : hp, S16 = setI S r10 (l1).toNatClampNeg (hI S r11 ((((147 : Int32) * (hI S l0 8)) + l1)).toNatClampNeg) → ∀ v24 : Int32, v24 = l1 + (1 : Int32) → bk27 S16 l0 v24))
def wl_X12_undo_27 (Q : Int32 → hp → Prop) : Nat → hp → Nat → Int32 → Prop
  | 0 => fun _ _ _ => False
  | n + 1 => wB_X12_undo_27 (wl_X12_undo_27 Q n) Q
def wp_X12_undo (Q : Int32 → hp → Prop) (S : hp) (a0 : Nat) : Prop :=
  hK S a0 = 11 ∧ ∀ S2 : hp, S2 = setI S a0 0 (0 : Int32) → ((¬ (hI S2 a0 8) = 0 → ∀ S5 : hp, S5 = setI S2 a0 8 ((hI S2 a0 8) - (1 : Int32)) → ∃ n : Nat, wl_X12_undo_27 Q n S5 a0 (0 : Int32)) ∧ ((hI S2 a0 8) = 0 → Q (-1000002 : Int32) S2))
theorem k_X12_undo : Cond.code yX12_undo cX12_undo 2 (some .int) ∈ gtb := mg 1170 (by decide +kernel) (by decide +kernel)
theorem dn_X12_undo : yX12_undo.cls ≠ "java/lang/invoke/MethodHandle" ∧ yX12_undo.cls ≠ "java/lang/invoke/VarHandle" ∧ (parseMethodDescriptor yX12_undo.desc).map (fun d => d.parameters.length) = some 0 := by decide +kernel
set_option maxRecDepth 100000 in
set_option maxHeartbeats 4000000 in
theorem s_X12_undo (l : Launch) (b : Nat) (D : va_G) (cy : Nat → ClassId) {Q : Int32 → hp → Prop} {S : hp} {a0 : Nat} (h : wp_X12_undo Q S a0) : MT l yX12_undo cX12_undo 2 (some .int) 0 0 0 0 b D cy S [.ref a0] (pI Q) := by
  refine MT.of (by decide +kernel) (Nat.le_of_ble_eq_true rfl) ?_
  intro p e s m args below meth c X hr hlk hnm
  have j27 : ∀ (bk27 : hp → Nat → Int32 → Prop) (hbk27 : ∀ (S : hp) (l0 : Nat) (l1 : Int32), bk27 S l0 l1 → VM l b D cy 2 0 0 0 0 (pI Q) p e s m args below meth c S 0 0 27 [(0, .ref l0), (1, .int l1)] []) (S : hp) (l0 : Nat) (l1 : Int32), wB_X12_undo_27 bk27 Q S l0 l1 → VM l b D cy 2 0 0 0 0 (pI Q) p e s m args below meth c S 0 0 27 [(0, .ref l0), (1, .int l1)] [] := by
    intro bk27 hbk27 S l0 l1 h
    unfold wB_X12_undo_27 at h
    refine v_iload_n X 1 dX12_undo_27 rfl rfl ?_
    refine v_sipush X (v := 147) dX12_undo_28 (by decide) ?_
    refine v_icmp_ge X (tgt := 61) dX12_undo_31 (by decide) (fun c7 => ?_) (fun c7 => ?_)
    · replace h := h.1 c7
      refine v_aload_n X 0 dX12_undo_61 rfl rfl ?_
      obtain ⟨hk8, h⟩ := h
      refine v_getI X (T := TX12) (N := 26) (k := 8) hk8 (by decide) rfl (by decide) inX12 wd947 rfl dX12_undo_62 ?_
      exact v_iret X hr hlk ⟨_, rfl, h⟩ dX12_undo_65
    · replace h := h.2 c7
      refine v_aload_n X 0 dX12_undo_34 rfl rfl ?_
      obtain ⟨hk9, h⟩ := h
      obtain ⟨r10, hr10, h⟩ := h
      refine v_getR X (T := TX12) (N := 26) (k := 5) hk9 (by decide) rfl (by decide) inX12 wd944 rfl dX12_undo_35 hr10 ?_
      refine v_iload_n X 1 dX12_undo_38 rfl rfl ?_
      refine v_aload_n X 0 dX12_undo_39 rfl rfl ?_
      obtain ⟨r11, hr11, h⟩ := h
      refine v_getR X (T := TX12) (N := 26) (k := 7) hk9 (by decide) rfl (by decide) inX12 wd946 rfl dX12_undo_40 hr11 ?_
      refine v_sipush X (v := 147) dX12_undo_43 (by decide) ?_
      refine v_aload_n X 0 dX12_undo_46 rfl rfl ?_
      refine v_getI X (T := TX12) (N := 26) (k := 8) hk9 (by decide) rfl (by decide) inX12 wd947 rfl dX12_undo_47 ?_
      refine v_imul X dX12_undo_50 ?_
      refine v_iload_n X 1 dX12_undo_51 rfl rfl ?_
      refine v_iadd X dX12_undo_52 ?_
      obtain ⟨hk12, h⟩ := h
      obtain ⟨hi13, h⟩ := h
      refine v_iald X hk12 hi13 dX12_undo_53 ?_
      obtain ⟨hk14, h⟩ := h
      obtain ⟨hi15, h⟩ := h
      refine v_iast X hk14 hi15 dX12_undo_54 ?_
      refine v_nmS (fun S16 eS16 => ?_)
      replace h := h S16 eS16
      have hk17 : hK S16 l0 = 11 := by rw [eS16]; exact hk9
      have hk18 : hK S16 r11 = 12 := by rw [eS16]; exact hk12
      have hk19 : hK S16 r10 = 12 := by rw [eS16]; exact hk14
      have hi20 : vp_in (((147 : Int32) * (hI S l0 8)) + l1) (hN S16 r11) := by rw [eS16]; exact hi13
      have hi21 : vp_in l1 (hN S16 r10) := by rw [eS16]; exact hi15
      have hr22 : hR S16 l0 5 = some r10 := by rw [eS16]; exact hr10
      have hr23 : hR S16 l0 7 = some r11 := by rw [eS16]; exact hr11
      obtain ⟨v24, hv24⟩ : ∃ y : Int32, y = l1 + (1 : Int32) := ⟨_, rfl⟩
      replace h := h v24 hv24
      refine v_iinc X (j := 1) (v := v24) (lv' := [(1, .int v24), (0, .ref l0)]) dX12_undo_55 rfl (by rw [hv24] <;> rfl) (by decide) rfl ?_
      refine v_goto X (tgt := 27) dX12_undo_58 (by decide) ?_
      refine v_lv (lv' := [(0, .ref l0), (1, .int v24)]) [1, 0] rfl ?_
      exact hbk27 _ _ _ h
  have l27 : ∀  (n : Nat) (S : hp) (l0 : Nat) (l1 : Int32), wl_X12_undo_27 Q n S l0 l1 → VM l b D cy 2 0 0 0 0 (pI Q) p e s m args below meth c S 0 0 27 [(0, .ref l0), (1, .int l1)] [] := by
    intro  n
    induction n with
    | zero => intro S l0 l1 h; exact h.elim
    | succ n ih => intro S l0 l1 h; exact j27 (wl_X12_undo_27 Q n) ih S l0 l1 h
  unfold wp_X12_undo at h
  show VM l b D cy 2 0 0 0 0 (pI Q) p e s m args below meth c S 0 0 0 [(0, .ref a0)] []
  refine v_aload_n X 0 dX12_undo_0 rfl rfl ?_
  refine v_iconst X (v := 0) dX12_undo_1 (by decide) ?_
  obtain ⟨hk1, h⟩ := h
  refine v_putI X (T := TX12) (N := 26) (k := 0) hk1 (by decide) rfl (by decide) inX12 wd939 tyX12 tyX12_ok nmX12 rfl rfl rfl rfl dX12_undo_2 ?_
  refine v_nmS (fun S2 eS2 => ?_)
  replace h := h S2 eS2
  have hk3 : hK S2 a0 = 11 := by rw [eS2]; exact hk1
  refine v_aload_n X 0 dX12_undo_5 rfl rfl ?_
  refine v_getI X (T := TX12) (N := 26) (k := 8) hk3 (by decide) rfl (by decide) inX12 wd947 rfl dX12_undo_6 ?_
  refine v_if_ne X (tgt := 15) dX12_undo_9 (by decide) (fun c4 => ?_) (fun c4 => ?_)
  · replace h := h.1 c4
    refine v_aload_n X 0 dX12_undo_15 rfl rfl ?_
    refine v_dup X dX12_undo_16 rfl ?_
    refine v_getI X (T := TX12) (N := 26) (k := 8) hk3 (by decide) rfl (by decide) inX12 wd947 rfl dX12_undo_17 ?_
    refine v_iconst X (v := 1) dX12_undo_20 (by decide) ?_
    refine v_isub X dX12_undo_21 ?_
    refine v_putI X (T := TX12) (N := 26) (k := 8) hk3 (by decide) rfl (by decide) inX12 wd947 tyX12 tyX12_ok nmX12 rfl rfl rfl rfl dX12_undo_22 ?_
    refine v_nmS (fun S5 eS5 => ?_)
    replace h := h S5 eS5
    have hk6 : hK S5 a0 = 11 := by rw [eS5]; exact hk3
    refine v_iconst X (v := 0) dX12_undo_25 (by decide) ?_
    refine v_istore_n X (lv' := [(1, .int (0 : Int32)), (0, .ref a0)]) dX12_undo_26 rfl (by decide) rfl ?_
    refine v_lv (lv' := [(0, .ref a0), (1, .int (0 : Int32))]) [1, 0] rfl ?_
    obtain ⟨n, h⟩ := h
    exact l27 n _ _ _ h
  · replace h := h.2 c4
    refine v_ldc X wd1154 dX12_undo_12 ?_
    exact v_iret X hr hlk ⟨_, rfl, h⟩ dX12_undo_14
def wp_X12_pinchOf (Q : Int32 → hp → Prop) (S : hp) (a0 : Nat) (x1 : Int32) (x2 : Int32) : Prop :=
  hK S a0 = 11 ∧ ∃ r2 : Nat, hR S a0 5 = some r2 ∧ hK S r2 = 12 ∧ vp_in (((29 : Int32) + ((3 : Int32) * x1)) + x2) (hN S r2) ∧ vp_in (((5 : Int32) + ((3 : Int32) * x1)) + x2) (hN S r2) ∧ Q ((hI S r2 ((((29 : Int32) + ((3 : Int32) * x1)) + x2)).toNatClampNeg) - (hI S r2 ((((5 : Int32) + ((3 : Int32) * x1)) + x2)).toNatClampNeg)) S
theorem k_X12_pinchOf : Cond.code yX12_pinchOf cX12_pinchOf 3 (some .int) ∈ gtb := mg 1178 (by decide +kernel) (by decide +kernel)
theorem dn_X12_pinchOf : yX12_pinchOf.cls ≠ "java/lang/invoke/MethodHandle" ∧ yX12_pinchOf.cls ≠ "java/lang/invoke/VarHandle" ∧ (parseMethodDescriptor yX12_pinchOf.desc).map (fun d => d.parameters.length) = some 2 := by decide +kernel
set_option maxRecDepth 100000 in
set_option maxHeartbeats 4000000 in
theorem s_X12_pinchOf (l : Launch) (b : Nat) (D : va_G) (cy : Nat → ClassId) {Q : Int32 → hp → Prop} {S : hp} {a0 : Nat} {x1 : Int32} {x2 : Int32} (h : wp_X12_pinchOf Q S a0 x1 x2) : MT l yX12_pinchOf cX12_pinchOf 3 (some .int) 0 0 0 0 b D cy S [.ref a0, .int x1, .int x2] (pI Q) := by
  refine MT.of (by decide +kernel) (Nat.le_of_ble_eq_true rfl) ?_
  intro p e s m args below meth c X hr hlk hnm
  unfold wp_X12_pinchOf at h
  show VM l b D cy 3 0 0 0 0 (pI Q) p e s m args below meth c S 0 0 0 [(0, .ref a0), (1, .int x1), (2, .int x2)] []
  refine v_aload_n X 0 dX12_pinchOf_0 rfl rfl ?_
  obtain ⟨hk1, h⟩ := h
  obtain ⟨r2, hr2, h⟩ := h
  refine v_getR X (T := TX12) (N := 26) (k := 5) hk1 (by decide) rfl (by decide) inX12 wd944 rfl dX12_pinchOf_1 hr2 ?_
  refine v_bipush X (v := 29) dX12_pinchOf_4 (by decide) ?_
  refine v_iconst X (v := 3) dX12_pinchOf_6 (by decide) ?_
  refine v_iload_n X 1 dX12_pinchOf_7 rfl rfl ?_
  refine v_imul X dX12_pinchOf_8 ?_
  refine v_iadd X dX12_pinchOf_9 ?_
  refine v_iload_n X 2 dX12_pinchOf_10 rfl rfl ?_
  refine v_iadd X dX12_pinchOf_11 ?_
  obtain ⟨hk3, h⟩ := h
  obtain ⟨hi4, h⟩ := h
  refine v_iald X hk3 hi4 dX12_pinchOf_12 ?_
  refine v_aload_n X 0 dX12_pinchOf_13 rfl rfl ?_
  refine v_getR X (T := TX12) (N := 26) (k := 5) hk1 (by decide) rfl (by decide) inX12 wd944 rfl dX12_pinchOf_14 hr2 ?_
  refine v_iconst X (v := 5) dX12_pinchOf_17 (by decide) ?_
  refine v_iconst X (v := 3) dX12_pinchOf_18 (by decide) ?_
  refine v_iload_n X 1 dX12_pinchOf_19 rfl rfl ?_
  refine v_imul X dX12_pinchOf_20 ?_
  refine v_iadd X dX12_pinchOf_21 ?_
  refine v_iload_n X 2 dX12_pinchOf_22 rfl rfl ?_
  refine v_iadd X dX12_pinchOf_23 ?_
  obtain ⟨hi5, h⟩ := h
  refine v_iald X hk3 hi5 dX12_pinchOf_24 ?_
  refine v_isub X dX12_pinchOf_25 ?_
  exact v_iret X hr hlk ⟨_, rfl, h⟩ dX12_pinchOf_26
def wp_X12_dummy (Q : Int32 → hp → Prop) (S : hp) (a0 : Nat) (x1 : Int32) (x2 : Int32) (x3 : Int32) : Prop :=
  hK S a0 = 11 ∧ ∀ S2 : hp, S2 = setI S a0 0 (0 : Int32) → wp_X12_isDummy (fun r5 S4 => ((r5 = 0 → Q (-1000001 : Int32) S4) ∧ (¬ r5 = 0 → wp_X12_isPlace (fun r8 S7 => ((¬ r8 = 0 → ((x3 = (0 : Int32) → hK S7 a0 = 11 ∧ ∃ r11 : Nat, hR S7 a0 5 = some r11 ∧ hK S7 r11 = 12 ∧ vp_in (((5 : Int32) + ((3 : Int32) * x1)) + x2) (hN S7 r11) ∧ Q (hI S7 r11 ((((5 : Int32) + ((3 : Int32) * x1)) + x2)).toNatClampNeg) S7) ∧ (x3 = (1 : Int32) → hK S7 a0 = 11 ∧ ∃ r16 : Nat, hR S7 a0 5 = some r16 ∧ hK S7 r16 = 12 ∧ vp_in (((17 : Int32) + ((3 : Int32) * x1)) + x2) (hN S7 r16) ∧ Q (hI S7 r16 ((((17 : Int32) + ((3 : Int32) * x1)) + x2)).toNatClampNeg) S7) ∧ (x3 = (2 : Int32) → hK S7 a0 = 11 ∧ ∃ r21 : Nat, hR S7 a0 5 = some r21 ∧ hK S7 r21 = 12 ∧ vp_in (((29 : Int32) + ((3 : Int32) * x1)) + x2) (hN S7 r21) ∧ Q (hI S7 r21 ((((29 : Int32) + ((3 : Int32) * x1)) + x2)).toNatClampNeg) S7) ∧ (x3 = (3 : Int32) → hK S7 a0 = 11 ∧ wp_X12_pinchOf (fun r27 S25 => Q r27 S25) S7 a0 x1 x2) ∧ (¬ x3 = (0 : Int32) → ¬ x3 = (1 : Int32) → ¬ x3 = (2 : Int32) → ¬ x3 = (3 : Int32) → Q (-1000001 : Int32) S7))) ∧ (r8 = 0 → Q (-1000001 : Int32) S7))) S4 x2))) S2 a0 x1
theorem k_X12_dummy : Cond.code yX12_dummy cX12_dummy 4 (some .int) ∈ gtb := mg 1174 (by decide +kernel) (by decide +kernel)
theorem dn_X12_dummy : yX12_dummy.cls ≠ "java/lang/invoke/MethodHandle" ∧ yX12_dummy.cls ≠ "java/lang/invoke/VarHandle" ∧ (parseMethodDescriptor yX12_dummy.desc).map (fun d => d.parameters.length) = some 3 := by decide +kernel
set_option maxRecDepth 100000 in
set_option maxHeartbeats 4000000 in
theorem s_X12_dummy (l : Launch) (b : Nat) (D : va_G) (cy : Nat → ClassId) {Q : Int32 → hp → Prop} {S : hp} {a0 : Nat} {x1 : Int32} {x2 : Int32} {x3 : Int32} (h : wp_X12_dummy Q S a0 x1 x2 x3) : MT l yX12_dummy cX12_dummy 4 (some .int) 2 46 0 0 b D cy S [.ref a0, .int x1, .int x2, .int x3] (pI Q) := by
  refine MT.of (by decide +kernel) (Nat.le_of_ble_eq_true rfl) ?_
  intro p e s m args below meth c X hr hlk hnm
  unfold wp_X12_dummy at h
  show VM l b D cy 4 2 46 0 0 (pI Q) p e s m args below meth c S 0 0 0 [(0, .ref a0), (1, .int x1), (2, .int x2), (3, .int x3)] []
  refine v_aload_n X 0 dX12_dummy_0 rfl rfl ?_
  refine v_iconst X (v := 0) dX12_dummy_1 (by decide) ?_
  obtain ⟨hk1, h⟩ := h
  refine v_putI X (T := TX12) (N := 26) (k := 0) hk1 (by decide) rfl (by decide) inX12 wd939 tyX12 tyX12_ok nmX12 rfl rfl rfl rfl dX12_dummy_2 ?_
  refine v_nmS (fun S2 eS2 => ?_)
  replace h := h S2 eS2
  have hk3 : hK S2 a0 = 11 := by rw [eS2]; exact hk1
  refine v_aload_n X 0 dX12_dummy_5 rfl rfl ?_
  refine v_iload_n X 1 dX12_dummy_6 rfl rfl ?_
  refine v_callV X (av := [.int x1]) (T := TX12) (N := 26) (s_X12_isDummy l b D cy h) hk3 (by decide) rfl wd1119 wd1121 wd32 wd62 k_X12_isDummy dn_X12_isDummy rfl ⟨Nat.le_of_ble_eq_true rfl, Nat.le_of_ble_eq_true rfl⟩ (Nat.le_of_ble_eq_true rfl) ⟨Nat.le_of_ble_eq_true rfl, Nat.le_of_ble_eq_true rfl⟩ dX12_dummy_7 rfl (kI (fun r5 S4 h => ?_))
  refine v_if_eq X (tgt := 20) dX12_dummy_10 (by decide) (fun c6 => ?_) (fun c6 => ?_)
  · replace h := h.1 c6
    refine v_ldc X wd1030 dX12_dummy_20 ?_
    exact v_iret X hr hlk ⟨_, rfl, h⟩ dX12_dummy_22
  · replace h := h.2 c6
    refine v_iload_n X 2 dX12_dummy_13 rfl rfl ?_
    refine v_callS X (av := [.int x2]) (s_X12_isPlace l b D cy h) wd1123 wd1124 wd62 k_X12_isPlace dn_X12_isPlace rfl ⟨Nat.le_of_ble_eq_true rfl, Nat.le_of_ble_eq_true rfl⟩ (Nat.le_of_ble_eq_true rfl) ⟨Nat.le_of_ble_eq_true rfl, Nat.le_of_ble_eq_true rfl⟩ dX12_dummy_14 rfl (kI (fun r8 S7 h => ?_))
    refine v_if_ne X (tgt := 23) dX12_dummy_17 (by decide) (fun c9 => ?_) (fun c9 => ?_)
    · replace h := h.1 c9
      refine v_iload_n X 3 dX12_dummy_23 rfl rfl ?_
      by_cases c14 : x3 = (0 : Int32)
      · replace h := h.1 c14
        refine v_tabIn X (off := 32) (tgt := 56) (0 : Int32) c14 dX12_dummy_24 (by decide) (by decide) (by decide) (by decide) ?_
        refine v_aload_n X 0 dX12_dummy_56 rfl rfl ?_
        obtain ⟨hk10, h⟩ := h
        obtain ⟨r11, hr11, h⟩ := h
        refine v_getR X (T := TX12) (N := 26) (k := 5) hk10 (by decide) rfl (by decide) inX12 wd944 rfl dX12_dummy_57 hr11 ?_
        refine v_iconst X (v := 5) dX12_dummy_60 (by decide) ?_
        refine v_iconst X (v := 3) dX12_dummy_61 (by decide) ?_
        refine v_iload_n X 1 dX12_dummy_62 rfl rfl ?_
        refine v_imul X dX12_dummy_63 ?_
        refine v_iadd X dX12_dummy_64 ?_
        refine v_iload_n X 2 dX12_dummy_65 rfl rfl ?_
        refine v_iadd X dX12_dummy_66 ?_
        obtain ⟨hk12, h⟩ := h
        obtain ⟨hi13, h⟩ := h
        refine v_iald X hk12 hi13 dX12_dummy_67 ?_
        exact v_iret X hr hlk ⟨_, rfl, h⟩ dX12_dummy_68
      by_cases c19 : x3 = (1 : Int32)
      · replace h := h.2.1 c19
        refine v_tabIn X (off := 45) (tgt := 69) (1 : Int32) c19 dX12_dummy_24 (by decide) (by decide) (by decide) (by decide) ?_
        refine v_aload_n X 0 dX12_dummy_69 rfl rfl ?_
        obtain ⟨hk15, h⟩ := h
        obtain ⟨r16, hr16, h⟩ := h
        refine v_getR X (T := TX12) (N := 26) (k := 5) hk15 (by decide) rfl (by decide) inX12 wd944 rfl dX12_dummy_70 hr16 ?_
        refine v_bipush X (v := 17) dX12_dummy_73 (by decide) ?_
        refine v_iconst X (v := 3) dX12_dummy_75 (by decide) ?_
        refine v_iload_n X 1 dX12_dummy_76 rfl rfl ?_
        refine v_imul X dX12_dummy_77 ?_
        refine v_iadd X dX12_dummy_78 ?_
        refine v_iload_n X 2 dX12_dummy_79 rfl rfl ?_
        refine v_iadd X dX12_dummy_80 ?_
        obtain ⟨hk17, h⟩ := h
        obtain ⟨hi18, h⟩ := h
        refine v_iald X hk17 hi18 dX12_dummy_81 ?_
        exact v_iret X hr hlk ⟨_, rfl, h⟩ dX12_dummy_82
      by_cases c24 : x3 = (2 : Int32)
      · replace h := h.2.2.1 c24
        refine v_tabIn X (off := 59) (tgt := 83) (2 : Int32) c24 dX12_dummy_24 (by decide) (by decide) (by decide) (by decide) ?_
        refine v_aload_n X 0 dX12_dummy_83 rfl rfl ?_
        obtain ⟨hk20, h⟩ := h
        obtain ⟨r21, hr21, h⟩ := h
        refine v_getR X (T := TX12) (N := 26) (k := 5) hk20 (by decide) rfl (by decide) inX12 wd944 rfl dX12_dummy_84 hr21 ?_
        refine v_bipush X (v := 29) dX12_dummy_87 (by decide) ?_
        refine v_iconst X (v := 3) dX12_dummy_89 (by decide) ?_
        refine v_iload_n X 1 dX12_dummy_90 rfl rfl ?_
        refine v_imul X dX12_dummy_91 ?_
        refine v_iadd X dX12_dummy_92 ?_
        refine v_iload_n X 2 dX12_dummy_93 rfl rfl ?_
        refine v_iadd X dX12_dummy_94 ?_
        obtain ⟨hk22, h⟩ := h
        obtain ⟨hi23, h⟩ := h
        refine v_iald X hk22 hi23 dX12_dummy_95 ?_
        exact v_iret X hr hlk ⟨_, rfl, h⟩ dX12_dummy_96
      by_cases c28 : x3 = (3 : Int32)
      · replace h := h.2.2.2.1 c28
        refine v_tabIn X (off := 73) (tgt := 97) (3 : Int32) c28 dX12_dummy_24 (by decide) (by decide) (by decide) (by decide) ?_
        refine v_aload_n X 0 dX12_dummy_97 rfl rfl ?_
        refine v_iload_n X 1 dX12_dummy_98 rfl rfl ?_
        refine v_iload_n X 2 dX12_dummy_99 rfl rfl ?_
        obtain ⟨hk26, h⟩ := h
        refine v_callV X (av := [.int x1, .int x2]) (T := TX12) (N := 26) (s_X12_pinchOf l b D cy h) hk26 (by decide) rfl wd1175 wd1177 wd39 wd62 k_X12_pinchOf dn_X12_pinchOf rfl ⟨Nat.le_of_ble_eq_true rfl, Nat.le_of_ble_eq_true rfl⟩ (Nat.le_of_ble_eq_true rfl) ⟨Nat.le_of_ble_eq_true rfl, Nat.le_of_ble_eq_true rfl⟩ dX12_dummy_100 rfl (kI (fun r27 S25 h => ?_))
        exact v_iret X hr hlk ⟨_, rfl, h⟩ dX12_dummy_103
      replace h := h.2.2.2.2 c14 c19 c24 c28
      refine v_tabOut X (tgt := 104) dX12_dummy_24 (by have zc14 := ne_ti (0 : Int32) 0 rfl c14; have zc19 := ne_ti (1 : Int32) 1 rfl c19; have zc24 := ne_ti (2 : Int32) 2 rfl c24; have zc28 := ne_ti (3 : Int32) 3 rfl c28; omega) (by decide) ?_
      refine v_ldc X wd1030 dX12_dummy_104 ?_
      exact v_iret X hr hlk ⟨_, rfl, h⟩ dX12_dummy_106
    · replace h := h.2 c9
      refine v_ldc X wd1030 dX12_dummy_20 ?_
      exact v_iret X hr hlk ⟨_, rfl, h⟩ dX12_dummy_22
def wp_X12_line (Q : Int32 → hp → Prop) (S : hp) (a0 : Nat) (x1 : Int32) (x2 : Int32) : Prop :=
  hK S a0 = 11 ∧ ∀ S2 : hp, S2 = setI S a0 0 (0 : Int32) → ∃ r4 : Nat, hR S2 a0 5 = some r4 ∧ hK S2 r4 = 12 ∧ vp_in (4 : Int32) (hN S2 r4) ∧ wp_X12_in (fun r8 S7 => ((r8 = 0 → Q (-1000001 : Int32) S7) ∧ (¬ r8 = 0 → wp_X12_in (fun r11 S10 => ((r11 = 0 → Q (-1000001 : Int32) S10) ∧ (¬ r11 = 0 → hK S10 a0 = 11 ∧ wp_X12_lineOf (fun r15 S13 => Q r15 S13) S10 a0 x1 x2))) S7 ((x2).toInt64) ((0 : Int64)) ((5 : Int64))))) S2 ((x1).toInt64) ((0 : Int64)) ((((hI S2 r4 ((4 : Int32)).toNatClampNeg) - (1 : Int32))).toInt64)
theorem k_X12_line : Cond.code yX12_line cX12_line 3 (some .int) ∈ gtb := mg 1182 (by decide +kernel) (by decide +kernel)
theorem dn_X12_line : yX12_line.cls ≠ "java/lang/invoke/MethodHandle" ∧ yX12_line.cls ≠ "java/lang/invoke/VarHandle" ∧ (parseMethodDescriptor yX12_line.desc).map (fun d => d.parameters.length) = some 2 := by decide +kernel
set_option maxRecDepth 100000 in
set_option maxHeartbeats 4000000 in
theorem s_X12_line (l : Launch) (b : Nat) (D : va_G) (cy : Nat → ClassId) {Q : Int32 → hp → Prop} {S : hp} {a0 : Nat} {x1 : Int32} {x2 : Int32} (h : wp_X12_line Q S a0 x1 x2) : MT l yX12_line cX12_line 3 (some .int) 1 25 0 0 b D cy S [.ref a0, .int x1, .int x2] (pI Q) := by
  refine MT.of (by decide +kernel) (Nat.le_of_ble_eq_true rfl) ?_
  intro p e s m args below meth c X hr hlk hnm
  unfold wp_X12_line at h
  show VM l b D cy 3 1 25 0 0 (pI Q) p e s m args below meth c S 0 0 0 [(0, .ref a0), (1, .int x1), (2, .int x2)] []
  refine v_aload_n X 0 dX12_line_0 rfl rfl ?_
  refine v_iconst X (v := 0) dX12_line_1 (by decide) ?_
  obtain ⟨hk1, h⟩ := h
  refine v_putI X (T := TX12) (N := 26) (k := 0) hk1 (by decide) rfl (by decide) inX12 wd939 tyX12 tyX12_ok nmX12 rfl rfl rfl rfl dX12_line_2 ?_
  refine v_nmS (fun S2 eS2 => ?_)
  replace h := h S2 eS2
  have hk3 : hK S2 a0 = 11 := by rw [eS2]; exact hk1
  refine v_iload_n X 1 dX12_line_5 rfl rfl ?_
  refine v_i2l X dX12_line_6 ?_
  refine v_lconst X (v := 0) dX12_line_7 (by decide) ?_
  refine v_aload_n X 0 dX12_line_8 rfl rfl ?_
  obtain ⟨r4, hr4, h⟩ := h
  refine v_getR X (T := TX12) (N := 26) (k := 5) hk3 (by decide) rfl (by decide) inX12 wd944 rfl dX12_line_9 hr4 ?_
  refine v_iconst X (v := 4) dX12_line_12 (by decide) ?_
  obtain ⟨hk5, h⟩ := h
  obtain ⟨hi6, h⟩ := h
  refine v_iald X hk5 hi6 dX12_line_13 ?_
  refine v_iconst X (v := 1) dX12_line_14 (by decide) ?_
  refine v_isub X dX12_line_15 ?_
  refine v_i2l X dX12_line_16 ?_
  refine v_callS X (av := [.long (x1).toInt64, .long (0 : Int64), .long (((hI S2 r4 ((4 : Int32)).toNatClampNeg) - (1 : Int32))).toInt64]) (s_X12_in l b D cy h) wd1026 wd1027 wd62 k_X12_in dn_X12_in rfl ⟨Nat.le_of_ble_eq_true rfl, Nat.le_of_ble_eq_true rfl⟩ (Nat.le_of_ble_eq_true rfl) ⟨Nat.le_of_ble_eq_true rfl, Nat.le_of_ble_eq_true rfl⟩ dX12_line_17 rfl (kI (fun r8 S7 h => ?_))
  refine v_if_eq X (tgt := 44) dX12_line_20 (by decide) (fun c9 => ?_) (fun c9 => ?_)
  · replace h := h.1 c9
    refine v_ldc X wd1030 dX12_line_44 ?_
    exact v_iret X hr hlk ⟨_, rfl, h⟩ dX12_line_46
  · replace h := h.2 c9
    refine v_iload_n X 2 dX12_line_23 rfl rfl ?_
    refine v_i2l X dX12_line_24 ?_
    refine v_lconst X (v := 0) dX12_line_25 (by decide) ?_
    refine v_ldc2 X wd1183 dX12_line_26 ?_
    refine v_callS X (av := [.long (x2).toInt64, .long (0 : Int64), .long (5 : Int64)]) (s_X12_in l b D cy h) wd1026 wd1027 wd62 k_X12_in dn_X12_in rfl ⟨Nat.le_of_ble_eq_true rfl, Nat.le_of_ble_eq_true rfl⟩ (Nat.le_of_ble_eq_true rfl) ⟨Nat.le_of_ble_eq_true rfl, Nat.le_of_ble_eq_true rfl⟩ dX12_line_29 rfl (kI (fun r11 S10 h => ?_))
    refine v_if_eq X (tgt := 44) dX12_line_32 (by decide) (fun c12 => ?_) (fun c12 => ?_)
    · replace h := h.1 c12
      refine v_ldc X wd1030 dX12_line_44 ?_
      exact v_iret X hr hlk ⟨_, rfl, h⟩ dX12_line_46
    · replace h := h.2 c12
      refine v_aload_n X 0 dX12_line_35 rfl rfl ?_
      refine v_iload_n X 1 dX12_line_36 rfl rfl ?_
      refine v_iload_n X 2 dX12_line_37 rfl rfl ?_
      obtain ⟨hk14, h⟩ := h
      refine v_callV X (av := [.int x1, .int x2]) (T := TX12) (N := 26) (s_X12_lineOf l b D cy h) hk14 (by decide) rfl wd1184 wd1186 wd40 wd62 k_X12_lineOf dn_X12_lineOf rfl ⟨Nat.le_of_ble_eq_true rfl, Nat.le_of_ble_eq_true rfl⟩ (Nat.le_of_ble_eq_true rfl) ⟨Nat.le_of_ble_eq_true rfl, Nat.le_of_ble_eq_true rfl⟩ dX12_line_38 rfl (kI (fun r15 S13 h => ?_))
      refine v_goto X (tgt := 46) dX12_line_41 (by decide) ?_
      exact v_iret X hr hlk ⟨_, rfl, h⟩ dX12_line_46
def wp_X12_pads (Q : Int32 → hp → Prop) (S : hp) (a0 : Nat) (x1 : Int32) (x2 : Int32) : Prop :=
  hK S a0 = 11 ∧ ∀ S2 : hp, S2 = setI S a0 0 (0 : Int32) → wp_X12_isMouth (fun r5 S4 => ((r5 = 0 → Q (-1000001 : Int32) S4) ∧ (¬ r5 = 0 → wp_X12_in (fun r8 S7 => ((r8 = 0 → Q (-1000001 : Int32) S7) ∧ (¬ r8 = 0 → hK S7 a0 = 11 ∧ wp_X12_padsOf (fun r12 S10 => Q r12 S10) S7 a0 x1 x2))) S4 ((x2).toInt64) ((-99 : Int64)) ((99 : Int64))))) S2 a0 x1
theorem k_X12_pads : Cond.code yX12_pads cX12_pads 3 (some .int) ∈ gtb := mg 1191 (by decide +kernel) (by decide +kernel)
theorem dn_X12_pads : yX12_pads.cls ≠ "java/lang/invoke/MethodHandle" ∧ yX12_pads.cls ≠ "java/lang/invoke/VarHandle" ∧ (parseMethodDescriptor yX12_pads.desc).map (fun d => d.parameters.length) = some 2 := by decide +kernel
set_option maxRecDepth 100000 in
set_option maxHeartbeats 4000000 in
theorem s_X12_pads (l : Launch) (b : Nat) (D : va_G) (cy : Nat → ClassId) {Q : Int32 → hp → Prop} {S : hp} {a0 : Nat} {x1 : Int32} {x2 : Int32} (h : wp_X12_pads Q S a0 x1 x2) : MT l yX12_pads cX12_pads 3 (some .int) 2 46 0 0 b D cy S [.ref a0, .int x1, .int x2] (pI Q) := by
  refine MT.of (by decide +kernel) (Nat.le_of_ble_eq_true rfl) ?_
  intro p e s m args below meth c X hr hlk hnm
  unfold wp_X12_pads at h
  show VM l b D cy 3 2 46 0 0 (pI Q) p e s m args below meth c S 0 0 0 [(0, .ref a0), (1, .int x1), (2, .int x2)] []
  refine v_aload_n X 0 dX12_pads_0 rfl rfl ?_
  refine v_iconst X (v := 0) dX12_pads_1 (by decide) ?_
  obtain ⟨hk1, h⟩ := h
  refine v_putI X (T := TX12) (N := 26) (k := 0) hk1 (by decide) rfl (by decide) inX12 wd939 tyX12 tyX12_ok nmX12 rfl rfl rfl rfl dX12_pads_2 ?_
  refine v_nmS (fun S2 eS2 => ?_)
  replace h := h S2 eS2
  have hk3 : hK S2 a0 = 11 := by rw [eS2]; exact hk1
  refine v_aload_n X 0 dX12_pads_5 rfl rfl ?_
  refine v_iload_n X 1 dX12_pads_6 rfl rfl ?_
  refine v_callV X (av := [.int x1]) (T := TX12) (N := 26) (s_X12_isMouth l b D cy h) hk3 (by decide) rfl wd1115 wd1117 wd31 wd62 k_X12_isMouth dn_X12_isMouth rfl ⟨Nat.le_of_ble_eq_true rfl, Nat.le_of_ble_eq_true rfl⟩ (Nat.le_of_ble_eq_true rfl) ⟨Nat.le_of_ble_eq_true rfl, Nat.le_of_ble_eq_true rfl⟩ dX12_pads_7 rfl (kI (fun r5 S4 h => ?_))
  refine v_if_eq X (tgt := 36) dX12_pads_10 (by decide) (fun c6 => ?_) (fun c6 => ?_)
  · replace h := h.1 c6
    refine v_ldc X wd1030 dX12_pads_36 ?_
    exact v_iret X hr hlk ⟨_, rfl, h⟩ dX12_pads_38
  · replace h := h.2 c6
    refine v_iload_n X 2 dX12_pads_13 rfl rfl ?_
    refine v_i2l X dX12_pads_14 ?_
    refine v_ldc2 X wd1126 dX12_pads_15 ?_
    refine v_ldc2 X wd1127 dX12_pads_18 ?_
    refine v_callS X (av := [.long (x2).toInt64, .long (-99 : Int64), .long (99 : Int64)]) (s_X12_in l b D cy h) wd1026 wd1027 wd62 k_X12_in dn_X12_in rfl ⟨Nat.le_of_ble_eq_true rfl, Nat.le_of_ble_eq_true rfl⟩ (Nat.le_of_ble_eq_true rfl) ⟨Nat.le_of_ble_eq_true rfl, Nat.le_of_ble_eq_true rfl⟩ dX12_pads_21 rfl (kI (fun r8 S7 h => ?_))
    refine v_if_eq X (tgt := 36) dX12_pads_24 (by decide) (fun c9 => ?_) (fun c9 => ?_)
    · replace h := h.1 c9
      refine v_ldc X wd1030 dX12_pads_36 ?_
      exact v_iret X hr hlk ⟨_, rfl, h⟩ dX12_pads_38
    · replace h := h.2 c9
      refine v_aload_n X 0 dX12_pads_27 rfl rfl ?_
      refine v_iload_n X 1 dX12_pads_28 rfl rfl ?_
      refine v_iload_n X 2 dX12_pads_29 rfl rfl ?_
      obtain ⟨hk11, h⟩ := h
      refine v_callV X (av := [.int x1, .int x2]) (T := TX12) (N := 26) (s_X12_padsOf l b D cy h) hk11 (by decide) rfl wd1128 wd1130 wd33 wd62 k_X12_padsOf dn_X12_padsOf rfl ⟨Nat.le_of_ble_eq_true rfl, Nat.le_of_ble_eq_true rfl⟩ (Nat.le_of_ble_eq_true rfl) ⟨Nat.le_of_ble_eq_true rfl, Nat.le_of_ble_eq_true rfl⟩ dX12_pads_30 rfl (kI (fun r12 S10 h => ?_))
      refine v_goto X (tgt := 38) dX12_pads_33 (by decide) ?_
      exact v_iret X hr hlk ⟨_, rfl, h⟩ dX12_pads_38
