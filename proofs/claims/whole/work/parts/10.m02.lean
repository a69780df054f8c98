def wB_X8_become_76 (bk76 : hp → Nat → Nat → Int32 → Prop) (Q : hp → Prop) (S : hp) (l0 : Nat) (l1 : Nat) (l2 : Int32) : Prop :=
  (((5 : Int32) ≤ l2 → hK S l1 = 7 ∧ hK S l0 = 7 ∧ isZ (hI S l1 5) ∧ ∀ S87 : hp, S87 = setI S l0 5 (hI S l1 5) → ∀ S90 : hp, S90 = setI S87 l0 6 (hI S87 l1 6) → ∀ S93 : hp, S93 = setI S90 l0 7 (hI S90 l1 7) → ∀ S96 : hp, S96 = setI S93 l0 8 (hI S93 l1 8) → ∀ S99 : hp, S99 = setI S96 l0 9 (hI S96 l1 9) → Q S99) ∧ (¬ (5 : Int32) ≤ l2 → hK S l0 = 7 ∧ ∃ r103 : Nat, hR S l0 3 = some r103 ∧ hK S l1 = 7 ∧ ∃ r105 : Nat, hR S l1 3 = some r105 ∧ hK S r105 = 14 ∧ vp_in l2 (hN S r105) ∧ ((hR S r105 (l2).toNatClampNeg = none → hK S r103 = 14 ∧ vp_in l2 (hN S r103) ∧ ∀ S111 : hp, S111 = setR S r103 (l2).toNatClampNeg none → ∀ v118 : Int32, v118 = l2 + (1 : Int32) → bk76 S111 l0 l1 v118) ∧ (∀ r108 : Nat, hR S r105 (l2).toNatClampNeg = some r108 → hK S r103 = 14 ∧ vp_in l2 (hN S r103) ∧ isM (hK S r108) ∧ ∀ S122 : hp, S122 = setR S r103 (l2).toNatClampNeg (some r108) → ∀ v130 : Int32, v130 = l2 + (1 : Int32) → bk76 S122 l0 l1 v130))))
def wl_X8_become_76 (Q : hp → Prop) : Nat → hp → Nat → Nat → Int32 → Prop
  | 0 => fun _ _ _ _ => False
  | n + 1 => wB_X8_become_76 (wl_X8_become_76 Q n) Q
def wp_X8_become (Q : hp → Prop) (S : hp) (a0 : Nat) (a1 : Nat) : Prop :=
  hK S a1 = 7 ∧ ∃ r2 : Nat, hR S a1 0 = some r2 ∧ hK S a0 = 7 ∧ ∃ r4 : Nat, hR S a0 0 = some r4 ∧ hK S r4 = 12 ∧ hK S r2 = 12 ∧ ¬ (nI (hN S r4)) < 0 ∧ ((0 : Int32)).toNatClampNeg + ((nI (hN S r4))).toNatClampNeg ≤ hN S r2 ∧ ((0 : Int32)).toNatClampNeg + ((nI (hN S r4))).toNatClampNeg ≤ hN S r4 ∧ ∀ S10 : hp, S10 = cpyI S r2 r4 ((0 : Int32)).toNatClampNeg ((0 : Int32)).toNatClampNeg ((nI (hN S r4))).toNatClampNeg → ∃ r17 : Nat, hR S10 a1 1 = some r17 ∧ ∃ r18 : Nat, hR S10 a0 1 = some r18 ∧ hK S10 r18 = 12 ∧ hK S10 r17 = 12 ∧ ¬ (nI (hN S10 r18)) < 0 ∧ ((0 : Int32)).toNatClampNeg + ((nI (hN S10 r18))).toNatClampNeg ≤ hN S10 r17 ∧ ((0 : Int32)).toNatClampNeg + ((nI (hN S10 r18))).toNatClampNeg ≤ hN S10 r18 ∧ ∀ S24 : hp, S24 = cpyI S10 r17 r18 ((0 : Int32)).toNatClampNeg ((0 : Int32)).toNatClampNeg ((nI (hN S10 r18))).toNatClampNeg → ∃ r35 : Nat, hR S24 a1 2 = some r35 ∧ ∃ r36 : Nat, hR S24 a0 2 = some r36 ∧ hK S24 r36 = 12 ∧ hK S24 r35 = 12 ∧ ¬ (nI (hN S24 r36)) < 0 ∧ ((0 : Int32)).toNatClampNeg + ((nI (hN S24 r36))).toNatClampNeg ≤ hN S24 r35 ∧ ((0 : Int32)).toNatClampNeg + ((nI (hN S24 r36))).toNatClampNeg ≤ hN S24 r36 ∧ ∀ S42 : hp, S42 = cpyI S24 r35 r36 ((0 : Int32)).toNatClampNeg ((0 : Int32)).toNatClampNeg ((nI (hN S24 r36))).toNatClampNeg → ∃ r57 : Nat, hR S42 a1 4 = some r57 ∧ ∃ r58 : Nat, hR S42 a0 4 = some r58 ∧ hK S42 r57 = 12 ∧ hK S42 r58 = 12 ∧ ¬ ((6 : Int32) * (hI S42 a1 9)) < 0 ∧ ((0 : Int32)).toNatClampNeg + (((6 : Int32) * (hI S42 a1 9))).toNatClampNeg ≤ hN S42 r57 ∧ ((0 : Int32)).toNatClampNeg + (((6 : Int32) * (hI S42 a1 9))).toNatClampNeg ≤ hN S42 r58 ∧ ∀ S64 : hp, S64 = cpyI S42 r57 r58 ((0 : Int32)).toNatClampNeg ((0 : Int32)).toNatClampNeg (((6 : Int32) * (hI S42 a1 9))).toNatClampNeg → ∃ n : Nat, wl_X8_become_76 Q n S64 a0 a1 (0 : Int32)
theorem k_X8_become : Cond.code yX8_become cX8_become 3 none ∈ gtb := mg 464 (by decide +kernel) (by decide +kernel)
theorem dn_X8_become : yX8_become.cls ≠ "java/lang/invoke/MethodHandle" ∧ yX8_become.cls ≠ "java/lang/invoke/VarHandle" ∧ (parseMethodDescriptor yX8_become.desc).map (fun d => d.parameters.length) = some 1 := by decide +kernel
set_option maxRecDepth 100000 in
set_option maxHeartbeats 4000000 in
theorem s_X8_become (l : Launch) (b : Nat) (D : va_G) (cy : Nat → ClassId) {Q : hp → Prop} {S : hp} {a0 : Nat} {a1 : Nat} (h : wp_X8_become Q S a0 a1) : MT l yX8_become cX8_become 3 none 1 24 0 0 b D cy S [.ref a0, .ref a1] (pV Q) := by
  refine MT.of (by decide +kernel) (Nat.le_of_ble_eq_true rfl) ?_
  intro p e s m args below meth c X hr hlk hnm
  have j76 : ∀ (bk76 : hp → Nat → Nat → Int32 → Prop) (hbk76 : ∀ (S : hp) (l0 : Nat) (l1 : Nat) (l2 : Int32), bk76 S l0 l1 l2 → VM l b D cy 3 1 24 0 0 (pV Q) p e s m args below meth c S 0 0 76 [(0, .ref l0), (1, .ref l1), (2, .int l2)] []) (S : hp) (l0 : Nat) (l1 : Nat) (l2 : Int32), wB_X8_become_76 bk76 Q S l0 l1 l2 → VM l b D cy 3 1 24 0 0 (pV Q) p e s m args below meth c S 0 0 76 [(0, .ref l0), (1, .ref l1), (2, .int l2)] [] := by
    intro bk76 hbk76 S l0 l1 l2 h
    unfold wB_X8_become_76 at h
    refine v_iload_n X 2 dX8_become_76 rfl rfl ?_
    refine v_iconst X (v := 5) dX8_become_77 (by decide) ?_
    refine v_icmp_ge X (tgt := 99) dX8_become_78 (by decide) (fun c83 => ?_) (fun c83 => ?_)
    · replace h := h.1 c83
      refine v_aload_n X 0 dX8_become_99 rfl rfl ?_
      refine v_aload_n X 1 dX8_become_100 rfl rfl ?_
      obtain ⟨hk84, h⟩ := h
      refine v_getI X (T := TX8) (N := 10) (k := 5) hk84 (by decide) rfl (by decide) inX8 wd149 rfl dX8_become_101 ?_
      obtain ⟨hk85, h⟩ := h
      obtain ⟨hz86, h⟩ := h
      refine v_putI X (T := TX8) (N := 10) (k := 5) hk85 (by decide) rfl (by decide) inX8 wd149 tyX8 tyX8_ok nmX8 rfl rfl (nz hz86) (fz hz86) dX8_become_104 ?_
      refine v_nmS (fun S87 eS87 => ?_)
      replace h := h S87 eS87
      have hk88 : hK S87 l1 = 7 := by rw [eS87]; exact hk84
      have hk89 : hK S87 l0 = 7 := by rw [eS87]; exact hk85
      refine v_aload_n X 0 dX8_become_107 rfl rfl ?_
      refine v_aload_n X 1 dX8_become_108 rfl rfl ?_
      refine v_getI X (T := TX8) (N := 10) (k := 6) hk88 (by decide) rfl (by decide) inX8 wd151 rfl dX8_become_109 ?_
      refine v_putI X (T := TX8) (N := 10) (k := 6) hk89 (by decide) rfl (by decide) inX8 wd151 tyX8 tyX8_ok nmX8 rfl rfl rfl rfl dX8_become_112 ?_
      refine v_nmS (fun S90 eS90 => ?_)
      replace h := h S90 eS90
      have hk91 : hK S90 l1 = 7 := by rw [eS90]; exact hk88
      have hk92 : hK S90 l0 = 7 := by rw [eS90]; exact hk89
      refine v_aload_n X 0 dX8_become_115 rfl rfl ?_
      refine v_aload_n X 1 dX8_become_116 rfl rfl ?_
      refine v_getI X (T := TX8) (N := 10) (k := 7) hk91 (by decide) rfl (by decide) inX8 wd153 rfl dX8_become_117 ?_
      refine v_putI X (T := TX8) (N := 10) (k := 7) hk92 (by decide) rfl (by decide) inX8 wd153 tyX8 tyX8_ok nmX8 rfl rfl rfl rfl dX8_become_120 ?_
      refine v_nmS (fun S93 eS93 => ?_)
      replace h := h S93 eS93
      have hk94 : hK S93 l1 = 7 := by rw [eS93]; exact hk91
      have hk95 : hK S93 l0 = 7 := by rw [eS93]; exact hk92
      refine v_aload_n X 0 dX8_become_123 rfl rfl ?_
      refine v_aload_n X 1 dX8_become_124 rfl rfl ?_
      refine v_getI X (T := TX8) (N := 10) (k := 8) hk94 (by decide) rfl (by decide) inX8 wd158 rfl dX8_become_125 ?_
      refine v_putI X (T := TX8) (N := 10) (k := 8) hk95 (by decide) rfl (by decide) inX8 wd158 tyX8 tyX8_ok nmX8 rfl rfl rfl rfl dX8_become_128 ?_
      refine v_nmS (fun S96 eS96 => ?_)
      replace h := h S96 eS96
      have hk97 : hK S96 l1 = 7 := by rw [eS96]; exact hk94
      have hk98 : hK S96 l0 = 7 := by rw [eS96]; exact hk95
      refine v_aload_n X 0 dX8_become_131 rfl rfl ?_
      refine v_aload_n X 1 dX8_become_132 rfl rfl ?_
      refine v_getI X (T := TX8) (N := 10) (k := 9) hk97 (by decide) rfl (by decide) inX8 wd161 rfl dX8_become_133 ?_
      refine v_putI X (T := TX8) (N := 10) (k := 9) hk98 (by decide) rfl (by decide) inX8 wd161 tyX8 tyX8_ok nmX8 rfl rfl rfl rfl dX8_become_136 ?_
      refine v_nmS (fun S99 eS99 => ?_)
      replace h := h S99 eS99
      have hk100 : hK S99 l1 = 7 := by rw [eS99]; exact hk97
      have hk101 : hK S99 l0 = 7 := by rw [eS99]; exact hk98
      exact v_vret X hr hlk ⟨rfl, h⟩ dX8_become_139
    · replace h := h.2 c83
      refine v_aload_n X 0 dX8_become_81 rfl rfl ?_
      obtain ⟨hk102, h⟩ := h
      obtain ⟨r103, hr103, h⟩ := h
      refine v_getR X (T := TX8) (N := 10) (k := 3) hk102 (by decide) rfl (by decide) inX8 wd147 rfl dX8_become_82 hr103 ?_
      refine v_iload_n X 2 dX8_become_85 rfl rfl ?_
      refine v_aload_n X 1 dX8_become_86 rfl rfl ?_
      obtain ⟨hk104, h⟩ := h
      obtain ⟨r105, hr105, h⟩ := h
      refine v_getR X (T := TX8) (N := 10) (k := 3) hk104 (by decide) rfl (by decide) inX8 wd147 rfl dX8_become_87 hr105 ?_
      refine v_iload_n X 2 dX8_become_90 rfl rfl ?_
      obtain ⟨hk106, h⟩ := h
      obtain ⟨hi107, h⟩ := h
      rcases hr108 : hR S r105 (l2).toNatClampNeg with _ | r108
      · replace h := h.1 hr108
        refine v_aald14 X hk106 hi107 dX8_become_91 (v := .null) (by rw [hr108] <;> rfl) ?_
        obtain ⟨hk109, h⟩ := h
        obtain ⟨hi110, h⟩ := h
        refine v_aastMN X hk109 hi110 dX8_become_92 ?_
        refine v_nmS (fun S111 eS111 => ?_)
        replace h := h S111 eS111
        have hk112 : hK S111 l0 = 7 := by rw [eS111]; exact hk102
        have hk113 : hK S111 l1 = 7 := by rw [eS111]; exact hk104
        have hk114 : hK S111 r105 = 14 := by rw [eS111]; exact hk106
        have hk115 : hK S111 r103 = 14 := by rw [eS111]; exact hk109
        have hi116 : vp_in l2 (hN S111 r105) := by rw [eS111]; exact hi107
        have hi117 : vp_in l2 (hN S111 r103) := by rw [eS111]; exact hi110
        obtain ⟨v118, hv118⟩ : ∃ y : Int32, y = l2 + (1 : Int32) := ⟨_, rfl⟩
        replace h := h v118 hv118
        refine v_iinc X (j := 2) (v := v118) (lv' := [(2, .int v118), (0, .ref l0), (1, .ref l1)]) dX8_become_93 rfl (by rw [hv118] <;> rfl) (by decide) rfl ?_
        refine v_goto X (tgt := 76) dX8_become_96 (by decide) ?_
        refine v_lv (lv' := [(0, .ref l0), (1, .ref l1), (2, .int v118)]) [1, 2, 0] rfl ?_
        exact hbk76 _ _ _ _ h
      · replace h := h.2 r108 hr108
        refine v_aald14 X hk106 hi107 dX8_become_91 (v := .ref r108) (by rw [hr108] <;> rfl) ?_
        obtain ⟨hk119, h⟩ := h
        obtain ⟨hi120, h⟩ := h
        obtain ⟨hk121, h⟩ := h
        refine v_aastM X hk119 rfl hk121 hi120 dX8_become_92 ?_
        refine v_nmS (fun S122 eS122 => ?_)
        replace h := h S122 eS122
        have hk123 : hK S122 l0 = 7 := by rw [eS122]; exact hk102
        have hk124 : hK S122 l1 = 7 := by rw [eS122]; exact hk104
        have hk125 : hK S122 r105 = 14 := by rw [eS122]; exact hk106
        have hk126 : hK S122 r103 = 14 := by rw [eS122]; exact hk119
        have hk127 : isM (hK S122 r108) := by rw [eS122]; exact hk121
        have hi128 : vp_in l2 (hN S122 r105) := by rw [eS122]; exact hi107
        have hi129 : vp_in l2 (hN S122 r103) := by rw [eS122]; exact hi120
        obtain ⟨v130, hv130⟩ : ∃ y : Int32, y = l2 + (1 : Int32) := ⟨_, rfl⟩
        replace h := h v130 hv130
        refine v_iinc X (j := 2) (v := v130) (lv' := [(2, .int v130), (0, .ref l0), (1, .ref l1)]) dX8_become_93 rfl (by rw [hv130] <;> rfl) (by decide) rfl ?_
        refine v_goto X (tgt := 76) dX8_become_96 (by decide) ?_
        refine v_lv (lv' := [(0, .ref l0), (1, .ref l1), (2, .int v130)]) [1, 2, 0] rfl ?_
        exact hbk76 _ _ _ _ h
  have l76 : ∀  (n : Nat) (S : hp) (l0 : Nat) (l1 : Nat) (l2 : Int32), wl_X8_become_76 Q n S l0 l1 l2 → VM l b D cy 3 1 24 0 0 (pV Q) p e s m args below meth c S 0 0 76 [(0, .ref l0), (1, .ref l1), (2, .int l2)] [] := by
    intro  n
    induction n with
    | zero => intro S l0 l1 l2 h; exact h.elim
    | succ n ih => intro S l0 l1 l2 h; exact j76 (wl_X8_become_76 Q n) ih S l0 l1 l2 h
  unfold wp_X8_become at h
  show VM l b D cy 3 1 24 0 0 (pV Q) p e s m args below meth c S 0 0 0 [(0, .ref a0), (1, .ref a1)] []
  refine v_aload_n X 1 dX8_become_0 rfl rfl ?_
  obtain ⟨hk1, h⟩ := h
  obtain ⟨r2, hr2, h⟩ := h
  refine v_getR X (T := TX8) (N := 10) (k := 0) hk1 (by decide) rfl (by decide) inX8 wd140 rfl dX8_become_1 hr2 ?_
  refine v_iconst X (v := 0) dX8_become_4 (by decide) ?_
  refine v_aload_n X 0 dX8_become_5 rfl rfl ?_
  obtain ⟨hk3, h⟩ := h
  obtain ⟨r4, hr4, h⟩ := h
  refine v_getR X (T := TX8) (N := 10) (k := 0) hk3 (by decide) rfl (by decide) inX8 wd140 rfl dX8_become_6 hr4 ?_
  refine v_iconst X (v := 0) dX8_become_9 (by decide) ?_
  refine v_aload_n X 0 dX8_become_10 rfl rfl ?_
  refine v_getR X (T := TX8) (N := 10) (k := 0) hk3 (by decide) rfl (by decide) inX8 wd140 rfl dX8_become_11 hr4 ?_
  obtain ⟨hk5, h⟩ := h
  refine v_alen X hk5 (by decide) (by decide) rfl dX8_become_14 ?_
  obtain ⟨hk6, h⟩ := h
  obtain ⟨hz7, h⟩ := h
  obtain ⟨hz8, h⟩ := h
  obtain ⟨hz9, h⟩ := h
  refine v_copy X hk6 hk5 (by decide) (by decide) hz7 hz8 hz9 wd465 wd316 wd315 wd64 (Nat.le_of_ble_eq_true rfl) (Nat.le_of_ble_eq_true rfl) dX8_become_15 ?_
  refine v_nmS (fun S10 eS10 => ?_)
  replace h := h S10 eS10
  have hk11 : hK S10 a1 = 7 := by rw [eS10]; exact hk1
  have hk12 : hK S10 a0 = 7 := by rw [eS10]; exact hk3
  have hk13 : hK S10 r4 = 12 := by rw [eS10]; exact hk5
  have hk14 : hK S10 r2 = 12 := by rw [eS10]; exact hk6
  have hr15 : hR S10 a1 0 = some r2 := by rw [eS10]; exact hr2
  have hr16 : hR S10 a0 0 = some r4 := by rw [eS10]; exact hr4
  refine v_aload_n X 1 dX8_become_18 rfl rfl ?_
  obtain ⟨r17, hr17, h⟩ := h
  refine v_getR X (T := TX8) (N := 10) (k := 1) hk11 (by decide) rfl (by decide) inX8 wd143 rfl dX8_become_19 hr17 ?_
  refine v_iconst X (v := 0) dX8_become_22 (by decide) ?_
  refine v_aload_n X 0 dX8_become_23 rfl rfl ?_
  obtain ⟨r18, hr18, h⟩ := h
  refine v_getR X (T := TX8) (N := 10) (k := 1) hk12 (by decide) rfl (by decide) inX8 wd143 rfl dX8_become_24 hr18 ?_
  refine v_iconst X (v := 0) dX8_become_27 (by decide) ?_
  refine v_aload_n X 0 dX8_become_28 rfl rfl ?_
  refine v_getR X (T := TX8) (N := 10) (k := 1) hk12 (by decide) rfl (by decide) inX8 wd143 rfl dX8_become_29 hr18 ?_
  obtain ⟨hk19, h⟩ := h
  refine v_alen X hk19 (by decide) (by decide) rfl dX8_become_32 ?_
  obtain ⟨hk20, h⟩ := h
  obtain ⟨hz21, h⟩ := h
  obtain ⟨hz22, h⟩ := h
  obtain ⟨hz23, h⟩ := h
  refine v_copy X hk20 hk19 (by decide) (by decide) hz21 hz22 hz23 wd465 wd316 wd315 wd64 (Nat.le_of_ble_eq_true rfl) (Nat.le_of_ble_eq_true rfl) dX8_become_33 ?_
  refine v_nmS (fun S24 eS24 => ?_)
  replace h := h S24 eS24
  have hk25 : hK S24 a1 = 7 := by rw [eS24]; exact hk11
  have hk26 : hK S24 a0 = 7 := by rw [eS24]; exact hk12
  have hk27 : hK S24 r4 = 12 := by rw [eS24]; exact hk13
  have hk28 : hK S24 r2 = 12 := by rw [eS24]; exact hk14
  have hk29 : hK S24 r18 = 12 := by rw [eS24]; exact hk19
  have hk30 : hK S24 r17 = 12 := by rw [eS24]; exact hk20
  have hr31 : hR S24 a1 0 = some r2 := by rw [eS24]; exact hr15
  have hr32 : hR S24 a0 0 = some r4 := by rw [eS24]; exact hr16
  have hr33 : hR S24 a1 1 = some r17 := by rw [eS24]; exact hr17
  have hr34 : hR S24 a0 1 = some r18 := by rw [eS24]; exact hr18
  refine v_aload_n X 1 dX8_become_36 rfl rfl ?_
  obtain ⟨r35, hr35, h⟩ := h
  refine v_getR X (T := TX8) (N := 10) (k := 2) hk25 (by decide) rfl (by decide) inX8 wd145 rfl dX8_become_37 hr35 ?_
  refine v_iconst X (v := 0) dX8_become_40 (by decide) ?_
  refine v_aload_n X 0 dX8_become_41 rfl rfl ?_
  obtain ⟨r36, hr36, h⟩ := h
  refine v_getR X (T := TX8) (N := 10) (k := 2) hk26 (by decide) rfl (by decide) inX8 wd145 rfl dX8_become_42 hr36 ?_
  refine v_iconst X (v := 0) dX8_become_45 (by decide) ?_
  refine v_aload_n X 0 dX8_become_46 rfl rfl ?_
  refine v_getR X (T := TX8) (N := 10) (k := 2) hk26 (by decide) rfl (by decide) inX8 wd145 rfl dX8_become_47 hr36 ?_
  obtain ⟨hk37, h⟩ := h
  refine v_alen X hk37 (by decide) (by decide) rfl dX8_become_50 ?_
  obtain ⟨hk38, h⟩ := h
  obtain ⟨hz39, h⟩ := h
  obtain ⟨hz40, h⟩ := h
  obtain ⟨hz41, h⟩ := h
  refine v_copy X hk38 hk37 (by decide) (by decide) hz39 hz40 hz41 wd465 wd316 wd315 wd64 (Nat.le_of_ble_eq_true rfl) (Nat.le_of_ble_eq_true rfl) dX8_become_51 ?_
  refine v_nmS (fun S42 eS42 => ?_)
  replace h := h S42 eS42
  have hk43 : hK S42 a1 = 7 := by rw [eS42]; exact hk25
  have hk44 : hK S42 a0 = 7 := by rw [eS42]; exact hk26
  have hk45 : hK S42 r4 = 12 := by rw [eS42]; exact hk27
  have hk46 : hK S42 r2 = 12 := by rw [eS42]; exact hk28
  have hk47 : hK S42 r18 = 12 := by rw [eS42]; exact hk29
  have hk48 : hK S42 r17 = 12 := by rw [eS42]; exact hk30
  have hk49 : hK S42 r36 = 12 := by rw [eS42]; exact hk37
  have hk50 : hK S42 r35 = 12 := by rw [eS42]; exact hk38
  have hr51 : hR S42 a1 0 = some r2 := by rw [eS42]; exact hr31
  have hr52 : hR S42 a0 0 = some r4 := by rw [eS42]; exact hr32
  have hr53 : hR S42 a1 1 = some r17 := by rw [eS42]; exact hr33
  have hr54 : hR S42 a0 1 = some r18 := by rw [eS42]; exact hr34
  have hr55 : hR S42 a1 2 = some r35 := by rw [eS42]; exact hr35
  have hr56 : hR S42 a0 2 = some r36 := by rw [eS42]; exact hr36
  refine v_aload_n X 1 dX8_become_54 rfl rfl ?_
  obtain ⟨r57, hr57, h⟩ := h
  refine v_getR X (T := TX8) (N := 10) (k := 4) hk43 (by decide) rfl (by decide) inX8 wd148 rfl dX8_become_55 hr57 ?_
  refine v_iconst X (v := 0) dX8_become_58 (by decide) ?_
  refine v_aload_n X 0 dX8_become_59 rfl rfl ?_
  obtain ⟨r58, hr58, h⟩ := h
  refine v_getR X (T := TX8) (N := 10) (k := 4) hk44 (by decide) rfl (by decide) inX8 wd148 rfl dX8_become_60 hr58 ?_
  refine v_iconst X (v := 0) dX8_become_63 (by decide) ?_
  refine v_bipush X (v := 6) dX8_become_64 (by decide) ?_
  refine v_aload_n X 1 dX8_become_66 rfl rfl ?_
  refine v_getI X (T := TX8) (N := 10) (k := 9) hk43 (by decide) rfl (by decide) inX8 wd161 rfl dX8_become_67 ?_
  refine v_imul X dX8_become_70 ?_
  obtain ⟨hk59, h⟩ := h
  obtain ⟨hk60, h⟩ := h
  obtain ⟨hz61, h⟩ := h
  obtain ⟨hz62, h⟩ := h
  obtain ⟨hz63, h⟩ := h
  refine v_copy X hk59 hk60 (by decide) (by decide) hz61 hz62 hz63 wd465 wd316 wd315 wd64 (Nat.le_of_ble_eq_true rfl) (Nat.le_of_ble_eq_true rfl) dX8_become_71 ?_
  refine v_nmS (fun S64 eS64 => ?_)
  replace h := h S64 eS64
  have hk65 : hK S64 a1 = 7 := by rw [eS64]; exact hk43
  have hk66 : hK S64 a0 = 7 := by rw [eS64]; exact hk44
  have hk67 : hK S64 r4 = 12 := by rw [eS64]; exact hk45
  have hk68 : hK S64 r2 = 12 := by rw [eS64]; exact hk46
  have hk69 : hK S64 r18 = 12 := by rw [eS64]; exact hk47
  have hk70 : hK S64 r17 = 12 := by rw [eS64]; exact hk48
  have hk71 : hK S64 r36 = 12 := by rw [eS64]; exact hk49
  have hk72 : hK S64 r35 = 12 := by rw [eS64]; exact hk50
  have hk73 : hK S64 r57 = 12 := by rw [eS64]; exact hk59
  have hk74 : hK S64 r58 = 12 := by rw [eS64]; exact hk60
  have hr75 : hR S64 a1 0 = some r2 := by rw [eS64]; exact hr51
  have hr76 : hR S64 a0 0 = some r4 := by rw [eS64]; exact hr52
  have hr77 : hR S64 a1 1 = some r17 := by rw [eS64]; exact hr53
  have hr78 : hR S64 a0 1 = some r18 := by rw [eS64]; exact hr54
  have hr79 : hR S64 a1 2 = some r35 := by rw [eS64]; exact hr55
  have hr80 : hR S64 a0 2 = some r36 := by rw [eS64]; exact hr56
  have hr81 : hR S64 a1 4 = some r57 := by rw [eS64]; exact hr57
  have hr82 : hR S64 a0 4 = some r58 := by rw [eS64]; exact hr58
  refine v_iconst X (v := 0) dX8_become_74 (by decide) ?_
  refine v_istore_n X (lv' := [(2, .int (0 : Int32)), (0, .ref a0), (1, .ref a1)]) dX8_become_75 rfl (by decide) rfl ?_
  refine v_lv (lv' := [(0, .ref a0), (1, .ref a1), (2, .int (0 : Int32))]) [1, 2, 0] rfl ?_
  obtain ⟨n, h⟩ := h
  exact l76 n _ _ _ _ h
def wp_X11_street (Q : Int32 → hp → Prop) (S : hp) (a0 : Nat) : Prop :=
  hK S a0 = 10 ∧ ∃ r2 : Nat, hR S a0 1 = some r2 ∧ ∃ r3 : Nat, hR S a0 3 = some r3 ∧ hK S r2 = 8 ∧ wp_X9_readInto (fun r6 S4 => hK S4 a0 = 10 ∧ ∃ r8 : Nat, hR S4 a0 1 = some r8 ∧ hK S4 r8 = 8 ∧ ∀ S10 : hp, S10 = setI S4 r8 1 (0 : Int32) → ((¬ r6 = 0 → ∃ r15 : Nat, hR S10 a0 2 = some r15 ∧ ∃ r16 : Nat, hR S10 a0 3 = some r16 ∧ hK S10 r15 = 7 ∧ wp_X8_become (fun S17 => hK S17 a0 = 10 ∧ ∀ S20 : hp, S20 = setI S17 a0 8 (0 : Int32) → ∃ r22 : Nat, hR S20 a0 2 = some r22 ∧ hK S20 r22 = 7 ∧ Q (hI S20 r22 7) S20) S10 r15 r16) ∧ (r6 = 0 → ∀ S24 : hp, S24 = setI S10 a0 10 (hI S10 r8 2) → Q ((-1000100 : Int32) - (hI S24 r8 3)) S24))) S r2 r3
theorem k_X11_street : Cond.code yX11_street cX11_street 2 (some .int) ∈ gtb := mg 342 (by decide +kernel) (by decide +kernel)
theorem dn_X11_street : yX11_street.cls ≠ "java/lang/invoke/MethodHandle" ∧ yX11_street.cls ≠ "java/lang/invoke/VarHandle" ∧ (parseMethodDescriptor yX11_street.desc).map (fun d => d.parameters.length) = some 0 := by decide +kernel
set_option maxRecDepth 100000 in
set_option maxHeartbeats 4000000 in
theorem s_X11_street (l : Launch) (b : Nat) (D : va_G) (cy : Nat → ClassId) {Q : Int32 → hp → Prop} {S : hp} {a0 : Nat} (h : wp_X11_street Q S a0) : MT l yX11_street cX11_street 2 (some .int) 8 174 6 12 b D cy S [.ref a0] (pI Q) := by
  refine MT.of (by decide +kernel) (Nat.le_of_ble_eq_true rfl) ?_
  intro p e s m args below meth c X hr hlk hnm
  unfold wp_X11_street at h
  show VM l b D cy 2 8 174 6 12 (pI Q) p e s m args below meth c S 0 0 0 [(0, .ref a0)] []
  refine v_aload_n X 0 dX11_street_0 rfl rfl ?_
  obtain ⟨hk1, h⟩ := h
  obtain ⟨r2, hr2, h⟩ := h
  refine v_getR X (T := TX11) (N := 12) (k := 1) hk1 (by decide) rfl (by decide) inX11 wd216 rfl dX11_street_1 hr2 ?_
  refine v_aload_n X 0 dX11_street_4 rfl rfl ?_
  obtain ⟨r3, hr3, h⟩ := h
  refine v_getR X (T := TX11) (N := 12) (k := 3) hk1 (by decide) rfl (by decide) inX11 wd218 rfl dX11_street_5 hr3 ?_
  obtain ⟨hk5, h⟩ := h
  refine v_callV X (av := [.ref r3]) (T := TX9) (N := 6) (s_X9_readInto l b D cy h) hk5 (by decide) rfl wd343 wd344 wd345 wd58 k_X9_readInto dn_X9_readInto rfl ⟨Nat.le_of_ble_eq_true rfl, Nat.le_of_ble_eq_true rfl⟩ (Nat.le_of_ble_eq_true rfl) ⟨Nat.le_of_ble_eq_true rfl, Nat.le_of_ble_eq_true rfl⟩ dX11_street_8 rfl (kI (fun r6 S4 h => ?_))
  refine v_istore_n X (lv' := [(1, .int r6), (0, .ref a0)]) dX11_street_11 rfl (by decide) rfl ?_
  refine v_aload_n X 1 dX11_street_12 rfl rfl ?_
  obtain ⟨hk7, h⟩ := h
  obtain ⟨r8, hr8, h⟩ := h
  refine v_getR X (T := TX11) (N := 12) (k := 1) hk7 (by decide) rfl (by decide) inX11 wd216 rfl dX11_street_13 hr8 ?_
  refine v_iconst X (v := 0) dX11_street_16 (by decide) ?_
  obtain ⟨hk9, h⟩ := h
  refine v_putI X (T := TX9) (N := 6) (k := 1) hk9 (by decide) rfl (by decide) inX9 wd112 tyX9 tyX9_ok nmX9 rfl rfl rfl rfl dX11_street_17 ?_
  refine v_nmS (fun S10 eS10 => ?_)
  replace h := h S10 eS10
  have hk11 : hK S10 a0 = 10 := by rw [eS10]; exact hk7
  have hk12 : hK S10 r8 = 8 := by rw [eS10]; exact hk9
  have hr13 : hR S10 a0 1 = some r8 := by rw [eS10]; exact hr8
  refine v_iload_n X 0 dX11_street_20 rfl rfl ?_
  refine v_if_ne X (tgt := 46) dX11_street_21 (by decide) (fun c14 => ?_) (fun c14 => ?_)
  · replace h := h.1 c14
    refine v_aload_n X 1 dX11_street_46 rfl rfl ?_
    obtain ⟨r15, hr15, h⟩ := h
    refine v_getR X (T := TX11) (N := 12) (k := 2) hk11 (by decide) rfl (by decide) inX11 wd217 rfl dX11_street_47 hr15 ?_
    refine v_aload_n X 1 dX11_street_50 rfl rfl ?_
    obtain ⟨r16, hr16, h⟩ := h
    refine v_getR X (T := TX11) (N := 12) (k := 3) hk11 (by decide) rfl (by decide) inX11 wd218 rfl dX11_street_51 hr16 ?_
    obtain ⟨hk18, h⟩ := h
    refine v_callV X (av := [.ref r16]) (T := TX8) (N := 10) (s_X8_become l b D cy h) hk18 (by decide) rfl wd461 wd462 wd463 wd59 k_X8_become dn_X8_become rfl ⟨Nat.le_of_ble_eq_true rfl, Nat.le_of_ble_eq_true rfl⟩ (Nat.le_of_ble_eq_true rfl) ⟨Nat.le_of_ble_eq_true rfl, Nat.le_of_ble_eq_true rfl⟩ dX11_street_54 rfl (kV (fun S17 h => ?_))
    refine v_aload_n X 1 dX11_street_57 rfl rfl ?_
    refine v_iconst X (v := 0) dX11_street_58 (by decide) ?_
    obtain ⟨hk19, h⟩ := h
    refine v_putI X (T := TX11) (N := 12) (k := 8) hk19 (by decide) rfl (by decide) inX11 wd223 tyX11 tyX11_ok nmX11 rfl rfl rfl rfl dX11_street_59 ?_
    refine v_nmS (fun S20 eS20 => ?_)
    replace h := h S20 eS20
    have hk21 : hK S20 a0 = 10 := by rw [eS20]; exact hk19
    refine v_aload_n X 1 dX11_street_62 rfl rfl ?_
    obtain ⟨r22, hr22, h⟩ := h
    refine v_getR X (T := TX11) (N := 12) (k := 2) hk21 (by decide) rfl (by decide) inX11 wd217 rfl dX11_street_63 hr22 ?_
    obtain ⟨hk23, h⟩ := h
    refine v_getI X (T := TX8) (N := 10) (k := 7) hk23 (by decide) rfl (by decide) inX8 wd155 rfl dX11_street_66 ?_
    exact v_iret X hr hlk ⟨_, rfl, h⟩ dX11_street_69
  · replace h := h.2 c14
    refine v_aload_n X 1 dX11_street_24 rfl rfl ?_
    refine v_aload_n X 1 dX11_street_25 rfl rfl ?_
    refine v_getR X (T := TX11) (N := 12) (k := 1) hk11 (by decide) rfl (by decide) inX11 wd216 rfl dX11_street_26 hr13 ?_
    refine v_getI X (T := TX9) (N := 6) (k := 2) hk12 (by decide) rfl (by decide) inX9 wd113 rfl dX11_street_29 ?_
    refine v_putI X (T := TX11) (N := 12) (k := 10) hk11 (by decide) rfl (by decide) inX11 wd225 tyX11 tyX11_ok nmX11 rfl rfl rfl rfl dX11_street_32 ?_
    refine v_nmS (fun S24 eS24 => ?_)
    replace h := h S24 eS24
    have hk25 : hK S24 a0 = 10 := by rw [eS24]; exact hk11
    have hk26 : hK S24 r8 = 8 := by rw [eS24]; exact hk12
    have hr27 : hR S24 a0 1 = some r8 := by rw [eS24]; exact hr13
    refine v_ldc X wd460 dX11_street_35 ?_
    refine v_aload_n X 1 dX11_street_37 rfl rfl ?_
    refine v_getR X (T := TX11) (N := 12) (k := 1) hk25 (by decide) rfl (by decide) inX11 wd216 rfl dX11_street_38 hr27 ?_
    refine v_getI X (T := TX9) (N := 6) (k := 3) hk26 (by decide) rfl (by decide) inX9 wd115 rfl dX11_street_41 ?_
    refine v_isub X dX11_street_44 ?_
    exact v_iret X hr hlk ⟨_, rfl, h⟩ dX11_street_45
def wp_X11_fault (Q : Int32 → hp → Prop) (S : hp) (a0 : Nat) : Prop :=
  hK S a0 = 10 ∧ Q (hI S a0 10) S
theorem k_X11_fault : Cond.code yX11_fault cX11_fault 1 (some .int) ∈ gtb := mg 469 (by decide +kernel) (by decide +kernel)
theorem dn_X11_fault : yX11_fault.cls ≠ "java/lang/invoke/MethodHandle" ∧ yX11_fault.cls ≠ "java/lang/invoke/VarHandle" ∧ (parseMethodDescriptor yX11_fault.desc).map (fun d => d.parameters.length) = some 0 := by decide +kernel
set_option maxRecDepth 100000 in
set_option maxHeartbeats 4000000 in
theorem s_X11_fault (l : Launch) (b : Nat) (D : va_G) (cy : Nat → ClassId) {Q : Int32 → hp → Prop} {S : hp} {a0 : Nat} (h : wp_X11_fault Q S a0) : MT l yX11_fault cX11_fault 1 (some .int) 0 0 0 0 b D cy S [.ref a0] (pI Q) := by
  refine MT.of (by decide +kernel) (Nat.le_of_ble_eq_true rfl) ?_
  intro p e s m args below meth c X hr hlk hnm
  unfold wp_X11_fault at h
  show VM l b D cy 1 0 0 0 0 (pI Q) p e s m args below meth c S 0 0 0 [(0, .ref a0)] []
  refine v_aload_n X 0 dX11_fault_0 rfl rfl ?_
  obtain ⟨hk1, h⟩ := h
  refine v_getI X (T := TX11) (N := 12) (k := 10) hk1 (by decide) rfl (by decide) inX11 wd225 rfl dX11_fault_1 ?_
  exact v_iret X hr hlk ⟨_, rfl, h⟩ dX11_fault_4
def wB_X11_undo_20n1 (Q : Int32 → hp → Prop) (S : hp) (l0 : Nat) : Prop :=
  Q (-1000002 : Int32) S
def wB_X11_undo_20 (Q : Int32 → hp → Prop) (S : hp) (l0 : Nat) (k0 : Nat) : Prop :=
  hK S l0 = 10 ∧ ∃ r8 : Nat, hR S l0 2 = some r8 ∧ hK S r8 = 7 ∧ wp_X8_become (fun S9 => hK S9 l0 = 10 ∧ ∀ S12 : hp, S12 = setI S9 l0 9 ((((hI S9 l0 9) + (24 : Int32)) - (1 : Int32)) - (((hI S9 l0 9) + (24 : Int32)) - (1 : Int32)) / (24 : Int32) * (24 : Int32)) → ∀ S14 : hp, S14 = setI S12 l0 8 ((hI S12 l0 8) - (1 : Int32)) → Q (hI S14 l0 8) S14) S r8 k0
def wp_X11_undo (Q : Int32 → hp → Prop) (S : hp) (a0 : Nat) : Prop :=
  hK S a0 = 10 ∧ (((hI S a0 8) ≤ 0 → wB_X11_undo_20n1 Q S a0) ∧ (¬ (hI S a0 8) ≤ 0 → ∃ r3 : Nat, hR S a0 7 = some r3 ∧ hK S r3 = 15 ∧ vp_in (hI S a0 9) (hN S r3) ∧ ((hR S r3 ((hI S a0 9)).toNatClampNeg = none → wB_X11_undo_20n1 Q S a0) ∧ (∀ r6 : Nat, hR S r3 ((hI S a0 9)).toNatClampNeg = some r6 → wB_X11_undo_20 Q S a0 r6))))
theorem k_X11_undo : Cond.code yX11_undo cX11_undo 2 (some .int) ∈ gtb := mg 473 (by decide +kernel) (by decide +kernel)
theorem dn_X11_undo : yX11_undo.cls ≠ "java/lang/invoke/MethodHandle" ∧ yX11_undo.cls ≠ "java/lang/invoke/VarHandle" ∧ (parseMethodDescriptor yX11_undo.desc).map (fun d => d.parameters.length) = some 0 := by decide +kernel
set_option maxRecDepth 100000 in
set_option maxHeartbeats 4000000 in
theorem s_X11_undo (l : Launch) (b : Nat) (D : va_G) (cy : Nat → ClassId) {Q : Int32 → hp → Prop} {S : hp} {a0 : Nat} (h : wp_X11_undo Q S a0) : MT l yX11_undo cX11_undo 2 (some .int) 2 46 0 0 b D cy S [.ref a0] (pI Q) := by
  refine MT.of (by decide +kernel) (Nat.le_of_ble_eq_true rfl) ?_
  intro p e s m args below meth c X hr hlk hnm
  have j20n1 : ∀  (S : hp) (l0 : Nat), wB_X11_undo_20n1 Q S l0 → VM l b D cy 2 2 46 0 0 (pI Q) p e s m args below meth c S 0 0 20 [(0, .ref l0)] [.null] := by
    intro  S l0 h
    unfold wB_X11_undo_20n1 at h
    refine v_astore_nN X (lv' := [(1, .null), (0, .ref l0)]) dX11_undo_20 rfl (by decide) rfl ?_
    refine v_aload_nN X 0 dX11_undo_21 rfl rfl ?_
    refine v_ifnonnullN X dX11_undo_22 ?_
    refine v_ldc X wd474 dX11_undo_25 ?_
    exact v_iret X hr hlk ⟨_, rfl, h⟩ dX11_undo_27
  have j20 : ∀  (S : hp) (l0 : Nat) (k0 : Nat), wB_X11_undo_20 Q S l0 k0 → VM l b D cy 2 2 46 0 0 (pI Q) p e s m args below meth c S 0 0 20 [(0, .ref l0)] [.ref k0] := by
    intro  S l0 k0 h
    unfold wB_X11_undo_20 at h
    refine v_astore_n X (lv' := [(1, .ref k0), (0, .ref l0)]) dX11_undo_20 rfl (by decide) rfl ?_
    refine v_aload_n X 0 dX11_undo_21 rfl rfl ?_
    refine v_ifnonnull X (tgt := 28) dX11_undo_22 (by decide) ?_
    refine v_aload_n X 1 dX11_undo_28 rfl rfl ?_
    obtain ⟨hk7, h⟩ := h
    obtain ⟨r8, hr8, h⟩ := h
    refine v_getR X (T := TX11) (N := 12) (k := 2) hk7 (by decide) rfl (by decide) inX11 wd217 rfl dX11_undo_29 hr8 ?_
    refine v_aload_n X 0 dX11_undo_32 rfl rfl ?_
    obtain ⟨hk10, h⟩ := h
    refine v_callV X (av := [.ref k0]) (T := TX8) (N := 10) (s_X8_become l b D cy h) hk10 (by decide) rfl wd461 wd462 wd463 wd59 k_X8_become dn_X8_become rfl ⟨Nat.le_of_ble_eq_true rfl, Nat.le_of_ble_eq_true rfl⟩ (Nat.le_of_ble_eq_true rfl) ⟨Nat.le_of_ble_eq_true rfl, Nat.le_of_ble_eq_true rfl⟩ dX11_undo_33 rfl (kV (fun S9 h => ?_))
    refine v_aload_n X 1 dX11_undo_36 rfl rfl ?_
    refine v_aload_n X 1 dX11_undo_37 rfl rfl ?_
    obtain ⟨hk11, h⟩ := h
    refine v_getI X (T := TX11) (N := 12) (k := 9) hk11 (by decide) rfl (by decide) inX11 wd224 rfl dX11_undo_38 ?_
    refine v_bipush X (v := 24) dX11_undo_41 (by decide) ?_
    refine v_iadd X dX11_undo_43 ?_
    refine v_iconst X (v := 1) dX11_undo_44 (by decide) ?_
    refine v_isub X dX11_undo_45 ?_
    refine v_bipush X (v := 24) dX11_undo_46 (by decide) ?_
    refine v_irem X dX11_undo_48 (by decide) ?_
    refine v_putI X (T := TX11) (N := 12) (k := 9) hk11 (by decide) rfl (by decide) inX11 wd224 tyX11 tyX11_ok nmX11 rfl rfl rfl rfl dX11_undo_49 ?_
    refine v_nmS (fun S12 eS12 => ?_)
    replace h := h S12 eS12
    have hk13 : hK S12 l0 = 10 := by rw [eS12]; exact hk11
    refine v_aload_n X 1 dX11_undo_52 rfl rfl ?_
    refine v_dup X dX11_undo_53 rfl ?_
    refine v_getI X (T := TX11) (N := 12) (k := 8) hk13 (by decide) rfl (by decide) inX11 wd223 rfl dX11_undo_54 ?_
    refine v_iconst X (v := 1) dX11_undo_57 (by decide) ?_
    refine v_isub X dX11_undo_58 ?_
    refine v_putI X (T := TX11) (N := 12) (k := 8) hk13 (by decide) rfl (by decide) inX11 wd223 tyX11 tyX11_ok nmX11 rfl rfl rfl rfl dX11_undo_59 ?_
    refine v_nmS (fun S14 eS14 => ?_)
    replace h := h S14 eS14
    have hk15 : hK S14 l0 = 10 := by rw [eS14]; exact hk13
    refine v_aload_n X 1 dX11_undo_62 rfl rfl ?_
    refine v_getI X (T := TX11) (N := 12) (k := 8) hk15 (by decide) rfl (by decide) inX11 wd223 rfl dX11_undo_63 ?_
    exact v_iret X hr hlk ⟨_, rfl, h⟩ dX11_undo_66
  unfold wp_X11_undo at h
  show VM l b D cy 2 2 46 0 0 (pI Q) p e s m args below meth c S 0 0 0 [(0, .ref a0)] []
  refine v_aload_n X 0 dX11_undo_0 rfl rfl ?_
  obtain ⟨hk1, h⟩ := h
  refine v_getI X (T := TX11) (N := 12) (k := 8) hk1 (by decide) rfl (by decide) inX11 wd223 rfl dX11_undo_1 ?_
  refine v_if_le X (tgt := 19) dX11_undo_4 (by decide) (fun c2 => ?_) (fun c2 => ?_)
  · replace h := h.1 c2
    refine v_null X dX11_undo_19 ?_
    exact j20n1 _ _ h
  · replace h := h.2 c2
    refine v_aload_n X 0 dX11_undo_7 rfl rfl ?_
    obtain ⟨r3, hr3, h⟩ := h
    refine v_getR X (T := TX11) (N := 12) (k := 7) hk1 (by decide) rfl (by decide) inX11 wd222 rfl dX11_undo_8 hr3 ?_
    refine v_aload_n X 0 dX11_undo_11 rfl rfl ?_
    refine v_getI X (T := TX11) (N := 12) (k := 9) hk1 (by decide) rfl (by decide) inX11 wd224 rfl dX11_undo_12 ?_
    obtain ⟨hk4, h⟩ := h
    obtain ⟨hi5, h⟩ := h
    rcases hr6 : hR S r3 ((hI S a0 9)).toNatClampNeg with _ | r6
    · replace h := h.1 hr6
      refine v_aald15 X hk4 hi5 dX11_undo_15 (v := .null) (by rw [hr6] <;> rfl) ?_
      refine v_goto X (tgt := 20) dX11_undo_16 (by decide) ?_
      exact j20n1 _ _ h
    · replace h := h.2 r6 hr6
      refine v_aald15 X hk4 hi5 dX11_undo_15 (v := .ref r6) (by rw [hr6] <;> rfl) ?_
      refine v_goto X (tgt := 20) dX11_undo_16 (by decide) ?_
      exact j20 _ _ _ h
def wB_X8_mouthAt_21 (Q : Option Nat → hp → Prop) (S : hp)  : Prop :=
  Q none S
def wp_X8_mouthAt (Q : Option Nat → hp → Prop) (S : hp) (a0 : Nat) (x1 : Int32) : Prop :=
  ((x1 < 0 → wB_X8_mouthAt_21 Q S) ∧ (¬ x1 < 0 → hK S a0 = 7 ∧ (((hI S a0 8) ≤ x1 → wB_X8_mouthAt_21 Q S) ∧ (¬ (hI S a0 8) ≤ x1 → ∃ r4 : Nat, hR S a0 3 = some r4 ∧ hK S r4 = 14 ∧ vp_in x1 (hN S r4) ∧ ((hR S r4 (x1).toNatClampNeg = none → Q none S) ∧ (∀ r7 : Nat, hR S r4 (x1).toNatClampNeg = some r7 → Q (some r7) S))))))
theorem k_X8_mouthAt : Cond.code yX8_mouthAt cX8_mouthAt 2 (some (.object "DummyInches$Mouth")) ∈ gtb := mg 482 (by decide +kernel) (by decide +kernel)
theorem dn_X8_mouthAt : yX8_mouthAt.cls ≠ "java/lang/invoke/MethodHandle" ∧ yX8_mouthAt.cls ≠ "java/lang/invoke/VarHandle" ∧ (parseMethodDescriptor yX8_mouthAt.desc).map (fun d => d.parameters.length) = some 1 := by decide +kernel
set_option maxRecDepth 100000 in
set_option maxHeartbeats 4000000 in
theorem s_X8_mouthAt (l : Launch) (b : Nat) (D : va_G) (cy : Nat → ClassId) {Q : Option Nat → hp → Prop} {S : hp} {a0 : Nat} {x1 : Int32} (h : wp_X8_mouthAt Q S a0 x1) : MT l yX8_mouthAt cX8_mouthAt 2 (some (.object "DummyInches$Mouth")) 0 0 0 0 b D cy S [.ref a0, .int x1] (pO Q) := by
  refine MT.of (by decide +kernel) (Nat.le_of_ble_eq_true rfl) ?_
  intro p e s m args below meth c X hr hlk hnm
  have j21 : ∀  (S : hp) , wB_X8_mouthAt_21 Q S  → VM l b D cy 2 0 0 0 0 (pO Q) p e s m args below meth c S 0 0 21 [] [] := by
    intro  S  h
    unfold wB_X8_mouthAt_21 at h
    refine v_null X dX8_mouthAt_21 ?_
    exact v_aretN X hr hlk ⟨none, rfl, h⟩ dX8_mouthAt_22
  unfold wp_X8_mouthAt at h
  show VM l b D cy 2 0 0 0 0 (pO Q) p e s m args below meth c S 0 0 0 [(0, .ref a0), (1, .int x1)] []
  refine v_iload_n X 1 dX8_mouthAt_0 rfl rfl ?_
  refine v_if_lt X (tgt := 21) dX8_mouthAt_1 (by decide) (fun c1 => ?_) (fun c1 => ?_)
  · replace h := h.1 c1
    refine v_lv (lv' := []) [] rfl ?_
    exact j21 _ h
  · replace h := h.2 c1
    refine v_iload_n X 1 dX8_mouthAt_4 rfl rfl ?_
    refine v_aload_n X 0 dX8_mouthAt_5 rfl rfl ?_
    obtain ⟨hk2, h⟩ := h
    refine v_getI X (T := TX8) (N := 10) (k := 8) hk2 (by decide) rfl (by decide) inX8 wd158 rfl dX8_mouthAt_6 ?_
    refine v_icmp_ge X (tgt := 21) dX8_mouthAt_9 (by decide) (fun c3 => ?_) (fun c3 => ?_)
    · replace h := h.1 c3
      refine v_lv (lv' := []) [] rfl ?_
      exact j21 _ h
    · replace h := h.2 c3
      refine v_aload_n X 0 dX8_mouthAt_12 rfl rfl ?_
      obtain ⟨r4, hr4, h⟩ := h
      refine v_getR X (T := TX8) (N := 10) (k := 3) hk2 (by decide) rfl (by decide) inX8 wd147 rfl dX8_mouthAt_13 hr4 ?_
      refine v_iload_n X 1 dX8_mouthAt_16 rfl rfl ?_
      obtain ⟨hk5, h⟩ := h
      obtain ⟨hi6, h⟩ := h
      rcases hr7 : hR S r4 (x1).toNatClampNeg with _ | r7
      · replace h := h.1 hr7
        refine v_aald14 X hk5 hi6 dX8_mouthAt_17 (v := .null) (by rw [hr7] <;> rfl) ?_
        refine v_goto X (tgt := 22) dX8_mouthAt_18 (by decide) ?_
        exact v_aretN X hr hlk ⟨none, rfl, h⟩ dX8_mouthAt_22
      · replace h := h.2 r7 hr7
        refine v_aald14 X hk5 hi6 dX8_mouthAt_17 (v := .ref r7) (by rw [hr7] <;> rfl) ?_
        refine v_goto X (tgt := 22) dX8_mouthAt_18 (by decide) ?_
        exact v_aret X hr hlk ⟨some _, rfl, h⟩ dX8_mouthAt_22
def wp_X8_hasDummy (Q : Int32 → hp → Prop) (S : hp) (a0 : Nat) (x1 : Int32) : Prop :=
  ((x1 < 0 → Q (0 : Int32) S) ∧ (¬ x1 < 0 → hK S a0 = 7 ∧ (((hI S a0 7) ≤ x1 → Q (0 : Int32) S) ∧ (¬ (hI S a0 7) ≤ x1 → Q (1 : Int32) S))))
theorem k_X8_hasDummy : Cond.code yX8_hasDummy cX8_hasDummy 2 (some .boolean) ∈ gtb := mg 490 (by decide +kernel) (by decide +kernel)
theorem dn_X8_hasDummy : yX8_hasDummy.cls ≠ "java/lang/invoke/MethodHandle" ∧ yX8_hasDummy.cls ≠ "java/lang/invoke/VarHandle" ∧ (parseMethodDescriptor yX8_hasDummy.desc).map (fun d => d.parameters.length) = some 1 := by decide +kernel
set_option maxRecDepth 100000 in
set_option maxHeartbeats 4000000 in
theorem s_X8_hasDummy (l : Launch) (b : Nat) (D : va_G) (cy : Nat → ClassId) {Q : Int32 → hp → Prop} {S : hp} {a0 : Nat} {x1 : Int32} (h : wp_X8_hasDummy Q S a0 x1) : MT l yX8_hasDummy cX8_hasDummy 2 (some .boolean) 0 0 0 0 b D cy S [.ref a0, .int x1] (pI Q) := by
  refine MT.of (by decide +kernel) (Nat.le_of_ble_eq_true rfl) ?_
  intro p e s m args below meth c X hr hlk hnm
  unfold wp_X8_hasDummy at h
  show VM l b D cy 2 0 0 0 0 (pI Q) p e s m args below meth c S 0 0 0 [(0, .ref a0), (1, .int x1)] []
  refine v_iload_n X 1 dX8_hasDummy_0 rfl rfl ?_
  refine v_if_lt X (tgt := 16) dX8_hasDummy_1 (by decide) (fun c1 => ?_) (fun c1 => ?_)
  · replace h := h.1 c1
    refine v_iconst X (v := 0) dX8_hasDummy_16 (by decide) ?_
    exact v_zret X hr (by decide) hlk ⟨_, rfl, h⟩ dX8_hasDummy_17
  · replace h := h.2 c1
    refine v_iload_n X 1 dX8_hasDummy_4 rfl rfl ?_
    refine v_aload_n X 0 dX8_hasDummy_5 rfl rfl ?_
    obtain ⟨hk2, h⟩ := h
    refine v_getI X (T := TX8) (N := 10) (k := 7) hk2 (by decide) rfl (by decide) inX8 wd153 rfl dX8_hasDummy_6 ?_
    refine v_icmp_ge X (tgt := 16) dX8_hasDummy_9 (by decide) (fun c3 => ?_) (fun c3 => ?_)
    · replace h := h.1 c3
      refine v_iconst X (v := 0) dX8_hasDummy_16 (by decide) ?_
      exact v_zret X hr (by decide) hlk ⟨_, rfl, h⟩ dX8_hasDummy_17
    · replace h := h.2 c3
      refine v_iconst X (v := 1) dX8_hasDummy_12 (by decide) ?_
      refine v_goto X (tgt := 17) dX8_hasDummy_13 (by decide) ?_
      exact v_zret X hr (by decide) hlk ⟨_, rfl, h⟩ dX8_hasDummy_17
def wp_X8_hasPlace (Q : Int32 → hp → Prop) (S : hp) (a0 : Nat) (x1 : Int32) (x2 : Int32) : Prop :=
  hK S a0 = 7 ∧ wp_X8_hasDummy (fun r3 S1 => ((r3 = 0 → Q (0 : Int32) S1) ∧ (¬ r3 = 0 → ((x2 < 0 → Q (0 : Int32) S1) ∧ (¬ x2 < 0 → (((3 : Int32) ≤ x2 → Q (0 : Int32) S1) ∧ (¬ (3 : Int32) ≤ x2 → Q (1 : Int32) S1))))))) S a0 x1
theorem k_X8_hasPlace : Cond.code yX8_hasPlace cX8_hasPlace 3 (some .boolean) ∈ gtb := mg 486 (by decide +kernel) (by decide +kernel)
theorem dn_X8_hasPlace : yX8_hasPlace.cls ≠ "java/lang/invoke/MethodHandle" ∧ yX8_hasPlace.cls ≠ "java/lang/invoke/VarHandle" ∧ (parseMethodDescriptor yX8_hasPlace.desc).map (fun d => d.parameters.length) = some 2 := by decide +kernel
set_option maxRecDepth 100000 in
set_option maxHeartbeats 4000000 in
theorem s_X8_hasPlace (l : Launch) (b : Nat) (D : va_G) (cy : Nat → ClassId) {Q : Int32 → hp → Prop} {S : hp} {a0 : Nat} {x1 : Int32} {x2 : Int32} (h : wp_X8_hasPlace Q S a0 x1 x2) : MT l yX8_hasPlace cX8_hasPlace 3 (some .boolean) 1 21 0 0 b D cy S [.ref a0, .int x1, .int x2] (pI Q) := by
  refine MT.of (by decide +kernel) (Nat.le_of_ble_eq_true rfl) ?_
  intro p e s m args below meth c X hr hlk hnm
  unfold wp_X8_hasPlace at h
  show VM l b D cy 3 1 21 0 0 (pI Q) p e s m args below meth c S 0 0 0 [(0, .ref a0), (1, .int x1), (2, .int x2)] []
  refine v_aload_n X 0 dX8_hasPlace_0 rfl rfl ?_
  refine v_iload_n X 1 dX8_hasPlace_1 rfl rfl ?_
  obtain ⟨hk2, h⟩ := h
  refine v_callV X (av := [.int x1]) (T := TX8) (N := 10) (s_X8_hasDummy l b D cy h) hk2 (by decide) rfl wd487 wd488 wd489 wd59 k_X8_hasDummy dn_X8_hasDummy rfl ⟨Nat.le_of_ble_eq_true rfl, Nat.le_of_ble_eq_true rfl⟩ (Nat.le_of_ble_eq_true rfl) ⟨Nat.le_of_ble_eq_true rfl, Nat.le_of_ble_eq_true rfl⟩ dX8_hasPlace_2 rfl (kI (fun r3 S1 h => ?_))
  refine v_if_eq X (tgt := 21) dX8_hasPlace_5 (by decide) (fun c4 => ?_) (fun c4 => ?_)
  · replace h := h.1 c4
    refine v_iconst X (v := 0) dX8_hasPlace_21 (by decide) ?_
    exact v_zret X hr (by decide) hlk ⟨_, rfl, h⟩ dX8_hasPlace_22
  · replace h := h.2 c4
    refine v_iload_n X 2 dX8_hasPlace_8 rfl rfl ?_
    refine v_if_lt X (tgt := 21) dX8_hasPlace_9 (by decide) (fun c5 => ?_) (fun c5 => ?_)
    · replace h := h.1 c5
      refine v_iconst X (v := 0) dX8_hasPlace_21 (by decide) ?_
      exact v_zret X hr (by decide) hlk ⟨_, rfl, h⟩ dX8_hasPlace_22
    · replace h := h.2 c5
      refine v_iload_n X 2 dX8_hasPlace_12 rfl rfl ?_
      refine v_iconst X (v := 3) dX8_hasPlace_13 (by decide) ?_
      refine v_icmp_ge X (tgt := 21) dX8_hasPlace_14 (by decide) (fun c6 => ?_) (fun c6 => ?_)
      · replace h := h.1 c6
        refine v_iconst X (v := 0) dX8_hasPlace_21 (by decide) ?_
        exact v_zret X hr (by decide) hlk ⟨_, rfl, h⟩ dX8_hasPlace_22
      · replace h := h.2 c6
        refine v_iconst X (v := 1) dX8_hasPlace_17 (by decide) ?_
        refine v_goto X (tgt := 22) dX8_hasPlace_18 (by decide) ?_
        exact v_zret X hr (by decide) hlk ⟨_, rfl, h⟩ dX8_hasPlace_22
def wp_X11_isTold (Q : Int32 → hp → Prop) (S : hp) (x0 : Int32) : Prop :=
  ((x0 < (-99 : Int32) → Q (0 : Int32) S) ∧ (¬ x0 < (-99 : Int32) → (((99 : Int32) < x0 → Q (0 : Int32) S) ∧ (¬ (99 : Int32) < x0 → Q (1 : Int32) S))))
theorem k_X11_isTold : Cond.code yX11_isTold cX11_isTold 1 (some .boolean) ∈ gtb := mg 493 (by decide +kernel) (by decide +kernel)
theorem dn_X11_isTold : yX11_isTold.cls ≠ "java/lang/invoke/MethodHandle" ∧ yX11_isTold.cls ≠ "java/lang/invoke/VarHandle" ∧ (parseMethodDescriptor yX11_isTold.desc).map (fun d => d.parameters.length) = some 1 := by decide +kernel
set_option maxRecDepth 100000 in
set_option maxHeartbeats 4000000 in
theorem s_X11_isTold (l : Launch) (b : Nat) (D : va_G) (cy : Nat → ClassId) {Q : Int32 → hp → Prop} {S : hp} {x0 : Int32} (h : wp_X11_isTold Q S x0) : MT l yX11_isTold cX11_isTold 1 (some .boolean) 0 0 0 0 b D cy S [.int x0] (pI Q) := by
  refine MT.of (by decide +kernel) (Nat.le_of_ble_eq_true rfl) ?_
  intro p e s m args below meth c X hr hlk hnm
  unfold wp_X11_isTold at h
  show VM l b D cy 1 0 0 0 0 (pI Q) p e s m args below meth c S 0 0 0 [(0, .int x0)] []
  refine v_iload_n X 0 dX11_isTold_0 rfl rfl ?_
  refine v_bipush X (v := -99) dX11_isTold_1 (by decide) ?_
  refine v_icmp_lt X (tgt := 16) dX11_isTold_3 (by decide) (fun c1 => ?_) (fun c1 => ?_)
  · replace h := h.1 c1
    refine v_iconst X (v := 0) dX11_isTold_16 (by decide) ?_
    exact v_zret X hr (by decide) hlk ⟨_, rfl, h⟩ dX11_isTold_17
  · replace h := h.2 c1
    refine v_iload_n X 0 dX11_isTold_6 rfl rfl ?_
    refine v_bipush X (v := 99) dX11_isTold_7 (by decide) ?_
    refine v_icmp_gt X (tgt := 16) dX11_isTold_9 (by decide) (fun c2 => ?_) (fun c2 => ?_)
    · replace h := h.1 c2
      refine v_iconst X (v := 0) dX11_isTold_16 (by decide) ?_
      exact v_zret X hr (by decide) hlk ⟨_, rfl, h⟩ dX11_isTold_17
    · replace h := h.2 c2
      refine v_iconst X (v := 1) dX11_isTold_12 (by decide) ?_
      refine v_goto X (tgt := 17) dX11_isTold_13 (by decide) ?_
      exact v_zret X hr (by decide) hlk ⟨_, rfl, h⟩ dX11_isTold_17
def wp_X1_padding (Q : Int32 → hp → Prop) (S : hp) (a0 : Nat) (x1 : Int32) : Prop :=
  ((x1 ≤ 0 → Q x1 S) ∧ (¬ x1 ≤ 0 → Q ((2 : Int32) * x1) S))
theorem k_X1_padding : Cond.code yX1_padding cX1_padding 2 (some .int) ∈ gtb := mg 499 (by decide +kernel) (by decide +kernel)
theorem dn_X1_padding : yX1_padding.cls ≠ "java/lang/invoke/MethodHandle" ∧ yX1_padding.cls ≠ "java/lang/invoke/VarHandle" ∧ (parseMethodDescriptor yX1_padding.desc).map (fun d => d.parameters.length) = some 1 := by decide +kernel
set_option maxRecDepth 100000 in
set_option maxHeartbeats 4000000 in
theorem s_X1_padding (l : Launch) (b : Nat) (D : va_G) (cy : Nat → ClassId) {Q : Int32 → hp → Prop} {S : hp} {a0 : Nat} {x1 : Int32} (h : wp_X1_padding Q S a0 x1) : MT l yX1_padding cX1_padding 2 (some .int) 0 0 0 0 b D cy S [.ref a0, .int x1] (pI Q) := by
  refine MT.of (by decide +kernel) (Nat.le_of_ble_eq_true rfl) ?_
  intro p e s m args below meth c X hr hlk hnm
  unfold wp_X1_padding at h
  show VM l b D cy 2 0 0 0 0 (pI Q) p e s m args below meth c S 0 0 0 [(0, .ref a0), (1, .int x1)] []
  refine v_iload_n X 1 dX1_padding_0 rfl rfl ?_
  refine v_if_le X (tgt := 10) dX1_padding_1 (by decide) (fun c1 => ?_) (fun c1 => ?_)
  · replace h := h.1 c1
    refine v_iload_n X 1 dX1_padding_10 rfl rfl ?_
    exact v_iret X hr hlk ⟨_, rfl, h⟩ dX1_padding_11
  · replace h := h.2 c1
    refine v_iconst X (v := 2) dX1_padding_4 (by decide) ?_
    refine v_iload_n X 1 dX1_padding_5 rfl rfl ?_
    refine v_imul X dX1_padding_6 ?_
    refine v_goto X (tgt := 11) dX1_padding_7 (by decide) ?_
    exact v_iret X hr hlk ⟨_, rfl, h⟩ dX1_padding_11
def wp_X3_padding (Q : Int32 → hp → Prop) (S : hp) (a0 : Nat) (x1 : Int32) : Prop :=
  Q (x1 / (2 : Int32)) S
theorem k_X3_padding : Cond.code yX3_padding cX3_padding 2 (some .int) ∈ gtb := mg 502 (by decide +kernel) (by decide +kernel)
theorem dn_X3_padding : yX3_padding.cls ≠ "java/lang/invoke/MethodHandle" ∧ yX3_padding.cls ≠ "java/lang/invoke/VarHandle" ∧ (parseMethodDescriptor yX3_padding.desc).map (fun d => d.parameters.length) = some 1 := by decide +kernel
set_option maxRecDepth 100000 in
set_option maxHeartbeats 4000000 in
theorem s_X3_padding (l : Launch) (b : Nat) (D : va_G) (cy : Nat → ClassId) {Q : Int32 → hp → Prop} {S : hp} {a0 : Nat} {x1 : Int32} (h : wp_X3_padding Q S a0 x1) : MT l yX3_padding cX3_padding 2 (some .int) 0 0 0 0 b D cy S [.ref a0, .int x1] (pI Q) := by
  refine MT.of (by decide +kernel) (Nat.le_of_ble_eq_true rfl) ?_
  intro p e s m args below meth c X hr hlk hnm
  unfold wp_X3_padding at h
  show VM l b D cy 2 0 0 0 0 (pI Q) p e s m args below meth c S 0 0 0 [(0, .ref a0), (1, .int x1)] []
  refine v_iload_n X 1 dX3_padding_0 rfl rfl ?_
  refine v_iconst X (v := 2) dX3_padding_1 (by decide) ?_
  refine v_idiv X dX3_padding_2 (by decide) ?_
  exact v_iret X hr hlk ⟨_, rfl, h⟩ dX3_padding_3
def wp_X5_padding (Q : Int32 → hp → Prop) (S : hp) (a0 : Nat) (x1 : Int32) : Prop :=
  Q (-x1) S
theorem k_X5_padding : Cond.code yX5_padding cX5_padding 2 (some .int) ∈ gtb := mg 505 (by decide +kernel) (by decide +kernel)
theorem dn_X5_padding : yX5_padding.cls ≠ "java/lang/invoke/MethodHandle" ∧ yX5_padding.cls ≠ "java/lang/invoke/VarHandle" ∧ (parseMethodDescriptor yX5_padding.desc).map (fun d => d.parameters.length) = some 1 := by decide +kernel
set_option maxRecDepth 100000 in
set_option maxHeartbeats 4000000 in
theorem s_X5_padding (l : Launch) (b : Nat) (D : va_G) (cy : Nat → ClassId) {Q : Int32 → hp → Prop} {S : hp} {a0 : Nat} {x1 : Int32} (h : wp_X5_padding Q S a0 x1) : MT l yX5_padding cX5_padding 2 (some .int) 0 0 0 0 b D cy S [.ref a0, .int x1] (pI Q) := by
  refine MT.of (by decide +kernel) (Nat.le_of_ble_eq_true rfl) ?_
  intro p e s m args below meth c X hr hlk hnm
  unfold wp_X5_padding at h
  show VM l b D cy 2 0 0 0 0 (pI Q) p e s m args below meth c S 0 0 0 [(0, .ref a0), (1, .int x1)] []
  refine v_iload_n X 1 dX5_padding_0 rfl rfl ?_
  refine v_ineg X dX5_padding_1 ?_
  exact v_iret X hr hlk ⟨_, rfl, h⟩ dX5_padding_2
def wp_X7_padding (Q : Int32 → hp → Prop) (S : hp) (a0 : Nat) (x1 : Int32) : Prop :=
  Q (-(x1 / (2 : Int32))) S
theorem k_X7_padding : Cond.code yX7_padding cX7_padding 2 (some .int) ∈ gtb := mg 508 (by decide +kernel) (by decide +kernel)
theorem dn_X7_padding : yX7_padding.cls ≠ "java/lang/invoke/MethodHandle" ∧ yX7_padding.cls ≠ "java/lang/invoke/VarHandle" ∧ (parseMethodDescriptor yX7_padding.desc).map (fun d => d.parameters.length) = some 1 := by decide +kernel
set_option maxRecDepth 100000 in
set_option maxHeartbeats 4000000 in
theorem s_X7_padding (l : Launch) (b : Nat) (D : va_G) (cy : Nat → ClassId) {Q : Int32 → hp → Prop} {S : hp} {a0 : Nat} {x1 : Int32} (h : wp_X7_padding Q S a0 x1) : MT l yX7_padding cX7_padding 2 (some .int) 0 0 0 0 b D cy S [.ref a0, .int x1] (pI Q) := by
  refine MT.of (by decide +kernel) (Nat.le_of_ble_eq_true rfl) ?_
  intro p e s m args below meth c X hr hlk hnm
  unfold wp_X7_padding at h
  show VM l b D cy 2 0 0 0 0 (pI Q) p e s m args below meth c S 0 0 0 [(0, .ref a0), (1, .int x1)] []
  refine v_iload_n X 1 dX7_padding_0 rfl rfl ?_
  refine v_iconst X (v := 2) dX7_padding_1 (by decide) ?_
  refine v_idiv X dX7_padding_2 (by decide) ?_
  refine v_ineg X dX7_padding_3 ?_
  exact v_iret X hr hlk ⟨_, rfl, h⟩ dX7_padding_4
def wp_X10_padding (Q : Int32 → hp → Prop) (S : hp) (a0 : Nat) (x1 : Int32) : Prop :=
  Q x1 S
theorem k_X10_padding : Cond.code yX10_padding cX10_padding 2 (some .int) ∈ gtb := mg 511 (by decide +kernel) (by decide +kernel)
theorem dn_X10_padding : yX10_padding.cls ≠ "java/lang/invoke/MethodHandle" ∧ yX10_padding.cls ≠ "java/lang/invoke/VarHandle" ∧ (parseMethodDescriptor yX10_padding.desc).map (fun d => d.parameters.length) = some 1 := by decide +kernel
set_option maxRecDepth 100000 in
set_option maxHeartbeats 4000000 in
theorem s_X10_padding (l : Launch) (b : Nat) (D : va_G) (cy : Nat → ClassId) {Q : Int32 → hp → Prop} {S : hp} {a0 : Nat} {x1 : Int32} (h : wp_X10_padding Q S a0 x1) : MT l yX10_padding cX10_padding 2 (some .int) 0 0 0 0 b D cy S [.ref a0, .int x1] (pI Q) := by
  refine MT.of (by decide +kernel) (Nat.le_of_ble_eq_true rfl) ?_
  intro p e s m args below meth c X hr hlk hnm
  unfold wp_X10_padding at h
  show VM l b D cy 2 0 0 0 0 (pI Q) p e s m args below meth c S 0 0 0 [(0, .ref a0), (1, .int x1)] []
  refine v_iload_n X 1 dX10_padding_0 rfl rfl ?_
  exact v_iret X hr hlk ⟨_, rfl, h⟩ dX10_padding_1
def wd_Mouth_padding (Q : Int32 → hp → Prop) (S : hp) (a0 : Nat) (x1 : Int32) : Prop :=
  (hK S a0 = 1 ∧ wp_X1_padding Q S a0 x1) ∨ (hK S a0 = 3 ∧ wp_X3_padding Q S a0 x1) ∨ (hK S a0 = 4 ∧ wp_X5_padding Q S a0 x1) ∨ (hK S a0 = 6 ∧ wp_X7_padding Q S a0 x1) ∨ (hK S a0 = 9 ∧ wp_X10_padding Q S a0 x1)
set_option maxRecDepth 100000 in
theorem v_dyn_Mouth_padding {p : Program} {l : Launch} {e : Env} {R : Room} {s : State} {m : MethodId} {args : Array Value} {below : List Frame} {meth : Method} {c : Code} {b : Nat} {D : va_G} {cy : Nat → ClassId} {nL : Nat} {Qf : State → Prop} {S : hp} {cells slots pc : Nat} {lv : List (Nat × Value)} {cc : ByteArray} {own : String} (X : CX p s m args c cc nL own D cy) {Q : Int32 → hp → Prop} {a0 idx : Nat} {x1 : Int32} {rest : List Value} (h : wd_Mouth_padding Q S a0 x1) (hlink : Cond.methodLink own idx ⟨"DummyInches$Mouth", "padding", "(I)I"⟩ ∈ gtb) (hR : 0 + 1 ≤ R.frames ∧ 8 + 11 + 2 ≤ R.locals) (hW : ((rest.map (cv b)).map fun v => v.category).sum ≤ 8) (hf : cells + 0 ≤ R.cells ∧ slots + 0 ≤ R.slots) (hd : decode cc pc = .ok (.invokevirtual idx, 3)) (kk : ∀ (r : Int32) (S1 : hp), Q r S1 → V p l e R s m args below meth c b D cy nL Qf S1 cells slots (pc + 3) lv (.int r :: rest)) : V p l e R s m args below meth c b D cy nL Qf S cells slots pc lv (.int x1 :: .ref a0 :: rest) := by
  have hdc : va_Decl s ⟨"DummyInches$Mouth", "padding", "(I)I"⟩ := va_Decl.abs (X.2.2.2.2.2.2.2.2.2.1 _ (List.mem_of_getElem? (i := 0) rfl))
  rcases h with ⟨hk, h⟩ | ⟨hk, h⟩ | ⟨hk, h⟩ | ⟨hk, h⟩ | ⟨hk, h⟩
  · refine v_callA (x := ⟨"DummyInches$Mouth", "padding", "(I)I"⟩) (owner := "DummyInches$Mouth") X (n := 1) (av := [.int x1]) (T := TX1) (N := 2) (s_X1_padding l b D cy h) hk (by decide) rfl hdc hlink wd496 wd497 wd498 wd67 k_X1_padding ⟨by decide, by decide, by decide +kernel⟩ rfl ⟨by omega, by omega⟩ hW hf hd rfl (kI kk)
  · refine v_callA (x := ⟨"DummyInches$Mouth", "padding", "(I)I"⟩) (owner := "DummyInches$Mouth") X (n := 1) (av := [.int x1]) (T := TX3) (N := 2) (s_X3_padding l b D cy h) hk (by decide) rfl hdc hlink wd496 wd500 wd501 wd69 k_X3_padding ⟨by decide, by decide, by decide +kernel⟩ rfl ⟨by omega, by omega⟩ hW hf hd rfl (kI kk)
  · refine v_callA (x := ⟨"DummyInches$Mouth", "padding", "(I)I"⟩) (owner := "DummyInches$Mouth") X (n := 1) (av := [.int x1]) (T := TX5) (N := 2) (s_X5_padding l b D cy h) hk (by decide) rfl hdc hlink wd496 wd503 wd504 wd68 k_X5_padding ⟨by decide, by decide, by decide +kernel⟩ rfl ⟨by omega, by omega⟩ hW hf hd rfl (kI kk)
  · refine v_callA (x := ⟨"DummyInches$Mouth", "padding", "(I)I"⟩) (owner := "DummyInches$Mouth") X (n := 1) (av := [.int x1]) (T := TX7) (N := 2) (s_X7_padding l b D cy h) hk (by decide) rfl hdc hlink wd496 wd506 wd507 wd70 k_X7_padding ⟨by decide, by decide, by decide +kernel⟩ rfl ⟨by omega, by omega⟩ hW hf hd rfl (kI kk)
  · refine v_callA (x := ⟨"DummyInches$Mouth", "padding", "(I)I"⟩) (owner := "DummyInches$Mouth") X (n := 1) (av := [.int x1]) (T := TX10) (N := 2) (s_X10_padding l b D cy h) hk (by decide) rfl hdc hlink wd496 wd509 wd510 wd66 k_X10_padding ⟨by decide, by decide, by decide +kernel⟩ rfl ⟨by omega, by omega⟩ hW hf hd rfl (kI kk)
def wp_X8_isLogFull (Q : Int32 → hp → Prop) (S : hp) (a0 : Nat) : Prop :=
  hK S a0 = 7 ∧ (((hI S a0 9) < (16 : Int32) → Q (0 : Int32) S) ∧ (¬ (hI S a0 9) < (16 : Int32) → Q (1 : Int32) S))
theorem k_X8_isLogFull : Cond.code yX8_isLogFull cX8_isLogFull 1 (some .boolean) ∈ gtb := mg 515 (by decide +kernel) (by decide +kernel)
theorem dn_X8_isLogFull : yX8_isLogFull.cls ≠ "java/lang/invoke/MethodHandle" ∧ yX8_isLogFull.cls ≠ "java/lang/invoke/VarHandle" ∧ (parseMethodDescriptor yX8_isLogFull.desc).map (fun d => d.parameters.length) = some 0 := by decide +kernel
set_option maxRecDepth 100000 in
set_option maxHeartbeats 4000000 in
theorem s_X8_isLogFull (l : Launch) (b : Nat) (D : va_G) (cy : Nat → ClassId) {Q : Int32 → hp → Prop} {S : hp} {a0 : Nat} (h : wp_X8_isLogFull Q S a0) : MT l yX8_isLogFull cX8_isLogFull 1 (some .boolean) 0 0 0 0 b D cy S [.ref a0] (pI Q) := by
  refine MT.of (by decide +kernel) (Nat.le_of_ble_eq_true rfl) ?_
  intro p e s m args below meth c X hr hlk hnm
  unfold wp_X8_isLogFull at h
  show VM l b D cy 1 0 0 0 0 (pI Q) p e s m args below meth c S 0 0 0 [(0, .ref a0)] []
  refine v_aload_n X 0 dX8_isLogFull_0 rfl rfl ?_
  obtain ⟨hk1, h⟩ := h
  refine v_getI X (T := TX8) (N := 10) (k := 9) hk1 (by decide) rfl (by decide) inX8 wd161 rfl dX8_isLogFull_1 ?_
  refine v_bipush X (v := 16) dX8_isLogFull_4 (by decide) ?_
  refine v_icmp_lt X (tgt := 13) dX8_isLogFull_6 (by decide) (fun c2 => ?_) (fun c2 => ?_)
  · replace h := h.1 c2
    refine v_iconst X (v := 0) dX8_isLogFull_13 (by decide) ?_
    exact v_zret X hr (by decide) hlk ⟨_, rfl, h⟩ dX8_isLogFull_14
  · replace h := h.2 c2
    refine v_iconst X (v := 1) dX8_isLogFull_9 (by decide) ?_
    refine v_goto X (tgt := 14) dX8_isLogFull_10 (by decide) ?_
    exact v_zret X hr (by decide) hlk ⟨_, rfl, h⟩ dX8_isLogFull_14
def wp_X8_hasRoomFor (Q : Int32 → hp → Prop) (S : hp) (a0 : Nat) (x1 : Int32) (x2 : Int32) (x3 : Int32) (x4 : Int32) : Prop :=
  wp_X8_at (fun r2 S1 => hK S1 a0 = 7 ∧ ∃ r4 : Nat, hR S1 a0 0 = some r4 ∧ hK S1 r4 = 12 ∧ vp_in r2 (hN S1 r4) ∧ (((999 : Int32) < (if 0 ≤ ((hI S1 r4 (r2).toNatClampNeg) + x3) then ((hI S1 r4 (r2).toNatClampNeg) + x3) else 0 - ((hI S1 r4 (r2).toNatClampNeg) + x3)) → Q (0 : Int32) S1) ∧ (¬ (999 : Int32) < (if 0 ≤ ((hI S1 r4 (r2).toNatClampNeg) + x3) then ((hI S1 r4 (r2).toNatClampNeg) + x3) else 0 - ((hI S1 r4 (r2).toNatClampNeg) + x3)) → ∃ r8 : Nat, hR S1 a0 2 = some r8 ∧ hK S1 r8 = 12 ∧ vp_in r2 (hN S1 r8) ∧ (((999 : Int32) < (if 0 ≤ ((hI S1 r8 (r2).toNatClampNeg) + x4) then ((hI S1 r8 (r2).toNatClampNeg) + x4) else 0 - ((hI S1 r8 (r2).toNatClampNeg) + x4)) → Q (0 : Int32) S1) ∧ (¬ (999 : Int32) < (if 0 ≤ ((hI S1 r8 (r2).toNatClampNeg) + x4) then ((hI S1 r8 (r2).toNatClampNeg) + x4) else 0 - ((hI S1 r8 (r2).toNatClampNeg) + x4)) → Q (1 : Int32) S1))))) S x1 x2
theorem k_X8_hasRoomFor : Cond.code yX8_hasRoomFor cX8_hasRoomFor 6 (some .boolean) ∈ gtb := mg 519 (by decide +kernel) (by decide +kernel)
theorem dn_X8_hasRoomFor : yX8_hasRoomFor.cls ≠ "java/lang/invoke/MethodHandle" ∧ yX8_hasRoomFor.cls ≠ "java/lang/invoke/VarHandle" ∧ (parseMethodDescriptor yX8_hasRoomFor.desc).map (fun d => d.parameters.length) = some 4 := by decide +kernel
set_option maxRecDepth 100000 in
set_option maxHeartbeats 4000000 in
theorem s_X8_hasRoomFor (l : Launch) (b : Nat) (D : va_G) (cy : Nat → ClassId) {Q : Int32 → hp → Prop} {S : hp} {a0 : Nat} {x1 : Int32} {x2 : Int32} {x3 : Int32} {x4 : Int32} (h : wp_X8_hasRoomFor Q S a0 x1 x2 x3 x4) : MT l yX8_hasRoomFor cX8_hasRoomFor 6 (some .boolean) 1 21 0 0 b D cy S [.ref a0, .int x1, .int x2, .int x3, .int x4] (pI Q) := by
  refine MT.of (by decide +kernel) (Nat.le_of_ble_eq_true rfl) ?_
  intro p e s m args below meth c X hr hlk hnm
  unfold wp_X8_hasRoomFor at h
  show VM l b D cy 6 1 21 0 0 (pI Q) p e s m args below meth c S 0 0 0 [(0, .ref a0), (1, .int x1), (2, .int x2), (3, .int x3), (4, .int x4)] []
  refine v_iload_n X 1 dX8_hasRoomFor_0 rfl rfl ?_
  refine v_iload_n X 2 dX8_hasRoomFor_1 rfl rfl ?_
  refine v_callS X (av := [.int x1, .int x2]) (s_X8_at l b D cy h) wd520 wd384 wd59 k_X8_at dn_X8_at rfl ⟨Nat.le_of_ble_eq_true rfl, Nat.le_of_ble_eq_true rfl⟩ (Nat.le_of_ble_eq_true rfl) ⟨Nat.le_of_ble_eq_true rfl, Nat.le_of_ble_eq_true rfl⟩ dX8_hasRoomFor_2 rfl (kI (fun r2 S1 h => ?_))
  refine v_istore X (lv' := [(5, .int r2), (0, .ref a0), (1, .int x1), (2, .int x2), (3, .int x3), (4, .int x4)]) dX8_hasRoomFor_5 (by decide) rfl ?_
  refine v_aload_n X 1 dX8_hasRoomFor_7 rfl rfl ?_
  obtain ⟨hk3, h⟩ := h
  obtain ⟨r4, hr4, h⟩ := h
  refine v_getR X (T := TX8) (N := 10) (k := 0) hk3 (by decide) rfl (by decide) inX8 wd140 rfl dX8_hasRoomFor_8 hr4 ?_
  refine v_iload X 0 dX8_hasRoomFor_11 rfl ?_
  obtain ⟨hk5, h⟩ := h
  obtain ⟨hi6, h⟩ := h
  refine v_iald X hk5 hi6 dX8_hasRoomFor_13 ?_
  refine v_iload_n X 4 dX8_hasRoomFor_14 rfl rfl ?_
  refine v_iadd X dX8_hasRoomFor_15 ?_
  refine v_mabs X wd521 wd522 wd71 wd523 (Nat.le_of_ble_eq_true rfl) (Nat.le_of_ble_eq_true rfl) (Nat.le_of_ble_eq_true rfl) (Nat.le_of_ble_eq_true rfl) dX8_hasRoomFor_16 ?_
  refine v_sipush X (v := 999) dX8_hasRoomFor_19 (by decide) ?_
  refine v_icmp_gt X (tgt := 48) dX8_hasRoomFor_22 (by decide) (fun c7 => ?_) (fun c7 => ?_)
  · replace h := h.1 c7
    refine v_iconst X (v := 0) dX8_hasRoomFor_48 (by decide) ?_
    exact v_zret X hr (by decide) hlk ⟨_, rfl, h⟩ dX8_hasRoomFor_49
  · replace h := h.2 c7
    refine v_aload_n X 1 dX8_hasRoomFor_25 rfl rfl ?_
    obtain ⟨r8, hr8, h⟩ := h
    refine v_getR X (T := TX8) (N := 10) (k := 2) hk3 (by decide) rfl (by decide) inX8 wd145 rfl dX8_hasRoomFor_26 hr8 ?_
    refine v_iload X 0 dX8_hasRoomFor_29 rfl ?_
    obtain ⟨hk9, h⟩ := h
    obtain ⟨hi10, h⟩ := h
    refine v_iald X hk9 hi10 dX8_hasRoomFor_31 ?_
    refine v_iload X 5 dX8_hasRoomFor_32 rfl ?_
    refine v_iadd X dX8_hasRoomFor_34 ?_
    refine v_mabs X wd521 wd522 wd71 wd523 (Nat.le_of_ble_eq_true rfl) (Nat.le_of_ble_eq_true rfl) (Nat.le_of_ble_eq_true rfl) (Nat.le_of_ble_eq_true rfl) dX8_hasRoomFor_35 ?_
    refine v_sipush X (v := 999) dX8_hasRoomFor_38 (by decide) ?_
    refine v_icmp_gt X (tgt := 48) dX8_hasRoomFor_41 (by decide) (fun c11 => ?_) (fun c11 => ?_)
    · replace h := h.1 c11
      refine v_iconst X (v := 0) dX8_hasRoomFor_48 (by decide) ?_
      exact v_zret X hr (by decide) hlk ⟨_, rfl, h⟩ dX8_hasRoomFor_49
    · replace h := h.2 c11
      refine v_iconst X (v := 1) dX8_hasRoomFor_44 (by decide) ?_
      refine v_goto X (tgt := 49) dX8_hasRoomFor_45 (by decide) ?_
      exact v_zret X hr (by decide) hlk ⟨_, rfl, h⟩ dX8_hasRoomFor_49
def wB_X11_copyOver_15 (Q : Nat → hp → Prop) (S : hp) (l0 : Nat) (k0 : Nat) : Prop :=
  hK S l0 = 10 ∧ ∃ r5 : Nat, hR S l0 2 = some r5 ∧ hK S k0 = 7 ∧ wp_X8_become (fun S6 => Q k0 S6) S k0 r5
def wp_X11_copyOver (Q : Nat → hp → Prop) (S : hp) (a0 : Nat) (a1 : Option Nat) : Prop :=
  ((a1 = none → ∀ S1 : hp, S1 = newC S 7 0 → wp_X8_init (fun S3 => wB_X11_copyOver_15 Q S3 a0 ((hC S))) S1 ((hC S))) ∧ (∀ z1 : Nat, a1 = some z1 → wB_X11_copyOver_15 Q S a0 z1))
theorem k_X11_copyOver : Cond.code yX11_copyOver cX11_copyOver 3 (some (.object "DummyInches$Street")) ∈ gtb := mg 531 (by decide +kernel) (by decide +kernel)
theorem dn_X11_copyOver : yX11_copyOver.cls ≠ "java/lang/invoke/MethodHandle" ∧ yX11_copyOver.cls ≠ "java/lang/invoke/VarHandle" ∧ (parseMethodDescriptor yX11_copyOver.desc).map (fun d => d.parameters.length) = some 1 := by decide +kernel
set_option maxRecDepth 100000 in
set_option maxHeartbeats 4000000 in
theorem s_X11_copyOver (l : Launch) (b : Nat) (D : va_G) (cy : Nat → ClassId) {Q : Nat → hp → Prop} {S : hp} {a0 : Nat} {a1 : Option Nat} (h : wp_X11_copyOver Q S a0 a1) : MT l yX11_copyOver cX11_copyOver 3 (some (.object "DummyInches$Street")) 2 46 6 147 b D cy S [.ref a0, va_rf a1] (pA Q) := by
  refine MT.of (by decide +kernel) (by rcases a1 with _ | z <;> exact Nat.le_of_ble_eq_true rfl) ?_
  intro p e s m args below meth c X hr hlk hnm
  have j15 : ∀  (S : hp) (l0 : Nat) (k0 : Nat), wB_X11_copyOver_15 Q S l0 k0 → VM l b D cy 3 2 46 6 147 (pA Q) p e s m args below meth c S 6 147 15 [(0, .ref l0)] [.ref k0] := by
    intro  S l0 k0 h
    unfold wB_X11_copyOver_15 at h
    refine v_astore_n X (lv' := [(2, .ref k0), (0, .ref l0)]) dX11_copyOver_15 rfl (by decide) rfl ?_
    refine v_aload_n X 0 dX11_copyOver_16 rfl rfl ?_
    refine v_aload_n X 1 dX11_copyOver_17 rfl rfl ?_
    obtain ⟨hk4, h⟩ := h
    obtain ⟨r5, hr5, h⟩ := h
    refine v_getR X (T := TX11) (N := 12) (k := 2) hk4 (by decide) rfl (by decide) inX11 wd217 rfl dX11_copyOver_18 hr5 ?_
    obtain ⟨hk7, h⟩ := h
    refine v_callV X (av := [.ref r5]) (T := TX8) (N := 10) (s_X8_become l b D cy h) hk7 (by decide) rfl wd461 wd462 wd463 wd59 k_X8_become dn_X8_become rfl ⟨Nat.le_of_ble_eq_true rfl, Nat.le_of_ble_eq_true rfl⟩ (Nat.le_of_ble_eq_true rfl) ⟨Nat.le_of_ble_eq_true rfl, Nat.le_of_ble_eq_true rfl⟩ dX11_copyOver_21 rfl (kV (fun S6 h => ?_))
    refine v_aload_n X 0 dX11_copyOver_24 rfl rfl ?_
    exact v_aret X hr hlk ⟨_, rfl, h⟩ dX11_copyOver_25
  unfold wp_X11_copyOver at h
  rcases a1 with _ | z1
  · replace h := h.1 rfl
    show VM l b D cy 3 2 46 6 147 (pA Q) p e s m args below meth c S 0 0 0 [(0, .ref a0), (1, .null)] []
    refine v_aload_nN X 1 dX11_copyOver_0 rfl rfl ?_
    refine v_ifnonnullN X dX11_copyOver_1 ?_
    refine v_new X (T := TX8) (N := 10) (ci := 7) rfl (by decide) inX8 tyX8 tyX8_ok wd132 wd133 wd59 dfX8 (Nat.le_of_ble_eq_true rfl) (Nat.le_of_ble_eq_true rfl) dX11_copyOver_4 ?_
    refine v_nmS (fun S1 eS1 => ?_)
    replace h := h S1 eS1
    have hk2 : hK S1 (hC S) = 7 := by rw [eS1, hK_newC, if_pos rfl]
    refine v_dup X dX11_copyOver_7 rfl ?_
    refine v_callIN X (ret := none) (av := []) (s_X8_init l b D cy h) rfl (List.mem_of_getElem? (i := 2) rfl) wd135 wd59 k_X8_init rfl dn_X8_init rfl ⟨Nat.le_of_ble_eq_true rfl, Nat.le_of_ble_eq_true rfl⟩ (Nat.le_of_ble_eq_true rfl) ⟨Nat.le_of_ble_eq_true rfl, Nat.le_of_ble_eq_true rfl⟩ dX11_copyOver_8 rfl (kV (fun S3 h => ?_))
    refine v_goto X (tgt := 15) dX11_copyOver_11 (by decide) ?_
    refine v_lv (lv' := [(0, .ref a0)]) [0] rfl ?_
    exact j15 _ _ _ h
  · replace h := h.2 _ rfl
    show VM l b D cy 3 2 46 6 147 (pA Q) p e s m args below meth c S 0 0 0 [(0, .ref a0), (1, .ref z1)] []
    refine v_aload_n X 1 dX11_copyOver_0 rfl rfl ?_
    refine v_ifnonnull X (tgt := 14) dX11_copyOver_1 (by decide) ?_
    refine v_aload_n X 1 dX11_copyOver_14 rfl rfl ?_
    refine v_lv (lv' := [(0, .ref a0)]) [0] rfl ?_
    refine v_widen (c2 := 6) (s2 := 147) (Nat.le_of_ble_eq_true rfl) (Nat.le_of_ble_eq_true rfl) ?_
    exact j15 _ _ _ h
def wp_X11_keepAct (Q : hp → Prop) (S : hp) (a0 : Nat) : Prop :=
  hK S a0 = 10 ∧ ∀ S2 : hp, S2 = setI S a0 9 (((hI S a0 9) + (1 : Int32)) - ((hI S a0 9) + (1 : Int32)) / (24 : Int32) * (24 : Int32)) → ∃ r4 : Nat, hR S2 a0 7 = some r4 ∧ hK S2 r4 = 15 ∧ vp_in (hI S2 a0 9) (hN S2 r4) ∧ ((hR S2 r4 ((hI S2 a0 9)).toNatClampNeg = none → wp_X11_copyOver (fun r9 S8 => hK S8 r4 = 15 ∧ vp_in (hI S2 a0 9) (hN S8 r4) ∧ hK S8 r9 = 7 ∧ ∀ S13 : hp, S13 = setR S8 r4 ((hI S2 a0 9)).toNatClampNeg (some r9) → hK S13 a0 = 10 ∧ ∀ S18 : hp, S18 = setI S13 a0 8 (if (24 : Int32) < ((hI S13 a0 8) + (1 : Int32)) then (24 : Int32) else ((hI S13 a0 8) + (1 : Int32))) → Q S18) S2 a0 none) ∧ (∀ r7 : Nat, hR S2 r4 ((hI S2 a0 9)).toNatClampNeg = some r7 → wp_X11_copyOver (fun r24 S23 => hK S23 r4 = 15 ∧ vp_in (hI S2 a0 9) (hN S23 r4) ∧ hK S23 r24 = 7 ∧ ∀ S28 : hp, S28 = setR S23 r4 ((hI S2 a0 9)).toNatClampNeg (some r24) → hK S28 a0 = 10 ∧ ∀ S33 : hp, S33 = setI S28 a0 8 (if (24 : Int32) < ((hI S28 a0 8) + (1 : Int32)) then (24 : Int32) else ((hI S28 a0 8) + (1 : Int32))) → Q S33) S2 a0 (some r7)))
theorem k_X11_keepAct : Cond.code yX11_keepAct cX11_keepAct 1 none ∈ gtb := mg 527 (by decide +kernel) (by decide +kernel)
theorem dn_X11_keepAct : yX11_keepAct.cls ≠ "java/lang/invoke/MethodHandle" ∧ yX11_keepAct.cls ≠ "java/lang/invoke/VarHandle" ∧ (parseMethodDescriptor yX11_keepAct.desc).map (fun d => d.parameters.length) = some 0 := by decide +kernel
set_option maxRecDepth 100000 in
set_option maxHeartbeats 4000000 in
theorem s_X11_keepAct (l : Launch) (b : Nat) (D : va_G) (cy : Nat → ClassId) {Q : hp → Prop} {S : hp} {a0 : Nat} (h : wp_X11_keepAct Q S a0) : MT l yX11_keepAct cX11_keepAct 1 none 3 68 6 147 b D cy S [.ref a0] (pV Q) := by
  refine MT.of (by decide +kernel) (Nat.le_of_ble_eq_true rfl) ?_
  intro p e s m args below meth c X hr hlk hnm
  unfold wp_X11_keepAct at h
  show VM l b D cy 1 3 68 6 147 (pV Q) p e s m args below meth c S 0 0 0 [(0, .ref a0)] []
  refine v_aload_n X 0 dX11_keepAct_0 rfl rfl ?_
  refine v_aload_n X 0 dX11_keepAct_1 rfl rfl ?_
  obtain ⟨hk1, h⟩ := h
  refine v_getI X (T := TX11) (N := 12) (k := 9) hk1 (by decide) rfl (by decide) inX11 wd224 rfl dX11_keepAct_2 ?_
  refine v_iconst X (v := 1) dX11_keepAct_5 (by decide) ?_
  refine v_iadd X dX11_keepAct_6 ?_
  refine v_bipush X (v := 24) dX11_keepAct_7 (by decide) ?_
  refine v_irem X dX11_keepAct_9 (by decide) ?_
  refine v_putI X (T := TX11) (N := 12) (k := 9) hk1 (by decide) rfl (by decide) inX11 wd224 tyX11 tyX11_ok nmX11 rfl rfl rfl rfl dX11_keepAct_10 ?_
  refine v_nmS (fun S2 eS2 => ?_)
  replace h := h S2 eS2
  have hk3 : hK S2 a0 = 10 := by rw [eS2]; exact hk1
  refine v_aload_n X 0 dX11_keepAct_13 rfl rfl ?_
  obtain ⟨r4, hr4, h⟩ := h
  refine v_getR X (T := TX11) (N := 12) (k := 7) hk3 (by decide) rfl (by decide) inX11 wd222 rfl dX11_keepAct_14 hr4 ?_
  refine v_aload_n X 0 dX11_keepAct_17 rfl rfl ?_
  refine v_getI X (T := TX11) (N := 12) (k := 9) hk3 (by decide) rfl (by decide) inX11 wd224 rfl dX11_keepAct_18 ?_
  refine v_aload_n X 0 dX11_keepAct_21 rfl rfl ?_
  refine v_aload_n X 0 dX11_keepAct_22 rfl rfl ?_
  refine v_getR X (T := TX11) (N := 12) (k := 7) hk3 (by decide) rfl (by decide) inX11 wd222 rfl dX11_keepAct_23 hr4 ?_
  refine v_aload_n X 0 dX11_keepAct_26 rfl rfl ?_
  refine v_getI X (T := TX11) (N := 12) (k := 9) hk3 (by decide) rfl (by decide) inX11 wd224 rfl dX11_keepAct_27 ?_
  obtain ⟨hk5, h⟩ := h
  obtain ⟨hi6, h⟩ := h
  rcases hr7 : hR S2 r4 ((hI S2 a0 9)).toNatClampNeg with _ | r7
  · replace h := h.1 hr7
    refine v_aald15 X hk5 hi6 dX11_keepAct_30 (v := .null) (by rw [hr7] <;> rfl) ?_
    refine v_callV X (av := [.null]) (T := TX11) (N := 12) (s_X11_copyOver l b D cy h) hk3 (by decide) rfl wd528 wd530 wd13 wd56 k_X11_copyOver dn_X11_copyOver rfl ⟨Nat.le_of_ble_eq_true rfl, Nat.le_of_ble_eq_true rfl⟩ (Nat.le_of_ble_eq_true rfl) ⟨Nat.le_of_ble_eq_true rfl, Nat.le_of_ble_eq_true rfl⟩ dX11_keepAct_31 rfl (kA (fun r9 S8 h => ?_))
    obtain ⟨hk10, h⟩ := h
    obtain ⟨hi11, h⟩ := h
    obtain ⟨hk12, h⟩ := h
    refine v_aastS X hk10 rfl hk12 hi11 dX11_keepAct_34 ?_
    refine v_nmS (fun S13 eS13 => ?_)
    replace h := h S13 eS13
    have hk14 : hK S13 r4 = 15 := by rw [eS13]; exact hk10
    have hk15 : hK S13 r9 = 7 := by rw [eS13]; exact hk12
    have hi16 : vp_in (hI S2 a0 9) (hN S13 r4) := by rw [eS13]; exact hi11
    refine v_aload_n X 0 dX11_keepAct_35 rfl rfl ?_
    refine v_aload_n X 0 dX11_keepAct_36 rfl rfl ?_
    obtain ⟨hk17, h⟩ := h
    refine v_getI X (T := TX11) (N := 12) (k := 8) hk17 (by decide) rfl (by decide) inX11 wd223 rfl dX11_keepAct_37 ?_
    refine v_iconst X (v := 1) dX11_keepAct_40 (by decide) ?_
    refine v_iadd X dX11_keepAct_41 ?_
    refine v_bipush X (v := 24) dX11_keepAct_42 (by decide) ?_
    refine v_mmin X wd532 wd533 wd71 wd534 (Nat.le_of_ble_eq_true rfl) (Nat.le_of_ble_eq_true rfl) (Nat.le_of_ble_eq_true rfl) (Nat.le_of_ble_eq_true rfl) dX11_keepAct_44 ?_
    refine v_putI X (T := TX11) (N := 12) (k := 8) hk17 (by decide) rfl (by decide) inX11 wd223 tyX11 tyX11_ok nmX11 rfl rfl rfl rfl dX11_keepAct_47 ?_
    refine v_nmS (fun S18 eS18 => ?_)
    replace h := h S18 eS18
    have hk19 : hK S18 r4 = 15 := by rw [eS18]; exact hk14
    have hk20 : hK S18 r9 = 7 := by rw [eS18]; exact hk15
    have hk21 : hK S18 a0 = 10 := by rw [eS18]; exact hk17
    have hi22 : vp_in (hI S2 a0 9) (hN S18 r4) := by rw [eS18]; exact hi16
    exact v_vret X hr hlk ⟨rfl, h⟩ dX11_keepAct_50
  · replace h := h.2 r7 hr7
    refine v_aald15 X hk5 hi6 dX11_keepAct_30 (v := .ref r7) (by rw [hr7] <;> rfl) ?_
    refine v_callV X (av := [.ref r7]) (T := TX11) (N := 12) (s_X11_copyOver l b D cy h) hk3 (by decide) rfl wd528 wd530 wd13 wd56 k_X11_copyOver dn_X11_copyOver rfl ⟨Nat.le_of_ble_eq_true rfl, Nat.le_of_ble_eq_true rfl⟩ (Nat.le_of_ble_eq_true rfl) ⟨Nat.le_of_ble_eq_true rfl, Nat.le_of_ble_eq_true rfl⟩ dX11_keepAct_31 rfl (kA (fun r24 S23 h => ?_))
    obtain ⟨hk25, h⟩ := h
    obtain ⟨hi26, h⟩ := h
    obtain ⟨hk27, h⟩ := h
    refine v_aastS X hk25 rfl hk27 hi26 dX11_keepAct_34 ?_
    refine v_nmS (fun S28 eS28 => ?_)
    replace h := h S28 eS28
    have hk29 : hK S28 r4 = 15 := by rw [eS28]; exact hk25
    have hk30 : hK S28 r24 = 7 := by rw [eS28]; exact hk27
    have hi31 : vp_in (hI S2 a0 9) (hN S28 r4) := by rw [eS28]; exact hi26
    refine v_aload_n X 0 dX11_keepAct_35 rfl rfl ?_
    refine v_aload_n X 0 dX11_keepAct_36 rfl rfl ?_
    obtain ⟨hk32, h⟩ := h
    refine v_getI X (T := TX11) (N := 12) (k := 8) hk32 (by decide) rfl (by decide) inX11 wd223 rfl dX11_keepAct_37 ?_
    refine v_iconst X (v := 1) dX11_keepAct_40 (by decide) ?_
    refine v_iadd X dX11_keepAct_41 ?_
    refine v_bipush X (v := 24) dX11_keepAct_42 (by decide) ?_
    refine v_mmin X wd532 wd533 wd71 wd534 (Nat.le_of_ble_eq_true rfl) (Nat.le_of_ble_eq_true rfl) (Nat.le_of_ble_eq_true rfl) (Nat.le_of_ble_eq_true rfl) dX11_keepAct_44 ?_
    refine v_putI X (T := TX11) (N := 12) (k := 8) hk32 (by decide) rfl (by decide) inX11 wd223 tyX11 tyX11_ok nmX11 rfl rfl rfl rfl dX11_keepAct_47 ?_
    refine v_nmS (fun S33 eS33 => ?_)
    replace h := h S33 eS33
    have hk34 : hK S33 r4 = 15 := by rw [eS33]; exact hk29
    have hk35 : hK S33 r24 = 7 := by rw [eS33]; exact hk30
    have hk36 : hK S33 a0 = 10 := by rw [eS33]; exact hk32
    have hi37 : vp_in (hI S2 a0 9) (hN S33 r4) := by rw [eS33]; exact hi31
    exact v_vret X hr hlk ⟨rfl, h⟩ dX11_keepAct_50
def wp_X8_addLine (Q : hp → Prop) (S : hp) (a0 : Nat) (x1 : Int32) (x2 : Int32) (x3 : Int32) (x4 : Int32) (x5 : Int32) (x6 : Int32) : Prop :=
  hK S a0 = 7 ∧ ∀ v2 : Int32, v2 = ((6 : Int32) * (hI S a0 9)) → ∃ r3 : Nat, hR S a0 4 = some r3 ∧ hK S r3 = 12 ∧ vp_in v2 (hN S r3) ∧ ∀ S6 : hp, S6 = setI S r3 (v2).toNatClampNeg x1 → vp_in (v2 + (1 : Int32)) (hN S6 r3) ∧ ∀ S12 : hp, S12 = setI S6 r3 ((v2 + (1 : Int32))).toNatClampNeg x2 → vp_in (v2 + (2 : Int32)) (hN S12 r3) ∧ ∀ S19 : hp, S19 = setI S12 r3 ((v2 + (2 : Int32))).toNatClampNeg x3 → vp_in (v2 + (3 : Int32)) (hN S19 r3) ∧ ∀ S27 : hp, S27 = setI S19 r3 ((v2 + (3 : Int32))).toNatClampNeg x4 → vp_in (v2 + (4 : Int32)) (hN S27 r3) ∧ ∀ S36 : hp, S36 = setI S27 r3 ((v2 + (4 : Int32))).toNatClampNeg x5 → vp_in (v2 + (5 : Int32)) (hN S36 r3) ∧ ∀ S46 : hp, S46 = setI S36 r3 ((v2 + (5 : Int32))).toNatClampNeg x6 → ∀ S56 : hp, S56 = setI S46 a0 9 ((hI S46 a0 9) + (1 : Int32)) → Q S56
theorem k_X8_addLine : Cond.code yX8_addLine cX8_addLine 8 none ∈ gtb := mg 542 (by decide +kernel) (by decide +kernel)
theorem dn_X8_addLine : yX8_addLine.cls ≠ "java/lang/invoke/MethodHandle" ∧ yX8_addLine.cls ≠ "java/lang/invoke/VarHandle" ∧ (parseMethodDescriptor yX8_addLine.desc).map (fun d => d.parameters.length) = some 6 := by decide +kernel
set_option maxRecDepth 100000 in
set_option maxHeartbeats 4000000 in
theorem s_X8_addLine (l : Launch) (b : Nat) (D : va_G) (cy : Nat → ClassId) {Q : hp → Prop} {S : hp} {a0 : Nat} {x1 : Int32} {x2 : Int32} {x3 : Int32} {x4 : Int32} {x5 : Int32} {x6 : Int32} (h : wp_X8_addLine Q S a0 x1 x2 x3 x4 x5 x6) : MT l yX8_addLine cX8_addLine 8 none 0 0 0 0 b D cy S [.ref a0, .int x1, .int x2, .int x3, .int x4, .int x5, .int x6] (pV Q) := by
  refine MT.of (by decide +kernel) (Nat.le_of_ble_eq_true rfl) ?_
  intro p e s m args below meth c X hr hlk hnm
  unfold wp_X8_addLine at h
  show VM l b D cy 8 0 0 0 0 (pV Q) p e s m args below meth c S 0 0 0 [(0, .ref a0), (1, .int x1), (2, .int x2), (3, .int x3), (4, .int x4), (5, .int x5), (6, .int x6)] []
  refine v_bipush X (v := 6) dX8_addLine_0 (by decide) ?_
  refine v_aload_n X 0 dX8_addLine_2 rfl rfl ?_
  obtain ⟨hk1, h⟩ := h
  refine v_getI X (T := TX8) (N := 10) (k := 9) hk1 (by decide) rfl (by decide) inX8 wd161 rfl dX8_addLine_3 ?_
  refine v_imul X dX8_addLine_6 ?_
  refine v_nm (fun v2 hv2 => ?_)
  replace h := h v2 hv2
  refine v_istore X (lv' := [(7, .int v2), (0, .ref a0), (1, .int x1), (2, .int x2), (3, .int x3), (4, .int x4), (5, .int x5), (6, .int x6)]) dX8_addLine_7 (by decide) rfl ?_
  refine v_aload_n X 1 dX8_addLine_9 rfl rfl ?_
  obtain ⟨r3, hr3, h⟩ := h
  refine v_getR X (T := TX8) (N := 10) (k := 4) hk1 (by decide) rfl (by decide) inX8 wd148 rfl dX8_addLine_10 hr3 ?_
  refine v_iload X 0 dX8_addLine_13 rfl ?_
  refine v_iload_n X 2 dX8_addLine_15 rfl rfl ?_
  obtain ⟨hk4, h⟩ := h
  obtain ⟨hi5, h⟩ := h
  refine v_iast X hk4 hi5 dX8_addLine_16 ?_
  refine v_nmS (fun S6 eS6 => ?_)
  replace h := h S6 eS6
  have hk7 : hK S6 a0 = 7 := by rw [eS6]; exact hk1
  have hk8 : hK S6 r3 = 12 := by rw [eS6]; exact hk4
  have hi9 : vp_in v2 (hN S6 r3) := by rw [eS6]; exact hi5
  have hr10 : hR S6 a0 4 = some r3 := by rw [eS6]; exact hr3
  refine v_aload_n X 1 dX8_addLine_17 rfl rfl ?_
  refine v_getR X (T := TX8) (N := 10) (k := 4) hk7 (by decide) rfl (by decide) inX8 wd148 rfl dX8_addLine_18 hr10 ?_
  refine v_iload X 0 dX8_addLine_21 rfl ?_
  refine v_iconst X (v := 1) dX8_addLine_23 (by decide) ?_
  refine v_iadd X dX8_addLine_24 ?_
  refine v_iload_n X 3 dX8_addLine_25 rfl rfl ?_
  obtain ⟨hi11, h⟩ := h
  refine v_iast X hk8 hi11 dX8_addLine_26 ?_
  refine v_nmS (fun S12 eS12 => ?_)
  replace h := h S12 eS12
  have hk13 : hK S12 a0 = 7 := by rw [eS12]; exact hk7
  have hk14 : hK S12 r3 = 12 := by rw [eS12]; exact hk8
  have hi15 : vp_in v2 (hN S12 r3) := by rw [eS12]; exact hi9
  have hi16 : vp_in (v2 + (1 : Int32)) (hN S12 r3) := by rw [eS12]; exact hi11
  have hr17 : hR S12 a0 4 = some r3 := by rw [eS12]; exact hr10
  refine v_aload_n X 1 dX8_addLine_27 rfl rfl ?_
  refine v_getR X (T := TX8) (N := 10) (k := 4) hk13 (by decide) rfl (by decide) inX8 wd148 rfl dX8_addLine_28 hr17 ?_
  refine v_iload X 0 dX8_addLine_31 rfl ?_
  refine v_iconst X (v := 2) dX8_addLine_33 (by decide) ?_
  refine v_iadd X dX8_addLine_34 ?_
  refine v_iload_n X 4 dX8_addLine_35 rfl rfl ?_
  obtain ⟨hi18, h⟩ := h
  refine v_iast X hk14 hi18 dX8_addLine_36 ?_
  refine v_nmS (fun S19 eS19 => ?_)
  replace h := h S19 eS19
  have hk20 : hK S19 a0 = 7 := by rw [eS19]; exact hk13
  have hk21 : hK S19 r3 = 12 := by rw [eS19]; exact hk14
  have hi22 : vp_in v2 (hN S19 r3) := by rw [eS19]; exact hi15
  have hi23 : vp_in (v2 + (1 : Int32)) (hN S19 r3) := by rw [eS19]; exact hi16
  have hi24 : vp_in (v2 + (2 : Int32)) (hN S19 r3) := by rw [eS19]; exact hi18
  have hr25 : hR S19 a0 4 = some r3 := by rw [eS19]; exact hr17
  refine v_aload_n X 1 dX8_addLine_37 rfl rfl ?_
  refine v_getR X (T := TX8) (N := 10) (k := 4) hk20 (by decide) rfl (by decide) inX8 wd148 rfl dX8_addLine_38 hr25 ?_
  refine v_iload X 0 dX8_addLine_41 rfl ?_
  refine v_iconst X (v := 3) dX8_addLine_43 (by decide) ?_
  refine v_iadd X dX8_addLine_44 ?_
  refine v_iload X 5 dX8_addLine_45 rfl ?_
  obtain ⟨hi26, h⟩ := h
  refine v_iast X hk21 hi26 dX8_addLine_47 ?_
  refine v_nmS (fun S27 eS27 => ?_)
  replace h := h S27 eS27
  have hk28 : hK S27 a0 = 7 := by rw [eS27]; exact hk20
  have hk29 : hK S27 r3 = 12 := by rw [eS27]; exact hk21
  have hi30 : vp_in v2 (hN S27 r3) := by rw [eS27]; exact hi22
  have hi31 : vp_in (v2 + (1 : Int32)) (hN S27 r3) := by rw [eS27]; exact hi23
  have hi32 : vp_in (v2 + (2 : Int32)) (hN S27 r3) := by rw [eS27]; exact hi24
  have hi33 : vp_in (v2 + (3 : Int32)) (hN S27 r3) := by rw [eS27]; exact hi26
  have hr34 : hR S27 a0 4 = some r3 := by rw [eS27]; exact hr25
  refine v_aload_n X 1 dX8_addLine_48 rfl rfl ?_
  refine v_getR X (T := TX8) (N := 10) (k := 4) hk28 (by decide) rfl (by decide) inX8 wd148 rfl dX8_addLine_49 hr34 ?_
  refine v_iload X 0 dX8_addLine_52 rfl ?_
  refine v_iconst X (v := 4) dX8_addLine_54 (by decide) ?_
  refine v_iadd X dX8_addLine_55 ?_
  refine v_iload X 6 dX8_addLine_56 rfl ?_
  obtain ⟨hi35, h⟩ := h
  refine v_iast X hk29 hi35 dX8_addLine_58 ?_
  refine v_nmS (fun S36 eS36 => ?_)
  replace h := h S36 eS36
  have hk37 : hK S36 a0 = 7 := by rw [eS36]; exact hk28
  have hk38 : hK S36 r3 = 12 := by rw [eS36]; exact hk29
  have hi39 : vp_in v2 (hN S36 r3) := by rw [eS36]; exact hi30
  have hi40 : vp_in (v2 + (1 : Int32)) (hN S36 r3) := by rw [eS36]; exact hi31
  have hi41 : vp_in (v2 + (2 : Int32)) (hN S36 r3) := by rw [eS36]; exact hi32
  have hi42 : vp_in (v2 + (3 : Int32)) (hN S36 r3) := by rw [eS36]; exact hi33
  have hi43 : vp_in (v2 + (4 : Int32)) (hN S36 r3) := by rw [eS36]; exact hi35
  have hr44 : hR S36 a0 4 = some r3 := by rw [eS36]; exact hr34
  refine v_aload_n X 1 dX8_addLine_59 rfl rfl ?_
  refine v_getR X (T := TX8) (N := 10) (k := 4) hk37 (by decide) rfl (by decide) inX8 wd148 rfl dX8_addLine_60 hr44 ?_
  refine v_iload X 0 dX8_addLine_63 rfl ?_
  refine v_iconst X (v := 5) dX8_addLine_65 (by decide) ?_
  refine v_iadd X dX8_addLine_66 ?_
  refine v_iload X 7 dX8_addLine_67 rfl ?_
  obtain ⟨hi45, h⟩ := h
  refine v_iast X hk38 hi45 dX8_addLine_69 ?_
  refine v_nmS (fun S46 eS46 => ?_)
  replace h := h S46 eS46
  have hk47 : hK S46 a0 = 7 := by rw [eS46]; exact hk37
  have hk48 : hK S46 r3 = 12 := by rw [eS46]; exact hk38
  have hi49 : vp_in v2 (hN S46 r3) := by rw [eS46]; exact hi39
  have hi50 : vp_in (v2 + (1 : Int32)) (hN S46 r3) := by rw [eS46]; exact hi40
  have hi51 : vp_in (v2 + (2 : Int32)) (hN S46 r3) := by rw [eS46]; exact hi41
  have hi52 : vp_in (v2 + (3 : Int32)) (hN S46 r3) := by rw [eS46]; exact hi42
  have hi53 : vp_in (v2 + (4 : Int32)) (hN S46 r3) := by rw [eS46]; exact hi43
  have hi54 : vp_in (v2 + (5 : Int32)) (hN S46 r3) := by rw [eS46]; exact hi45
  have hr55 : hR S46 a0 4 = some r3 := by rw [eS46]; exact hr44
  refine v_aload_n X 1 dX8_addLine_70 rfl rfl ?_
  refine v_dup X dX8_addLine_71 rfl ?_
  refine v_getI X (T := TX8) (N := 10) (k := 9) hk47 (by decide) rfl (by decide) inX8 wd161 rfl dX8_addLine_72 ?_
  refine v_iconst X (v := 1) dX8_addLine_75 (by decide) ?_
  refine v_iadd X dX8_addLine_76 ?_
  refine v_putI X (T := TX8) (N := 10) (k := 9) hk47 (by decide) rfl (by decide) inX8 wd161 tyX8 tyX8_ok nmX8 rfl rfl rfl rfl dX8_addLine_77 ?_
  refine v_nmS (fun S56 eS56 => ?_)
  replace h := h S56 eS56
  have hk57 : hK S56 a0 = 7 := by rw [eS56]; exact hk47
  have hk58 : hK S56 r3 = 12 := by rw [eS56]; exact hk48
  have hi59 : vp_in v2 (hN S56 r3) := by rw [eS56]; exact hi49
  have hi60 : vp_in (v2 + (1 : Int32)) (hN S56 r3) := by rw [eS56]; exact hi50
  have hi61 : vp_in (v2 + (2 : Int32)) (hN S56 r3) := by rw [eS56]; exact hi51
  have hi62 : vp_in (v2 + (3 : Int32)) (hN S56 r3) := by rw [eS56]; exact hi52
  have hi63 : vp_in (v2 + (4 : Int32)) (hN S56 r3) := by rw [eS56]; exact hi53
  have hi64 : vp_in (v2 + (5 : Int32)) (hN S56 r3) := by rw [eS56]; exact hi54
  have hr65 : hR S56 a0 4 = some r3 := by rw [eS56]; exact hr55
  exact v_vret X hr hlk ⟨rfl, h⟩ dX8_addLine_80
def wp_X8_addTelling (Q : hp → Prop) (S : hp) (a0 : Nat) (x1 : Int32) (x2 : Int32) (x3 : Int32) (x4 : Int32) (x5 : Int32) : Prop :=
  hK S a0 = 7 ∧ wp_X8_addLine (fun S1 => hK S1 a0 = 7 ∧ ∃ r4 : Nat, hR S1 a0 0 = some r4 ∧ wp_X8_at (fun r6 S5 => hK S5 r4 = 12 ∧ vp_in r6 (hN S5 r4) ∧ ∀ S9 : hp, S9 = setI S5 r4 (r6).toNatClampNeg ((hI S5 r4 (r6).toNatClampNeg) + x5) → hK S9 a0 = 7 ∧ ∃ r13 : Nat, hR S9 a0 2 = some r13 ∧ wp_X8_at (fun r15 S14 => hK S14 r13 = 12 ∧ vp_in r15 (hN S14 r13) ∧ ∀ S18 : hp, S18 = setI S14 r13 (r15).toNatClampNeg ((hI S14 r13 (r15).toNatClampNeg) + x4) → Q S18) S9 x2 x3) S1 x2 x3) S a0 (0 : Int32) x1 x2 x3 x4 x5
theorem k_X8_addTelling : Cond.code yX8_addTelling cX8_addTelling 6 none ∈ gtb := mg 538 (by decide +kernel) (by decide +kernel)
theorem dn_X8_addTelling : yX8_addTelling.cls ≠ "java/lang/invoke/MethodHandle" ∧ yX8_addTelling.cls ≠ "java/lang/invoke/VarHandle" ∧ (parseMethodDescriptor yX8_addTelling.desc).map (fun d => d.parameters.length) = some 5 := by decide +kernel
set_option maxRecDepth 100000 in
set_option maxHeartbeats 4000000 in
theorem s_X8_addTelling (l : Launch) (b : Nat) (D : va_G) (cy : Nat → ClassId) {Q : hp → Prop} {S : hp} {a0 : Nat} {x1 : Int32} {x2 : Int32} {x3 : Int32} {x4 : Int32} {x5 : Int32} (h : wp_X8_addTelling Q S a0 x1 x2 x3 x4 x5) : MT l yX8_addTelling cX8_addTelling 6 none 1 27 0 0 b D cy S [.ref a0, .int x1, .int x2, .int x3, .int x4, .int x5] (pV Q) := by
  refine MT.of (by decide +kernel) (Nat.le_of_ble_eq_true rfl) ?_
  intro p e s m args below meth c X hr hlk hnm
  unfold wp_X8_addTelling at h
  show VM l b D cy 6 1 27 0 0 (pV Q) p e s m args below meth c S 0 0 0 [(0, .ref a0), (1, .int x1), (2, .int x2), (3, .int x3), (4, .int x4), (5, .int x5)] []
  refine v_aload_n X 0 dX8_addTelling_0 rfl rfl ?_
  refine v_iconst X (v := 0) dX8_addTelling_1 (by decide) ?_
  refine v_iload_n X 1 dX8_addTelling_2 rfl rfl ?_
  refine v_iload_n X 2 dX8_addTelling_3 rfl rfl ?_
  refine v_iload_n X 3 dX8_addTelling_4 rfl rfl ?_
  refine v_iload X 4 dX8_addTelling_5 rfl ?_
  refine v_iload X 5 dX8_addTelling_7 rfl ?_
  obtain ⟨hk2, h⟩ := h
  refine v_callV X (av := [.int (0 : Int32), .int x1, .int x2, .int x3, .int x4, .int x5]) (T := TX8) (N := 10) (s_X8_addLine l b D cy h) hk2 (by decide) rfl wd539 wd541 wd14 wd59 k_X8_addLine dn_X8_addLine rfl ⟨Nat.le_of_ble_eq_true rfl, Nat.le_of_ble_eq_true rfl⟩ (Nat.le_of_ble_eq_true rfl) ⟨Nat.le_of_ble_eq_true rfl, Nat.le_of_ble_eq_true rfl⟩ dX8_addTelling_9 rfl (kV (fun S1 h => ?_))
  refine v_aload_n X 0 dX8_addTelling_12 rfl rfl ?_
  obtain ⟨hk3, h⟩ := h
  obtain ⟨r4, hr4, h⟩ := h
  refine v_getR X (T := TX8) (N := 10) (k := 0) hk3 (by decide) rfl (by decide) inX8 wd140 rfl dX8_addTelling_13 hr4 ?_
  refine v_iload_n X 2 dX8_addTelling_16 rfl rfl ?_
  refine v_iload_n X 3 dX8_addTelling_17 rfl rfl ?_
  refine v_callS X (av := [.int x2, .int x3]) (s_X8_at l b D cy h) wd520 wd384 wd59 k_X8_at dn_X8_at rfl ⟨Nat.le_of_ble_eq_true rfl, Nat.le_of_ble_eq_true rfl⟩ (Nat.le_of_ble_eq_true rfl) ⟨Nat.le_of_ble_eq_true rfl, Nat.le_of_ble_eq_true rfl⟩ dX8_addTelling_18 rfl (kI (fun r6 S5 h => ?_))
  refine v_dup2 X dX8_addTelling_21 rfl rfl ?_
  obtain ⟨hk7, h⟩ := h
  obtain ⟨hi8, h⟩ := h
  refine v_iald X hk7 hi8 dX8_addTelling_22 ?_
  refine v_iload X 5 dX8_addTelling_23 rfl ?_
  refine v_iadd X dX8_addTelling_25 ?_
  refine v_iast X hk7 hi8 dX8_addTelling_26 ?_
  refine v_nmS (fun S9 eS9 => ?_)
  replace h := h S9 eS9
  have hk10 : hK S9 r4 = 12 := by rw [eS9]; exact hk7
  have hi11 : vp_in r6 (hN S9 r4) := by rw [eS9]; exact hi8
  refine v_aload_n X 0 dX8_addTelling_27 rfl rfl ?_
  obtain ⟨hk12, h⟩ := h
  obtain ⟨r13, hr13, h⟩ := h
  refine v_getR X (T := TX8) (N := 10) (k := 2) hk12 (by decide) rfl (by decide) inX8 wd145 rfl dX8_addTelling_28 hr13 ?_
  refine v_iload_n X 2 dX8_addTelling_31 rfl rfl ?_
  refine v_iload_n X 3 dX8_addTelling_32 rfl rfl ?_
  refine v_callS X (av := [.int x2, .int x3]) (s_X8_at l b D cy h) wd520 wd384 wd59 k_X8_at dn_X8_at rfl ⟨Nat.le_of_ble_eq_true rfl, Nat.le_of_ble_eq_true rfl⟩ (Nat.le_of_ble_eq_true rfl) ⟨Nat.le_of_ble_eq_true rfl, Nat.le_of_ble_eq_true rfl⟩ dX8_addTelling_33 rfl (kI (fun r15 S14 h => ?_))
  refine v_dup2 X dX8_addTelling_36 rfl rfl ?_
  obtain ⟨hk16, h⟩ := h
  obtain ⟨hi17, h⟩ := h
  refine v_iald X hk16 hi17 dX8_addTelling_37 ?_
  refine v_iload X 4 dX8_addTelling_38 rfl ?_
  refine v_iadd X dX8_addTelling_40 ?_
  refine v_iast X hk16 hi17 dX8_addTelling_41 ?_
  refine v_nmS (fun S18 eS18 => ?_)
  replace h := h S18 eS18
  have hk19 : hK S18 r13 = 12 := by rw [eS18]; exact hk16
  have hi20 : vp_in r15 (hN S18 r13) := by rw [eS18]; exact hi17
  exact v_vret X hr hlk ⟨rfl, h⟩ dX8_addTelling_42
def wp_X11_tell (Q : Int32 → hp → Prop) (S : hp) (a0 : Nat) (x1 : Int32) (x2 : Int32) (x3 : Int32) (x4 : Int32) : Prop :=
  hK S a0 = 10 ∧ ∃ r2 : Nat, hR S a0 2 = some r2 ∧ hK S r2 = 7 ∧ wp_X8_mouthAt (fun q43 S3 => (q43 = none → Q (-1000001 : Int32) S3) ∧ (∀ r5 : Nat, q43 = some r5 → hK S3 a0 = 10 ∧ ∃ r7 : Nat, hR S3 a0 2 = some r7 ∧ hK S3 r7 = 7 ∧ wp_X8_hasPlace (fun r10 S8 => ((r10 = 0 → Q (-1000001 : Int32) S8) ∧ (¬ r10 = 0 → wp_X11_isTold (fun r13 S12 => ((¬ r13 = 0 → wd_Mouth_padding (fun r16 S15 => hK S15 a0 = 10 ∧ ∃ r18 : Nat, hR S15 a0 2 = some r18 ∧ hK S15 r18 = 7 ∧ wp_X8_isLogFull (fun r21 S19 => ((¬ r21 = 0 → Q (-1000003 : Int32) S19) ∧ (r21 = 0 → hK S19 a0 = 10 ∧ ∃ r24 : Nat, hR S19 a0 2 = some r24 ∧ hK S19 r24 = 7 ∧ wp_X8_hasRoomFor (fun r27 S25 => ((¬ r27 = 0 → hK S25 a0 = 10 ∧ wp_X11_keepAct (fun S29 => hK S29 a0 = 10 ∧ ∃ r32 : Nat, hR S29 a0 2 = some r32 ∧ hK S29 r32 = 7 ∧ wp_X8_addTelling (fun S33 => hK S33 a0 = 10 ∧ ∃ r36 : Nat, hR S33 a0 2 = some r36 ∧ hK S33 r36 = 7 ∧ ∃ r38 : Nat, hR S33 r36 0 = some r38 ∧ wp_X8_at (fun r40 S39 => hK S39 r38 = 12 ∧ vp_in r40 (hN S39 r38) ∧ Q (hI S39 r38 (r40).toNatClampNeg) S39) S33 x2 x3) S29 r32 x1 x2 x3 x4 r16) S25 a0) ∧ (r27 = 0 → Q (-1000003 : Int32) S25))) S19 r24 x2 x3 r16 x4))) S15 r18) S12 r5 x4) ∧ (r13 = 0 → Q (-1000001 : Int32) S12))) S8 x4))) S3 r7 x2 x3)) S r2 x1
theorem k_X11_tell : Cond.code yX11_tell cX11_tell 7 (some .int) ∈ gtb := mg 478 (by decide +kernel) (by decide +kernel)
theorem dn_X11_tell : yX11_tell.cls ≠ "java/lang/invoke/MethodHandle" ∧ yX11_tell.cls ≠ "java/lang/invoke/VarHandle" ∧ (parseMethodDescriptor yX11_tell.desc).map (fun d => d.parameters.length) = some 4 := by decide +kernel
set_option maxRecDepth 100000 in
set_option maxHeartbeats 4000000 in
theorem s_X11_tell (l : Launch) (b : Nat) (D : va_G) (cy : Nat → ClassId) {Q : Int32 → hp → Prop} {S : hp} {a0 : Nat} {x1 : Int32} {x2 : Int32} {x3 : Int32} {x4 : Int32} (h : wp_X11_tell Q S a0 x1 x2 x3 x4) : MT l yX11_tell cX11_tell 7 (some .int) 4 88 6 147 b D cy S [.ref a0, .int x1, .int x2, .int x3, .int x4] (pI Q) := by
  refine MT.of (by decide +kernel) (Nat.le_of_ble_eq_true rfl) ?_
  intro p e s m args below meth c X hr hlk hnm
  unfold wp_X11_tell at h
  show VM l b D cy 7 4 88 6 147 (pI Q) p e s m args below meth c S 0 0 0 [(0, .ref a0), (1, .int x1), (2, .int x2), (3, .int x3), (4, .int x4)] []
  refine v_aload_n X 0 dX11_tell_0 rfl rfl ?_
  obtain ⟨hk1, h⟩ := h
  obtain ⟨r2, hr2, h⟩ := h
  refine v_getR X (T := TX11) (N := 12) (k := 2) hk1 (by decide) rfl (by decide) inX11 wd217 rfl dX11_tell_1 hr2 ?_
  refine v_iload_n X 1 dX11_tell_4 rfl rfl ?_
  obtain ⟨hk4, h⟩ := h
  refine v_callV X (av := [.int x1]) (T := TX8) (N := 10) (s_X8_mouthAt l b D cy h) hk4 (by decide) rfl wd479 wd480 wd481 wd59 k_X8_mouthAt dn_X8_mouthAt rfl ⟨Nat.le_of_ble_eq_true rfl, Nat.le_of_ble_eq_true rfl⟩ (Nat.le_of_ble_eq_true rfl) ⟨Nat.le_of_ble_eq_true rfl, Nat.le_of_ble_eq_true rfl⟩ dX11_tell_5 rfl (kO (fun S3 h => ?_) (fun r5 S3 h => ?_))
  · replace h := h.1 rfl
    refine v_astoreN X (lv' := [(5, .null), (0, .ref a0), (1, .int x1), (2, .int x2), (3, .int x3), (4, .int x4)]) dX11_tell_8 (by decide) rfl ?_
    refine v_aloadN X 0 dX11_tell_10 rfl ?_
    refine v_ifnullN X (tgt := 35) dX11_tell_12 (by decide) ?_
    refine v_ldc X wd262 dX11_tell_35 ?_
    refine v_widen (c2 := 6) (s2 := 147) (Nat.le_of_ble_eq_true rfl) (Nat.le_of_ble_eq_true rfl) ?_
    exact v_iret X hr hlk ⟨_, rfl, h⟩ dX11_tell_37
  · replace h := h.2 _ rfl
    refine v_astore X (lv' := [(5, .ref r5), (0, .ref a0), (1, .int x1), (2, .int x2), (3, .int x3), (4, .int x4)]) dX11_tell_8 (by decide) rfl ?_
    refine v_aload X 0 dX11_tell_10 rfl ?_
    refine v_ifnull X dX11_tell_12 ?_
    refine v_aload_n X 1 dX11_tell_15 rfl rfl ?_
    obtain ⟨hk6, h⟩ := h
    obtain ⟨r7, hr7, h⟩ := h
    refine v_getR X (T := TX11) (N := 12) (k := 2) hk6 (by decide) rfl (by decide) inX11 wd217 rfl dX11_tell_16 hr7 ?_
    refine v_iload_n X 3 dX11_tell_19 rfl rfl ?_
    refine v_iload_n X 4 dX11_tell_20 rfl rfl ?_
    obtain ⟨hk9, h⟩ := h
    refine v_callV X (av := [.int x2, .int x3]) (T := TX8) (N := 10) (s_X8_hasPlace l b D cy h) hk9 (by decide) rfl wd483 wd484 wd485 wd59 k_X8_hasPlace dn_X8_hasPlace rfl ⟨Nat.le_of_ble_eq_true rfl, Nat.le_of_ble_eq_true rfl⟩ (Nat.le_of_ble_eq_true rfl) ⟨Nat.le_of_ble_eq_true rfl, Nat.le_of_ble_eq_true rfl⟩ dX11_tell_21 rfl (kI (fun r10 S8 h => ?_))
    refine v_if_eq X (tgt := 35) dX11_tell_24 (by decide) (fun c11 => ?_) (fun c11 => ?_)
    · replace h := h.1 c11
      refine v_ldc X wd262 dX11_tell_35 ?_
      refine v_widen (c2 := 6) (s2 := 147) (Nat.le_of_ble_eq_true rfl) (Nat.le_of_ble_eq_true rfl) ?_
      exact v_iret X hr hlk ⟨_, rfl, h⟩ dX11_tell_37
    · replace h := h.2 c11
      refine v_iload X 5 dX11_tell_27 rfl ?_
      refine v_callS X (av := [.int x4]) (s_X11_isTold l b D cy h) wd491 wd492 wd56 k_X11_isTold dn_X11_isTold rfl ⟨Nat.le_of_ble_eq_true rfl, Nat.le_of_ble_eq_true rfl⟩ (Nat.le_of_ble_eq_true rfl) ⟨Nat.le_of_ble_eq_true rfl, Nat.le_of_ble_eq_true rfl⟩ dX11_tell_29 rfl (kI (fun r13 S12 h => ?_))
      refine v_if_ne X (tgt := 38) dX11_tell_32 (by decide) (fun c14 => ?_) (fun c14 => ?_)
      · replace h := h.1 c14
        refine v_aload X 0 dX11_tell_38 rfl ?_
        refine v_iload X 5 dX11_tell_40 rfl ?_
        refine v_dyn_Mouth_padding X h wd494 ⟨Nat.le_of_ble_eq_true rfl, Nat.le_of_ble_eq_true rfl⟩ (Nat.le_of_ble_eq_true rfl) ⟨Nat.le_of_ble_eq_true rfl, Nat.le_of_ble_eq_true rfl⟩ dX11_tell_42 (fun r16 S15 h => ?_)
        refine v_istore X (lv' := [(6, .int r16), (5, .ref r5), (0, .ref a0), (1, .int x1), (2, .int x2), (3, .int x3), (4, .int x4)]) dX11_tell_45 (by decide) rfl ?_
        refine v_aload_n X 2 dX11_tell_47 rfl rfl ?_
        obtain ⟨hk17, h⟩ := h
        obtain ⟨r18, hr18, h⟩ := h
        refine v_getR X (T := TX11) (N := 12) (k := 2) hk17 (by decide) rfl (by decide) inX11 wd217 rfl dX11_tell_48 hr18 ?_
        obtain ⟨hk20, h⟩ := h
        refine v_callV X (av := []) (T := TX8) (N := 10) (s_X8_isLogFull l b D cy h) hk20 (by decide) rfl wd512 wd513 wd514 wd59 k_X8_isLogFull dn_X8_isLogFull rfl ⟨Nat.le_of_ble_eq_true rfl, Nat.le_of_ble_eq_true rfl⟩ (Nat.le_of_ble_eq_true rfl) ⟨Nat.le_of_ble_eq_true rfl, Nat.le_of_ble_eq_true rfl⟩ dX11_tell_51 rfl (kI (fun r21 S19 h => ?_))
        refine v_if_ne X (tgt := 73) dX11_tell_54 (by decide) (fun c22 => ?_) (fun c22 => ?_)
        · replace h := h.1 c22
          refine v_ldc X wd334 dX11_tell_73 ?_
          refine v_widen (c2 := 6) (s2 := 147) (Nat.le_of_ble_eq_true rfl) (Nat.le_of_ble_eq_true rfl) ?_
          exact v_iret X hr hlk ⟨_, rfl, h⟩ dX11_tell_75
        · replace h := h.2 c22
          refine v_aload_n X 2 dX11_tell_57 rfl rfl ?_
          obtain ⟨hk23, h⟩ := h
          obtain ⟨r24, hr24, h⟩ := h
          refine v_getR X (T := TX11) (N := 12) (k := 2) hk23 (by decide) rfl (by decide) inX11 wd217 rfl dX11_tell_58 hr24 ?_
          refine v_iload_n X 4 dX11_tell_61 rfl rfl ?_
          refine v_iload_n X 5 dX11_tell_62 rfl rfl ?_
          refine v_iload X 0 dX11_tell_63 rfl ?_
          refine v_iload X 6 dX11_tell_65 rfl ?_
          obtain ⟨hk26, h⟩ := h
          refine v_callV X (av := [.int x2, .int x3, .int r16, .int x4]) (T := TX8) (N := 10) (s_X8_hasRoomFor l b D cy h) hk26 (by decide) rfl wd516 wd517 wd518 wd59 k_X8_hasRoomFor dn_X8_hasRoomFor rfl ⟨Nat.le_of_ble_eq_true rfl, Nat.le_of_ble_eq_true rfl⟩ (Nat.le_of_ble_eq_true rfl) ⟨Nat.le_of_ble_eq_true rfl, Nat.le_of_ble_eq_true rfl⟩ dX11_tell_67 rfl (kI (fun r27 S25 h => ?_))
          refine v_if_ne X (tgt := 76) dX11_tell_70 (by decide) (fun c28 => ?_) (fun c28 => ?_)
          · replace h := h.1 c28
            refine v_aload_n X 2 dX11_tell_76 rfl rfl ?_
            obtain ⟨hk30, h⟩ := h
            refine v_callV X (av := []) (T := TX11) (N := 12) (s_X11_keepAct l b D cy h) hk30 (by decide) rfl wd524 wd526 wd12 wd56 k_X11_keepAct dn_X11_keepAct rfl ⟨Nat.le_of_ble_eq_true rfl, Nat.le_of_ble_eq_true rfl⟩ (Nat.le_of_ble_eq_true rfl) ⟨Nat.le_of_ble_eq_true rfl, Nat.le_of_ble_eq_true rfl⟩ dX11_tell_77 rfl (kV (fun S29 h => ?_))
            refine v_aload_n X 2 dX11_tell_80 rfl rfl ?_
            obtain ⟨hk31, h⟩ := h
            obtain ⟨r32, hr32, h⟩ := h
            refine v_getR X (T := TX11) (N := 12) (k := 2) hk31 (by decide) rfl (by decide) inX11 wd217 rfl dX11_tell_81 hr32 ?_
            refine v_iload_n X 3 dX11_tell_84 rfl rfl ?_
            refine v_iload_n X 4 dX11_tell_85 rfl rfl ?_
            refine v_iload_n X 5 dX11_tell_86 rfl rfl ?_
            refine v_iload X 6 dX11_tell_87 rfl ?_
            refine v_iload X 0 dX11_tell_89 rfl ?_
            obtain ⟨hk34, h⟩ := h
            refine v_callV X (av := [.int x1, .int x2, .int x3, .int x4, .int r16]) (T := TX8) (N := 10) (s_X8_addTelling l b D cy h) hk34 (by decide) rfl wd535 wd536 wd537 wd59 k_X8_addTelling dn_X8_addTelling rfl ⟨Nat.le_of_ble_eq_true rfl, Nat.le_of_ble_eq_true rfl⟩ (Nat.le_of_ble_eq_true rfl) ⟨Nat.le_of_ble_eq_true rfl, Nat.le_of_ble_eq_true rfl⟩ dX11_tell_91 rfl (kV (fun S33 h => ?_))
            refine v_aload_n X 2 dX11_tell_94 rfl rfl ?_
            obtain ⟨hk35, h⟩ := h
            obtain ⟨r36, hr36, h⟩ := h
            refine v_getR X (T := TX11) (N := 12) (k := 2) hk35 (by decide) rfl (by decide) inX11 wd217 rfl dX11_tell_95 hr36 ?_
            obtain ⟨hk37, h⟩ := h
            obtain ⟨r38, hr38, h⟩ := h
            refine v_getR X (T := TX8) (N := 10) (k := 0) hk37 (by decide) rfl (by decide) inX8 wd141 rfl dX11_tell_98 hr38 ?_
            refine v_iload_n X 4 dX11_tell_101 rfl rfl ?_
            refine v_iload_n X 5 dX11_tell_102 rfl rfl ?_
            refine v_callS X (av := [.int x2, .int x3]) (s_X8_at l b D cy h) wd543 wd384 wd59 k_X8_at dn_X8_at rfl ⟨Nat.le_of_ble_eq_true rfl, Nat.le_of_ble_eq_true rfl⟩ (Nat.le_of_ble_eq_true rfl) ⟨Nat.le_of_ble_eq_true rfl, Nat.le_of_ble_eq_true rfl⟩ dX11_tell_103 rfl (kI (fun r40 S39 h => ?_))
            obtain ⟨hk41, h⟩ := h
            obtain ⟨hi42, h⟩ := h
            refine v_iald X hk41 hi42 dX11_tell_106 ?_
            exact v_iret X hr hlk ⟨_, rfl, h⟩ dX11_tell_107
          · replace h := h.2 c28
            refine v_ldc X wd334 dX11_tell_73 ?_
            refine v_widen (c2 := 6) (s2 := 147) (Nat.le_of_ble_eq_true rfl) (Nat.le_of_ble_eq_true rfl) ?_
            exact v_iret X hr hlk ⟨_, rfl, h⟩ dX11_tell_75
      · replace h := h.2 c14
        refine v_ldc X wd262 dX11_tell_35 ?_
        refine v_widen (c2 := 6) (s2 := 147) (Nat.le_of_ble_eq_true rfl) (Nat.le_of_ble_eq_true rfl) ?_
        exact v_iret X hr hlk ⟨_, rfl, h⟩ dX11_tell_37
