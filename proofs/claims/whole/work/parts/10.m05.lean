def wB_X2_cheapestFor_54n2 (bk4 : hp → Nat → Int32 → Option Nat → Int32 → Prop) (Q : Option Nat → hp → Prop) (S : hp) (l0 : Nat) (l1 : Int32) (l3 : Int32) : Prop :=
  ∀ v5 : Int32, v5 = l3 + (1 : Int32) → bk4 S l0 l1 none v5
def wB_X2_cheapestFor_54 (bk4 : hp → Nat → Int32 → Option Nat → Int32 → Prop) (Q : Option Nat → hp → Prop) (S : hp) (l0 : Nat) (l1 : Int32) (l2 : Nat) (l3 : Int32) : Prop :=
  ∀ v9 : Int32, v9 = l3 + (1 : Int32) → bk4 S l0 l1 ((some l2)) v9
def wB_X2_cheapestFor_40n2 (bk4 : hp → Nat → Int32 → Option Nat → Int32 → Prop) (Q : Option Nat → hp → Prop) (S : hp) (l0 : Nat) (l1 : Int32) (l3 : Int32) (l4 : Nat) : Prop :=
  wp_X2_leastTold (fun r7 S6 => ((r7 = (-1000000 : Int32) → wB_X2_cheapestFor_54n2 bk4 Q S6 l0 l1 l3) ∧ (¬ r7 = (-1000000 : Int32) → wB_X2_cheapestFor_54 bk4 Q S6 l0 l1 l4 l3))) S l4 l1
def wB_X2_cheapestFor_40 (bk4 : hp → Nat → Int32 → Option Nat → Int32 → Prop) (Q : Option Nat → hp → Prop) (S : hp) (l0 : Nat) (l1 : Int32) (l2 : Nat) (l3 : Int32) (l4 : Nat) : Prop :=
  wp_X2_leastTold (fun r19 S18 => ((r19 = (-1000000 : Int32) → wB_X2_cheapestFor_54 bk4 Q S18 l0 l1 l2 l3) ∧ (¬ r19 = (-1000000 : Int32) → wB_X2_cheapestFor_54 bk4 Q S18 l0 l1 l4 l3))) S l4 l1
def wB_X2_cheapestFor_4 (bk4 : hp → Nat → Int32 → Option Nat → Int32 → Prop) (Q : Option Nat → hp → Prop) (S : hp) (l0 : Nat) (l1 : Int32) (l2 : Option Nat) (l3 : Int32) : Prop :=
  ((l2 = none → hK S l0 = 7 ∧ (((hI S l0 8) ≤ l3 → Q none S) ∧ (¬ (hI S l0 8) ≤ l3 → wp_X8_mouthAt (fun q10 S3 => (q10 = none → wB_X2_cheapestFor_54n2 bk4 Q S3 l0 l1 l3) ∧ (∀ r4 : Nat, q10 = some r4 → wB_X2_cheapestFor_40n2 bk4 Q S3 l0 l1 l3 r4)) S l0 l3))) ∧ (∀ z2 : Nat, l2 = some z2 → hK S l0 = 7 ∧ (((hI S l0 8) ≤ l3 → Q (some z2) S) ∧ (¬ (hI S l0 8) ≤ l3 → wp_X8_mouthAt (fun q21 S13 => (q21 = none → wB_X2_cheapestFor_54 bk4 Q S13 l0 l1 z2 l3) ∧ (∀ r14 : Nat, q21 = some r14 → isM (hK S13 r14) ∧ isM (hK S13 z2) ∧ (((hI S13 z2 1) ≤ (hI S13 r14 1) → wB_X2_cheapestFor_54 bk4 Q S13 l0 l1 z2 l3) ∧ (¬ (hI S13 z2 1) ≤ (hI S13 r14 1) → wB_X2_cheapestFor_40 bk4 Q S13 l0 l1 z2 l3 r14)))) S l0 l3))))
def wl_X2_cheapestFor_4 (Q : Option Nat → hp → Prop) : Nat → hp → Nat → Int32 → Option Nat → Int32 → Prop
  | 0 => fun _ _ _ _ _ => False
  | n + 1 => wB_X2_cheapestFor_4 (wl_X2_cheapestFor_4 Q n) Q
def wp_X2_cheapestFor (Q : Option Nat → hp → Prop) (S : hp) (a0 : Nat) (x1 : Int32) : Prop :=
  ∃ n : Nat, wl_X2_cheapestFor_4 Q n S a0 x1 none (0 : Int32)
theorem k_X2_cheapestFor : Cond.code yX2_cheapestFor cX2_cheapestFor 5 (some (.object "DummyInches$Mouth")) ∈ gtb := mg 692 (by decide +kernel) (by decide +kernel)
theorem dn_X2_cheapestFor : yX2_cheapestFor.cls ≠ "java/lang/invoke/MethodHandle" ∧ yX2_cheapestFor.cls ≠ "java/lang/invoke/VarHandle" ∧ (parseMethodDescriptor yX2_cheapestFor.desc).map (fun d => d.parameters.length) = some 2 := by decide +kernel
set_option maxRecDepth 100000 in
set_option maxHeartbeats 4000000 in
theorem s_X2_cheapestFor (l : Launch) (b : Nat) (D : va_G) (cy : Nat → ClassId) {Q : Option Nat → hp → Prop} {S : hp} {a0 : Nat} {x1 : Int32} (h : wp_X2_cheapestFor Q S a0 x1) : MT l yX2_cheapestFor cX2_cheapestFor 5 (some (.object "DummyInches$Mouth")) 2 43 0 0 b D cy S [.ref a0, .int x1] (pO Q) := by
  refine MT.of (by decide +kernel) (Nat.le_of_ble_eq_true rfl) ?_
  intro p e s m args below meth c X hr hlk hnm
  have j54n2 : ∀ (bk4 : hp → Nat → Int32 → Option Nat → Int32 → Prop) (hbk4 : ∀ (S : hp) (l0 : Nat) (l1 : Int32) (l2 : Option Nat) (l3 : Int32), bk4 S l0 l1 l2 l3 → VM l b D cy 5 2 43 0 0 (pO Q) p e s m args below meth c S 0 0 4 [(0, .ref l0), (1, .int l1), (2, va_rf l2), (3, .int l3)] []) (S : hp) (l0 : Nat) (l1 : Int32) (l3 : Int32), wB_X2_cheapestFor_54n2 bk4 Q S l0 l1 l3 → VM l b D cy 5 2 43 0 0 (pO Q) p e s m args below meth c S 0 0 54 [(0, .ref l0), (1, .int l1), (2, .null), (3, .int l3)] [] := by
    intro bk4 hbk4 S l0 l1 l3 h
    unfold wB_X2_cheapestFor_54n2 at h
    obtain ⟨v5, hv5⟩ : ∃ y : Int32, y = l3 + (1 : Int32) := ⟨_, rfl⟩
    replace h := h v5 hv5
    refine v_iinc X (j := 3) (v := v5) (lv' := [(3, .int v5), (0, .ref l0), (1, .int l1), (2, .null)]) dX2_cheapestFor_54 rfl (by rw [hv5] <;> rfl) (by decide) rfl ?_
    refine v_goto X (tgt := 4) dX2_cheapestFor_57 (by decide) ?_
    refine v_lv (lv' := [(0, .ref l0), (1, .int l1), (2, .null), (3, .int v5)]) [1, 2, 3, 0] rfl ?_
    exact hbk4 _ _ _ _ _ h
  have j54 : ∀ (bk4 : hp → Nat → Int32 → Option Nat → Int32 → Prop) (hbk4 : ∀ (S : hp) (l0 : Nat) (l1 : Int32) (l2 : Option Nat) (l3 : Int32), bk4 S l0 l1 l2 l3 → VM l b D cy 5 2 43 0 0 (pO Q) p e s m args below meth c S 0 0 4 [(0, .ref l0), (1, .int l1), (2, va_rf l2), (3, .int l3)] []) (S : hp) (l0 : Nat) (l1 : Int32) (l2 : Nat) (l3 : Int32), wB_X2_cheapestFor_54 bk4 Q S l0 l1 l2 l3 → VM l b D cy 5 2 43 0 0 (pO Q) p e s m args below meth c S 0 0 54 [(0, .ref l0), (1, .int l1), (2, .ref l2), (3, .int l3)] [] := by
    intro bk4 hbk4 S l0 l1 l2 l3 h
    unfold wB_X2_cheapestFor_54 at h
    obtain ⟨v9, hv9⟩ : ∃ y : Int32, y = l3 + (1 : Int32) := ⟨_, rfl⟩
    replace h := h v9 hv9
    refine v_iinc X (j := 3) (v := v9) (lv' := [(3, .int v9), (0, .ref l0), (1, .int l1), (2, .ref l2)]) dX2_cheapestFor_54 rfl (by rw [hv9] <;> rfl) (by decide) rfl ?_
    refine v_goto X (tgt := 4) dX2_cheapestFor_57 (by decide) ?_
    refine v_lv (lv' := [(0, .ref l0), (1, .int l1), (2, .ref l2), (3, .int v9)]) [1, 2, 3, 0] rfl ?_
    exact hbk4 _ _ _ _ _ h
  have j40n2 : ∀ (bk4 : hp → Nat → Int32 → Option Nat → Int32 → Prop) (hbk4 : ∀ (S : hp) (l0 : Nat) (l1 : Int32) (l2 : Option Nat) (l3 : Int32), bk4 S l0 l1 l2 l3 → VM l b D cy 5 2 43 0 0 (pO Q) p e s m args below meth c S 0 0 4 [(0, .ref l0), (1, .int l1), (2, va_rf l2), (3, .int l3)] []) (S : hp) (l0 : Nat) (l1 : Int32) (l3 : Int32) (l4 : Nat), wB_X2_cheapestFor_40n2 bk4 Q S l0 l1 l3 l4 → VM l b D cy 5 2 43 0 0 (pO Q) p e s m args below meth c S 0 0 40 [(0, .ref l0), (1, .int l1), (2, .null), (3, .int l3), (4, .ref l4)] [] := by
    intro bk4 hbk4 S l0 l1 l3 l4 h
    unfold wB_X2_cheapestFor_40n2 at h
    refine v_aload X 4 dX2_cheapestFor_40 rfl ?_
    refine v_iload_n X 1 dX2_cheapestFor_42 rfl rfl ?_
    refine v_callS X (av := [.ref l4, .int l1]) (s_X2_leastTold l b D cy h) wd694 wd695 wd60 k_X2_leastTold dn_X2_leastTold rfl ⟨Nat.le_of_ble_eq_true rfl, Nat.le_of_ble_eq_true rfl⟩ (Nat.le_of_ble_eq_true rfl) ⟨Nat.le_of_ble_eq_true rfl, Nat.le_of_ble_eq_true rfl⟩ dX2_cheapestFor_43 rfl (kI (fun r7 S6 h => ?_))
    refine v_ldc X wd662 dX2_cheapestFor_46 ?_
    refine v_icmp_eq X (tgt := 54) dX2_cheapestFor_48 (by decide) (fun c8 => ?_) (fun c8 => ?_)
    · replace h := h.1 c8
      refine v_lv (lv' := [(0, .ref l0), (1, .int l1), (2, .null), (3, .int l3)]) [0, 1, 2, 3] rfl ?_
      exact j54n2 bk4 hbk4 _ _ _ _ h
    · replace h := h.2 c8
      refine v_aload X 4 dX2_cheapestFor_51 rfl ?_
      refine v_astore_n X (lv' := [(2, .ref l4), (0, .ref l0), (1, .int l1), (3, .int l3), (4, .ref l4)]) dX2_cheapestFor_53 rfl (by decide) rfl ?_
      refine v_lv (lv' := [(0, .ref l0), (1, .int l1), (2, .ref l4), (3, .int l3)]) [1, 2, 0, 3] rfl ?_
      exact j54 bk4 hbk4 _ _ _ _ _ h
  have j40 : ∀ (bk4 : hp → Nat → Int32 → Option Nat → Int32 → Prop) (hbk4 : ∀ (S : hp) (l0 : Nat) (l1 : Int32) (l2 : Option Nat) (l3 : Int32), bk4 S l0 l1 l2 l3 → VM l b D cy 5 2 43 0 0 (pO Q) p e s m args below meth c S 0 0 4 [(0, .ref l0), (1, .int l1), (2, va_rf l2), (3, .int l3)] []) (S : hp) (l0 : Nat) (l1 : Int32) (l2 : Nat) (l3 : Int32) (l4 : Nat), wB_X2_cheapestFor_40 bk4 Q S l0 l1 l2 l3 l4 → VM l b D cy 5 2 43 0 0 (pO Q) p e s m args below meth c S 0 0 40 [(0, .ref l0), (1, .int l1), (2, .ref l2), (3, .int l3), (4, .ref l4)] [] := by
    intro bk4 hbk4 S l0 l1 l2 l3 l4 h
    unfold wB_X2_cheapestFor_40 at h
    refine v_aload X 4 dX2_cheapestFor_40 rfl ?_
    refine v_iload_n X 1 dX2_cheapestFor_42 rfl rfl ?_
    refine v_callS X (av := [.ref l4, .int l1]) (s_X2_leastTold l b D cy h) wd694 wd695 wd60 k_X2_leastTold dn_X2_leastTold rfl ⟨Nat.le_of_ble_eq_true rfl, Nat.le_of_ble_eq_true rfl⟩ (Nat.le_of_ble_eq_true rfl) ⟨Nat.le_of_ble_eq_true rfl, Nat.le_of_ble_eq_true rfl⟩ dX2_cheapestFor_43 rfl (kI (fun r19 S18 h => ?_))
    refine v_ldc X wd662 dX2_cheapestFor_46 ?_
    refine v_icmp_eq X (tgt := 54) dX2_cheapestFor_48 (by decide) (fun c20 => ?_) (fun c20 => ?_)
    · replace h := h.1 c20
      refine v_lv (lv' := [(0, .ref l0), (1, .int l1), (2, .ref l2), (3, .int l3)]) [0, 1, 2, 3] rfl ?_
      exact j54 bk4 hbk4 _ _ _ _ _ h
    · replace h := h.2 c20
      refine v_aload X 4 dX2_cheapestFor_51 rfl ?_
      refine v_astore_n X (lv' := [(2, .ref l4), (0, .ref l0), (1, .int l1), (3, .int l3), (4, .ref l4)]) dX2_cheapestFor_53 rfl (by decide) rfl ?_
      refine v_lv (lv' := [(0, .ref l0), (1, .int l1), (2, .ref l4), (3, .int l3)]) [1, 2, 0, 3] rfl ?_
      exact j54 bk4 hbk4 _ _ _ _ _ h
  have j4 : ∀ (bk4 : hp → Nat → Int32 → Option Nat → Int32 → Prop) (hbk4 : ∀ (S : hp) (l0 : Nat) (l1 : Int32) (l2 : Option Nat) (l3 : Int32), bk4 S l0 l1 l2 l3 → VM l b D cy 5 2 43 0 0 (pO Q) p e s m args below meth c S 0 0 4 [(0, .ref l0), (1, .int l1), (2, va_rf l2), (3, .int l3)] []) (S : hp) (l0 : Nat) (l1 : Int32) (l2 : Option Nat) (l3 : Int32), wB_X2_cheapestFor_4 bk4 Q S l0 l1 l2 l3 → VM l b D cy 5 2 43 0 0 (pO Q) p e s m args below meth c S 0 0 4 [(0, .ref l0), (1, .int l1), (2, va_rf l2), (3, .int l3)] [] := by
    intro bk4 hbk4 S l0 l1 l2 l3 h
    unfold wB_X2_cheapestFor_4 at h
    rcases l2 with _ | z2
    · replace h := h.1 rfl
      show VM l b D cy 5 2 43 0 0 (pO Q) p e s m args below meth c S 0 0 4 [(0, .ref l0), (1, .int l1), (2, .null), (3, .int l3)] []
      refine v_iload_n X 3 dX2_cheapestFor_4 rfl rfl ?_
      refine v_aload_n X 0 dX2_cheapestFor_5 rfl rfl ?_
      obtain ⟨hk1, h⟩ := h
      refine v_getI X (T := TX8) (N := 10) (k := 8) hk1 (by decide) rfl (by decide) inX8 wd157 rfl dX2_cheapestFor_6 ?_
      refine v_icmp_ge X (tgt := 60) dX2_cheapestFor_9 (by decide) (fun c2 => ?_) (fun c2 => ?_)
      · replace h := h.1 c2
        refine v_aload_nN X 2 dX2_cheapestFor_60 rfl rfl ?_
        exact v_aretN X hr hlk ⟨none, rfl, h⟩ dX2_cheapestFor_61
      · replace h := h.2 c2
        refine v_aload_n X 0 dX2_cheapestFor_12 rfl rfl ?_
        refine v_iload_n X 3 dX2_cheapestFor_13 rfl rfl ?_
        refine v_callV X (av := [.int l3]) (T := TX8) (N := 10) (s_X8_mouthAt l b D cy h) hk1 (by decide) rfl wd693 wd480 wd481 wd59 k_X8_mouthAt dn_X8_mouthAt rfl ⟨Nat.le_of_ble_eq_true rfl, Nat.le_of_ble_eq_true rfl⟩ (Nat.le_of_ble_eq_true rfl) ⟨Nat.le_of_ble_eq_true rfl, Nat.le_of_ble_eq_true rfl⟩ dX2_cheapestFor_14 rfl (kO (fun S3 h => ?_) (fun r4 S3 h => ?_))
        · replace h := h.1 rfl
          refine v_astoreN X (lv' := [(4, .null), (0, .ref l0), (1, .int l1), (2, .null), (3, .int l3)]) dX2_cheapestFor_17 (by decide) rfl ?_
          refine v_aloadN X 0 dX2_cheapestFor_19 rfl ?_
          refine v_ifnullN X (tgt := 54) dX2_cheapestFor_21 (by decide) ?_
          refine v_lv (lv' := [(0, .ref l0), (1, .int l1), (2, .null), (3, .int l3)]) [1, 2, 3, 4] rfl ?_
          exact j54n2 bk4 hbk4 _ _ _ _ h
        · replace h := h.2 _ rfl
          refine v_astore X (lv' := [(4, .ref r4), (0, .ref l0), (1, .int l1), (2, .null), (3, .int l3)]) dX2_cheapestFor_17 (by decide) rfl ?_
          refine v_aload X 0 dX2_cheapestFor_19 rfl ?_
          refine v_ifnull X dX2_cheapestFor_21 ?_
          refine v_aload_nN X 3 dX2_cheapestFor_24 rfl rfl ?_
          refine v_ifnullN X (tgt := 40) dX2_cheapestFor_25 (by decide) ?_
          refine v_lv (lv' := [(0, .ref l0), (1, .int l1), (2, .null), (3, .int l3), (4, .ref r4)]) [1, 2, 3, 4, 0] rfl ?_
          exact j40n2 bk4 hbk4 _ _ _ _ _ h
    · replace h := h.2 _ rfl
      show VM l b D cy 5 2 43 0 0 (pO Q) p e s m args below meth c S 0 0 4 [(0, .ref l0), (1, .int l1), (2, .ref z2), (3, .int l3)] []
      refine v_iload_n X 3 dX2_cheapestFor_4 rfl rfl ?_
      refine v_aload_n X 0 dX2_cheapestFor_5 rfl rfl ?_
      obtain ⟨hk11, h⟩ := h
      refine v_getI X (T := TX8) (N := 10) (k := 8) hk11 (by decide) rfl (by decide) inX8 wd157 rfl dX2_cheapestFor_6 ?_
      refine v_icmp_ge X (tgt := 60) dX2_cheapestFor_9 (by decide) (fun c12 => ?_) (fun c12 => ?_)
      · replace h := h.1 c12
        refine v_aload_n X 2 dX2_cheapestFor_60 rfl rfl ?_
        exact v_aret X hr hlk ⟨some _, rfl, h⟩ dX2_cheapestFor_61
      · replace h := h.2 c12
        refine v_aload_n X 0 dX2_cheapestFor_12 rfl rfl ?_
        refine v_iload_n X 3 dX2_cheapestFor_13 rfl rfl ?_
        refine v_callV X (av := [.int l3]) (T := TX8) (N := 10) (s_X8_mouthAt l b D cy h) hk11 (by decide) rfl wd693 wd480 wd481 wd59 k_X8_mouthAt dn_X8_mouthAt rfl ⟨Nat.le_of_ble_eq_true rfl, Nat.le_of_ble_eq_true rfl⟩ (Nat.le_of_ble_eq_true rfl) ⟨Nat.le_of_ble_eq_true rfl, Nat.le_of_ble_eq_true rfl⟩ dX2_cheapestFor_14 rfl (kO (fun S13 h => ?_) (fun r14 S13 h => ?_))
        · replace h := h.1 rfl
          refine v_astoreN X (lv' := [(4, .null), (0, .ref l0), (1, .int l1), (2, .ref z2), (3, .int l3)]) dX2_cheapestFor_17 (by decide) rfl ?_
          refine v_aloadN X 0 dX2_cheapestFor_19 rfl ?_
          refine v_ifnullN X (tgt := 54) dX2_cheapestFor_21 (by decide) ?_
          refine v_lv (lv' := [(0, .ref l0), (1, .int l1), (2, .ref z2), (3, .int l3)]) [1, 2, 3, 4] rfl ?_
          exact j54 bk4 hbk4 _ _ _ _ _ h
        · replace h := h.2 _ rfl
          refine v_astore X (lv' := [(4, .ref r14), (0, .ref l0), (1, .int l1), (2, .ref z2), (3, .int l3)]) dX2_cheapestFor_17 (by decide) rfl ?_
          refine v_aload X 0 dX2_cheapestFor_19 rfl ?_
          refine v_ifnull X dX2_cheapestFor_21 ?_
          refine v_aload_n X 3 dX2_cheapestFor_24 rfl rfl ?_
          refine v_ifnull X dX2_cheapestFor_25 ?_
          refine v_aload X 0 dX2_cheapestFor_28 rfl ?_
          obtain ⟨hk15, h⟩ := h
          refine v_getM X (k := 1) hk15 (by decide) wd421 dX2_cheapestFor_30 ?_
          refine v_aload_n X 3 dX2_cheapestFor_33 rfl rfl ?_
          obtain ⟨hk16, h⟩ := h
          refine v_getM X (k := 1) hk16 (by decide) wd421 dX2_cheapestFor_34 ?_
          refine v_icmp_ge X (tgt := 54) dX2_cheapestFor_37 (by decide) (fun c17 => ?_) (fun c17 => ?_)
          · replace h := h.1 c17
            refine v_lv (lv' := [(0, .ref l0), (1, .int l1), (2, .ref z2), (3, .int l3)]) [1, 2, 3, 4] rfl ?_
            exact j54 bk4 hbk4 _ _ _ _ _ h
          · replace h := h.2 c17
            refine v_lv (lv' := [(0, .ref l0), (1, .int l1), (2, .ref z2), (3, .int l3), (4, .ref r14)]) [1, 2, 3, 4, 0] rfl ?_
            exact j40 bk4 hbk4 _ _ _ _ _ _ h
  have l4 : ∀  (n : Nat) (S : hp) (l0 : Nat) (l1 : Int32) (l2 : Option Nat) (l3 : Int32), wl_X2_cheapestFor_4 Q n S l0 l1 l2 l3 → VM l b D cy 5 2 43 0 0 (pO Q) p e s m args below meth c S 0 0 4 [(0, .ref l0), (1, .int l1), (2, va_rf l2), (3, .int l3)] [] := by
    intro  n
    induction n with
    | zero => intro S l0 l1 l2 l3 h; exact h.elim
    | succ n ih => intro S l0 l1 l2 l3 h; exact j4 (wl_X2_cheapestFor_4 Q n) ih S l0 l1 l2 l3 h
  unfold wp_X2_cheapestFor at h
  show VM l b D cy 5 2 43 0 0 (pO Q) p e s m args below meth c S 0 0 0 [(0, .ref a0), (1, .int x1)] []
  refine v_null X dX2_cheapestFor_0 ?_
  refine v_astore_nN X (lv' := [(2, .null), (0, .ref a0), (1, .int x1)]) dX2_cheapestFor_1 rfl (by decide) rfl ?_
  refine v_iconst X (v := 0) dX2_cheapestFor_2 (by decide) ?_
  refine v_istore_n X (lv' := [(3, .int (0 : Int32)), (2, .null), (0, .ref a0), (1, .int x1)]) dX2_cheapestFor_3 rfl (by decide) rfl ?_
  refine v_lv (lv' := [(0, .ref a0), (1, .int x1), (2, .null), (3, .int (0 : Int32))]) [2, 3, 1, 0] rfl ?_
  obtain ⟨n, h⟩ := h
  exact l4 n _ _ _ _ _ h
def wB_X2_rightBy_97 (bk10 : hp → Nat → Int32 → Int32 → Int32 → Int32 → Int32 → Prop) (Q : Int32 → hp → Prop) (S : hp) (l1 : Nat) (l2 : Int32) (l3 : Int32) (l4 : Int32) (l5 : Int32) (l6 : Int32) : Prop :=
  ∀ v15 : Int32, v15 = l6 + (1 : Int32) → bk10 S l1 l2 l3 l4 l5 v15
def wB_X2_rightBy_10 (bk10 : hp → Nat → Int32 → Int32 → Int32 → Int32 → Int32 → Prop) (Q : Int32 → hp → Prop) (S : hp) (l1 : Nat) (l2 : Int32) (l3 : Int32) (l4 : Int32) (l5 : Int32) (l6 : Int32) : Prop :=
  (((3 : Int32) ≤ l6 → ((¬ l3 = 0 → Q l5 S) ∧ (l3 = 0 → Q l4 S))) ∧ (¬ (3 : Int32) ≤ l6 → wp_X8_at (fun r4 S3 => hK S3 l1 = 7 ∧ wp_X8_pinch (fun r7 S5 => ((¬ r7 = 0 → wp_X2_cheapestFor (fun q19 S9 => (q19 = none → Q (-1000000 : Int32) S9) ∧ (∀ r10 : Nat, q19 = some r10 → isM (hK S9 r10) ∧ ∀ v12 : Int32, v12 = (l4 + (hI S9 r10 1)) → ((¬ l3 = ((1 : Int32) + l6) → ((¬ l3 = ((4 : Int32) + l6) → wB_X2_rightBy_97 bk10 Q S9 l1 l2 l3 v12 l5 l6) ∧ (l3 = ((4 : Int32) + l6) → wp_X2_leastTold (fun r17 S16 => wB_X2_rightBy_97 bk10 Q S16 l1 l2 l3 v12 r17 l6) S9 r10 r7))) ∧ (l3 = ((1 : Int32) + l6) → ∀ v18 : Int32, v18 = (hI S9 r10 0) → wB_X2_rightBy_97 bk10 Q S9 l1 l2 l3 v12 v18 l6)))) S5 l1 r7) ∧ (r7 = 0 → wB_X2_rightBy_97 bk10 Q S5 l1 l2 l3 l4 l5 l6))) S3 l1 r4) S l2 l6))
def wl_X2_rightBy_10 (Q : Int32 → hp → Prop) : Nat → hp → Nat → Int32 → Int32 → Int32 → Int32 → Int32 → Prop
  | 0 => fun _ _ _ _ _ _ _ => False
  | n + 1 => wB_X2_rightBy_10 (wl_X2_rightBy_10 Q n) Q
def wp_X2_rightBy (Q : Int32 → hp → Prop) (S : hp) (a0 : Nat) (a1 : Nat) (x2 : Int32) (x3 : Int32) : Prop :=
  ∃ n : Nat, wl_X2_rightBy_10 Q n S a1 x2 x3 (0 : Int32) (-1000000 : Int32) (0 : Int32)
theorem k_X2_rightBy : Cond.code yX2_rightBy cX2_rightBy 9 (some .int) ∈ gtb := mg 688 (by decide +kernel) (by decide +kernel)
theorem dn_X2_rightBy : yX2_rightBy.cls ≠ "java/lang/invoke/MethodHandle" ∧ yX2_rightBy.cls ≠ "java/lang/invoke/VarHandle" ∧ (parseMethodDescriptor yX2_rightBy.desc).map (fun d => d.parameters.length) = some 3 := by decide +kernel
set_option maxRecDepth 100000 in
set_option maxHeartbeats 4000000 in
theorem s_X2_rightBy (l : Launch) (b : Nat) (D : va_G) (cy : Nat → ClassId) {Q : Int32 → hp → Prop} {S : hp} {a0 : Nat} {a1 : Nat} {x2 : Int32} {x3 : Int32} (h : wp_X2_rightBy Q S a0 a1 x2 x3) : MT l yX2_rightBy cX2_rightBy 9 (some .int) 3 67 0 0 b D cy S [.ref a0, .ref a1, .int x2, .int x3] (pI Q) := by
  refine MT.of (by decide +kernel) (Nat.le_of_ble_eq_true rfl) ?_
  intro p e s m args below meth c X hr hlk hnm
  have j97 : ∀ (bk10 : hp → Nat → Int32 → Int32 → Int32 → Int32 → Int32 → Prop) (hbk10 : ∀ (S : hp) (l1 : Nat) (l2 : Int32) (l3 : Int32) (l4 : Int32) (l5 : Int32) (l6 : Int32), bk10 S l1 l2 l3 l4 l5 l6 → VM l b D cy 9 3 67 0 0 (pI Q) p e s m args below meth c S 0 0 10 [(1, .ref l1), (2, .int l2), (3, .int l3), (4, .int l4), (5, .int l5), (6, .int l6)] []) (S : hp) (l1 : Nat) (l2 : Int32) (l3 : Int32) (l4 : Int32) (l5 : Int32) (l6 : Int32), wB_X2_rightBy_97 bk10 Q S l1 l2 l3 l4 l5 l6 → VM l b D cy 9 3 67 0 0 (pI Q) p e s m args below meth c S 0 0 97 [(1, .ref l1), (2, .int l2), (3, .int l3), (4, .int l4), (5, .int l5), (6, .int l6)] [] := by
    intro bk10 hbk10 S l1 l2 l3 l4 l5 l6 h
    unfold wB_X2_rightBy_97 at h
    obtain ⟨v15, hv15⟩ : ∃ y : Int32, y = l6 + (1 : Int32) := ⟨_, rfl⟩
    replace h := h v15 hv15
    refine v_iinc X (j := 5) (v := v15) (lv' := [(6, .int v15), (1, .ref l1), (2, .int l2), (3, .int l3), (4, .int l4), (5, .int l5)]) dX2_rightBy_97 rfl (by rw [hv15] <;> rfl) (by decide) rfl ?_
    refine v_goto X (tgt := 10) dX2_rightBy_100 (by decide) ?_
    refine v_lv (lv' := [(1, .ref l1), (2, .int l2), (3, .int l3), (4, .int l4), (5, .int l5), (6, .int v15)]) [1, 2, 3, 4, 5, 0] rfl ?_
    exact hbk10 _ _ _ _ _ _ _ h
  have j10 : ∀ (bk10 : hp → Nat → Int32 → Int32 → Int32 → Int32 → Int32 → Prop) (hbk10 : ∀ (S : hp) (l1 : Nat) (l2 : Int32) (l3 : Int32) (l4 : Int32) (l5 : Int32) (l6 : Int32), bk10 S l1 l2 l3 l4 l5 l6 → VM l b D cy 9 3 67 0 0 (pI Q) p e s m args below meth c S 0 0 10 [(1, .ref l1), (2, .int l2), (3, .int l3), (4, .int l4), (5, .int l5), (6, .int l6)] []) (S : hp) (l1 : Nat) (l2 : Int32) (l3 : Int32) (l4 : Int32) (l5 : Int32) (l6 : Int32), wB_X2_rightBy_10 bk10 Q S l1 l2 l3 l4 l5 l6 → VM l b D cy 9 3 67 0 0 (pI Q) p e s m args below meth c S 0 0 10 [(1, .ref l1), (2, .int l2), (3, .int l3), (4, .int l4), (5, .int l5), (6, .int l6)] [] := by
    intro bk10 hbk10 S l1 l2 l3 l4 l5 l6 h
    unfold wB_X2_rightBy_10 at h
    refine v_iload X 5 dX2_rightBy_10 rfl ?_
    refine v_iconst X (v := 3) dX2_rightBy_12 (by decide) ?_
    refine v_icmp_ge X (tgt := 103) dX2_rightBy_13 (by decide) (fun c1 => ?_) (fun c1 => ?_)
    · replace h := h.1 c1
      refine v_iload_n X 2 dX2_rightBy_103 rfl rfl ?_
      refine v_if_ne X (tgt := 112) dX2_rightBy_104 (by decide) (fun c2 => ?_) (fun c2 => ?_)
      · replace h := h.1 c2
        refine v_iload X 4 dX2_rightBy_112 rfl ?_
        exact v_iret X hr hlk ⟨_, rfl, h⟩ dX2_rightBy_114
      · replace h := h.2 c2
        refine v_iload X 3 dX2_rightBy_107 rfl ?_
        refine v_goto X (tgt := 114) dX2_rightBy_109 (by decide) ?_
        exact v_iret X hr hlk ⟨_, rfl, h⟩ dX2_rightBy_114
    · replace h := h.2 c1
      refine v_aload_n X 0 dX2_rightBy_16 rfl rfl ?_
      refine v_iload_n X 1 dX2_rightBy_17 rfl rfl ?_
      refine v_iload X 5 dX2_rightBy_18 rfl ?_
      refine v_callS X (av := [.int l2, .int l6]) (s_X8_at l b D cy h) wd640 wd384 wd59 k_X8_at dn_X8_at rfl ⟨Nat.le_of_ble_eq_true rfl, Nat.le_of_ble_eq_true rfl⟩ (Nat.le_of_ble_eq_true rfl) ⟨Nat.le_of_ble_eq_true rfl, Nat.le_of_ble_eq_true rfl⟩ dX2_rightBy_20 rfl (kI (fun r4 S3 h => ?_))
      obtain ⟨hk6, h⟩ := h
      refine v_callV X (av := [.int r4]) (T := TX8) (N := 10) (s_X8_pinch l b D cy h) hk6 (by decide) rfl wd689 wd587 wd588 wd59 k_X8_pinch dn_X8_pinch rfl ⟨Nat.le_of_ble_eq_true rfl, Nat.le_of_ble_eq_true rfl⟩ (Nat.le_of_ble_eq_true rfl) ⟨Nat.le_of_ble_eq_true rfl, Nat.le_of_ble_eq_true rfl⟩ dX2_rightBy_23 rfl (kI (fun r7 S5 h => ?_))
      refine v_istore X (lv' := [(7, .int r7), (1, .ref l1), (2, .int l2), (3, .int l3), (4, .int l4), (5, .int l5), (6, .int l6)]) dX2_rightBy_26 (by decide) rfl ?_
      refine v_iload X 0 dX2_rightBy_28 rfl ?_
      refine v_if_ne X (tgt := 36) dX2_rightBy_30 (by decide) (fun c8 => ?_) (fun c8 => ?_)
      · replace h := h.1 c8
        refine v_aload_n X 1 dX2_rightBy_36 rfl rfl ?_
        refine v_iload X 0 dX2_rightBy_37 rfl ?_
        refine v_callS X (av := [.ref l1, .int r7]) (s_X2_cheapestFor l b D cy h) wd690 wd691 wd60 k_X2_cheapestFor dn_X2_cheapestFor rfl ⟨Nat.le_of_ble_eq_true rfl, Nat.le_of_ble_eq_true rfl⟩ (Nat.le_of_ble_eq_true rfl) ⟨Nat.le_of_ble_eq_true rfl, Nat.le_of_ble_eq_true rfl⟩ dX2_rightBy_39 rfl (kO (fun S9 h => ?_) (fun r10 S9 h => ?_))
        · replace h := h.1 rfl
          refine v_astoreN X (lv' := [(8, .null), (7, .int r7), (1, .ref l1), (2, .int l2), (3, .int l3), (4, .int l4), (5, .int l5), (6, .int l6)]) dX2_rightBy_42 (by decide) rfl ?_
          refine v_aloadN X 0 dX2_rightBy_44 rfl ?_
          refine v_ifnonnullN X dX2_rightBy_46 ?_
          refine v_ldc X wd662 dX2_rightBy_49 ?_
          exact v_iret X hr hlk ⟨_, rfl, h⟩ dX2_rightBy_51
        · replace h := h.2 _ rfl
          refine v_astore X (lv' := [(8, .ref r10), (7, .int r7), (1, .ref l1), (2, .int l2), (3, .int l3), (4, .int l4), (5, .int l5), (6, .int l6)]) dX2_rightBy_42 (by decide) rfl ?_
          refine v_aload X 0 dX2_rightBy_44 rfl ?_
          refine v_ifnonnull X (tgt := 52) dX2_rightBy_46 (by decide) ?_
          refine v_iload X 5 dX2_rightBy_52 rfl ?_
          refine v_aload X 0 dX2_rightBy_54 rfl ?_
          obtain ⟨hk11, h⟩ := h
          refine v_getM X (k := 1) hk11 (by decide) wd421 dX2_rightBy_56 ?_
          refine v_iadd X dX2_rightBy_59 ?_
          refine v_nm (fun v12 hv12 => ?_)
          replace h := h v12 hv12
          refine v_istore X (lv' := [(4, .int v12), (8, .ref r10), (7, .int r7), (1, .ref l1), (2, .int l2), (3, .int l3), (5, .int l5), (6, .int l6)]) dX2_rightBy_60 (by decide) rfl ?_
          refine v_iload_n X 5 dX2_rightBy_62 rfl rfl ?_
          refine v_iconst X (v := 1) dX2_rightBy_63 (by decide) ?_
          refine v_iload X 7 dX2_rightBy_64 rfl ?_
          refine v_iadd X dX2_rightBy_66 ?_
          refine v_icmp_ne X (tgt := 80) dX2_rightBy_67 (by decide) (fun c13 => ?_) (fun c13 => ?_)
          · replace h := h.1 c13
            refine v_iload_n X 5 dX2_rightBy_80 rfl rfl ?_
            refine v_iconst X (v := 4) dX2_rightBy_81 (by decide) ?_
            refine v_iload X 7 dX2_rightBy_82 rfl ?_
            refine v_iadd X dX2_rightBy_84 ?_
            refine v_icmp_ne X (tgt := 97) dX2_rightBy_85 (by decide) (fun c14 => ?_) (fun c14 => ?_)
            · replace h := h.1 c14
              refine v_lv (lv' := [(1, .ref l1), (2, .int l2), (3, .int l3), (4, .int v12), (5, .int l5), (6, .int l6)]) [3, 4, 5, 0, 6, 7] rfl ?_
              exact j97 bk10 hbk10 _ _ _ _ _ _ _ h
            · replace h := h.2 c14
              refine v_aload X 1 dX2_rightBy_88 rfl ?_
              refine v_iload X 2 dX2_rightBy_90 rfl ?_
              refine v_callS X (av := [.ref r10, .int r7]) (s_X2_leastTold l b D cy h) wd694 wd695 wd60 k_X2_leastTold dn_X2_leastTold rfl ⟨Nat.le_of_ble_eq_true rfl, Nat.le_of_ble_eq_true rfl⟩ (Nat.le_of_ble_eq_true rfl) ⟨Nat.le_of_ble_eq_true rfl, Nat.le_of_ble_eq_true rfl⟩ dX2_rightBy_92 rfl (kI (fun r17 S16 h => ?_))
              refine v_istore X (lv' := [(5, .int r17), (4, .int v12), (8, .ref r10), (7, .int r7), (1, .ref l1), (2, .int l2), (3, .int l3), (6, .int l6)]) dX2_rightBy_95 (by decide) rfl ?_
              refine v_lv (lv' := [(1, .ref l1), (2, .int l2), (3, .int l3), (4, .int v12), (5, .int r17), (6, .int l6)]) [4, 5, 6, 1, 0, 7] rfl ?_
              exact j97 bk10 hbk10 _ _ _ _ _ _ _ h
          · replace h := h.2 c13
            refine v_aload X 1 dX2_rightBy_70 rfl ?_
            refine v_getM X (k := 0) hk11 (by decide) wd418 dX2_rightBy_72 ?_
            refine v_nm (fun v18 hv18 => ?_)
            replace h := h v18 hv18
            refine v_istore X (lv' := [(5, .int v18), (4, .int v12), (8, .ref r10), (7, .int r7), (1, .ref l1), (2, .int l2), (3, .int l3), (6, .int l6)]) dX2_rightBy_75 (by decide) rfl ?_
            refine v_goto X (tgt := 97) dX2_rightBy_77 (by decide) ?_
            refine v_lv (lv' := [(1, .ref l1), (2, .int l2), (3, .int l3), (4, .int v12), (5, .int v18), (6, .int l6)]) [4, 5, 6, 1, 0, 7] rfl ?_
            exact j97 bk10 hbk10 _ _ _ _ _ _ _ h
      · replace h := h.2 c8
        refine v_goto X (tgt := 97) dX2_rightBy_33 (by decide) ?_
        refine v_lv (lv' := [(1, .ref l1), (2, .int l2), (3, .int l3), (4, .int l4), (5, .int l5), (6, .int l6)]) [1, 2, 3, 4, 5, 6] rfl ?_
        exact j97 bk10 hbk10 _ _ _ _ _ _ _ h
  have l10 : ∀  (n : Nat) (S : hp) (l1 : Nat) (l2 : Int32) (l3 : Int32) (l4 : Int32) (l5 : Int32) (l6 : Int32), wl_X2_rightBy_10 Q n S l1 l2 l3 l4 l5 l6 → VM l b D cy 9 3 67 0 0 (pI Q) p e s m args below meth c S 0 0 10 [(1, .ref l1), (2, .int l2), (3, .int l3), (4, .int l4), (5, .int l5), (6, .int l6)] [] := by
    intro  n
    induction n with
    | zero => intro S l1 l2 l3 l4 l5 l6 h; exact h.elim
    | succ n ih => intro S l1 l2 l3 l4 l5 l6 h; exact j10 (wl_X2_rightBy_10 Q n) ih S l1 l2 l3 l4 l5 l6 h
  unfold wp_X2_rightBy at h
  show VM l b D cy 9 3 67 0 0 (pI Q) p e s m args below meth c S 0 0 0 [(0, .ref a0), (1, .ref a1), (2, .int x2), (3, .int x3)] []
  refine v_iconst X (v := 0) dX2_rightBy_0 (by decide) ?_
  refine v_istore X (lv' := [(4, .int (0 : Int32)), (0, .ref a0), (1, .ref a1), (2, .int x2), (3, .int x3)]) dX2_rightBy_1 (by decide) rfl ?_
  refine v_ldc X wd662 dX2_rightBy_3 ?_
  refine v_istore X (lv' := [(5, .int (-1000000 : Int32)), (4, .int (0 : Int32)), (0, .ref a0), (1, .ref a1), (2, .int x2), (3, .int x3)]) dX2_rightBy_5 (by decide) rfl ?_
  refine v_iconst X (v := 0) dX2_rightBy_7 (by decide) ?_
  refine v_istore X (lv' := [(6, .int (0 : Int32)), (5, .int (-1000000 : Int32)), (4, .int (0 : Int32)), (0, .ref a0), (1, .ref a1), (2, .int x2), (3, .int x3)]) dX2_rightBy_8 (by decide) rfl ?_
  refine v_lv (lv' := [(1, .ref a1), (2, .int x2), (3, .int x3), (4, .int (0 : Int32)), (5, .int (-1000000 : Int32)), (6, .int (0 : Int32))]) [4, 5, 6, 2, 1, 0] rfl ?_
  obtain ⟨n, h⟩ := h
  exact l10 n _ _ _ _ _ _ _ h
def wp_X11_right (Q : Int32 → hp → Prop) (S : hp) (a0 : Nat) (x1 : Int32) (x2 : Int32) : Prop :=
  hK S a0 = 10 ∧ ∃ r2 : Nat, hR S a0 2 = some r2 ∧ hK S r2 = 7 ∧ wp_X8_hasDummy (fun r5 S3 => ((r5 = 0 → Q (-1000001 : Int32) S3) ∧ (¬ r5 = 0 → ((x2 < 0 → Q (-1000001 : Int32) S3) ∧ (¬ x2 < 0 → ((x2 ≤ (6 : Int32) → hK S3 a0 = 10 ∧ ∃ r10 : Nat, hR S3 a0 4 = some r10 ∧ ∃ r11 : Nat, hR S3 a0 2 = some r11 ∧ hK S3 r10 = 2 ∧ wp_X2_rightBy (fun r14 S12 => Q r14 S12) S3 r10 r11 x1 x2) ∧ (¬ x2 ≤ (6 : Int32) → Q (-1000001 : Int32) S3))))))) S r2 x1
theorem k_X11_right : Cond.code yX11_right cX11_right 3 (some .int) ∈ gtb := mg 684 (by decide +kernel) (by decide +kernel)
theorem dn_X11_right : yX11_right.cls ≠ "java/lang/invoke/MethodHandle" ∧ yX11_right.cls ≠ "java/lang/invoke/VarHandle" ∧ (parseMethodDescriptor yX11_right.desc).map (fun d => d.parameters.length) = some 2 := by decide +kernel
set_option maxRecDepth 100000 in
set_option maxHeartbeats 4000000 in
theorem s_X11_right (l : Launch) (b : Nat) (D : va_G) (cy : Nat → ClassId) {Q : Int32 → hp → Prop} {S : hp} {a0 : Nat} {x1 : Int32} {x2 : Int32} (h : wp_X11_right Q S a0 x1 x2) : MT l yX11_right cX11_right 3 (some .int) 4 95 0 0 b D cy S [.ref a0, .int x1, .int x2] (pI Q) := by
  refine MT.of (by decide +kernel) (Nat.le_of_ble_eq_true rfl) ?_
  intro p e s m args below meth c X hr hlk hnm
  unfold wp_X11_right at h
  show VM l b D cy 3 4 95 0 0 (pI Q) p e s m args below meth c S 0 0 0 [(0, .ref a0), (1, .int x1), (2, .int x2)] []
  refine v_aload_n X 0 dX11_right_0 rfl rfl ?_
  obtain ⟨hk1, h⟩ := h
  obtain ⟨r2, hr2, h⟩ := h
  refine v_getR X (T := TX11) (N := 12) (k := 2) hk1 (by decide) rfl (by decide) inX11 wd217 rfl dX11_right_1 hr2 ?_
  refine v_iload_n X 1 dX11_right_4 rfl rfl ?_
  obtain ⟨hk4, h⟩ := h
  refine v_callV X (av := [.int x1]) (T := TX8) (N := 10) (s_X8_hasDummy l b D cy h) hk4 (by decide) rfl wd561 wd488 wd489 wd59 k_X8_hasDummy dn_X8_hasDummy rfl ⟨Nat.le_of_ble_eq_true rfl, Nat.le_of_ble_eq_true rfl⟩ (Nat.le_of_ble_eq_true rfl) ⟨Nat.le_of_ble_eq_true rfl, Nat.le_of_ble_eq_true rfl⟩ dX11_right_5 rfl (kI (fun r5 S3 h => ?_))
  refine v_if_eq X (tgt := 21) dX11_right_8 (by decide) (fun c6 => ?_) (fun c6 => ?_)
  · replace h := h.1 c6
    refine v_ldc X wd262 dX11_right_21 ?_
    exact v_iret X hr hlk ⟨_, rfl, h⟩ dX11_right_23
  · replace h := h.2 c6
    refine v_iload_n X 2 dX11_right_11 rfl rfl ?_
    refine v_if_lt X (tgt := 21) dX11_right_12 (by decide) (fun c7 => ?_) (fun c7 => ?_)
    · replace h := h.1 c7
      refine v_ldc X wd262 dX11_right_21 ?_
      exact v_iret X hr hlk ⟨_, rfl, h⟩ dX11_right_23
    · replace h := h.2 c7
      refine v_iload_n X 2 dX11_right_15 rfl rfl ?_
      refine v_bipush X (v := 6) dX11_right_16 (by decide) ?_
      refine v_icmp_le X (tgt := 24) dX11_right_18 (by decide) (fun c8 => ?_) (fun c8 => ?_)
      · replace h := h.1 c8
        refine v_aload_n X 0 dX11_right_24 rfl rfl ?_
        obtain ⟨hk9, h⟩ := h
        obtain ⟨r10, hr10, h⟩ := h
        refine v_getR X (T := TX11) (N := 12) (k := 4) hk9 (by decide) rfl (by decide) inX11 wd219 rfl dX11_right_25 hr10 ?_
        refine v_aload_n X 0 dX11_right_28 rfl rfl ?_
        obtain ⟨r11, hr11, h⟩ := h
        refine v_getR X (T := TX11) (N := 12) (k := 2) hk9 (by decide) rfl (by decide) inX11 wd217 rfl dX11_right_29 hr11 ?_
        refine v_iload_n X 1 dX11_right_32 rfl rfl ?_
        refine v_iload_n X 2 dX11_right_33 rfl rfl ?_
        obtain ⟨hk13, h⟩ := h
        refine v_callV X (av := [.ref r11, .int x1, .int x2]) (T := TX2) (N := 2) (s_X2_rightBy l b D cy h) hk13 (by decide) rfl wd685 wd686 wd687 wd60 k_X2_rightBy dn_X2_rightBy rfl ⟨Nat.le_of_ble_eq_true rfl, Nat.le_of_ble_eq_true rfl⟩ (Nat.le_of_ble_eq_true rfl) ⟨Nat.le_of_ble_eq_true rfl, Nat.le_of_ble_eq_true rfl⟩ dX11_right_34 rfl (kI (fun r14 S12 h => ?_))
        exact v_iret X hr hlk ⟨_, rfl, h⟩ dX11_right_37
      · replace h := h.2 c8
        refine v_ldc X wd262 dX11_right_21 ?_
        exact v_iret X hr hlk ⟨_, rfl, h⟩ dX11_right_23
def wp_X8_isTellingBy (Q : Int32 → hp → Prop) (S : hp) (a0 : Nat) (x1 : Int32) (x2 : Int32) : Prop :=
  hK S a0 = 7 ∧ wp_X8_isTelling (fun r3 S1 => ((r3 = 0 → Q (0 : Int32) S1) ∧ (¬ r3 = 0 → hK S1 a0 = 7 ∧ wp_X8_part (fun r7 S5 => ((¬ r7 = x2 → Q (0 : Int32) S5) ∧ (r7 = x2 → Q (1 : Int32) S5))) S1 a0 x1 (1 : Int32)))) S a0 x1
theorem k_X8_isTellingBy : Cond.code yX8_isTellingBy cX8_isTellingBy 3 (some .boolean) ∈ gtb := mg 712 (by decide +kernel) (by decide +kernel)
theorem dn_X8_isTellingBy : yX8_isTellingBy.cls ≠ "java/lang/invoke/MethodHandle" ∧ yX8_isTellingBy.cls ≠ "java/lang/invoke/VarHandle" ∧ (parseMethodDescriptor yX8_isTellingBy.desc).map (fun d => d.parameters.length) = some 2 := by decide +kernel
set_option maxRecDepth 100000 in
set_option maxHeartbeats 4000000 in
theorem s_X8_isTellingBy (l : Launch) (b : Nat) (D : va_G) (cy : Nat → ClassId) {Q : Int32 → hp → Prop} {S : hp} {a0 : Nat} {x1 : Int32} {x2 : Int32} (h : wp_X8_isTellingBy Q S a0 x1 x2) : MT l yX8_isTellingBy cX8_isTellingBy 3 (some .boolean) 2 43 0 0 b D cy S [.ref a0, .int x1, .int x2] (pI Q) := by
  refine MT.of (by decide +kernel) (Nat.le_of_ble_eq_true rfl) ?_
  intro p e s m args below meth c X hr hlk hnm
  unfold wp_X8_isTellingBy at h
  show VM l b D cy 3 2 43 0 0 (pI Q) p e s m args below meth c S 0 0 0 [(0, .ref a0), (1, .int x1), (2, .int x2)] []
  refine v_aload_n X 0 dX8_isTellingBy_0 rfl rfl ?_
  refine v_iload_n X 1 dX8_isTellingBy_1 rfl rfl ?_
  obtain ⟨hk2, h⟩ := h
  refine v_callV X (av := [.int x1]) (T := TX8) (N := 10) (s_X8_isTelling l b D cy h) hk2 (by decide) rfl wd635 wd636 wd637 wd59 k_X8_isTelling dn_X8_isTelling rfl ⟨Nat.le_of_ble_eq_true rfl, Nat.le_of_ble_eq_true rfl⟩ (Nat.le_of_ble_eq_true rfl) ⟨Nat.le_of_ble_eq_true rfl, Nat.le_of_ble_eq_true rfl⟩ dX8_isTellingBy_2 rfl (kI (fun r3 S1 h => ?_))
  refine v_if_eq X (tgt := 22) dX8_isTellingBy_5 (by decide) (fun c4 => ?_) (fun c4 => ?_)
  · replace h := h.1 c4
    refine v_iconst X (v := 0) dX8_isTellingBy_22 (by decide) ?_
    exact v_zret X hr (by decide) hlk ⟨_, rfl, h⟩ dX8_isTellingBy_23
  · replace h := h.2 c4
    refine v_aload_n X 0 dX8_isTellingBy_8 rfl rfl ?_
    refine v_iload_n X 1 dX8_isTellingBy_9 rfl rfl ?_
    refine v_iconst X (v := 1) dX8_isTellingBy_10 (by decide) ?_
    obtain ⟨hk6, h⟩ := h
    refine v_callV X (av := [.int x1, .int (1 : Int32)]) (T := TX8) (N := 10) (s_X8_part l b D cy h) hk6 (by decide) rfl wd614 wd595 wd596 wd59 k_X8_part dn_X8_part rfl ⟨Nat.le_of_ble_eq_true rfl, Nat.le_of_ble_eq_true rfl⟩ (Nat.le_of_ble_eq_true rfl) ⟨Nat.le_of_ble_eq_true rfl, Nat.le_of_ble_eq_true rfl⟩ dX8_isTellingBy_11 rfl (kI (fun r7 S5 h => ?_))
    refine v_iload_n X 2 dX8_isTellingBy_14 rfl rfl ?_
    refine v_icmp_ne X (tgt := 22) dX8_isTellingBy_15 (by decide) (fun c8 => ?_) (fun c8 => ?_)
    · replace h := h.1 c8
      refine v_iconst X (v := 0) dX8_isTellingBy_22 (by decide) ?_
      exact v_zret X hr (by decide) hlk ⟨_, rfl, h⟩ dX8_isTellingBy_23
    · replace h := h.2 c8
      refine v_iconst X (v := 1) dX8_isTellingBy_18 (by decide) ?_
      refine v_goto X (tgt := 23) dX8_isTellingBy_19 (by decide) ?_
      exact v_zret X hr (by decide) hlk ⟨_, rfl, h⟩ dX8_isTellingBy_23
def wB_X2_paddedBy_64 (bk9 : hp → Nat → Int32 → Int32 → Int32 → Int32 → Int32 → Int32 → Prop) (Q : Int32 → hp → Prop) (S : hp) (l0 : Nat) (l1 : Int32) (l2 : Int32) (l3 : Int32) (l4 : Int32) (l5 : Int32) (l6 : Int32) : Prop :=
  ∀ v7 : Int32, v7 = l6 + (1 : Int32) → bk9 S l0 l1 l2 l3 l4 l5 v7
def wB_X2_paddedBy_9 (bk9 : hp → Nat → Int32 → Int32 → Int32 → Int32 → Int32 → Int32 → Prop) (Q : Int32 → hp → Prop) (S : hp) (l0 : Nat) (l1 : Int32) (l2 : Int32) (l3 : Int32) (l4 : Int32) (l5 : Int32) (l6 : Int32) : Prop :=
  hK S l0 = 7 ∧ (((hI S l0 9) ≤ l6 → ((l5 = 0 → Q (-1000000 : Int32) S) ∧ (¬ l5 = 0 → Q l4 S))) ∧ (¬ (hI S l0 9) ≤ l6 → wp_X8_isTellingBy (fun r5 S4 => ((r5 = 0 → wB_X2_paddedBy_64 bk9 Q S4 l0 l1 l2 l3 l4 l5 l6) ∧ (¬ r5 = 0 → hK S4 l0 = 7 ∧ wp_X8_isTellingOf (fun r10 S8 => ((r10 = 0 → wB_X2_paddedBy_64 bk9 Q S8 l0 l1 l2 l3 l4 l5 l6) ∧ (¬ r10 = 0 → hK S8 l0 = 7 ∧ wp_X8_part (fun r14 S12 => ((¬ r14 = l3 → wB_X2_paddedBy_64 bk9 Q S12 l0 l1 l2 l3 l4 l5 l6) ∧ (r14 = l3 → hK S12 l0 = 7 ∧ wp_X8_part (fun r18 S16 => ∀ v19 : Int32, v19 = (l4 + r18) → wB_X2_paddedBy_64 bk9 Q S16 l0 l1 l2 l3 v19 (1 : Int32) l6) S12 l0 l6 (5 : Int32)))) S8 l0 l6 (3 : Int32)))) S4 l0 l6 l2))) S l0 l6 l1))
def wl_X2_paddedBy_9 (Q : Int32 → hp → Prop) : Nat → hp → Nat → Int32 → Int32 → Int32 → Int32 → Int32 → Int32 → Prop
  | 0 => fun _ _ _ _ _ _ _ _ => False
  | n + 1 => wB_X2_paddedBy_9 (wl_X2_paddedBy_9 Q n) Q
def wp_X2_paddedBy (Q : Int32 → hp → Prop) (S : hp) (a0 : Nat) (x1 : Int32) (x2 : Int32) (x3 : Int32) : Prop :=
  ∃ n : Nat, wl_X2_paddedBy_9 Q n S a0 x1 x2 x3 (0 : Int32) (0 : Int32) (0 : Int32)
theorem k_X2_paddedBy : Cond.code yX2_paddedBy cX2_paddedBy 7 (some .int) ∈ gtb := mg 708 (by decide +kernel) (by decide +kernel)
theorem dn_X2_paddedBy : yX2_paddedBy.cls ≠ "java/lang/invoke/MethodHandle" ∧ yX2_paddedBy.cls ≠ "java/lang/invoke/VarHandle" ∧ (parseMethodDescriptor yX2_paddedBy.desc).map (fun d => d.parameters.length) = some 4 := by decide +kernel
set_option maxRecDepth 100000 in
set_option maxHeartbeats 4000000 in
theorem s_X2_paddedBy (l : Launch) (b : Nat) (D : va_G) (cy : Nat → ClassId) {Q : Int32 → hp → Prop} {S : hp} {a0 : Nat} {x1 : Int32} {x2 : Int32} {x3 : Int32} (h : wp_X2_paddedBy Q S a0 x1 x2 x3) : MT l yX2_paddedBy cX2_paddedBy 7 (some .int) 3 65 0 0 b D cy S [.ref a0, .int x1, .int x2, .int x3] (pI Q) := by
  refine MT.of (by decide +kernel) (Nat.le_of_ble_eq_true rfl) ?_
  intro p e s m args below meth c X hr hlk hnm
  have j64 : ∀ (bk9 : hp → Nat → Int32 → Int32 → Int32 → Int32 → Int32 → Int32 → Prop) (hbk9 : ∀ (S : hp) (l0 : Nat) (l1 : Int32) (l2 : Int32) (l3 : Int32) (l4 : Int32) (l5 : Int32) (l6 : Int32), bk9 S l0 l1 l2 l3 l4 l5 l6 → VM l b D cy 7 3 65 0 0 (pI Q) p e s m args below meth c S 0 0 9 [(0, .ref l0), (1, .int l1), (2, .int l2), (3, .int l3), (4, .int l4), (5, .int l5), (6, .int l6)] []) (S : hp) (l0 : Nat) (l1 : Int32) (l2 : Int32) (l3 : Int32) (l4 : Int32) (l5 : Int32) (l6 : Int32), wB_X2_paddedBy_64 bk9 Q S l0 l1 l2 l3 l4 l5 l6 → VM l b D cy 7 3 65 0 0 (pI Q) p e s m args below meth c S 0 0 64 [(0, .ref l0), (1, .int l1), (2, .int l2), (3, .int l3), (4, .int l4), (5, .int l5), (6, .int l6)] [] := by
    intro bk9 hbk9 S l0 l1 l2 l3 l4 l5 l6 h
    unfold wB_X2_paddedBy_64 at h
    obtain ⟨v7, hv7⟩ : ∃ y : Int32, y = l6 + (1 : Int32) := ⟨_, rfl⟩
    replace h := h v7 hv7
    refine v_iinc X (j := 6) (v := v7) (lv' := [(6, .int v7), (0, .ref l0), (1, .int l1), (2, .int l2), (3, .int l3), (4, .int l4), (5, .int l5)]) dX2_paddedBy_64 rfl (by rw [hv7] <;> rfl) (by decide) rfl ?_
    refine v_goto X (tgt := 9) dX2_paddedBy_67 (by decide) ?_
    refine v_lv (lv' := [(0, .ref l0), (1, .int l1), (2, .int l2), (3, .int l3), (4, .int l4), (5, .int l5), (6, .int v7)]) [1, 2, 3, 4, 5, 6, 0] rfl ?_
    exact hbk9 _ _ _ _ _ _ _ _ h
  have j9 : ∀ (bk9 : hp → Nat → Int32 → Int32 → Int32 → Int32 → Int32 → Int32 → Prop) (hbk9 : ∀ (S : hp) (l0 : Nat) (l1 : Int32) (l2 : Int32) (l3 : Int32) (l4 : Int32) (l5 : Int32) (l6 : Int32), bk9 S l0 l1 l2 l3 l4 l5 l6 → VM l b D cy 7 3 65 0 0 (pI Q) p e s m args below meth c S 0 0 9 [(0, .ref l0), (1, .int l1), (2, .int l2), (3, .int l3), (4, .int l4), (5, .int l5), (6, .int l6)] []) (S : hp) (l0 : Nat) (l1 : Int32) (l2 : Int32) (l3 : Int32) (l4 : Int32) (l5 : Int32) (l6 : Int32), wB_X2_paddedBy_9 bk9 Q S l0 l1 l2 l3 l4 l5 l6 → VM l b D cy 7 3 65 0 0 (pI Q) p e s m args below meth c S 0 0 9 [(0, .ref l0), (1, .int l1), (2, .int l2), (3, .int l3), (4, .int l4), (5, .int l5), (6, .int l6)] [] := by
    intro bk9 hbk9 S l0 l1 l2 l3 l4 l5 l6 h
    unfold wB_X2_paddedBy_9 at h
    refine v_iload X 6 dX2_paddedBy_9 rfl ?_
    refine v_aload_n X 0 dX2_paddedBy_11 rfl rfl ?_
    obtain ⟨hk1, h⟩ := h
    refine v_getI X (T := TX8) (N := 10) (k := 9) hk1 (by decide) rfl (by decide) inX8 wd160 rfl dX2_paddedBy_12 ?_
    refine v_icmp_ge X (tgt := 70) dX2_paddedBy_15 (by decide) (fun c2 => ?_) (fun c2 => ?_)
    · replace h := h.1 c2
      refine v_iload X 5 dX2_paddedBy_70 rfl ?_
      refine v_if_eq X (tgt := 80) dX2_paddedBy_72 (by decide) (fun c3 => ?_) (fun c3 => ?_)
      · replace h := h.1 c3
        refine v_ldc X wd662 dX2_paddedBy_80 ?_
        exact v_iret X hr hlk ⟨_, rfl, h⟩ dX2_paddedBy_82
      · replace h := h.2 c3
        refine v_iload X 4 dX2_paddedBy_75 rfl ?_
        refine v_goto X (tgt := 82) dX2_paddedBy_77 (by decide) ?_
        exact v_iret X hr hlk ⟨_, rfl, h⟩ dX2_paddedBy_82
    · replace h := h.2 c2
      refine v_aload_n X 0 dX2_paddedBy_18 rfl rfl ?_
      refine v_iload X 6 dX2_paddedBy_19 rfl ?_
      refine v_iload_n X 1 dX2_paddedBy_21 rfl rfl ?_
      refine v_callV X (av := [.int l6, .int l1]) (T := TX8) (N := 10) (s_X8_isTellingBy l b D cy h) hk1 (by decide) rfl wd709 wd710 wd711 wd59 k_X8_isTellingBy dn_X8_isTellingBy rfl ⟨Nat.le_of_ble_eq_true rfl, Nat.le_of_ble_eq_true rfl⟩ (Nat.le_of_ble_eq_true rfl) ⟨Nat.le_of_ble_eq_true rfl, Nat.le_of_ble_eq_true rfl⟩ dX2_paddedBy_22 rfl (kI (fun r5 S4 h => ?_))
      refine v_if_eq X (tgt := 64) dX2_paddedBy_25 (by decide) (fun c6 => ?_) (fun c6 => ?_)
      · replace h := h.1 c6
        exact j64 bk9 hbk9 _ _ _ _ _ _ _ _ h
      · replace h := h.2 c6
        refine v_aload_n X 0 dX2_paddedBy_28 rfl rfl ?_
        refine v_iload X 6 dX2_paddedBy_29 rfl ?_
        refine v_iload_n X 2 dX2_paddedBy_31 rfl rfl ?_
        obtain ⟨hk9, h⟩ := h
        refine v_callV X (av := [.int l6, .int l2]) (T := TX8) (N := 10) (s_X8_isTellingOf l b D cy h) hk9 (by decide) rfl wd631 wd632 wd633 wd59 k_X8_isTellingOf dn_X8_isTellingOf rfl ⟨Nat.le_of_ble_eq_true rfl, Nat.le_of_ble_eq_true rfl⟩ (Nat.le_of_ble_eq_true rfl) ⟨Nat.le_of_ble_eq_true rfl, Nat.le_of_ble_eq_true rfl⟩ dX2_paddedBy_32 rfl (kI (fun r10 S8 h => ?_))
        refine v_if_eq X (tgt := 64) dX2_paddedBy_35 (by decide) (fun c11 => ?_) (fun c11 => ?_)
        · replace h := h.1 c11
          exact j64 bk9 hbk9 _ _ _ _ _ _ _ _ h
        · replace h := h.2 c11
          refine v_aload_n X 0 dX2_paddedBy_38 rfl rfl ?_
          refine v_iload X 6 dX2_paddedBy_39 rfl ?_
          refine v_iconst X (v := 3) dX2_paddedBy_41 (by decide) ?_
          obtain ⟨hk13, h⟩ := h
          refine v_callV X (av := [.int l6, .int (3 : Int32)]) (T := TX8) (N := 10) (s_X8_part l b D cy h) hk13 (by decide) rfl wd639 wd595 wd596 wd59 k_X8_part dn_X8_part rfl ⟨Nat.le_of_ble_eq_true rfl, Nat.le_of_ble_eq_true rfl⟩ (Nat.le_of_ble_eq_true rfl) ⟨Nat.le_of_ble_eq_true rfl, Nat.le_of_ble_eq_true rfl⟩ dX2_paddedBy_42 rfl (kI (fun r14 S12 h => ?_))
          refine v_iload_n X 3 dX2_paddedBy_45 rfl rfl ?_
          refine v_icmp_ne X (tgt := 64) dX2_paddedBy_46 (by decide) (fun c15 => ?_) (fun c15 => ?_)
          · replace h := h.1 c15
            exact j64 bk9 hbk9 _ _ _ _ _ _ _ _ h
          · replace h := h.2 c15
            refine v_iload X 4 dX2_paddedBy_49 rfl ?_
            refine v_aload_n X 0 dX2_paddedBy_51 rfl rfl ?_
            refine v_iload X 6 dX2_paddedBy_52 rfl ?_
            refine v_iconst X (v := 5) dX2_paddedBy_54 (by decide) ?_
            obtain ⟨hk17, h⟩ := h
            refine v_callV X (av := [.int l6, .int (5 : Int32)]) (T := TX8) (N := 10) (s_X8_part l b D cy h) hk17 (by decide) rfl wd639 wd595 wd596 wd59 k_X8_part dn_X8_part rfl ⟨Nat.le_of_ble_eq_true rfl, Nat.le_of_ble_eq_true rfl⟩ (Nat.le_of_ble_eq_true rfl) ⟨Nat.le_of_ble_eq_true rfl, Nat.le_of_ble_eq_true rfl⟩ dX2_paddedBy_55 rfl (kI (fun r18 S16 h => ?_))
            refine v_iadd X dX2_paddedBy_58 ?_
            refine v_nm (fun v19 hv19 => ?_)
            replace h := h v19 hv19
            refine v_istore X (lv' := [(4, .int v19), (0, .ref l0), (1, .int l1), (2, .int l2), (3, .int l3), (5, .int l5), (6, .int l6)]) dX2_paddedBy_59 (by decide) rfl ?_
            refine v_iconst X (v := 1) dX2_paddedBy_61 (by decide) ?_
            refine v_istore X (lv' := [(5, .int (1 : Int32)), (4, .int v19), (0, .ref l0), (1, .int l1), (2, .int l2), (3, .int l3), (6, .int l6)]) dX2_paddedBy_62 (by decide) rfl ?_
            refine v_lv (lv' := [(0, .ref l0), (1, .int l1), (2, .int l2), (3, .int l3), (4, .int v19), (5, .int (1 : Int32)), (6, .int l6)]) [2, 3, 4, 5, 1, 0, 6] rfl ?_
            exact j64 bk9 hbk9 _ _ _ _ _ _ _ _ h
  have l9 : ∀  (n : Nat) (S : hp) (l0 : Nat) (l1 : Int32) (l2 : Int32) (l3 : Int32) (l4 : Int32) (l5 : Int32) (l6 : Int32), wl_X2_paddedBy_9 Q n S l0 l1 l2 l3 l4 l5 l6 → VM l b D cy 7 3 65 0 0 (pI Q) p e s m args below meth c S 0 0 9 [(0, .ref l0), (1, .int l1), (2, .int l2), (3, .int l3), (4, .int l4), (5, .int l5), (6, .int l6)] [] := by
    intro  n
    induction n with
    | zero => intro S l0 l1 l2 l3 l4 l5 l6 h; exact h.elim
    | succ n ih => intro S l0 l1 l2 l3 l4 l5 l6 h; exact j9 (wl_X2_paddedBy_9 Q n) ih S l0 l1 l2 l3 l4 l5 l6 h
  unfold wp_X2_paddedBy at h
  show VM l b D cy 7 3 65 0 0 (pI Q) p e s m args below meth c S 0 0 0 [(0, .ref a0), (1, .int x1), (2, .int x2), (3, .int x3)] []
  refine v_iconst X (v := 0) dX2_paddedBy_0 (by decide) ?_
  refine v_istore X (lv' := [(4, .int (0 : Int32)), (0, .ref a0), (1, .int x1), (2, .int x2), (3, .int x3)]) dX2_paddedBy_1 (by decide) rfl ?_
  refine v_iconst X (v := 0) dX2_paddedBy_3 (by decide) ?_
  refine v_istore X (lv' := [(5, .int (0 : Int32)), (4, .int (0 : Int32)), (0, .ref a0), (1, .int x1), (2, .int x2), (3, .int x3)]) dX2_paddedBy_4 (by decide) rfl ?_
  refine v_iconst X (v := 0) dX2_paddedBy_6 (by decide) ?_
  refine v_istore X (lv' := [(6, .int (0 : Int32)), (5, .int (0 : Int32)), (4, .int (0 : Int32)), (0, .ref a0), (1, .int x1), (2, .int x2), (3, .int x3)]) dX2_paddedBy_7 (by decide) rfl ?_
  refine v_lv (lv' := [(0, .ref a0), (1, .int x1), (2, .int x2), (3, .int x3), (4, .int (0 : Int32)), (5, .int (0 : Int32)), (6, .int (0 : Int32))]) [3, 4, 5, 6, 2, 1, 0] rfl ?_
  obtain ⟨n, h⟩ := h
  exact l9 n _ _ _ _ _ _ _ _ h
def wB_X2_mostPadding_65 (bk11 : hp → Nat → Int32 → Int32 → Int32 → Int32 → Int32 → Int32 → Prop) (Q : Int32 → hp → Prop) (S : hp) (l1 : Nat) (l2 : Int32) (l3 : Int32) (l4 : Int32) (l5 : Int32) (l6 : Int32) (l7 : Int32) : Prop :=
  ∀ v7 : Int32, v7 = l7 + (1 : Int32) → bk11 S l1 l2 l3 l4 l5 l6 v7
def wB_X2_mostPadding_57 (bk11 : hp → Nat → Int32 → Int32 → Int32 → Int32 → Int32 → Int32 → Prop) (Q : Int32 → hp → Prop) (S : hp) (l1 : Nat) (l2 : Int32) (l3 : Int32) (l4 : Int32) (l7 : Int32) (l8 : Int32) : Prop :=
  wB_X2_mostPadding_65 bk11 Q S l1 l2 l3 l4 l7 l8 l7
def wB_X2_mostPadding_11 (bk11 : hp → Nat → Int32 → Int32 → Int32 → Int32 → Int32 → Int32 → Prop) (Q : Int32 → hp → Prop) (S : hp) (l1 : Nat) (l2 : Int32) (l3 : Int32) (l4 : Int32) (l5 : Int32) (l6 : Int32) (l7 : Int32) : Prop :=
  hK S l1 = 7 ∧ (((hI S l1 8) ≤ l7 → ((¬ l4 = 0 → Q l6 S) ∧ (l4 = 0 → Q l5 S))) ∧ (¬ (hI S l1 8) ≤ l7 → wp_X2_paddedBy (fun r5 S4 => ((r5 = (-1000000 : Int32) → wB_X2_mostPadding_65 bk11 Q S4 l1 l2 l3 l4 l5 l6 l7) ∧ (¬ r5 = (-1000000 : Int32) → ((l5 = (-1000000 : Int32) → wB_X2_mostPadding_57 bk11 Q S4 l1 l2 l3 l4 l7 r5) ∧ (¬ l5 = (-1000000 : Int32) → (((if 0 ≤ r5 then r5 else 0 - r5) ≤ (if 0 ≤ l6 then l6 else 0 - l6) → wB_X2_mostPadding_65 bk11 Q S4 l1 l2 l3 l4 l5 l6 l7) ∧ (¬ (if 0 ≤ r5 then r5 else 0 - r5) ≤ (if 0 ≤ l6 then l6 else 0 - l6) → wB_X2_mostPadding_57 bk11 Q S4 l1 l2 l3 l4 l7 r5))))))) S l1 l7 l2 l3))
def wl_X2_mostPadding_11 (Q : Int32 → hp → Prop) : Nat → hp → Nat → Int32 → Int32 → Int32 → Int32 → Int32 → Int32 → Prop
  | 0 => fun _ _ _ _ _ _ _ _ => False
  | n + 1 => wB_X2_mostPadding_11 (wl_X2_mostPadding_11 Q n) Q
def wp_X2_mostPadding (Q : Int32 → hp → Prop) (S : hp) (a0 : Nat) (a1 : Nat) (x2 : Int32) (x3 : Int32) (x4 : Int32) : Prop :=
  ∃ n : Nat, wl_X2_mostPadding_11 Q n S a1 x2 x3 x4 (-1000000 : Int32) (-1000000 : Int32) (0 : Int32)
theorem k_X2_mostPadding : Cond.code yX2_mostPadding cX2_mostPadding 9 (some .int) ∈ gtb := mg 705 (by decide +kernel) (by decide +kernel)
theorem dn_X2_mostPadding : yX2_mostPadding.cls ≠ "java/lang/invoke/MethodHandle" ∧ yX2_mostPadding.cls ≠ "java/lang/invoke/VarHandle" ∧ (parseMethodDescriptor yX2_mostPadding.desc).map (fun d => d.parameters.length) = some 4 := by decide +kernel
set_option maxRecDepth 100000 in
set_option maxHeartbeats 4000000 in
theorem s_X2_mostPadding (l : Launch) (b : Nat) (D : va_G) (cy : Nat → ClassId) {Q : Int32 → hp → Prop} {S : hp} {a0 : Nat} {a1 : Nat} {x2 : Int32} {x3 : Int32} {x4 : Int32} (h : wp_X2_mostPadding Q S a0 a1 x2 x3 x4) : MT l yX2_mostPadding cX2_mostPadding 9 (some .int) 4 91 0 0 b D cy S [.ref a0, .ref a1, .int x2, .int x3, .int x4] (pI Q) := by
  refine MT.of (by decide +kernel) (Nat.le_of_ble_eq_true rfl) ?_
  intro p e s m args below meth c X hr hlk hnm
  have j65 : ∀ (bk11 : hp → Nat → Int32 → Int32 → Int32 → Int32 → Int32 → Int32 → Prop) (hbk11 : ∀ (S : hp) (l1 : Nat) (l2 : Int32) (l3 : Int32) (l4 : Int32) (l5 : Int32) (l6 : Int32) (l7 : Int32), bk11 S l1 l2 l3 l4 l5 l6 l7 → VM l b D cy 9 4 91 0 0 (pI Q) p e s m args below meth c S 0 0 11 [(1, .ref l1), (2, .int l2), (3, .int l3), (4, .int l4), (5, .int l5), (6, .int l6), (7, .int l7)] []) (S : hp) (l1 : Nat) (l2 : Int32) (l3 : Int32) (l4 : Int32) (l5 : Int32) (l6 : Int32) (l7 : Int32), wB_X2_mostPadding_65 bk11 Q S l1 l2 l3 l4 l5 l6 l7 → VM l b D cy 9 4 91 0 0 (pI Q) p e s m args below meth c S 0 0 65 [(1, .ref l1), (2, .int l2), (3, .int l3), (4, .int l4), (5, .int l5), (6, .int l6), (7, .int l7)] [] := by
    intro bk11 hbk11 S l1 l2 l3 l4 l5 l6 l7 h
    unfold wB_X2_mostPadding_65 at h
    obtain ⟨v7, hv7⟩ : ∃ y : Int32, y = l7 + (1 : Int32) := ⟨_, rfl⟩
    replace h := h v7 hv7
    refine v_iinc X (j := 6) (v := v7) (lv' := [(7, .int v7), (1, .ref l1), (2, .int l2), (3, .int l3), (4, .int l4), (5, .int l5), (6, .int l6)]) dX2_mostPadding_65 rfl (by rw [hv7] <;> rfl) (by decide) rfl ?_
    refine v_goto X (tgt := 11) dX2_mostPadding_68 (by decide) ?_
    refine v_lv (lv' := [(1, .ref l1), (2, .int l2), (3, .int l3), (4, .int l4), (5, .int l5), (6, .int l6), (7, .int v7)]) [1, 2, 3, 4, 5, 6, 0] rfl ?_
    exact hbk11 _ _ _ _ _ _ _ _ h
  have j57 : ∀ (bk11 : hp → Nat → Int32 → Int32 → Int32 → Int32 → Int32 → Int32 → Prop) (hbk11 : ∀ (S : hp) (l1 : Nat) (l2 : Int32) (l3 : Int32) (l4 : Int32) (l5 : Int32) (l6 : Int32) (l7 : Int32), bk11 S l1 l2 l3 l4 l5 l6 l7 → VM l b D cy 9 4 91 0 0 (pI Q) p e s m args below meth c S 0 0 11 [(1, .ref l1), (2, .int l2), (3, .int l3), (4, .int l4), (5, .int l5), (6, .int l6), (7, .int l7)] []) (S : hp) (l1 : Nat) (l2 : Int32) (l3 : Int32) (l4 : Int32) (l7 : Int32) (l8 : Int32), wB_X2_mostPadding_57 bk11 Q S l1 l2 l3 l4 l7 l8 → VM l b D cy 9 4 91 0 0 (pI Q) p e s m args below meth c S 0 0 57 [(1, .ref l1), (2, .int l2), (3, .int l3), (4, .int l4), (7, .int l7), (8, .int l8)] [] := by
    intro bk11 hbk11 S l1 l2 l3 l4 l7 l8 h
    unfold wB_X2_mostPadding_57 at h
    refine v_iload X 4 dX2_mostPadding_57 rfl ?_
    refine v_istore X (lv' := [(5, .int l7), (1, .ref l1), (2, .int l2), (3, .int l3), (4, .int l4), (7, .int l7), (8, .int l8)]) dX2_mostPadding_59 (by decide) rfl ?_
    refine v_iload X 6 dX2_mostPadding_61 rfl ?_
    refine v_istore X (lv' := [(6, .int l8), (5, .int l7), (1, .ref l1), (2, .int l2), (3, .int l3), (4, .int l4), (7, .int l7), (8, .int l8)]) dX2_mostPadding_63 (by decide) rfl ?_
    refine v_lv (lv' := [(1, .ref l1), (2, .int l2), (3, .int l3), (4, .int l4), (5, .int l7), (6, .int l8), (7, .int l7)]) [2, 3, 4, 5, 1, 0, 6] rfl ?_
    exact j65 bk11 hbk11 _ _ _ _ _ _ _ _ h
  have j11 : ∀ (bk11 : hp → Nat → Int32 → Int32 → Int32 → Int32 → Int32 → Int32 → Prop) (hbk11 : ∀ (S : hp) (l1 : Nat) (l2 : Int32) (l3 : Int32) (l4 : Int32) (l5 : Int32) (l6 : Int32) (l7 : Int32), bk11 S l1 l2 l3 l4 l5 l6 l7 → VM l b D cy 9 4 91 0 0 (pI Q) p e s m args below meth c S 0 0 11 [(1, .ref l1), (2, .int l2), (3, .int l3), (4, .int l4), (5, .int l5), (6, .int l6), (7, .int l7)] []) (S : hp) (l1 : Nat) (l2 : Int32) (l3 : Int32) (l4 : Int32) (l5 : Int32) (l6 : Int32) (l7 : Int32), wB_X2_mostPadding_11 bk11 Q S l1 l2 l3 l4 l5 l6 l7 → VM l b D cy 9 4 91 0 0 (pI Q) p e s m args below meth c S 0 0 11 [(1, .ref l1), (2, .int l2), (3, .int l3), (4, .int l4), (5, .int l5), (6, .int l6), (7, .int l7)] [] := by
    intro bk11 hbk11 S l1 l2 l3 l4 l5 l6 l7 h
    unfold wB_X2_mostPadding_11 at h
    refine v_iload X 6 dX2_mostPadding_11 rfl ?_
    refine v_aload_n X 0 dX2_mostPadding_13 rfl rfl ?_
    obtain ⟨hk1, h⟩ := h
    refine v_getI X (T := TX8) (N := 10) (k := 8) hk1 (by decide) rfl (by decide) inX8 wd157 rfl dX2_mostPadding_14 ?_
    refine v_icmp_ge X (tgt := 71) dX2_mostPadding_17 (by decide) (fun c2 => ?_) (fun c2 => ?_)
    · replace h := h.1 c2
      refine v_iload X 3 dX2_mostPadding_71 rfl ?_
      refine v_if_ne X (tgt := 81) dX2_mostPadding_73 (by decide) (fun c3 => ?_) (fun c3 => ?_)
      · replace h := h.1 c3
        refine v_iload X 5 dX2_mostPadding_81 rfl ?_
        exact v_iret X hr hlk ⟨_, rfl, h⟩ dX2_mostPadding_83
      · replace h := h.2 c3
        refine v_iload X 4 dX2_mostPadding_76 rfl ?_
        refine v_goto X (tgt := 83) dX2_mostPadding_78 (by decide) ?_
        exact v_iret X hr hlk ⟨_, rfl, h⟩ dX2_mostPadding_83
    · replace h := h.2 c2
      refine v_aload_n X 0 dX2_mostPadding_20 rfl rfl ?_
      refine v_iload X 6 dX2_mostPadding_21 rfl ?_
      refine v_iload_n X 1 dX2_mostPadding_23 rfl rfl ?_
      refine v_iload_n X 2 dX2_mostPadding_24 rfl rfl ?_
      refine v_callS X (av := [.ref l1, .int l7, .int l2, .int l3]) (s_X2_paddedBy l b D cy h) wd706 wd707 wd60 k_X2_paddedBy dn_X2_paddedBy rfl ⟨Nat.le_of_ble_eq_true rfl, Nat.le_of_ble_eq_true rfl⟩ (Nat.le_of_ble_eq_true rfl) ⟨Nat.le_of_ble_eq_true rfl, Nat.le_of_ble_eq_true rfl⟩ dX2_mostPadding_25 rfl (kI (fun r5 S4 h => ?_))
      refine v_istore X (lv' := [(8, .int r5), (1, .ref l1), (2, .int l2), (3, .int l3), (4, .int l4), (5, .int l5), (6, .int l6), (7, .int l7)]) dX2_mostPadding_28 (by decide) rfl ?_
      refine v_iload X 0 dX2_mostPadding_30 rfl ?_
      refine v_ldc X wd662 dX2_mostPadding_32 ?_
      refine v_icmp_eq X (tgt := 65) dX2_mostPadding_34 (by decide) (fun c6 => ?_) (fun c6 => ?_)
      · replace h := h.1 c6
        refine v_lv (lv' := [(1, .ref l1), (2, .int l2), (3, .int l3), (4, .int l4), (5, .int l5), (6, .int l6), (7, .int l7)]) [1, 2, 3, 4, 5, 6, 7] rfl ?_
        exact j65 bk11 hbk11 _ _ _ _ _ _ _ _ h
      · replace h := h.2 c6
        refine v_iload X 5 dX2_mostPadding_37 rfl ?_
        refine v_ldc X wd662 dX2_mostPadding_39 ?_
        refine v_icmp_eq X (tgt := 57) dX2_mostPadding_41 (by decide) (fun c8 => ?_) (fun c8 => ?_)
        · replace h := h.1 c8
          refine v_lv (lv' := [(1, .ref l1), (2, .int l2), (3, .int l3), (4, .int l4), (7, .int l7), (8, .int r5)]) [1, 2, 3, 4, 7, 0] rfl ?_
          exact j57 bk11 hbk11 _ _ _ _ _ _ _ h
        · replace h := h.2 c8
          refine v_iload X 0 dX2_mostPadding_44 rfl ?_
          refine v_mabs X wd713 wd522 wd71 wd523 (Nat.le_of_ble_eq_true rfl) (Nat.le_of_ble_eq_true rfl) (Nat.le_of_ble_eq_true rfl) (Nat.le_of_ble_eq_true rfl) dX2_mostPadding_46 ?_
          refine v_iload X 6 dX2_mostPadding_49 rfl ?_
          refine v_mabs X wd713 wd522 wd71 wd523 (Nat.le_of_ble_eq_true rfl) (Nat.le_of_ble_eq_true rfl) (Nat.le_of_ble_eq_true rfl) (Nat.le_of_ble_eq_true rfl) dX2_mostPadding_51 ?_
          refine v_icmp_le X (tgt := 65) dX2_mostPadding_54 (by decide) (fun c9 => ?_) (fun c9 => ?_)
          · replace h := h.1 c9
            refine v_lv (lv' := [(1, .ref l1), (2, .int l2), (3, .int l3), (4, .int l4), (5, .int l5), (6, .int l6), (7, .int l7)]) [1, 2, 3, 4, 5, 6, 7] rfl ?_
            exact j65 bk11 hbk11 _ _ _ _ _ _ _ _ h
          · replace h := h.2 c9
            refine v_lv (lv' := [(1, .ref l1), (2, .int l2), (3, .int l3), (4, .int l4), (7, .int l7), (8, .int r5)]) [1, 2, 3, 4, 7, 0] rfl ?_
            exact j57 bk11 hbk11 _ _ _ _ _ _ _ h
  have l11 : ∀  (n : Nat) (S : hp) (l1 : Nat) (l2 : Int32) (l3 : Int32) (l4 : Int32) (l5 : Int32) (l6 : Int32) (l7 : Int32), wl_X2_mostPadding_11 Q n S l1 l2 l3 l4 l5 l6 l7 → VM l b D cy 9 4 91 0 0 (pI Q) p e s m args below meth c S 0 0 11 [(1, .ref l1), (2, .int l2), (3, .int l3), (4, .int l4), (5, .int l5), (6, .int l6), (7, .int l7)] [] := by
    intro  n
    induction n with
    | zero => intro S l1 l2 l3 l4 l5 l6 l7 h; exact h.elim
    | succ n ih => intro S l1 l2 l3 l4 l5 l6 l7 h; exact j11 (wl_X2_mostPadding_11 Q n) ih S l1 l2 l3 l4 l5 l6 l7 h
  unfold wp_X2_mostPadding at h
  show VM l b D cy 9 4 91 0 0 (pI Q) p e s m args below meth c S 0 0 0 [(0, .ref a0), (1, .ref a1), (2, .int x2), (3, .int x3), (4, .int x4)] []
  refine v_ldc X wd662 dX2_mostPadding_0 ?_
  refine v_istore X (lv' := [(5, .int (-1000000 : Int32)), (0, .ref a0), (1, .ref a1), (2, .int x2), (3, .int x3), (4, .int x4)]) dX2_mostPadding_2 (by decide) rfl ?_
  refine v_ldc X wd662 dX2_mostPadding_4 ?_
  refine v_istore X (lv' := [(6, .int (-1000000 : Int32)), (5, .int (-1000000 : Int32)), (0, .ref a0), (1, .ref a1), (2, .int x2), (3, .int x3), (4, .int x4)]) dX2_mostPadding_6 (by decide) rfl ?_
  refine v_iconst X (v := 0) dX2_mostPadding_8 (by decide) ?_
  refine v_istore X (lv' := [(7, .int (0 : Int32)), (6, .int (-1000000 : Int32)), (5, .int (-1000000 : Int32)), (0, .ref a0), (1, .ref a1), (2, .int x2), (3, .int x3), (4, .int x4)]) dX2_mostPadding_9 (by decide) rfl ?_
  refine v_lv (lv' := [(1, .ref a1), (2, .int x2), (3, .int x3), (4, .int x4), (5, .int (-1000000 : Int32)), (6, .int (-1000000 : Int32)), (7, .int (0 : Int32))]) [4, 5, 6, 7, 2, 1, 0] rfl ?_
  obtain ⟨n, h⟩ := h
  exact l11 n _ _ _ _ _ _ _ _ h
def wp_X11_most (Q : Int32 → hp → Prop) (S : hp) (a0 : Nat) (x1 : Int32) (x2 : Int32) (x3 : Int32) : Prop :=
  hK S a0 = 10 ∧ ∃ r2 : Nat, hR S a0 2 = some r2 ∧ hK S r2 = 7 ∧ wp_X8_hasPlace (fun r5 S3 => ((r5 = 0 → Q (-1000001 : Int32) S3) ∧ (¬ r5 = 0 → wp_X11_isFirstOrSecond (fun r8 S7 => ((¬ r8 = 0 → hK S7 a0 = 10 ∧ ∃ r11 : Nat, hR S7 a0 4 = some r11 ∧ ∃ r12 : Nat, hR S7 a0 2 = some r12 ∧ hK S7 r11 = 2 ∧ wp_X2_mostPadding (fun r15 S13 => Q r15 S13) S7 r11 r12 x1 x2 x3) ∧ (r8 = 0 → Q (-1000001 : Int32) S7))) S3 x3))) S r2 x1 x2
theorem k_X11_most : Cond.code yX11_most cX11_most 4 (some .int) ∈ gtb := mg 701 (by decide +kernel) (by decide +kernel)
theorem dn_X11_most : yX11_most.cls ≠ "java/lang/invoke/MethodHandle" ∧ yX11_most.cls ≠ "java/lang/invoke/VarHandle" ∧ (parseMethodDescriptor yX11_most.desc).map (fun d => d.parameters.length) = some 3 := by decide +kernel
set_option maxRecDepth 100000 in
set_option maxHeartbeats 4000000 in
theorem s_X11_most (l : Launch) (b : Nat) (D : va_G) (cy : Nat → ClassId) {Q : Int32 → hp → Prop} {S : hp} {a0 : Nat} {x1 : Int32} {x2 : Int32} {x3 : Int32} (h : wp_X11_most Q S a0 x1 x2 x3) : MT l yX11_most cX11_most 4 (some .int) 5 119 0 0 b D cy S [.ref a0, .int x1, .int x2, .int x3] (pI Q) := by
  refine MT.of (by decide +kernel) (Nat.le_of_ble_eq_true rfl) ?_
  intro p e s m args below meth c X hr hlk hnm
  unfold wp_X11_most at h
  show VM l b D cy 4 5 119 0 0 (pI Q) p e s m args below meth c S 0 0 0 [(0, .ref a0), (1, .int x1), (2, .int x2), (3, .int x3)] []
  refine v_aload_n X 0 dX11_most_0 rfl rfl ?_
  obtain ⟨hk1, h⟩ := h
  obtain ⟨r2, hr2, h⟩ := h
  refine v_getR X (T := TX11) (N := 12) (k := 2) hk1 (by decide) rfl (by decide) inX11 wd217 rfl dX11_most_1 hr2 ?_
  refine v_iload_n X 1 dX11_most_4 rfl rfl ?_
  refine v_iload_n X 2 dX11_most_5 rfl rfl ?_
  obtain ⟨hk4, h⟩ := h
  refine v_callV X (av := [.int x1, .int x2]) (T := TX8) (N := 10) (s_X8_hasPlace l b D cy h) hk4 (by decide) rfl wd483 wd484 wd485 wd59 k_X8_hasPlace dn_X8_hasPlace rfl ⟨Nat.le_of_ble_eq_true rfl, Nat.le_of_ble_eq_true rfl⟩ (Nat.le_of_ble_eq_true rfl) ⟨Nat.le_of_ble_eq_true rfl, Nat.le_of_ble_eq_true rfl⟩ dX11_most_6 rfl (kI (fun r5 S3 h => ?_))
  refine v_if_eq X (tgt := 19) dX11_most_9 (by decide) (fun c6 => ?_) (fun c6 => ?_)
  · replace h := h.1 c6
    refine v_ldc X wd262 dX11_most_19 ?_
    exact v_iret X hr hlk ⟨_, rfl, h⟩ dX11_most_21
  · replace h := h.2 c6
    refine v_iload_n X 3 dX11_most_12 rfl rfl ?_
    refine v_callS X (av := [.int x3]) (s_X11_isFirstOrSecond l b D cy h) wd619 wd620 wd56 k_X11_isFirstOrSecond dn_X11_isFirstOrSecond rfl ⟨Nat.le_of_ble_eq_true rfl, Nat.le_of_ble_eq_true rfl⟩ (Nat.le_of_ble_eq_true rfl) ⟨Nat.le_of_ble_eq_true rfl, Nat.le_of_ble_eq_true rfl⟩ dX11_most_13 rfl (kI (fun r8 S7 h => ?_))
    refine v_if_ne X (tgt := 22) dX11_most_16 (by decide) (fun c9 => ?_) (fun c9 => ?_)
    · replace h := h.1 c9
      refine v_aload_n X 0 dX11_most_22 rfl rfl ?_
      obtain ⟨hk10, h⟩ := h
      obtain ⟨r11, hr11, h⟩ := h
      refine v_getR X (T := TX11) (N := 12) (k := 4) hk10 (by decide) rfl (by decide) inX11 wd219 rfl dX11_most_23 hr11 ?_
      refine v_aload_n X 0 dX11_most_26 rfl rfl ?_
      obtain ⟨r12, hr12, h⟩ := h
      refine v_getR X (T := TX11) (N := 12) (k := 2) hk10 (by decide) rfl (by decide) inX11 wd217 rfl dX11_most_27 hr12 ?_
      refine v_iload_n X 1 dX11_most_30 rfl rfl ?_
      refine v_iload_n X 2 dX11_most_31 rfl rfl ?_
      refine v_iload_n X 3 dX11_most_32 rfl rfl ?_
      obtain ⟨hk14, h⟩ := h
      refine v_callV X (av := [.ref r12, .int x1, .int x2, .int x3]) (T := TX2) (N := 2) (s_X2_mostPadding l b D cy h) hk14 (by decide) rfl wd702 wd703 wd704 wd60 k_X2_mostPadding dn_X2_mostPadding rfl ⟨Nat.le_of_ble_eq_true rfl, Nat.le_of_ble_eq_true rfl⟩ (Nat.le_of_ble_eq_true rfl) ⟨Nat.le_of_ble_eq_true rfl, Nat.le_of_ble_eq_true rfl⟩ dX11_most_33 rfl (kI (fun r15 S13 h => ?_))
      exact v_iret X hr hlk ⟨_, rfl, h⟩ dX11_most_36
    · replace h := h.2 c9
      refine v_ldc X wd262 dX11_most_19 ?_
      exact v_iret X hr hlk ⟨_, rfl, h⟩ dX11_most_21
def wB_X2_gives_39 (bk3 : hp → Nat → Int32 → Int32 → Nat → Int32 → Int32 → Int32 → Prop) (bk39 : hp → Nat → Int32 → Int32 → Nat → Int32 → Int32 → Int32 → Int32 → Int32 → Prop) (Q : Int32 → hp → Prop) (S : hp) (l0 : Nat) (l1 : Int32) (l2 : Int32) (l3 : Nat) (l4 : Int32) (l5 : Int32) (l6 : Int32) (l7 : Int32) (l8 : Int32) : Prop :=
  (((3 : Int32) ≤ l8 → ∀ v6 : Int32, v6 = l6 + (1 : Int32) → bk3 S l0 l1 l2 l3 l4 l5 v6) ∧ (¬ (3 : Int32) ≤ l8 → wp_X8_at (fun r8 S7 => hK S7 l3 = 5 ∧ wp_X6_item (fun r11 S9 => hK S9 l0 = 7 ∧ ∃ r13 : Nat, hR S9 l0 0 = some r13 ∧ wp_X8_at (fun r15 S14 => hK S14 r13 = 12 ∧ vp_in r15 (hN S14 r13) ∧ (((hI S14 r13 (r15).toNatClampNeg) = r11 → ∀ v19 : Int32, v19 = l8 + (1 : Int32) → bk39 S14 l0 l1 l2 l3 l4 l5 l6 l7 v19) ∧ (¬ (hI S14 r13 (r15).toNatClampNeg) = r11 → Q (0 : Int32) S14))) S9 l7 l8) S7 l3 l4 ((l5 + r8))) S l6 l8))
def wl_X2_gives_39 (bk3 : hp → Nat → Int32 → Int32 → Nat → Int32 → Int32 → Int32 → Prop) (Q : Int32 → hp → Prop) : Nat → hp → Nat → Int32 → Int32 → Nat → Int32 → Int32 → Int32 → Int32 → Int32 → Prop
  | 0 => fun _ _ _ _ _ _ _ _ _ _ => False
  | n + 1 => wB_X2_gives_39 bk3 (wl_X2_gives_39 bk3 Q n) Q
def wB_X2_gives_34 (bk3 : hp → Nat → Int32 → Int32 → Nat → Int32 → Int32 → Int32 → Prop) (Q : Int32 → hp → Prop) (S : hp) (l0 : Nat) (l1 : Int32) (l2 : Int32) (l3 : Nat) (l4 : Int32) (l5 : Int32) (l6 : Int32) (k0 : Int32) : Prop :=
  ∃ n : Nat, wl_X2_gives_39 bk3 Q n S l0 l1 l2 l3 l4 l5 l6 k0 (0 : Int32)
def wB_X2_gives_3 (bk3 : hp → Nat → Int32 → Int32 → Nat → Int32 → Int32 → Int32 → Prop) (Q : Int32 → hp → Prop) (S : hp) (l0 : Nat) (l1 : Int32) (l2 : Int32) (l3 : Nat) (l4 : Int32) (l5 : Int32) (l6 : Int32) : Prop :=
  hK S l0 = 7 ∧ (((hI S l0 7) ≤ l6 → Q (1 : Int32) S) ∧ (¬ (hI S l0 7) ≤ l6 → ((¬ l6 = l1 → ((¬ l6 = l2 → wB_X2_gives_34 bk3 Q S l0 l1 l2 l3 l4 l5 l6 l6) ∧ (l6 = l2 → wB_X2_gives_34 bk3 Q S l0 l1 l2 l3 l4 l5 l6 l1))) ∧ (l6 = l1 → wB_X2_gives_34 bk3 Q S l0 l1 l2 l3 l4 l5 l6 l2))))
def wl_X2_gives_3 (Q : Int32 → hp → Prop) : Nat → hp → Nat → Int32 → Int32 → Nat → Int32 → Int32 → Int32 → Prop
  | 0 => fun _ _ _ _ _ _ _ _ => False
  | n + 1 => wB_X2_gives_3 (wl_X2_gives_3 Q n) Q
def wp_X2_gives (Q : Int32 → hp → Prop) (S : hp) (a0 : Nat) (x1 : Int32) (x2 : Int32) (a3 : Nat) (x4 : Int32) (x5 : Int32) : Prop :=
  ∃ n : Nat, wl_X2_gives_3 Q n S a0 x1 x2 a3 x4 x5 (0 : Int32)
theorem k_X2_gives : Cond.code yX2_gives cX2_gives 10 (some .boolean) ∈ gtb := mg 724 (by decide +kernel) (by decide +kernel)
theorem dn_X2_gives : yX2_gives.cls ≠ "java/lang/invoke/MethodHandle" ∧ yX2_gives.cls ≠ "java/lang/invoke/VarHandle" ∧ (parseMethodDescriptor yX2_gives.desc).map (fun d => d.parameters.length) = some 6 := by decide +kernel
set_option maxRecDepth 100000 in
set_option maxHeartbeats 4000000 in
theorem s_X2_gives (l : Launch) (b : Nat) (D : va_G) (cy : Nat → ClassId) {Q : Int32 → hp → Prop} {S : hp} {a0 : Nat} {x1 : Int32} {x2 : Int32} {a3 : Nat} {x4 : Int32} {x5 : Int32} (h : wp_X2_gives Q S a0 x1 x2 a3 x4 x5) : MT l yX2_gives cX2_gives 10 (some .boolean) 1 22 0 0 b D cy S [.ref a0, .int x1, .int x2, .ref a3, .int x4, .int x5] (pI Q) := by
  refine MT.of (by decide +kernel) (Nat.le_of_ble_eq_true rfl) ?_
  intro p e s m args below meth c X hr hlk hnm
  have j39 : ∀ (bk3 : hp → Nat → Int32 → Int32 → Nat → Int32 → Int32 → Int32 → Prop) (hbk3 : ∀ (S : hp) (l0 : Nat) (l1 : Int32) (l2 : Int32) (l3 : Nat) (l4 : Int32) (l5 : Int32) (l6 : Int32), bk3 S l0 l1 l2 l3 l4 l5 l6 → VM l b D cy 10 1 22 0 0 (pI Q) p e s m args below meth c S 0 0 3 [(0, .ref l0), (1, .int l1), (2, .int l2), (3, .ref l3), (4, .int l4), (5, .int l5), (6, .int l6)] []) (bk39 : hp → Nat → Int32 → Int32 → Nat → Int32 → Int32 → Int32 → Int32 → Int32 → Prop) (hbk39 : ∀ (S : hp) (l0 : Nat) (l1 : Int32) (l2 : Int32) (l3 : Nat) (l4 : Int32) (l5 : Int32) (l6 : Int32) (l7 : Int32) (l8 : Int32), bk39 S l0 l1 l2 l3 l4 l5 l6 l7 l8 → VM l b D cy 10 1 22 0 0 (pI Q) p e s m args below meth c S 0 0 39 [(0, .ref l0), (1, .int l1), (2, .int l2), (3, .ref l3), (4, .int l4), (5, .int l5), (6, .int l6), (7, .int l7), (8, .int l8)] []) (S : hp) (l0 : Nat) (l1 : Int32) (l2 : Int32) (l3 : Nat) (l4 : Int32) (l5 : Int32) (l6 : Int32) (l7 : Int32) (l8 : Int32), wB_X2_gives_39 bk3 bk39 Q S l0 l1 l2 l3 l4 l5 l6 l7 l8 → VM l b D cy 10 1 22 0 0 (pI Q) p e s m args below meth c S 0 0 39 [(0, .ref l0), (1, .int l1), (2, .int l2), (3, .ref l3), (4, .int l4), (5, .int l5), (6, .int l6), (7, .int l7), (8, .int l8)] [] := by
    intro bk3 hbk3 bk39 hbk39 S l0 l1 l2 l3 l4 l5 l6 l7 l8 h
    unfold wB_X2_gives_39 at h
    refine v_iload X 8 dX2_gives_39 rfl ?_
    refine v_iconst X (v := 3) dX2_gives_41 (by decide) ?_
    refine v_icmp_ge X (tgt := 88) dX2_gives_42 (by decide) (fun c5 => ?_) (fun c5 => ?_)
    · replace h := h.1 c5
      obtain ⟨v6, hv6⟩ : ∃ y : Int32, y = l6 + (1 : Int32) := ⟨_, rfl⟩
      replace h := h v6 hv6
      refine v_iinc X (j := 6) (v := v6) (lv' := [(6, .int v6), (0, .ref l0), (1, .int l1), (2, .int l2), (3, .ref l3), (4, .int l4), (5, .int l5), (7, .int l7), (8, .int l8)]) dX2_gives_88 rfl (by rw [hv6] <;> rfl) (by decide) rfl ?_
      refine v_goto X (tgt := 3) dX2_gives_91 (by decide) ?_
      refine v_lv (lv' := [(0, .ref l0), (1, .int l1), (2, .int l2), (3, .ref l3), (4, .int l4), (5, .int l5), (6, .int v6)]) [1, 2, 3, 4, 5, 6, 0] rfl ?_
      exact hbk3 _ _ _ _ _ _ _ _ h
    · replace h := h.2 c5
      refine v_aload_n X 3 dX2_gives_45 rfl rfl ?_
      refine v_iload X 4 dX2_gives_46 rfl ?_
      refine v_iload X 5 dX2_gives_48 rfl ?_
      refine v_iload X 6 dX2_gives_50 rfl ?_
      refine v_iload X 8 dX2_gives_52 rfl ?_
      refine v_callS X (av := [.int l6, .int l8]) (s_X8_at l b D cy h) wd640 wd384 wd59 k_X8_at dn_X8_at rfl ⟨Nat.le_of_ble_eq_true rfl, Nat.le_of_ble_eq_true rfl⟩ (Nat.le_of_ble_eq_true rfl) ⟨Nat.le_of_ble_eq_true rfl, Nat.le_of_ble_eq_true rfl⟩ dX2_gives_54 rfl (kI (fun r8 S7 h => ?_))
      refine v_iadd X dX2_gives_57 ?_
      obtain ⟨hk10, h⟩ := h
      refine v_callV X (av := [.int l4, .int (l5 + r8)]) (T := TX6) (N := 4) (s_X6_item l b D cy h) hk10 (by decide) rfl wd648 wd649 wd650 wd57 k_X6_item dn_X6_item rfl ⟨Nat.le_of_ble_eq_true rfl, Nat.le_of_ble_eq_true rfl⟩ (Nat.le_of_ble_eq_true rfl) ⟨Nat.le_of_ble_eq_true rfl, Nat.le_of_ble_eq_true rfl⟩ dX2_gives_58 rfl (kI (fun r11 S9 h => ?_))
      refine v_istore X (lv' := [(9, .int r11), (0, .ref l0), (1, .int l1), (2, .int l2), (3, .ref l3), (4, .int l4), (5, .int l5), (6, .int l6), (7, .int l7), (8, .int l8)]) dX2_gives_61 (by decide) rfl ?_
      refine v_aload_n X 1 dX2_gives_63 rfl rfl ?_
      obtain ⟨hk12, h⟩ := h
      obtain ⟨r13, hr13, h⟩ := h
      refine v_getR X (T := TX8) (N := 10) (k := 0) hk12 (by decide) rfl (by decide) inX8 wd142 rfl dX2_gives_64 hr13 ?_
      refine v_iload X 8 dX2_gives_67 rfl ?_
      refine v_iload X 9 dX2_gives_69 rfl ?_
      refine v_callS X (av := [.int l7, .int l8]) (s_X8_at l b D cy h) wd640 wd384 wd59 k_X8_at dn_X8_at rfl ⟨Nat.le_of_ble_eq_true rfl, Nat.le_of_ble_eq_true rfl⟩ (Nat.le_of_ble_eq_true rfl) ⟨Nat.le_of_ble_eq_true rfl, Nat.le_of_ble_eq_true rfl⟩ dX2_gives_71 rfl (kI (fun r15 S14 h => ?_))
      obtain ⟨hk16, h⟩ := h
      obtain ⟨hi17, h⟩ := h
      refine v_iald X hk16 hi17 dX2_gives_74 ?_
      refine v_iload X 0 dX2_gives_75 rfl ?_
      refine v_icmp_eq X (tgt := 82) dX2_gives_77 (by decide) (fun c18 => ?_) (fun c18 => ?_)
      · replace h := h.1 c18
        obtain ⟨v19, hv19⟩ : ∃ y : Int32, y = l8 + (1 : Int32) := ⟨_, rfl⟩
        replace h := h v19 hv19
        refine v_iinc X (j := 9) (v := v19) (lv' := [(8, .int v19), (9, .int r11), (0, .ref l0), (1, .int l1), (2, .int l2), (3, .ref l3), (4, .int l4), (5, .int l5), (6, .int l6), (7, .int l7)]) dX2_gives_82 rfl (by rw [hv19] <;> rfl) (by decide) rfl ?_
        refine v_goto X (tgt := 39) dX2_gives_85 (by decide) ?_
        refine v_lv (lv' := [(0, .ref l0), (1, .int l1), (2, .int l2), (3, .ref l3), (4, .int l4), (5, .int l5), (6, .int l6), (7, .int l7), (8, .int v19)]) [2, 3, 4, 5, 6, 7, 8, 9, 0] rfl ?_
        exact hbk39 _ _ _ _ _ _ _ _ _ _ h
      · replace h := h.2 c18
        refine v_iconst X (v := 0) dX2_gives_80 (by decide) ?_
        exact v_zret X hr (by decide) hlk ⟨_, rfl, h⟩ dX2_gives_81
  have l39 : ∀ (bk3 : hp → Nat → Int32 → Int32 → Nat → Int32 → Int32 → Int32 → Prop) (hbk3 : ∀ (S : hp) (l0 : Nat) (l1 : Int32) (l2 : Int32) (l3 : Nat) (l4 : Int32) (l5 : Int32) (l6 : Int32), bk3 S l0 l1 l2 l3 l4 l5 l6 → VM l b D cy 10 1 22 0 0 (pI Q) p e s m args below meth c S 0 0 3 [(0, .ref l0), (1, .int l1), (2, .int l2), (3, .ref l3), (4, .int l4), (5, .int l5), (6, .int l6)] []) (n : Nat) (S : hp) (l0 : Nat) (l1 : Int32) (l2 : Int32) (l3 : Nat) (l4 : Int32) (l5 : Int32) (l6 : Int32) (l7 : Int32) (l8 : Int32), wl_X2_gives_39 bk3 Q n S l0 l1 l2 l3 l4 l5 l6 l7 l8 → VM l b D cy 10 1 22 0 0 (pI Q) p e s m args below meth c S 0 0 39 [(0, .ref l0), (1, .int l1), (2, .int l2), (3, .ref l3), (4, .int l4), (5, .int l5), (6, .int l6), (7, .int l7), (8, .int l8)] [] := by
    intro bk3 hbk3 n
    induction n with
    | zero => intro S l0 l1 l2 l3 l4 l5 l6 l7 l8 h; exact h.elim
    | succ n ih => intro S l0 l1 l2 l3 l4 l5 l6 l7 l8 h; exact j39 bk3 hbk3 (wl_X2_gives_39 bk3 Q n) ih S l0 l1 l2 l3 l4 l5 l6 l7 l8 h
  have j34 : ∀ (bk3 : hp → Nat → Int32 → Int32 → Nat → Int32 → Int32 → Int32 → Prop) (hbk3 : ∀ (S : hp) (l0 : Nat) (l1 : Int32) (l2 : Int32) (l3 : Nat) (l4 : Int32) (l5 : Int32) (l6 : Int32), bk3 S l0 l1 l2 l3 l4 l5 l6 → VM l b D cy 10 1 22 0 0 (pI Q) p e s m args below meth c S 0 0 3 [(0, .ref l0), (1, .int l1), (2, .int l2), (3, .ref l3), (4, .int l4), (5, .int l5), (6, .int l6)] []) (S : hp) (l0 : Nat) (l1 : Int32) (l2 : Int32) (l3 : Nat) (l4 : Int32) (l5 : Int32) (l6 : Int32) (k0 : Int32), wB_X2_gives_34 bk3 Q S l0 l1 l2 l3 l4 l5 l6 k0 → VM l b D cy 10 1 22 0 0 (pI Q) p e s m args below meth c S 0 0 34 [(0, .ref l0), (1, .int l1), (2, .int l2), (3, .ref l3), (4, .int l4), (5, .int l5), (6, .int l6)] [.int k0] := by
    intro bk3 hbk3 S l0 l1 l2 l3 l4 l5 l6 k0 h
    unfold wB_X2_gives_34 at h
    refine v_istore X (lv' := [(7, .int k0), (0, .ref l0), (1, .int l1), (2, .int l2), (3, .ref l3), (4, .int l4), (5, .int l5), (6, .int l6)]) dX2_gives_34 (by decide) rfl ?_
    refine v_iconst X (v := 0) dX2_gives_36 (by decide) ?_
    refine v_istore X (lv' := [(8, .int (0 : Int32)), (7, .int k0), (0, .ref l0), (1, .int l1), (2, .int l2), (3, .ref l3), (4, .int l4), (5, .int l5), (6, .int l6)]) dX2_gives_37 (by decide) rfl ?_
    refine v_lv (lv' := [(0, .ref l0), (1, .int l1), (2, .int l2), (3, .ref l3), (4, .int l4), (5, .int l5), (6, .int l6), (7, .int k0), (8, .int (0 : Int32))]) [2, 3, 4, 5, 6, 7, 8, 1, 0] rfl ?_
    obtain ⟨n, h⟩ := h
    exact l39 bk3 hbk3 n _ _ _ _ _ _ _ _ _ _ h
  have j3 : ∀ (bk3 : hp → Nat → Int32 → Int32 → Nat → Int32 → Int32 → Int32 → Prop) (hbk3 : ∀ (S : hp) (l0 : Nat) (l1 : Int32) (l2 : Int32) (l3 : Nat) (l4 : Int32) (l5 : Int32) (l6 : Int32), bk3 S l0 l1 l2 l3 l4 l5 l6 → VM l b D cy 10 1 22 0 0 (pI Q) p e s m args below meth c S 0 0 3 [(0, .ref l0), (1, .int l1), (2, .int l2), (3, .ref l3), (4, .int l4), (5, .int l5), (6, .int l6)] []) (S : hp) (l0 : Nat) (l1 : Int32) (l2 : Int32) (l3 : Nat) (l4 : Int32) (l5 : Int32) (l6 : Int32), wB_X2_gives_3 bk3 Q S l0 l1 l2 l3 l4 l5 l6 → VM l b D cy 10 1 22 0 0 (pI Q) p e s m args below meth c S 0 0 3 [(0, .ref l0), (1, .int l1), (2, .int l2), (3, .ref l3), (4, .int l4), (5, .int l5), (6, .int l6)] [] := by
    intro bk3 hbk3 S l0 l1 l2 l3 l4 l5 l6 h
    unfold wB_X2_gives_3 at h
    refine v_iload X 6 dX2_gives_3 rfl ?_
    refine v_aload_n X 0 dX2_gives_5 rfl rfl ?_
    obtain ⟨hk1, h⟩ := h
    refine v_getI X (T := TX8) (N := 10) (k := 7) hk1 (by decide) rfl (by decide) inX8 wd156 rfl dX2_gives_6 ?_
    refine v_icmp_ge X (tgt := 94) dX2_gives_9 (by decide) (fun c2 => ?_) (fun c2 => ?_)
    · replace h := h.1 c2
      refine v_iconst X (v := 1) dX2_gives_94 (by decide) ?_
      exact v_zret X hr (by decide) hlk ⟨_, rfl, h⟩ dX2_gives_95
    · replace h := h.2 c2
      refine v_iload X 6 dX2_gives_12 rfl ?_
      refine v_iload_n X 1 dX2_gives_14 rfl rfl ?_
      refine v_icmp_ne X (tgt := 22) dX2_gives_15 (by decide) (fun c3 => ?_) (fun c3 => ?_)
      · replace h := h.1 c3
        refine v_iload X 6 dX2_gives_22 rfl ?_
        refine v_iload_n X 2 dX2_gives_24 rfl rfl ?_
        refine v_icmp_ne X (tgt := 32) dX2_gives_25 (by decide) (fun c4 => ?_) (fun c4 => ?_)
        · replace h := h.1 c4
          refine v_iload X 6 dX2_gives_32 rfl ?_
          exact j34 bk3 hbk3 _ _ _ _ _ _ _ _ _ h
        · replace h := h.2 c4
          refine v_iload_n X 1 dX2_gives_28 rfl rfl ?_
          refine v_goto X (tgt := 34) dX2_gives_29 (by decide) ?_
          exact j34 bk3 hbk3 _ _ _ _ _ _ _ _ _ h
      · replace h := h.2 c3
        refine v_iload_n X 2 dX2_gives_18 rfl rfl ?_
        refine v_goto X (tgt := 34) dX2_gives_19 (by decide) ?_
        exact j34 bk3 hbk3 _ _ _ _ _ _ _ _ _ h
  have l3 : ∀  (n : Nat) (S : hp) (l0 : Nat) (l1 : Int32) (l2 : Int32) (l3 : Nat) (l4 : Int32) (l5 : Int32) (l6 : Int32), wl_X2_gives_3 Q n S l0 l1 l2 l3 l4 l5 l6 → VM l b D cy 10 1 22 0 0 (pI Q) p e s m args below meth c S 0 0 3 [(0, .ref l0), (1, .int l1), (2, .int l2), (3, .ref l3), (4, .int l4), (5, .int l5), (6, .int l6)] [] := by
    intro  n
    induction n with
    | zero => intro S l0 l1 l2 l3 l4 l5 l6 h; exact h.elim
    | succ n ih => intro S l0 l1 l2 l3 l4 l5 l6 h; exact j3 (wl_X2_gives_3 Q n) ih S l0 l1 l2 l3 l4 l5 l6 h
  unfold wp_X2_gives at h
  show VM l b D cy 10 1 22 0 0 (pI Q) p e s m args below meth c S 0 0 0 [(0, .ref a0), (1, .int x1), (2, .int x2), (3, .ref a3), (4, .int x4), (5, .int x5)] []
  refine v_iconst X (v := 0) dX2_gives_0 (by decide) ?_
  refine v_istore X (lv' := [(6, .int (0 : Int32)), (0, .ref a0), (1, .int x1), (2, .int x2), (3, .ref a3), (4, .int x4), (5, .int x5)]) dX2_gives_1 (by decide) rfl ?_
  refine v_lv (lv' := [(0, .ref a0), (1, .int x1), (2, .int x2), (3, .ref a3), (4, .int x4), (5, .int x5), (6, .int (0 : Int32))]) [1, 2, 3, 4, 5, 6, 0] rfl ?_
  obtain ⟨n, h⟩ := h
  exact l3 n _ _ _ _ _ _ _ _ h
def wB_X2_swapsThatGive_73 (bk10 : hp → Nat → Nat → Int32 → Int32 → Int32 → Int32 → Int32 → Int32 → Prop) (bk25 : hp → Nat → Nat → Int32 → Int32 → Int32 → Int32 → Int32 → Int32 → Int32 → Prop) (Q : Int32 → hp → Prop) (S : hp) (l1 : Nat) (l2 : Nat) (l3 : Int32) (l4 : Int32) (l5 : Int32) (l6 : Int32) (l7 : Int32) (l8 : Int32) (l9 : Int32) : Prop :=
  ∀ v11 : Int32, v11 = l9 + (1 : Int32) → bk25 S l1 l2 l3 l4 l5 l6 l7 l8 v11
def wB_X2_swapsThatGive_71 (bk10 : hp → Nat → Nat → Int32 → Int32 → Int32 → Int32 → Int32 → Int32 → Prop) (bk25 : hp → Nat → Nat → Int32 → Int32 → Int32 → Int32 → Int32 → Int32 → Int32 → Prop) (Q : Int32 → hp → Prop) (S : hp) (l1 : Nat) (l2 : Nat) (l3 : Int32) (l4 : Int32) (l5 : Int32) (l6 : Int32) (l8 : Int32) (l9 : Int32) (k0 : Int32) : Prop :=
  wB_X2_swapsThatGive_73 bk10 bk25 Q S l1 l2 l3 l4 l5 l6 k0 l8 l9
def wB_X2_swapsThatGive_25 (bk10 : hp → Nat → Nat → Int32 → Int32 → Int32 → Int32 → Int32 → Int32 → Prop) (bk25 : hp → Nat → Nat → Int32 → Int32 → Int32 → Int32 → Int32 → Int32 → Int32 → Prop) (Q : Int32 → hp → Prop) (S : hp) (l1 : Nat) (l2 : Nat) (l3 : Int32) (l4 : Int32) (l5 : Int32) (l6 : Int32) (l7 : Int32) (l8 : Int32) (l9 : Int32) : Prop :=
  hK S l1 = 7 ∧ (((hI S l1 7) ≤ l9 → ∀ v7 : Int32, v7 = l8 + (1 : Int32) → bk10 S l1 l2 l3 l4 l5 l6 l7 v7) ∧ (¬ (hI S l1 7) ≤ l9 → wp_X2_gives (fun r9 S8 => ((r9 = 0 → wB_X2_swapsThatGive_73 bk10 bk25 Q S8 l1 l2 l3 l4 l5 l6 l7 l8 l9) ∧ (¬ r9 = 0 → ∀ v12 : Int32, v12 = l6 + (1 : Int32) → ((¬ l7 = (-1000000 : Int32) → wB_X2_swapsThatGive_71 bk10 bk25 Q S8 l1 l2 l3 l4 l5 v12 l8 l9 l7) ∧ (l7 = (-1000000 : Int32) → wB_X2_swapsThatGive_71 bk10 bk25 Q S8 l1 l2 l3 l4 l5 v12 l8 l9 ((((4 : Int32) * l8) + l9))))))) S l1 l8 l9 l2 l3 l4))
def wl_X2_swapsThatGive_25 (bk10 : hp → Nat → Nat → Int32 → Int32 → Int32 → Int32 → Int32 → Int32 → Prop) (Q : Int32 → hp → Prop) : Nat → hp → Nat → Nat → Int32 → Int32 → Int32 → Int32 → Int32 → Int32 → Int32 → Prop
  | 0 => fun _ _ _ _ _ _ _ _ _ _ => False
  | n + 1 => wB_X2_swapsThatGive_25 bk10 (wl_X2_swapsThatGive_25 bk10 Q n) Q
def wB_X2_swapsThatGive_10 (bk10 : hp → Nat → Nat → Int32 → Int32 → Int32 → Int32 → Int32 → Int32 → Prop) (Q : Int32 → hp → Prop) (S : hp) (l1 : Nat) (l2 : Nat) (l3 : Int32) (l4 : Int32) (l5 : Int32) (l6 : Int32) (l7 : Int32) (l8 : Int32) : Prop :=
  hK S l1 = 7 ∧ (((hI S l1 7) ≤ l8 → ((¬ l5 = 0 → Q l7 S) ∧ (l5 = 0 → Q l6 S))) ∧ (¬ (hI S l1 7) ≤ l8 → ∀ v4 : Int32, v4 = (l8 + (1 : Int32)) → ∃ n : Nat, wl_X2_swapsThatGive_25 bk10 Q n S l1 l2 l3 l4 l5 l6 l7 l8 v4))
def wl_X2_swapsThatGive_10 (Q : Int32 → hp → Prop) : Nat → hp → Nat → Nat → Int32 → Int32 → Int32 → Int32 → Int32 → Int32 → Prop
  | 0 => fun _ _ _ _ _ _ _ _ _ => False
  | n + 1 => wB_X2_swapsThatGive_10 (wl_X2_swapsThatGive_10 Q n) Q
def wp_X2_swapsThatGive (Q : Int32 → hp → Prop) (S : hp) (a0 : Nat) (a1 : Nat) (a2 : Nat) (x3 : Int32) (x4 : Int32) (x5 : Int32) : Prop :=
  ∃ n : Nat, wl_X2_swapsThatGive_10 Q n S a1 a2 x3 x4 x5 (0 : Int32) (-1000000 : Int32) (0 : Int32)
theorem k_X2_swapsThatGive : Cond.code yX2_swapsThatGive cX2_swapsThatGive 10 (some .int) ∈ gtb := mg 721 (by decide +kernel) (by decide +kernel)
theorem dn_X2_swapsThatGive : yX2_swapsThatGive.cls ≠ "java/lang/invoke/MethodHandle" ∧ yX2_swapsThatGive.cls ≠ "java/lang/invoke/VarHandle" ∧ (parseMethodDescriptor yX2_swapsThatGive.desc).map (fun d => d.parameters.length) = some 5 := by decide +kernel
set_option maxRecDepth 100000 in
set_option maxHeartbeats 4000000 in
theorem s_X2_swapsThatGive (l : Launch) (b : Nat) (D : va_G) (cy : Nat → ClassId) {Q : Int32 → hp → Prop} {S : hp} {a0 : Nat} {a1 : Nat} {a2 : Nat} {x3 : Int32} {x4 : Int32} {x5 : Int32} (h : wp_X2_swapsThatGive Q S a0 a1 a2 x3 x4 x5) : MT l yX2_swapsThatGive cX2_swapsThatGive 10 (some .int) 2 51 0 0 b D cy S [.ref a0, .ref a1, .ref a2, .int x3, .int x4, .int x5] (pI Q) := by
  refine MT.of (by decide +kernel) (Nat.le_of_ble_eq_true rfl) ?_
  intro p e s m args below meth c X hr hlk hnm
  have j73 : ∀ (bk10 : hp → Nat → Nat → Int32 → Int32 → Int32 → Int32 → Int32 → Int32 → Prop) (hbk10 : ∀ (S : hp) (l1 : Nat) (l2 : Nat) (l3 : Int32) (l4 : Int32) (l5 : Int32) (l6 : Int32) (l7 : Int32) (l8 : Int32), bk10 S l1 l2 l3 l4 l5 l6 l7 l8 → VM l b D cy 10 2 51 0 0 (pI Q) p e s m args below meth c S 0 0 10 [(1, .ref l1), (2, .ref l2), (3, .int l3), (4, .int l4), (5, .int l5), (6, .int l6), (7, .int l7), (8, .int l8)] []) (bk25 : hp → Nat → Nat → Int32 → Int32 → Int32 → Int32 → Int32 → Int32 → Int32 → Prop) (hbk25 : ∀ (S : hp) (l1 : Nat) (l2 : Nat) (l3 : Int32) (l4 : Int32) (l5 : Int32) (l6 : Int32) (l7 : Int32) (l8 : Int32) (l9 : Int32), bk25 S l1 l2 l3 l4 l5 l6 l7 l8 l9 → VM l b D cy 10 2 51 0 0 (pI Q) p e s m args below meth c S 0 0 25 [(1, .ref l1), (2, .ref l2), (3, .int l3), (4, .int l4), (5, .int l5), (6, .int l6), (7, .int l7), (8, .int l8), (9, .int l9)] []) (S : hp) (l1 : Nat) (l2 : Nat) (l3 : Int32) (l4 : Int32) (l5 : Int32) (l6 : Int32) (l7 : Int32) (l8 : Int32) (l9 : Int32), wB_X2_swapsThatGive_73 bk10 bk25 Q S l1 l2 l3 l4 l5 l6 l7 l8 l9 → VM l b D cy 10 2 51 0 0 (pI Q) p e s m args below meth c S 0 0 73 [(1, .ref l1), (2, .ref l2), (3, .int l3), (4, .int l4), (5, .int l5), (6, .int l6), (7, .int l7), (8, .int l8), (9, .int l9)] [] := by
    intro bk10 hbk10 bk25 hbk25 S l1 l2 l3 l4 l5 l6 l7 l8 l9 h
    unfold wB_X2_swapsThatGive_73 at h
    obtain ⟨v11, hv11⟩ : ∃ y : Int32, y = l9 + (1 : Int32) := ⟨_, rfl⟩
    replace h := h v11 hv11
    refine v_iinc X (j := 8) (v := v11) (lv' := [(9, .int v11), (1, .ref l1), (2, .ref l2), (3, .int l3), (4, .int l4), (5, .int l5), (6, .int l6), (7, .int l7), (8, .int l8)]) dX2_swapsThatGive_73 rfl (by rw [hv11] <;> rfl) (by decide) rfl ?_
    refine v_goto X (tgt := 25) dX2_swapsThatGive_76 (by decide) ?_
    refine v_lv (lv' := [(1, .ref l1), (2, .ref l2), (3, .int l3), (4, .int l4), (5, .int l5), (6, .int l6), (7, .int l7), (8, .int l8), (9, .int v11)]) [1, 2, 3, 4, 5, 6, 7, 8, 0] rfl ?_
    exact hbk25 _ _ _ _ _ _ _ _ _ _ h
  have j71 : ∀ (bk10 : hp → Nat → Nat → Int32 → Int32 → Int32 → Int32 → Int32 → Int32 → Prop) (hbk10 : ∀ (S : hp) (l1 : Nat) (l2 : Nat) (l3 : Int32) (l4 : Int32) (l5 : Int32) (l6 : Int32) (l7 : Int32) (l8 : Int32), bk10 S l1 l2 l3 l4 l5 l6 l7 l8 → VM l b D cy 10 2 51 0 0 (pI Q) p e s m args below meth c S 0 0 10 [(1, .ref l1), (2, .ref l2), (3, .int l3), (4, .int l4), (5, .int l5), (6, .int l6), (7, .int l7), (8, .int l8)] []) (bk25 : hp → Nat → Nat → Int32 → Int32 → Int32 → Int32 → Int32 → Int32 → Int32 → Prop) (hbk25 : ∀ (S : hp) (l1 : Nat) (l2 : Nat) (l3 : Int32) (l4 : Int32) (l5 : Int32) (l6 : Int32) (l7 : Int32) (l8 : Int32) (l9 : Int32), bk25 S l1 l2 l3 l4 l5 l6 l7 l8 l9 → VM l b D cy 10 2 51 0 0 (pI Q) p e s m args below meth c S 0 0 25 [(1, .ref l1), (2, .ref l2), (3, .int l3), (4, .int l4), (5, .int l5), (6, .int l6), (7, .int l7), (8, .int l8), (9, .int l9)] []) (S : hp) (l1 : Nat) (l2 : Nat) (l3 : Int32) (l4 : Int32) (l5 : Int32) (l6 : Int32) (l8 : Int32) (l9 : Int32) (k0 : Int32), wB_X2_swapsThatGive_71 bk10 bk25 Q S l1 l2 l3 l4 l5 l6 l8 l9 k0 → VM l b D cy 10 2 51 0 0 (pI Q) p e s m args below meth c S 0 0 71 [(1, .ref l1), (2, .ref l2), (3, .int l3), (4, .int l4), (5, .int l5), (6, .int l6), (8, .int l8), (9, .int l9)] [.int k0] := by
    intro bk10 hbk10 bk25 hbk25 S l1 l2 l3 l4 l5 l6 l8 l9 k0 h
    unfold wB_X2_swapsThatGive_71 at h
    refine v_istore X (lv' := [(7, .int k0), (1, .ref l1), (2, .ref l2), (3, .int l3), (4, .int l4), (5, .int l5), (6, .int l6), (8, .int l8), (9, .int l9)]) dX2_swapsThatGive_71 (by decide) rfl ?_
    refine v_lv (lv' := [(1, .ref l1), (2, .ref l2), (3, .int l3), (4, .int l4), (5, .int l5), (6, .int l6), (7, .int k0), (8, .int l8), (9, .int l9)]) [1, 2, 3, 4, 5, 6, 0, 7, 8] rfl ?_
    exact j73 bk10 hbk10 bk25 hbk25 _ _ _ _ _ _ _ _ _ _ h
  have j25 : ∀ (bk10 : hp → Nat → Nat → Int32 → Int32 → Int32 → Int32 → Int32 → Int32 → Prop) (hbk10 : ∀ (S : hp) (l1 : Nat) (l2 : Nat) (l3 : Int32) (l4 : Int32) (l5 : Int32) (l6 : Int32) (l7 : Int32) (l8 : Int32), bk10 S l1 l2 l3 l4 l5 l6 l7 l8 → VM l b D cy 10 2 51 0 0 (pI Q) p e s m args below meth c S 0 0 10 [(1, .ref l1), (2, .ref l2), (3, .int l3), (4, .int l4), (5, .int l5), (6, .int l6), (7, .int l7), (8, .int l8)] []) (bk25 : hp → Nat → Nat → Int32 → Int32 → Int32 → Int32 → Int32 → Int32 → Int32 → Prop) (hbk25 : ∀ (S : hp) (l1 : Nat) (l2 : Nat) (l3 : Int32) (l4 : Int32) (l5 : Int32) (l6 : Int32) (l7 : Int32) (l8 : Int32) (l9 : Int32), bk25 S l1 l2 l3 l4 l5 l6 l7 l8 l9 → VM l b D cy 10 2 51 0 0 (pI Q) p e s m args below meth c S 0 0 25 [(1, .ref l1), (2, .ref l2), (3, .int l3), (4, .int l4), (5, .int l5), (6, .int l6), (7, .int l7), (8, .int l8), (9, .int l9)] []) (S : hp) (l1 : Nat) (l2 : Nat) (l3 : Int32) (l4 : Int32) (l5 : Int32) (l6 : Int32) (l7 : Int32) (l8 : Int32) (l9 : Int32), wB_X2_swapsThatGive_25 bk10 bk25 Q S l1 l2 l3 l4 l5 l6 l7 l8 l9 → VM l b D cy 10 2 51 0 0 (pI Q) p e s m args below meth c S 0 0 25 [(1, .ref l1), (2, .ref l2), (3, .int l3), (4, .int l4), (5, .int l5), (6, .int l6), (7, .int l7), (8, .int l8), (9, .int l9)] [] := by
    intro bk10 hbk10 bk25 hbk25 S l1 l2 l3 l4 l5 l6 l7 l8 l9 h
    unfold wB_X2_swapsThatGive_25 at h
    refine v_iload X 8 dX2_swapsThatGive_25 rfl ?_
    refine v_aload_n X 0 dX2_swapsThatGive_27 rfl rfl ?_
    obtain ⟨hk5, h⟩ := h
    refine v_getI X (T := TX8) (N := 10) (k := 7) hk5 (by decide) rfl (by decide) inX8 wd156 rfl dX2_swapsThatGive_28 ?_
    refine v_icmp_ge X (tgt := 79) dX2_swapsThatGive_31 (by decide) (fun c6 => ?_) (fun c6 => ?_)
    · replace h := h.1 c6
      obtain ⟨v7, hv7⟩ : ∃ y : Int32, y = l8 + (1 : Int32) := ⟨_, rfl⟩
      replace h := h v7 hv7
      refine v_iinc X (j := 7) (v := v7) (lv' := [(8, .int v7), (1, .ref l1), (2, .ref l2), (3, .int l3), (4, .int l4), (5, .int l5), (6, .int l6), (7, .int l7), (9, .int l9)]) dX2_swapsThatGive_79 rfl (by rw [hv7] <;> rfl) (by decide) rfl ?_
      refine v_goto X (tgt := 10) dX2_swapsThatGive_82 (by decide) ?_
      refine v_lv (lv' := [(1, .ref l1), (2, .ref l2), (3, .int l3), (4, .int l4), (5, .int l5), (6, .int l6), (7, .int l7), (8, .int v7)]) [1, 2, 3, 4, 5, 6, 7, 0] rfl ?_
      exact hbk10 _ _ _ _ _ _ _ _ _ h
    · replace h := h.2 c6
      refine v_aload_n X 0 dX2_swapsThatGive_34 rfl rfl ?_
      refine v_iload X 7 dX2_swapsThatGive_35 rfl ?_
      refine v_iload X 8 dX2_swapsThatGive_37 rfl ?_
      refine v_aload_n X 1 dX2_swapsThatGive_39 rfl rfl ?_
      refine v_iload_n X 2 dX2_swapsThatGive_40 rfl rfl ?_
      refine v_iload X 3 dX2_swapsThatGive_41 rfl ?_
      refine v_callS X (av := [.ref l1, .int l8, .int l9, .ref l2, .int l3, .int l4]) (s_X2_gives l b D cy h) wd722 wd723 wd60 k_X2_gives dn_X2_gives rfl ⟨Nat.le_of_ble_eq_true rfl, Nat.le_of_ble_eq_true rfl⟩ (Nat.le_of_ble_eq_true rfl) ⟨Nat.le_of_ble_eq_true rfl, Nat.le_of_ble_eq_true rfl⟩ dX2_swapsThatGive_43 rfl (kI (fun r9 S8 h => ?_))
      refine v_if_eq X (tgt := 73) dX2_swapsThatGive_46 (by decide) (fun c10 => ?_) (fun c10 => ?_)
      · replace h := h.1 c10
        exact j73 bk10 hbk10 bk25 hbk25 _ _ _ _ _ _ _ _ _ _ h
      · replace h := h.2 c10
        obtain ⟨v12, hv12⟩ : ∃ y : Int32, y = l6 + (1 : Int32) := ⟨_, rfl⟩
        replace h := h v12 hv12
        refine v_iinc X (j := 5) (v := v12) (lv' := [(6, .int v12), (1, .ref l1), (2, .ref l2), (3, .int l3), (4, .int l4), (5, .int l5), (7, .int l7), (8, .int l8), (9, .int l9)]) dX2_swapsThatGive_49 rfl (by rw [hv12] <;> rfl) (by decide) rfl ?_
        refine v_iload X 6 dX2_swapsThatGive_52 rfl ?_
        refine v_ldc X wd662 dX2_swapsThatGive_54 ?_
        refine v_icmp_ne X (tgt := 69) dX2_swapsThatGive_56 (by decide) (fun c13 => ?_) (fun c13 => ?_)
        · replace h := h.1 c13
          refine v_iload X 6 dX2_swapsThatGive_69 rfl ?_
          refine v_lv (lv' := [(1, .ref l1), (2, .ref l2), (3, .int l3), (4, .int l4), (5, .int l5), (6, .int v12), (8, .int l8), (9, .int l9)]) [1, 2, 3, 4, 5, 0, 7, 8] rfl ?_
          exact j71 bk10 hbk10 bk25 hbk25 _ _ _ _ _ _ _ _ _ _ h
        · replace h := h.2 c13
          refine v_iconst X (v := 4) dX2_swapsThatGive_59 (by decide) ?_
          refine v_iload X 7 dX2_swapsThatGive_60 rfl ?_
          refine v_imul X dX2_swapsThatGive_62 ?_
          refine v_iload X 8 dX2_swapsThatGive_63 rfl ?_
          refine v_iadd X dX2_swapsThatGive_65 ?_
          refine v_goto X (tgt := 71) dX2_swapsThatGive_66 (by decide) ?_
          refine v_lv (lv' := [(1, .ref l1), (2, .ref l2), (3, .int l3), (4, .int l4), (5, .int l5), (6, .int v12), (8, .int l8), (9, .int l9)]) [1, 2, 3, 4, 5, 0, 7, 8] rfl ?_
          exact j71 bk10 hbk10 bk25 hbk25 _ _ _ _ _ _ _ _ _ _ h
  have l25 : ∀ (bk10 : hp → Nat → Nat → Int32 → Int32 → Int32 → Int32 → Int32 → Int32 → Prop) (hbk10 : ∀ (S : hp) (l1 : Nat) (l2 : Nat) (l3 : Int32) (l4 : Int32) (l5 : Int32) (l6 : Int32) (l7 : Int32) (l8 : Int32), bk10 S l1 l2 l3 l4 l5 l6 l7 l8 → VM l b D cy 10 2 51 0 0 (pI Q) p e s m args below meth c S 0 0 10 [(1, .ref l1), (2, .ref l2), (3, .int l3), (4, .int l4), (5, .int l5), (6, .int l6), (7, .int l7), (8, .int l8)] []) (n : Nat) (S : hp) (l1 : Nat) (l2 : Nat) (l3 : Int32) (l4 : Int32) (l5 : Int32) (l6 : Int32) (l7 : Int32) (l8 : Int32) (l9 : Int32), wl_X2_swapsThatGive_25 bk10 Q n S l1 l2 l3 l4 l5 l6 l7 l8 l9 → VM l b D cy 10 2 51 0 0 (pI Q) p e s m args below meth c S 0 0 25 [(1, .ref l1), (2, .ref l2), (3, .int l3), (4, .int l4), (5, .int l5), (6, .int l6), (7, .int l7), (8, .int l8), (9, .int l9)] [] := by
    intro bk10 hbk10 n
    induction n with
    | zero => intro S l1 l2 l3 l4 l5 l6 l7 l8 l9 h; exact h.elim
    | succ n ih => intro S l1 l2 l3 l4 l5 l6 l7 l8 l9 h; exact j25 bk10 hbk10 (wl_X2_swapsThatGive_25 bk10 Q n) ih S l1 l2 l3 l4 l5 l6 l7 l8 l9 h
  have j10 : ∀ (bk10 : hp → Nat → Nat → Int32 → Int32 → Int32 → Int32 → Int32 → Int32 → Prop) (hbk10 : ∀ (S : hp) (l1 : Nat) (l2 : Nat) (l3 : Int32) (l4 : Int32) (l5 : Int32) (l6 : Int32) (l7 : Int32) (l8 : Int32), bk10 S l1 l2 l3 l4 l5 l6 l7 l8 → VM l b D cy 10 2 51 0 0 (pI Q) p e s m args below meth c S 0 0 10 [(1, .ref l1), (2, .ref l2), (3, .int l3), (4, .int l4), (5, .int l5), (6, .int l6), (7, .int l7), (8, .int l8)] []) (S : hp) (l1 : Nat) (l2 : Nat) (l3 : Int32) (l4 : Int32) (l5 : Int32) (l6 : Int32) (l7 : Int32) (l8 : Int32), wB_X2_swapsThatGive_10 bk10 Q S l1 l2 l3 l4 l5 l6 l7 l8 → VM l b D cy 10 2 51 0 0 (pI Q) p e s m args below meth c S 0 0 10 [(1, .ref l1), (2, .ref l2), (3, .int l3), (4, .int l4), (5, .int l5), (6, .int l6), (7, .int l7), (8, .int l8)] [] := by
    intro bk10 hbk10 S l1 l2 l3 l4 l5 l6 l7 l8 h
    unfold wB_X2_swapsThatGive_10 at h
    refine v_iload X 7 dX2_swapsThatGive_10 rfl ?_
    refine v_aload_n X 0 dX2_swapsThatGive_12 rfl rfl ?_
    obtain ⟨hk1, h⟩ := h
    refine v_getI X (T := TX8) (N := 10) (k := 7) hk1 (by decide) rfl (by decide) inX8 wd156 rfl dX2_swapsThatGive_13 ?_
    refine v_icmp_ge X (tgt := 85) dX2_swapsThatGive_16 (by decide) (fun c2 => ?_) (fun c2 => ?_)
    · replace h := h.1 c2
      refine v_iload X 4 dX2_swapsThatGive_85 rfl ?_
      refine v_if_ne X (tgt := 95) dX2_swapsThatGive_87 (by decide) (fun c3 => ?_) (fun c3 => ?_)
      · replace h := h.1 c3
        refine v_iload X 6 dX2_swapsThatGive_95 rfl ?_
        exact v_iret X hr hlk ⟨_, rfl, h⟩ dX2_swapsThatGive_97
      · replace h := h.2 c3
        refine v_iload X 5 dX2_swapsThatGive_90 rfl ?_
        refine v_goto X (tgt := 97) dX2_swapsThatGive_92 (by decide) ?_
        exact v_iret X hr hlk ⟨_, rfl, h⟩ dX2_swapsThatGive_97
    · replace h := h.2 c2
      refine v_iload X 7 dX2_swapsThatGive_19 rfl ?_
      refine v_iconst X (v := 1) dX2_swapsThatGive_21 (by decide) ?_
      refine v_iadd X dX2_swapsThatGive_22 ?_
      refine v_nm (fun v4 hv4 => ?_)
      replace h := h v4 hv4
      refine v_istore X (lv' := [(9, .int v4), (1, .ref l1), (2, .ref l2), (3, .int l3), (4, .int l4), (5, .int l5), (6, .int l6), (7, .int l7), (8, .int l8)]) dX2_swapsThatGive_23 (by decide) rfl ?_
      refine v_lv (lv' := [(1, .ref l1), (2, .ref l2), (3, .int l3), (4, .int l4), (5, .int l5), (6, .int l6), (7, .int l7), (8, .int l8), (9, .int v4)]) [1, 2, 3, 4, 5, 6, 7, 8, 0] rfl ?_
      obtain ⟨n, h⟩ := h
      exact l25 bk10 hbk10 n _ _ _ _ _ _ _ _ _ _ h
  have l10 : ∀  (n : Nat) (S : hp) (l1 : Nat) (l2 : Nat) (l3 : Int32) (l4 : Int32) (l5 : Int32) (l6 : Int32) (l7 : Int32) (l8 : Int32), wl_X2_swapsThatGive_10 Q n S l1 l2 l3 l4 l5 l6 l7 l8 → VM l b D cy 10 2 51 0 0 (pI Q) p e s m args below meth c S 0 0 10 [(1, .ref l1), (2, .ref l2), (3, .int l3), (4, .int l4), (5, .int l5), (6, .int l6), (7, .int l7), (8, .int l8)] [] := by
    intro  n
    induction n with
    | zero => intro S l1 l2 l3 l4 l5 l6 l7 l8 h; exact h.elim
    | succ n ih => intro S l1 l2 l3 l4 l5 l6 l7 l8 h; exact j10 (wl_X2_swapsThatGive_10 Q n) ih S l1 l2 l3 l4 l5 l6 l7 l8 h
  unfold wp_X2_swapsThatGive at h
  show VM l b D cy 10 2 51 0 0 (pI Q) p e s m args below meth c S 0 0 0 [(0, .ref a0), (1, .ref a1), (2, .ref a2), (3, .int x3), (4, .int x4), (5, .int x5)] []
  refine v_iconst X (v := 0) dX2_swapsThatGive_0 (by decide) ?_
  refine v_istore X (lv' := [(6, .int (0 : Int32)), (0, .ref a0), (1, .ref a1), (2, .ref a2), (3, .int x3), (4, .int x4), (5, .int x5)]) dX2_swapsThatGive_1 (by decide) rfl ?_
  refine v_ldc X wd662 dX2_swapsThatGive_3 ?_
  refine v_istore X (lv' := [(7, .int (-1000000 : Int32)), (6, .int (0 : Int32)), (0, .ref a0), (1, .ref a1), (2, .ref a2), (3, .int x3), (4, .int x4), (5, .int x5)]) dX2_swapsThatGive_5 (by decide) rfl ?_
  refine v_iconst X (v := 0) dX2_swapsThatGive_7 (by decide) ?_
  refine v_istore X (lv' := [(8, .int (0 : Int32)), (7, .int (-1000000 : Int32)), (6, .int (0 : Int32)), (0, .ref a0), (1, .ref a1), (2, .ref a2), (3, .int x3), (4, .int x4), (5, .int x5)]) dX2_swapsThatGive_8 (by decide) rfl ?_
  refine v_lv (lv' := [(1, .ref a1), (2, .ref a2), (3, .int x3), (4, .int x4), (5, .int x5), (6, .int (0 : Int32)), (7, .int (-1000000 : Int32)), (8, .int (0 : Int32))]) [4, 5, 6, 7, 8, 2, 1, 0] rfl ?_
  obtain ⟨n, h⟩ := h
  exact l10 n _ _ _ _ _ _ _ _ _ h
