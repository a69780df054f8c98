def wB_X2_fewestBolts_123 (bk20 : hp → Nat → Nat → Int32 → Int32 → Int32 → Int32 → Prop) (bk53 : hp → Nat → Nat → Int32 → Int32 → Int32 → Int32 → Int32 → Prop) (Q : Int32 → hp → Prop) (S : hp) (l0 : Nat) (l1 : Nat) (l2 : Int32) (l3 : Int32) (l4 : Int32) (l5 : Int32) (l6 : Int32) : Prop :=
  ∀ v36 : Int32, v36 = l6 + (1 : Int32) → bk53 S l0 l1 l2 l3 l4 l5 v36
def wB_X2_fewestBolts_53 (bk20 : hp → Nat → Nat → Int32 → Int32 → Int32 → Int32 → Prop) (bk53 : hp → Nat → Nat → Int32 → Int32 → Int32 → Int32 → Int32 → Prop) (Q : Int32 → hp → Prop) (S : hp) (l0 : Nat) (l1 : Nat) (l2 : Int32) (l3 : Int32) (l4 : Int32) (l5 : Int32) (l6 : Int32) : Prop :=
  ((l5 < l6 → ∀ v29 : Int32, v29 = l5 + (1 : Int32) → bk20 S l0 l1 l2 l3 l4 v29) ∧ (¬ l5 < l6 → hK S l0 = 2 ∧ ∃ r31 : Nat, hR S l0 1 = some r31 ∧ hK S r31 = 12 ∧ vp_in (l5 &&& (l6 ^^^ (-1 : Int32))) (hN S r31) ∧ ∀ v34 : Int32, v34 = (hI S r31 ((l5 &&& (l6 ^^^ (-1 : Int32)))).toNatClampNeg) → ((¬ (l6 &&& (l5 ^^^ (-1 : Int32))) = 0 → wB_X2_fewestBolts_123 bk20 bk53 Q S l0 l1 l2 l3 l4 l5 l6) ∧ ((l6 &&& (l5 ^^^ (-1 : Int32))) = 0 → ((v34 = (-1000000 : Int32) → wB_X2_fewestBolts_123 bk20 bk53 Q S l0 l1 l2 l3 l4 l5 l6) ∧ (¬ v34 = (-1000000 : Int32) → wp_X2_stripsOf (fun r39 S38 => ((l3 < r39 → wB_X2_fewestBolts_123 bk20 bk53 Q S38 l0 l1 l2 l3 l4 l5 l6) ∧ (¬ l3 < r39 → hK S38 l0 = 2 ∧ ∃ r42 : Nat, hR S38 l0 1 = some r42 ∧ hK S38 r42 = 12 ∧ vp_in l5 (hN S38 r42) ∧ wp_X2_fewer (fun r46 S45 => hK S45 r42 = 12 ∧ vp_in l5 (hN S45 r42) ∧ ∀ S49 : hp, S49 = setI S45 r42 (l5).toNatClampNeg r46 → wB_X2_fewestBolts_123 bk20 bk53 Q S49 l0 l1 l2 l3 l4 l5 l6) S38 ((hI S38 r42 (l5).toNatClampNeg)) ((v34 + (1 : Int32)))))) S l1 l2 l6))))))
def wl_X2_fewestBolts_53 (bk20 : hp → Nat → Nat → Int32 → Int32 → Int32 → Int32 → Prop) (Q : Int32 → hp → Prop) : Nat → hp → Nat → Nat → Int32 → Int32 → Int32 → Int32 → Int32 → Prop
  | 0 => fun _ _ _ _ _ _ _ _ => False
  | n + 1 => wB_X2_fewestBolts_53 bk20 (wl_X2_fewestBolts_53 bk20 Q n) Q
def wB_X2_fewestBolts_49 (bk20 : hp → Nat → Nat → Int32 → Int32 → Int32 → Int32 → Prop) (Q : Int32 → hp → Prop) (S : hp) (l0 : Nat) (l1 : Nat) (l2 : Int32) (l3 : Int32) (l4 : Int32) (l5 : Int32) (k0 : Int32) (k1 : Int32) (k2 : Nat) : Prop :=
  hK S k2 = 12 ∧ vp_in k1 (hN S k2) ∧ ∀ S25 : hp, S25 = setI S k2 (k1).toNatClampNeg k0 → ∃ n : Nat, wl_X2_fewestBolts_53 bk20 Q n S25 l0 l1 l2 l3 l4 l5 (1 : Int32)
def wB_X2_fewestBolts_20 (bk20 : hp → Nat → Nat → Int32 → Int32 → Int32 → Int32 → Prop) (Q : Int32 → hp → Prop) (S : hp) (l0 : Nat) (l1 : Nat) (l2 : Int32) (l3 : Int32) (l4 : Int32) (l5 : Int32) : Prop :=
  ((l4 < l5 → hK S l0 = 2 ∧ ∃ r15 : Nat, hR S l0 1 = some r15 ∧ hK S r15 = 12 ∧ vp_in l4 (hN S r15) ∧ Q (hI S r15 (l4).toNatClampNeg) S) ∧ (¬ l4 < l5 → hK S l0 = 2 ∧ ∃ r19 : Nat, hR S l0 1 = some r19 ∧ wp_X2_stripsOf (fun r21 S20 => ((¬ r21 = 0 → wB_X2_fewestBolts_49 bk20 Q S20 l0 l1 l2 l3 l4 l5 (-1000000 : Int32) l5 r19) ∧ (r21 = 0 → wB_X2_fewestBolts_49 bk20 Q S20 l0 l1 l2 l3 l4 l5 (0 : Int32) l5 r19))) S l1 l2 l5))
def wl_X2_fewestBolts_20 (Q : Int32 → hp → Prop) : Nat → hp → Nat → Nat → Int32 → Int32 → Int32 → Int32 → Prop
  | 0 => fun _ _ _ _ _ _ _ => False
  | n + 1 => wB_X2_fewestBolts_20 (wl_X2_fewestBolts_20 Q n) Q
def wp_X2_fewestBolts (Q : Int32 → hp → Prop) (S : hp) (a0 : Nat) (a1 : Nat) (x2 : Int32) (x3 : Int32) : Prop :=
  hK S a1 = 7 ∧ ∀ v2 : Int32, v2 = (((1 : Int32) <<< ((hI S a1 7) &&& 31)) - (1 : Int32)) → hK S a0 = 2 ∧ ∃ r4 : Nat, hR S a0 1 = some r4 ∧ hK S r4 = 12 ∧ vp_in (0 : Int32) (hN S r4) ∧ ∀ S7 : hp, S7 = setI S r4 ((0 : Int32)).toNatClampNeg (0 : Int32) → ∃ n : Nat, wl_X2_fewestBolts_20 Q n S7 a0 a1 x2 x3 v2 (1 : Int32)
theorem k_X2_fewestBolts : Cond.code yX2_fewestBolts cX2_fewestBolts 8 (some .int) ∈ gtb := mg 766 (by decide +kernel) (by decide +kernel)
theorem dn_X2_fewestBolts : yX2_fewestBolts.cls ≠ "java/lang/invoke/MethodHandle" ∧ yX2_fewestBolts.cls ≠ "java/lang/invoke/VarHandle" ∧ (parseMethodDescriptor yX2_fewestBolts.desc).map (fun d => d.parameters.length) = some 3 := by decide +kernel
set_option maxRecDepth 100000 in
set_option maxHeartbeats 4000000 in
theorem s_X2_fewestBolts (l : Launch) (b : Nat) (D : va_G) (cy : Nat → ClassId) {Q : Int32 → hp → Prop} {S : hp} {a0 : Nat} {a1 : Nat} {x2 : Int32} {x3 : Int32} (h : wp_X2_fewestBolts Q S a0 a1 x2 x3) : MT l yX2_fewestBolts cX2_fewestBolts 8 (some .int) 2 46 0 0 b D cy S [.ref a0, .ref a1, .int x2, .int x3] (pI Q) := by
  refine MT.of (by decide +kernel) (Nat.le_of_ble_eq_true rfl) ?_
  intro p e s m args below meth c X hr hlk hnm
  have j123 : ∀ (bk20 : hp → Nat → Nat → Int32 → Int32 → Int32 → Int32 → Prop) (hbk20 : ∀ (S : hp) (l0 : Nat) (l1 : Nat) (l2 : Int32) (l3 : Int32) (l4 : Int32) (l5 : Int32), bk20 S l0 l1 l2 l3 l4 l5 → VM l b D cy 8 2 46 0 0 (pI Q) p e s m args below meth c S 0 0 20 [(0, .ref l0), (1, .ref l1), (2, .int l2), (3, .int l3), (4, .int l4), (5, .int l5)] []) (bk53 : hp → Nat → Nat → Int32 → Int32 → Int32 → Int32 → Int32 → Prop) (hbk53 : ∀ (S : hp) (l0 : Nat) (l1 : Nat) (l2 : Int32) (l3 : Int32) (l4 : Int32) (l5 : Int32) (l6 : Int32), bk53 S l0 l1 l2 l3 l4 l5 l6 → VM l b D cy 8 2 46 0 0 (pI Q) p e s m args below meth c S 0 0 53 [(0, .ref l0), (1, .ref l1), (2, .int l2), (3, .int l3), (4, .int l4), (5, .int l5), (6, .int l6)] []) (S : hp) (l0 : Nat) (l1 : Nat) (l2 : Int32) (l3 : Int32) (l4 : Int32) (l5 : Int32) (l6 : Int32), wB_X2_fewestBolts_123 bk20 bk53 Q S l0 l1 l2 l3 l4 l5 l6 → VM l b D cy 8 2 46 0 0 (pI Q) p e s m args below meth c S 0 0 123 [(0, .ref l0), (1, .ref l1), (2, .int l2), (3, .int l3), (4, .int l4), (5, .int l5), (6, .int l6)] [] := by
    intro bk20 hbk20 bk53 hbk53 S l0 l1 l2 l3 l4 l5 l6 h
    unfold wB_X2_fewestBolts_123 at h
    obtain ⟨v36, hv36⟩ : ∃ y : Int32, y = l6 + (1 : Int32) := ⟨_, rfl⟩
    replace h := h v36 hv36
    refine v_iinc X (j := 6) (v := v36) (lv' := [(6, .int v36), (0, .ref l0), (1, .ref l1), (2, .int l2), (3, .int l3), (4, .int l4), (5, .int l5)]) dX2_fewestBolts_123 rfl (by rw [hv36] <;> rfl) (by decide) rfl ?_
    refine v_goto X (tgt := 53) dX2_fewestBolts_126 (by decide) ?_
    refine v_lv (lv' := [(0, .ref l0), (1, .ref l1), (2, .int l2), (3, .int l3), (4, .int l4), (5, .int l5), (6, .int v36)]) [1, 2, 3, 4, 5, 6, 0] rfl ?_
    exact hbk53 _ _ _ _ _ _ _ _ h
  have j53 : ∀ (bk20 : hp → Nat → Nat → Int32 → Int32 → Int32 → Int32 → Prop) (hbk20 : ∀ (S : hp) (l0 : Nat) (l1 : Nat) (l2 : Int32) (l3 : Int32) (l4 : Int32) (l5 : Int32), bk20 S l0 l1 l2 l3 l4 l5 → VM l b D cy 8 2 46 0 0 (pI Q) p e s m args below meth c S 0 0 20 [(0, .ref l0), (1, .ref l1), (2, .int l2), (3, .int l3), (4, .int l4), (5, .int l5)] []) (bk53 : hp → Nat → Nat → Int32 → Int32 → Int32 → Int32 → Int32 → Prop) (hbk53 : ∀ (S : hp) (l0 : Nat) (l1 : Nat) (l2 : Int32) (l3 : Int32) (l4 : Int32) (l5 : Int32) (l6 : Int32), bk53 S l0 l1 l2 l3 l4 l5 l6 → VM l b D cy 8 2 46 0 0 (pI Q) p e s m args below meth c S 0 0 53 [(0, .ref l0), (1, .ref l1), (2, .int l2), (3, .int l3), (4, .int l4), (5, .int l5), (6, .int l6)] []) (S : hp) (l0 : Nat) (l1 : Nat) (l2 : Int32) (l3 : Int32) (l4 : Int32) (l5 : Int32) (l6 : Int32), wB_X2_fewestBolts_53 bk20 bk53 Q S l0 l1 l2 l3 l4 l5 l6 → VM l b D cy 8 2 46 0 0 (pI Q) p e s m args below meth c S 0 0 53 [(0, .ref l0), (1, .ref l1), (2, .int l2), (3, .int l3), (4, .int l4), (5, .int l5), (6, .int l6)] [] := by
    intro bk20 hbk20 bk53 hbk53 S l0 l1 l2 l3 l4 l5 l6 h
    unfold wB_X2_fewestBolts_53 at h
    refine v_iload X 6 dX2_fewestBolts_53 rfl ?_
    refine v_iload X 5 dX2_fewestBolts_55 rfl ?_
    refine v_icmp_gt X (tgt := 129) dX2_fewestBolts_57 (by decide) (fun c28 => ?_) (fun c28 => ?_)
    · replace h := h.1 c28
      obtain ⟨v29, hv29⟩ : ∃ y : Int32, y = l5 + (1 : Int32) := ⟨_, rfl⟩
      replace h := h v29 hv29
      refine v_iinc X (j := 5) (v := v29) (lv' := [(5, .int v29), (0, .ref l0), (1, .ref l1), (2, .int l2), (3, .int l3), (4, .int l4), (6, .int l6)]) dX2_fewestBolts_129 rfl (by rw [hv29] <;> rfl) (by decide) rfl ?_
      refine v_goto X (tgt := 20) dX2_fewestBolts_132 (by decide) ?_
      refine v_lv (lv' := [(0, .ref l0), (1, .ref l1), (2, .int l2), (3, .int l3), (4, .int l4), (5, .int v29)]) [1, 2, 3, 4, 5, 0] rfl ?_
      exact hbk20 _ _ _ _ _ _ _ h
    · replace h := h.2 c28
      refine v_aload_n X 0 dX2_fewestBolts_60 rfl rfl ?_
      obtain ⟨hk30, h⟩ := h
      obtain ⟨r31, hr31, h⟩ := h
      refine v_getR X (T := TX2) (N := 2) (k := 1) hk30 (by decide) rfl (by decide) inX2 wd191 rfl dX2_fewestBolts_61 hr31 ?_
      refine v_iload X 5 dX2_fewestBolts_64 rfl ?_
      refine v_iload X 6 dX2_fewestBolts_66 rfl ?_
      refine v_iconst X (v := -1) dX2_fewestBolts_68 (by decide) ?_
      refine v_ixor X dX2_fewestBolts_69 ?_
      refine v_iand X dX2_fewestBolts_70 ?_
      obtain ⟨hk32, h⟩ := h
      obtain ⟨hi33, h⟩ := h
      refine v_iald X hk32 hi33 dX2_fewestBolts_71 ?_
      refine v_nm (fun v34 hv34 => ?_)
      replace h := h v34 hv34
      refine v_istore X (lv' := [(7, .int v34), (0, .ref l0), (1, .ref l1), (2, .int l2), (3, .int l3), (4, .int l4), (5, .int l5), (6, .int l6)]) dX2_fewestBolts_72 (by decide) rfl ?_
      refine v_iload X 7 dX2_fewestBolts_74 rfl ?_
      refine v_iload X 6 dX2_fewestBolts_76 rfl ?_
      refine v_iconst X (v := -1) dX2_fewestBolts_78 (by decide) ?_
      refine v_ixor X dX2_fewestBolts_79 ?_
      refine v_iand X dX2_fewestBolts_80 ?_
      refine v_if_ne X (tgt := 123) dX2_fewestBolts_81 (by decide) (fun c35 => ?_) (fun c35 => ?_)
      · replace h := h.1 c35
        refine v_lv (lv' := [(0, .ref l0), (1, .ref l1), (2, .int l2), (3, .int l3), (4, .int l4), (5, .int l5), (6, .int l6)]) [1, 2, 3, 4, 5, 6, 7] rfl ?_
        exact j123 bk20 hbk20 bk53 hbk53 _ _ _ _ _ _ _ _ h
      · replace h := h.2 c35
        refine v_iload X 0 dX2_fewestBolts_84 rfl ?_
        refine v_ldc X wd662 dX2_fewestBolts_86 ?_
        refine v_icmp_eq X (tgt := 123) dX2_fewestBolts_88 (by decide) (fun c37 => ?_) (fun c37 => ?_)
        · replace h := h.1 c37
          refine v_lv (lv' := [(0, .ref l0), (1, .ref l1), (2, .int l2), (3, .int l3), (4, .int l4), (5, .int l5), (6, .int l6)]) [1, 2, 3, 4, 5, 6, 7] rfl ?_
          exact j123 bk20 hbk20 bk53 hbk53 _ _ _ _ _ _ _ _ h
        · replace h := h.2 c37
          refine v_aload_n X 2 dX2_fewestBolts_91 rfl rfl ?_
          refine v_iload_n X 3 dX2_fewestBolts_92 rfl rfl ?_
          refine v_iload X 7 dX2_fewestBolts_93 rfl ?_
          refine v_callS X (av := [.ref l1, .int l2, .int l6]) (s_X2_stripsOf l b D cy h) wd767 wd768 wd60 k_X2_stripsOf dn_X2_stripsOf rfl ⟨Nat.le_of_ble_eq_true rfl, Nat.le_of_ble_eq_true rfl⟩ (Nat.le_of_ble_eq_true rfl) ⟨Nat.le_of_ble_eq_true rfl, Nat.le_of_ble_eq_true rfl⟩ dX2_fewestBolts_95 rfl (kI (fun r39 S38 h => ?_))
          refine v_iload_n X 4 dX2_fewestBolts_98 rfl rfl ?_
          refine v_icmp_gt X (tgt := 123) dX2_fewestBolts_99 (by decide) (fun c40 => ?_) (fun c40 => ?_)
          · replace h := h.1 c40
            refine v_lv (lv' := [(0, .ref l0), (1, .ref l1), (2, .int l2), (3, .int l3), (4, .int l4), (5, .int l5), (6, .int l6)]) [1, 2, 3, 4, 5, 6, 7] rfl ?_
            exact j123 bk20 hbk20 bk53 hbk53 _ _ _ _ _ _ _ _ h
          · replace h := h.2 c40
            refine v_aload_n X 1 dX2_fewestBolts_102 rfl rfl ?_
            obtain ⟨hk41, h⟩ := h
            obtain ⟨r42, hr42, h⟩ := h
            refine v_getR X (T := TX2) (N := 2) (k := 1) hk41 (by decide) rfl (by decide) inX2 wd191 rfl dX2_fewestBolts_103 hr42 ?_
            refine v_iload X 6 dX2_fewestBolts_106 rfl ?_
            refine v_aload_n X 1 dX2_fewestBolts_108 rfl rfl ?_
            refine v_getR X (T := TX2) (N := 2) (k := 1) hk41 (by decide) rfl (by decide) inX2 wd191 rfl dX2_fewestBolts_109 hr42 ?_
            refine v_iload X 6 dX2_fewestBolts_112 rfl ?_
            obtain ⟨hk43, h⟩ := h
            obtain ⟨hi44, h⟩ := h
            refine v_iald X hk43 hi44 dX2_fewestBolts_114 ?_
            refine v_iload X 0 dX2_fewestBolts_115 rfl ?_
            refine v_iconst X (v := 1) dX2_fewestBolts_117 (by decide) ?_
            refine v_iadd X dX2_fewestBolts_118 ?_
            refine v_callS X (av := [.int (hI S38 r42 (l5).toNatClampNeg), .int (v34 + (1 : Int32))]) (s_X2_fewer l b D cy h) wd770 wd771 wd60 k_X2_fewer dn_X2_fewer rfl ⟨Nat.le_of_ble_eq_true rfl, Nat.le_of_ble_eq_true rfl⟩ (Nat.le_of_ble_eq_true rfl) ⟨Nat.le_of_ble_eq_true rfl, Nat.le_of_ble_eq_true rfl⟩ dX2_fewestBolts_119 rfl (kI (fun r46 S45 h => ?_))
            obtain ⟨hk47, h⟩ := h
            obtain ⟨hi48, h⟩ := h
            refine v_iast X hk47 hi48 dX2_fewestBolts_122 ?_
            refine v_nmS (fun S49 eS49 => ?_)
            replace h := h S49 eS49
            have hk50 : hK S49 r42 = 12 := by rw [eS49]; exact hk47
            have hi51 : vp_in l5 (hN S49 r42) := by rw [eS49]; exact hi48
            refine v_lv (lv' := [(0, .ref l0), (1, .ref l1), (2, .int l2), (3, .int l3), (4, .int l4), (5, .int l5), (6, .int l6)]) [1, 2, 3, 4, 5, 6, 7] rfl ?_
            exact j123 bk20 hbk20 bk53 hbk53 _ _ _ _ _ _ _ _ h
  have l53 : ∀ (bk20 : hp → Nat → Nat → Int32 → Int32 → Int32 → Int32 → Prop) (hbk20 : ∀ (S : hp) (l0 : Nat) (l1 : Nat) (l2 : Int32) (l3 : Int32) (l4 : Int32) (l5 : Int32), bk20 S l0 l1 l2 l3 l4 l5 → VM l b D cy 8 2 46 0 0 (pI Q) p e s m args below meth c S 0 0 20 [(0, .ref l0), (1, .ref l1), (2, .int l2), (3, .int l3), (4, .int l4), (5, .int l5)] []) (n : Nat) (S : hp) (l0 : Nat) (l1 : Nat) (l2 : Int32) (l3 : Int32) (l4 : Int32) (l5 : Int32) (l6 : Int32), wl_X2_fewestBolts_53 bk20 Q n S l0 l1 l2 l3 l4 l5 l6 → VM l b D cy 8 2 46 0 0 (pI Q) p e s m args below meth c S 0 0 53 [(0, .ref l0), (1, .ref l1), (2, .int l2), (3, .int l3), (4, .int l4), (5, .int l5), (6, .int l6)] [] := by
    intro bk20 hbk20 n
    induction n with
    | zero => intro S l0 l1 l2 l3 l4 l5 l6 h; exact h.elim
    | succ n ih => intro S l0 l1 l2 l3 l4 l5 l6 h; exact j53 bk20 hbk20 (wl_X2_fewestBolts_53 bk20 Q n) ih S l0 l1 l2 l3 l4 l5 l6 h
  have j49 : ∀ (bk20 : hp → Nat → Nat → Int32 → Int32 → Int32 → Int32 → Prop) (hbk20 : ∀ (S : hp) (l0 : Nat) (l1 : Nat) (l2 : Int32) (l3 : Int32) (l4 : Int32) (l5 : Int32), bk20 S l0 l1 l2 l3 l4 l5 → VM l b D cy 8 2 46 0 0 (pI Q) p e s m args below meth c S 0 0 20 [(0, .ref l0), (1, .ref l1), (2, .int l2), (3, .int l3), (4, .int l4), (5, .int l5)] []) (S : hp) (l0 : Nat) (l1 : Nat) (l2 : Int32) (l3 : Int32) (l4 : Int32) (l5 : Int32) (k0 : Int32) (k1 : Int32) (k2 : Nat), wB_X2_fewestBolts_49 bk20 Q S l0 l1 l2 l3 l4 l5 k0 k1 k2 → VM l b D cy 8 2 46 0 0 (pI Q) p e s m args below meth c S 0 0 49 [(0, .ref l0), (1, .ref l1), (2, .int l2), (3, .int l3), (4, .int l4), (5, .int l5)] [.int k0, .int k1, .ref k2] := by
    intro bk20 hbk20 S l0 l1 l2 l3 l4 l5 k0 k1 k2 h
    unfold wB_X2_fewestBolts_49 at h
    obtain ⟨hk23, h⟩ := h
    obtain ⟨hi24, h⟩ := h
    refine v_iast X hk23 hi24 dX2_fewestBolts_49 ?_
    refine v_nmS (fun S25 eS25 => ?_)
    replace h := h S25 eS25
    have hk26 : hK S25 k2 = 12 := by rw [eS25]; exact hk23
    have hi27 : vp_in k1 (hN S25 k2) := by rw [eS25]; exact hi24
    refine v_iconst X (v := 1) dX2_fewestBolts_50 (by decide) ?_
    refine v_istore X (lv' := [(6, .int (1 : Int32)), (0, .ref l0), (1, .ref l1), (2, .int l2), (3, .int l3), (4, .int l4), (5, .int l5)]) dX2_fewestBolts_51 (by decide) rfl ?_
    refine v_lv (lv' := [(0, .ref l0), (1, .ref l1), (2, .int l2), (3, .int l3), (4, .int l4), (5, .int l5), (6, .int (1 : Int32))]) [1, 2, 3, 4, 5, 6, 0] rfl ?_
    obtain ⟨n, h⟩ := h
    exact l53 bk20 hbk20 n _ _ _ _ _ _ _ _ h
  have j20 : ∀ (bk20 : hp → Nat → Nat → Int32 → Int32 → Int32 → Int32 → Prop) (hbk20 : ∀ (S : hp) (l0 : Nat) (l1 : Nat) (l2 : Int32) (l3 : Int32) (l4 : Int32) (l5 : Int32), bk20 S l0 l1 l2 l3 l4 l5 → VM l b D cy 8 2 46 0 0 (pI Q) p e s m args below meth c S 0 0 20 [(0, .ref l0), (1, .ref l1), (2, .int l2), (3, .int l3), (4, .int l4), (5, .int l5)] []) (S : hp) (l0 : Nat) (l1 : Nat) (l2 : Int32) (l3 : Int32) (l4 : Int32) (l5 : Int32), wB_X2_fewestBolts_20 bk20 Q S l0 l1 l2 l3 l4 l5 → VM l b D cy 8 2 46 0 0 (pI Q) p e s m args below meth c S 0 0 20 [(0, .ref l0), (1, .ref l1), (2, .int l2), (3, .int l3), (4, .int l4), (5, .int l5)] [] := by
    intro bk20 hbk20 S l0 l1 l2 l3 l4 l5 h
    unfold wB_X2_fewestBolts_20 at h
    refine v_iload X 5 dX2_fewestBolts_20 rfl ?_
    refine v_iload X 4 dX2_fewestBolts_22 rfl ?_
    refine v_icmp_gt X (tgt := 135) dX2_fewestBolts_24 (by decide) (fun c13 => ?_) (fun c13 => ?_)
    · replace h := h.1 c13
      refine v_aload_n X 0 dX2_fewestBolts_135 rfl rfl ?_
      obtain ⟨hk14, h⟩ := h
      obtain ⟨r15, hr15, h⟩ := h
      refine v_getR X (T := TX2) (N := 2) (k := 1) hk14 (by decide) rfl (by decide) inX2 wd191 rfl dX2_fewestBolts_136 hr15 ?_
      refine v_iload X 4 dX2_fewestBolts_139 rfl ?_
      obtain ⟨hk16, h⟩ := h
      obtain ⟨hi17, h⟩ := h
      refine v_iald X hk16 hi17 dX2_fewestBolts_141 ?_
      exact v_iret X hr hlk ⟨_, rfl, h⟩ dX2_fewestBolts_142
    · replace h := h.2 c13
      refine v_aload_n X 0 dX2_fewestBolts_27 rfl rfl ?_
      obtain ⟨hk18, h⟩ := h
      obtain ⟨r19, hr19, h⟩ := h
      refine v_getR X (T := TX2) (N := 2) (k := 1) hk18 (by decide) rfl (by decide) inX2 wd191 rfl dX2_fewestBolts_28 hr19 ?_
      refine v_iload X 5 dX2_fewestBolts_31 rfl ?_
      refine v_aload_n X 1 dX2_fewestBolts_33 rfl rfl ?_
      refine v_iload_n X 2 dX2_fewestBolts_34 rfl rfl ?_
      refine v_iload X 5 dX2_fewestBolts_35 rfl ?_
      refine v_callS X (av := [.ref l1, .int l2, .int l5]) (s_X2_stripsOf l b D cy h) wd767 wd768 wd60 k_X2_stripsOf dn_X2_stripsOf rfl ⟨Nat.le_of_ble_eq_true rfl, Nat.le_of_ble_eq_true rfl⟩ (Nat.le_of_ble_eq_true rfl) ⟨Nat.le_of_ble_eq_true rfl, Nat.le_of_ble_eq_true rfl⟩ dX2_fewestBolts_37 rfl (kI (fun r21 S20 h => ?_))
      refine v_if_ne X (tgt := 47) dX2_fewestBolts_40 (by decide) (fun c22 => ?_) (fun c22 => ?_)
      · replace h := h.1 c22
        refine v_ldc X wd662 dX2_fewestBolts_47 ?_
        exact j49 bk20 hbk20 _ _ _ _ _ _ _ _ _ _ h
      · replace h := h.2 c22
        refine v_iconst X (v := 0) dX2_fewestBolts_43 (by decide) ?_
        refine v_goto X (tgt := 49) dX2_fewestBolts_44 (by decide) ?_
        exact j49 bk20 hbk20 _ _ _ _ _ _ _ _ _ _ h
  have l20 : ∀  (n : Nat) (S : hp) (l0 : Nat) (l1 : Nat) (l2 : Int32) (l3 : Int32) (l4 : Int32) (l5 : Int32), wl_X2_fewestBolts_20 Q n S l0 l1 l2 l3 l4 l5 → VM l b D cy 8 2 46 0 0 (pI Q) p e s m args below meth c S 0 0 20 [(0, .ref l0), (1, .ref l1), (2, .int l2), (3, .int l3), (4, .int l4), (5, .int l5)] [] := by
    intro  n
    induction n with
    | zero => intro S l0 l1 l2 l3 l4 l5 h; exact h.elim
    | succ n ih => intro S l0 l1 l2 l3 l4 l5 h; exact j20 (wl_X2_fewestBolts_20 Q n) ih S l0 l1 l2 l3 l4 l5 h
  unfold wp_X2_fewestBolts at h
  show VM l b D cy 8 2 46 0 0 (pI Q) p e s m args below meth c S 0 0 0 [(0, .ref a0), (1, .ref a1), (2, .int x2), (3, .int x3)] []
  refine v_iconst X (v := 1) dX2_fewestBolts_0 (by decide) ?_
  refine v_aload_n X 1 dX2_fewestBolts_1 rfl rfl ?_
  obtain ⟨hk1, h⟩ := h
  refine v_getI X (T := TX8) (N := 10) (k := 7) hk1 (by decide) rfl (by decide) inX8 wd156 rfl dX2_fewestBolts_2 ?_
  refine v_ishl X dX2_fewestBolts_5 ?_
  refine v_iconst X (v := 1) dX2_fewestBolts_6 (by decide) ?_
  refine v_isub X dX2_fewestBolts_7 ?_
  refine v_nm (fun v2 hv2 => ?_)
  replace h := h v2 hv2
  refine v_istore X (lv' := [(4, .int v2), (0, .ref a0), (1, .ref a1), (2, .int x2), (3, .int x3)]) dX2_fewestBolts_8 (by decide) rfl ?_
  refine v_aload_n X 1 dX2_fewestBolts_10 rfl rfl ?_
  obtain ⟨hk3, h⟩ := h
  obtain ⟨r4, hr4, h⟩ := h
  refine v_getR X (T := TX2) (N := 2) (k := 1) hk3 (by decide) rfl (by decide) inX2 wd191 rfl dX2_fewestBolts_11 hr4 ?_
  refine v_iconst X (v := 0) dX2_fewestBolts_14 (by decide) ?_
  refine v_iconst X (v := 0) dX2_fewestBolts_15 (by decide) ?_
  obtain ⟨hk5, h⟩ := h
  obtain ⟨hi6, h⟩ := h
  refine v_iast X hk5 hi6 dX2_fewestBolts_16 ?_
  refine v_nmS (fun S7 eS7 => ?_)
  replace h := h S7 eS7
  have hk8 : hK S7 a1 = 7 := by rw [eS7]; exact hk1
  have hk9 : hK S7 a0 = 2 := by rw [eS7]; exact hk3
  have hk10 : hK S7 r4 = 12 := by rw [eS7]; exact hk5
  have hi11 : vp_in (0 : Int32) (hN S7 r4) := by rw [eS7]; exact hi6
  have hr12 : hR S7 a0 1 = some r4 := by rw [eS7]; exact hr4
  refine v_iconst X (v := 1) dX2_fewestBolts_17 (by decide) ?_
  refine v_istore X (lv' := [(5, .int (1 : Int32)), (4, .int v2), (0, .ref a0), (1, .ref a1), (2, .int x2), (3, .int x3)]) dX2_fewestBolts_18 (by decide) rfl ?_
  refine v_lv (lv' := [(0, .ref a0), (1, .ref a1), (2, .int x2), (3, .int x3), (4, .int v2), (5, .int (1 : Int32))]) [2, 3, 4, 5, 1, 0] rfl ?_
  obtain ⟨n, h⟩ := h
  exact l20 n _ _ _ _ _ _ _ h
def wp_X2_feltNeeded (Q : Int32 → hp → Prop) (S : hp) (a0 : Nat) (a1 : Nat) (x2 : Int32) : Prop :=
  hK S a1 = 7 ∧ wp_X2_stripsOf (fun r3 S2 => Q r3 S2) S a1 x2 ((((1 : Int32) <<< ((hI S a1 7) &&& 31)) - (1 : Int32)))
theorem k_X2_feltNeeded : Cond.code yX2_feltNeeded cX2_feltNeeded 3 (some .int) ∈ gtb := mg 777 (by decide +kernel) (by decide +kernel)
theorem dn_X2_feltNeeded : yX2_feltNeeded.cls ≠ "java/lang/invoke/MethodHandle" ∧ yX2_feltNeeded.cls ≠ "java/lang/invoke/VarHandle" ∧ (parseMethodDescriptor yX2_feltNeeded.desc).map (fun d => d.parameters.length) = some 2 := by decide +kernel
set_option maxRecDepth 100000 in
set_option maxHeartbeats 4000000 in
theorem s_X2_feltNeeded (l : Launch) (b : Nat) (D : va_G) (cy : Nat → ClassId) {Q : Int32 → hp → Prop} {S : hp} {a0 : Nat} {a1 : Nat} {x2 : Int32} (h : wp_X2_feltNeeded Q S a0 a1 x2) : MT l yX2_feltNeeded cX2_feltNeeded 3 (some .int) 2 46 0 0 b D cy S [.ref a0, .ref a1, .int x2] (pI Q) := by
  refine MT.of (by decide +kernel) (Nat.le_of_ble_eq_true rfl) ?_
  intro p e s m args below meth c X hr hlk hnm
  unfold wp_X2_feltNeeded at h
  show VM l b D cy 3 2 46 0 0 (pI Q) p e s m args below meth c S 0 0 0 [(0, .ref a0), (1, .ref a1), (2, .int x2)] []
  refine v_aload_n X 1 dX2_feltNeeded_0 rfl rfl ?_
  refine v_iload_n X 2 dX2_feltNeeded_1 rfl rfl ?_
  refine v_iconst X (v := 1) dX2_feltNeeded_2 (by decide) ?_
  refine v_aload_n X 1 dX2_feltNeeded_3 rfl rfl ?_
  obtain ⟨hk1, h⟩ := h
  refine v_getI X (T := TX8) (N := 10) (k := 7) hk1 (by decide) rfl (by decide) inX8 wd156 rfl dX2_feltNeeded_4 ?_
  refine v_ishl X dX2_feltNeeded_7 ?_
  refine v_iconst X (v := 1) dX2_feltNeeded_8 (by decide) ?_
  refine v_isub X dX2_feltNeeded_9 ?_
  refine v_callS X (av := [.ref a1, .int x2, .int (((1 : Int32) <<< ((hI S a1 7) &&& 31)) - (1 : Int32))]) (s_X2_stripsOf l b D cy h) wd767 wd768 wd60 k_X2_stripsOf dn_X2_stripsOf rfl ⟨Nat.le_of_ble_eq_true rfl, Nat.le_of_ble_eq_true rfl⟩ (Nat.le_of_ble_eq_true rfl) ⟨Nat.le_of_ble_eq_true rfl, Nat.le_of_ble_eq_true rfl⟩ dX2_feltNeeded_10 rfl (kI (fun r3 S2 h => ?_))
  exact v_iret X hr hlk ⟨_, rfl, h⟩ dX2_feltNeeded_13
def wB_X11_felt_70 (Q : Int32 → hp → Prop) (S : hp) (l4 : Int32) : Prop :=
  Q l4 S
def wp_X11_felt (Q : Int32 → hp → Prop) (S : hp) (a0 : Nat) (x1 : Int32) (x2 : Int32) (x3 : Int32) : Prop :=
  hK S a0 = 10 ∧ ∃ r2 : Nat, hR S a0 2 = some r2 ∧ hK S r2 = 7 ∧ ((¬ (hI S r2 5) = 0 → ((x1 < 0 → Q (-1000001 : Int32) S) ∧ (¬ x1 < 0 → (((3 : Int32) ≤ x1 → Q (-1000001 : Int32) S) ∧ (¬ (3 : Int32) ≤ x1 → ((x2 < (1 : Int32) → Q (-1000001 : Int32) S) ∧ (¬ x2 < (1 : Int32) → (((200 : Int32) < x2 → Q (-1000001 : Int32) S) ∧ (¬ (200 : Int32) < x2 → wp_X11_isFirstOrSecond (fun r10 S9 => ((¬ r10 = 0 → hK S9 a0 = 10 ∧ ∃ r13 : Nat, hR S9 a0 4 = some r13 ∧ ∃ r14 : Nat, hR S9 a0 2 = some r14 ∧ hK S9 r13 = 2 ∧ wp_X2_fewestBolts (fun r17 S15 => ((r17 = (-1000000 : Int32) → wB_X11_felt_70 Q S15 r17) ∧ (¬ r17 = (-1000000 : Int32) → ((¬ x3 = 0 → hK S15 a0 = 10 ∧ ∃ r21 : Nat, hR S15 a0 4 = some r21 ∧ ∃ r22 : Nat, hR S15 a0 2 = some r22 ∧ hK S15 r21 = 2 ∧ wp_X2_feltNeeded (fun r25 S23 => Q ((r17 * x2) - r25) S23) S15 r21 r22 x1) ∧ (x3 = 0 → wB_X11_felt_70 Q S15 r17))))) S9 r13 r14 x1 x2) ∧ (r10 = 0 → Q (-1000001 : Int32) S9))) S x3))))))))) ∧ ((hI S r2 5) = 0 → Q (-1000002 : Int32) S))
theorem k_X11_felt : Cond.code yX11_felt cX11_felt 5 (some .int) ∈ gtb := mg 762 (by decide +kernel) (by decide +kernel)
theorem dn_X11_felt : yX11_felt.cls ≠ "java/lang/invoke/MethodHandle" ∧ yX11_felt.cls ≠ "java/lang/invoke/VarHandle" ∧ (parseMethodDescriptor yX11_felt.desc).map (fun d => d.parameters.length) = some 3 := by decide +kernel
set_option maxRecDepth 100000 in
set_option maxHeartbeats 4000000 in
theorem s_X11_felt (l : Launch) (b : Nat) (D : va_G) (cy : Nat → ClassId) {Q : Int32 → hp → Prop} {S : hp} {a0 : Nat} {x1 : Int32} {x2 : Int32} {x3 : Int32} (h : wp_X11_felt Q S a0 x1 x2 x3) : MT l yX11_felt cX11_felt 5 (some .int) 3 73 0 0 b D cy S [.ref a0, .int x1, .int x2, .int x3] (pI Q) := by
  refine MT.of (by decide +kernel) (Nat.le_of_ble_eq_true rfl) ?_
  intro p e s m args below meth c X hr hlk hnm
  have j70 : ∀  (S : hp) (l4 : Int32), wB_X11_felt_70 Q S l4 → VM l b D cy 5 3 73 0 0 (pI Q) p e s m args below meth c S 0 0 70 [(4, .int l4)] [] := by
    intro  S l4 h
    unfold wB_X11_felt_70 at h
    refine v_iload X 0 dX11_felt_70 rfl ?_
    refine v_goto X (tgt := 92) dX11_felt_72 (by decide) ?_
    exact v_iret X hr hlk ⟨_, rfl, h⟩ dX11_felt_92
  unfold wp_X11_felt at h
  show VM l b D cy 5 3 73 0 0 (pI Q) p e s m args below meth c S 0 0 0 [(0, .ref a0), (1, .int x1), (2, .int x2), (3, .int x3)] []
  refine v_aload_n X 0 dX11_felt_0 rfl rfl ?_
  obtain ⟨hk1, h⟩ := h
  obtain ⟨r2, hr2, h⟩ := h
  refine v_getR X (T := TX11) (N := 12) (k := 2) hk1 (by decide) rfl (by decide) inX11 wd217 rfl dX11_felt_1 hr2 ?_
  obtain ⟨hk3, h⟩ := h
  refine v_getI X (T := TX8) (N := 10) (k := 5) hk3 (by decide) rfl (by decide) inX8 wd150 rfl dX11_felt_4 ?_
  refine v_if_ne X (tgt := 13) dX11_felt_7 (by decide) (fun c4 => ?_) (fun c4 => ?_)
  · replace h := h.1 c4
    refine v_iload_n X 1 dX11_felt_13 rfl rfl ?_
    refine v_if_lt X (tgt := 41) dX11_felt_14 (by decide) (fun c5 => ?_) (fun c5 => ?_)
    · replace h := h.1 c5
      refine v_ldc X wd262 dX11_felt_41 ?_
      exact v_iret X hr hlk ⟨_, rfl, h⟩ dX11_felt_43
    · replace h := h.2 c5
      refine v_iload_n X 1 dX11_felt_17 rfl rfl ?_
      refine v_iconst X (v := 3) dX11_felt_18 (by decide) ?_
      refine v_icmp_ge X (tgt := 41) dX11_felt_19 (by decide) (fun c6 => ?_) (fun c6 => ?_)
      · replace h := h.1 c6
        refine v_ldc X wd262 dX11_felt_41 ?_
        exact v_iret X hr hlk ⟨_, rfl, h⟩ dX11_felt_43
      · replace h := h.2 c6
        refine v_iload_n X 2 dX11_felt_22 rfl rfl ?_
        refine v_iconst X (v := 1) dX11_felt_23 (by decide) ?_
        refine v_icmp_lt X (tgt := 41) dX11_felt_24 (by decide) (fun c7 => ?_) (fun c7 => ?_)
        · replace h := h.1 c7
          refine v_ldc X wd262 dX11_felt_41 ?_
          exact v_iret X hr hlk ⟨_, rfl, h⟩ dX11_felt_43
        · replace h := h.2 c7
          refine v_iload_n X 2 dX11_felt_27 rfl rfl ?_
          refine v_sipush X (v := 200) dX11_felt_28 (by decide) ?_
          refine v_icmp_gt X (tgt := 41) dX11_felt_31 (by decide) (fun c8 => ?_) (fun c8 => ?_)
          · replace h := h.1 c8
            refine v_ldc X wd262 dX11_felt_41 ?_
            exact v_iret X hr hlk ⟨_, rfl, h⟩ dX11_felt_43
          · replace h := h.2 c8
            refine v_iload_n X 3 dX11_felt_34 rfl rfl ?_
            refine v_callS X (av := [.int x3]) (s_X11_isFirstOrSecond l b D cy h) wd619 wd620 wd56 k_X11_isFirstOrSecond dn_X11_isFirstOrSecond rfl ⟨Nat.le_of_ble_eq_true rfl, Nat.le_of_ble_eq_true rfl⟩ (Nat.le_of_ble_eq_true rfl) ⟨Nat.le_of_ble_eq_true rfl, Nat.le_of_ble_eq_true rfl⟩ dX11_felt_35 rfl (kI (fun r10 S9 h => ?_))
            refine v_if_ne X (tgt := 44) dX11_felt_38 (by decide) (fun c11 => ?_) (fun c11 => ?_)
            · replace h := h.1 c11
              refine v_aload_n X 0 dX11_felt_44 rfl rfl ?_
              obtain ⟨hk12, h⟩ := h
              obtain ⟨r13, hr13, h⟩ := h
              refine v_getR X (T := TX11) (N := 12) (k := 4) hk12 (by decide) rfl (by decide) inX11 wd219 rfl dX11_felt_45 hr13 ?_
              refine v_aload_n X 0 dX11_felt_48 rfl rfl ?_
              obtain ⟨r14, hr14, h⟩ := h
              refine v_getR X (T := TX11) (N := 12) (k := 2) hk12 (by decide) rfl (by decide) inX11 wd217 rfl dX11_felt_49 hr14 ?_
              refine v_iload_n X 1 dX11_felt_52 rfl rfl ?_
              refine v_iload_n X 2 dX11_felt_53 rfl rfl ?_
              obtain ⟨hk16, h⟩ := h
              refine v_callV X (av := [.ref r14, .int x1, .int x2]) (T := TX2) (N := 2) (s_X2_fewestBolts l b D cy h) hk16 (by decide) rfl wd763 wd764 wd765 wd60 k_X2_fewestBolts dn_X2_fewestBolts rfl ⟨Nat.le_of_ble_eq_true rfl, Nat.le_of_ble_eq_true rfl⟩ (Nat.le_of_ble_eq_true rfl) ⟨Nat.le_of_ble_eq_true rfl, Nat.le_of_ble_eq_true rfl⟩ dX11_felt_54 rfl (kI (fun r17 S15 h => ?_))
              refine v_istore X (lv' := [(4, .int r17), (0, .ref a0), (1, .int x1), (2, .int x2), (3, .int x3)]) dX11_felt_57 (by decide) rfl ?_
              refine v_iload X 0 dX11_felt_59 rfl ?_
              refine v_ldc X wd671 dX11_felt_61 ?_
              refine v_icmp_eq X (tgt := 70) dX11_felt_63 (by decide) (fun c18 => ?_) (fun c18 => ?_)
              · replace h := h.1 c18
                refine v_lv (lv' := [(4, .int r17)]) [0] rfl ?_
                exact j70 _ _ h
              · replace h := h.2 c18
                refine v_iload_n X 4 dX11_felt_66 rfl rfl ?_
                refine v_if_ne X (tgt := 75) dX11_felt_67 (by decide) (fun c19 => ?_) (fun c19 => ?_)
                · replace h := h.1 c19
                  refine v_iload X 0 dX11_felt_75 rfl ?_
                  refine v_iload_n X 3 dX11_felt_77 rfl rfl ?_
                  refine v_imul X dX11_felt_78 ?_
                  refine v_aload_n X 1 dX11_felt_79 rfl rfl ?_
                  obtain ⟨hk20, h⟩ := h
                  obtain ⟨r21, hr21, h⟩ := h
                  refine v_getR X (T := TX11) (N := 12) (k := 4) hk20 (by decide) rfl (by decide) inX11 wd219 rfl dX11_felt_80 hr21 ?_
                  refine v_aload_n X 1 dX11_felt_83 rfl rfl ?_
                  obtain ⟨r22, hr22, h⟩ := h
                  refine v_getR X (T := TX11) (N := 12) (k := 2) hk20 (by decide) rfl (by decide) inX11 wd217 rfl dX11_felt_84 hr22 ?_
                  refine v_iload_n X 2 dX11_felt_87 rfl rfl ?_
                  obtain ⟨hk24, h⟩ := h
                  refine v_callV X (av := [.ref r22, .int x1]) (T := TX2) (N := 2) (s_X2_feltNeeded l b D cy h) hk24 (by decide) rfl wd774 wd775 wd776 wd60 k_X2_feltNeeded dn_X2_feltNeeded rfl ⟨Nat.le_of_ble_eq_true rfl, Nat.le_of_ble_eq_true rfl⟩ (Nat.le_of_ble_eq_true rfl) ⟨Nat.le_of_ble_eq_true rfl, Nat.le_of_ble_eq_true rfl⟩ dX11_felt_88 rfl (kI (fun r25 S23 h => ?_))
                  refine v_isub X dX11_felt_91 ?_
                  exact v_iret X hr hlk ⟨_, rfl, h⟩ dX11_felt_92
                · replace h := h.2 c19
                  refine v_lv (lv' := [(4, .int r17)]) [0] rfl ?_
                  exact j70 _ _ h
            · replace h := h.2 c11
              refine v_ldc X wd262 dX11_felt_41 ?_
              exact v_iret X hr hlk ⟨_, rfl, h⟩ dX11_felt_43
  · replace h := h.2 c4
    refine v_ldc X wd474 dX11_felt_10 ?_
    exact v_iret X hr hlk ⟨_, rfl, h⟩ dX11_felt_12
def wB_X2_restBut_22 (bk2 : hp → Nat → Int32 → Int32 → Int32 → Prop) (Q : Int32 → hp → Prop) (S : hp) (l0 : Nat) (l1 : Int32) (l2 : Int32) (l3 : Int32) : Prop :=
  ∀ v4 : Int32, v4 = l3 + (1 : Int32) → bk2 S l0 l1 l2 v4
def wB_X2_restBut_2 (bk2 : hp → Nat → Int32 → Int32 → Int32 → Prop) (Q : Int32 → hp → Prop) (S : hp) (l0 : Nat) (l1 : Int32) (l2 : Int32) (l3 : Int32) : Prop :=
  hK S l0 = 7 ∧ (((hI S l0 7) ≤ l3 → Q (-1000000 : Int32) S) ∧ (¬ (hI S l0 7) ≤ l3 → ((l3 = l1 → wB_X2_restBut_22 bk2 Q S l0 l1 l2 l3) ∧ (¬ l3 = l1 → ((l3 = l2 → wB_X2_restBut_22 bk2 Q S l0 l1 l2 l3) ∧ (¬ l3 = l2 → Q l3 S))))))
def wl_X2_restBut_2 (Q : Int32 → hp → Prop) : Nat → hp → Nat → Int32 → Int32 → Int32 → Prop
  | 0 => fun _ _ _ _ _ => False
  | n + 1 => wB_X2_restBut_2 (wl_X2_restBut_2 Q n) Q
def wp_X2_restBut (Q : Int32 → hp → Prop) (S : hp) (a0 : Nat) (x1 : Int32) (x2 : Int32) : Prop :=
  ∃ n : Nat, wl_X2_restBut_2 Q n S a0 x1 x2 (1 : Int32)
theorem k_X2_restBut : Cond.code yX2_restBut cX2_restBut 4 (some .int) ∈ gtb := mg 792 (by decide +kernel) (by decide +kernel)
theorem dn_X2_restBut : yX2_restBut.cls ≠ "java/lang/invoke/MethodHandle" ∧ yX2_restBut.cls ≠ "java/lang/invoke/VarHandle" ∧ (parseMethodDescriptor yX2_restBut.desc).map (fun d => d.parameters.length) = some 3 := by decide +kernel
set_option maxRecDepth 100000 in
set_option maxHeartbeats 4000000 in
theorem s_X2_restBut (l : Launch) (b : Nat) (D : va_G) (cy : Nat → ClassId) {Q : Int32 → hp → Prop} {S : hp} {a0 : Nat} {x1 : Int32} {x2 : Int32} (h : wp_X2_restBut Q S a0 x1 x2) : MT l yX2_restBut cX2_restBut 4 (some .int) 0 0 0 0 b D cy S [.ref a0, .int x1, .int x2] (pI Q) := by
  refine MT.of (by decide +kernel) (Nat.le_of_ble_eq_true rfl) ?_
  intro p e s m args below meth c X hr hlk hnm
  have j22 : ∀ (bk2 : hp → Nat → Int32 → Int32 → Int32 → Prop) (hbk2 : ∀ (S : hp) (l0 : Nat) (l1 : Int32) (l2 : Int32) (l3 : Int32), bk2 S l0 l1 l2 l3 → VM l b D cy 4 0 0 0 0 (pI Q) p e s m args below meth c S 0 0 2 [(0, .ref l0), (1, .int l1), (2, .int l2), (3, .int l3)] []) (S : hp) (l0 : Nat) (l1 : Int32) (l2 : Int32) (l3 : Int32), wB_X2_restBut_22 bk2 Q S l0 l1 l2 l3 → VM l b D cy 4 0 0 0 0 (pI Q) p e s m args below meth c S 0 0 22 [(0, .ref l0), (1, .int l1), (2, .int l2), (3, .int l3)] [] := by
    intro bk2 hbk2 S l0 l1 l2 l3 h
    unfold wB_X2_restBut_22 at h
    obtain ⟨v4, hv4⟩ : ∃ y : Int32, y = l3 + (1 : Int32) := ⟨_, rfl⟩
    replace h := h v4 hv4
    refine v_iinc X (j := 3) (v := v4) (lv' := [(3, .int v4), (0, .ref l0), (1, .int l1), (2, .int l2)]) dX2_restBut_22 rfl (by rw [hv4] <;> rfl) (by decide) rfl ?_
    refine v_goto X (tgt := 2) dX2_restBut_25 (by decide) ?_
    refine v_lv (lv' := [(0, .ref l0), (1, .int l1), (2, .int l2), (3, .int v4)]) [1, 2, 3, 0] rfl ?_
    exact hbk2 _ _ _ _ _ h
  have j2 : ∀ (bk2 : hp → Nat → Int32 → Int32 → Int32 → Prop) (hbk2 : ∀ (S : hp) (l0 : Nat) (l1 : Int32) (l2 : Int32) (l3 : Int32), bk2 S l0 l1 l2 l3 → VM l b D cy 4 0 0 0 0 (pI Q) p e s m args below meth c S 0 0 2 [(0, .ref l0), (1, .int l1), (2, .int l2), (3, .int l3)] []) (S : hp) (l0 : Nat) (l1 : Int32) (l2 : Int32) (l3 : Int32), wB_X2_restBut_2 bk2 Q S l0 l1 l2 l3 → VM l b D cy 4 0 0 0 0 (pI Q) p e s m args below meth c S 0 0 2 [(0, .ref l0), (1, .int l1), (2, .int l2), (3, .int l3)] [] := by
    intro bk2 hbk2 S l0 l1 l2 l3 h
    unfold wB_X2_restBut_2 at h
    refine v_iload_n X 3 dX2_restBut_2 rfl rfl ?_
    refine v_aload_n X 0 dX2_restBut_3 rfl rfl ?_
    obtain ⟨hk1, h⟩ := h
    refine v_getI X (T := TX8) (N := 10) (k := 7) hk1 (by decide) rfl (by decide) inX8 wd156 rfl dX2_restBut_4 ?_
    refine v_icmp_ge X (tgt := 28) dX2_restBut_7 (by decide) (fun c2 => ?_) (fun c2 => ?_)
    · replace h := h.1 c2
      refine v_ldc X wd662 dX2_restBut_28 ?_
      exact v_iret X hr hlk ⟨_, rfl, h⟩ dX2_restBut_30
    · replace h := h.2 c2
      refine v_iload_n X 3 dX2_restBut_10 rfl rfl ?_
      refine v_iload_n X 1 dX2_restBut_11 rfl rfl ?_
      refine v_icmp_eq X (tgt := 22) dX2_restBut_12 (by decide) (fun c3 => ?_) (fun c3 => ?_)
      · replace h := h.1 c3
        exact j22 bk2 hbk2 _ _ _ _ _ h
      · replace h := h.2 c3
        refine v_iload_n X 3 dX2_restBut_15 rfl rfl ?_
        refine v_iload_n X 2 dX2_restBut_16 rfl rfl ?_
        refine v_icmp_eq X (tgt := 22) dX2_restBut_17 (by decide) (fun c5 => ?_) (fun c5 => ?_)
        · replace h := h.1 c5
          exact j22 bk2 hbk2 _ _ _ _ _ h
        · replace h := h.2 c5
          refine v_iload_n X 3 dX2_restBut_20 rfl rfl ?_
          exact v_iret X hr hlk ⟨_, rfl, h⟩ dX2_restBut_21
  have l2 : ∀  (n : Nat) (S : hp) (l0 : Nat) (l1 : Int32) (l2 : Int32) (l3 : Int32), wl_X2_restBut_2 Q n S l0 l1 l2 l3 → VM l b D cy 4 0 0 0 0 (pI Q) p e s m args below meth c S 0 0 2 [(0, .ref l0), (1, .int l1), (2, .int l2), (3, .int l3)] [] := by
    intro  n
    induction n with
    | zero => intro S l0 l1 l2 l3 h; exact h.elim
    | succ n ih => intro S l0 l1 l2 l3 h; exact j2 (wl_X2_restBut_2 Q n) ih S l0 l1 l2 l3 h
  unfold wp_X2_restBut at h
  show VM l b D cy 4 0 0 0 0 (pI Q) p e s m args below meth c S 0 0 0 [(0, .ref a0), (1, .int x1), (2, .int x2)] []
  refine v_iconst X (v := 1) dX2_restBut_0 (by decide) ?_
  refine v_istore_n X (lv' := [(3, .int (1 : Int32)), (0, .ref a0), (1, .int x1), (2, .int x2)]) dX2_restBut_1 rfl (by decide) rfl ?_
  refine v_lv (lv' := [(0, .ref a0), (1, .int x1), (2, .int x2), (3, .int (1 : Int32))]) [1, 2, 3, 0] rfl ?_
  obtain ⟨n, h⟩ := h
  exact l2 n _ _ _ _ _ h
def wB_X2_unlike_23 (bk23 : hp → Nat → Int32 → Int32 → Int32 → Int32 → Prop) (Q : Int32 → hp → Prop) (S : hp) (l0 : Nat) (l1 : Int32) (l2 : Int32) (l3 : Int32) (l4 : Int32) : Prop :=
  (((3 : Int32) ≤ l4 → Q l3 S) ∧ (¬ (3 : Int32) ≤ l4 → hK S l0 = 7 ∧ ∃ r11 : Nat, hR S l0 0 = some r11 ∧ wp_X8_at (fun r13 S12 => hK S12 r11 = 12 ∧ vp_in r13 (hN S12 r11) ∧ hK S12 l0 = 7 ∧ ∃ r17 : Nat, hR S12 l0 0 = some r17 ∧ wp_X8_at (fun r19 S18 => hK S18 r17 = 12 ∧ vp_in r19 (hN S18 r17) ∧ ∀ v22 : Int32, v22 = (l3 + (if 0 ≤ ((hI S12 r11 (r13).toNatClampNeg) - (hI S18 r17 (r19).toNatClampNeg)) then ((hI S12 r11 (r13).toNatClampNeg) - (hI S18 r17 (r19).toNatClampNeg)) else 0 - ((hI S12 r11 (r13).toNatClampNeg) - (hI S18 r17 (r19).toNatClampNeg)))) → ∀ v23 : Int32, v23 = l4 + (1 : Int32) → bk23 S18 l0 l1 l2 v22 v23) S12 l2 l4) S l1 l4))
def wl_X2_unlike_23 (Q : Int32 → hp → Prop) : Nat → hp → Nat → Int32 → Int32 → Int32 → Int32 → Prop
  | 0 => fun _ _ _ _ _ _ => False
  | n + 1 => wB_X2_unlike_23 (wl_X2_unlike_23 Q n) Q
def wp_X2_unlike (Q : Int32 → hp → Prop) (S : hp) (a0 : Nat) (x1 : Int32) (x2 : Int32) : Prop :=
  hK S a0 = 7 ∧ wp_X8_hasDummy (fun r3 S1 => ((r3 = 0 → Q (0 : Int32) S1) ∧ (¬ r3 = 0 → hK S1 a0 = 7 ∧ wp_X8_hasDummy (fun r7 S5 => ((¬ r7 = 0 → ∃ n : Nat, wl_X2_unlike_23 Q n S5 a0 x1 x2 (0 : Int32) (0 : Int32)) ∧ (r7 = 0 → Q (0 : Int32) S5))) S1 a0 x2))) S a0 x1
theorem k_X2_unlike : Cond.code yX2_unlike cX2_unlike 5 (some .int) ∈ gtb := mg 795 (by decide +kernel) (by decide +kernel)
theorem dn_X2_unlike : yX2_unlike.cls ≠ "java/lang/invoke/MethodHandle" ∧ yX2_unlike.cls ≠ "java/lang/invoke/VarHandle" ∧ (parseMethodDescriptor yX2_unlike.desc).map (fun d => d.parameters.length) = some 3 := by decide +kernel
set_option maxRecDepth 100000 in
set_option maxHeartbeats 4000000 in
theorem s_X2_unlike (l : Launch) (b : Nat) (D : va_G) (cy : Nat → ClassId) {Q : Int32 → hp → Prop} {S : hp} {a0 : Nat} {x1 : Int32} {x2 : Int32} (h : wp_X2_unlike Q S a0 x1 x2) : MT l yX2_unlike cX2_unlike 5 (some .int) 1 21 0 0 b D cy S [.ref a0, .int x1, .int x2] (pI Q) := by
  refine MT.of (by decide +kernel) (Nat.le_of_ble_eq_true rfl) ?_
  intro p e s m args below meth c X hr hlk hnm
  have j23 : ∀ (bk23 : hp → Nat → Int32 → Int32 → Int32 → Int32 → Prop) (hbk23 : ∀ (S : hp) (l0 : Nat) (l1 : Int32) (l2 : Int32) (l3 : Int32) (l4 : Int32), bk23 S l0 l1 l2 l3 l4 → VM l b D cy 5 1 21 0 0 (pI Q) p e s m args below meth c S 0 0 23 [(0, .ref l0), (1, .int l1), (2, .int l2), (3, .int l3), (4, .int l4)] []) (S : hp) (l0 : Nat) (l1 : Int32) (l2 : Int32) (l3 : Int32) (l4 : Int32), wB_X2_unlike_23 bk23 Q S l0 l1 l2 l3 l4 → VM l b D cy 5 1 21 0 0 (pI Q) p e s m args below meth c S 0 0 23 [(0, .ref l0), (1, .int l1), (2, .int l2), (3, .int l3), (4, .int l4)] [] := by
    intro bk23 hbk23 S l0 l1 l2 l3 l4 h
    unfold wB_X2_unlike_23 at h
    refine v_iload X 4 dX2_unlike_23 rfl ?_
    refine v_iconst X (v := 3) dX2_unlike_25 (by decide) ?_
    refine v_icmp_ge X (tgt := 64) dX2_unlike_26 (by decide) (fun c9 => ?_) (fun c9 => ?_)
    · replace h := h.1 c9
      refine v_iload_n X 3 dX2_unlike_64 rfl rfl ?_
      exact v_iret X hr hlk ⟨_, rfl, h⟩ dX2_unlike_65
    · replace h := h.2 c9
      refine v_iload_n X 3 dX2_unlike_29 rfl rfl ?_
      refine v_aload_n X 0 dX2_unlike_30 rfl rfl ?_
      obtain ⟨hk10, h⟩ := h
      obtain ⟨r11, hr11, h⟩ := h
      refine v_getR X (T := TX8) (N := 10) (k := 0) hk10 (by decide) rfl (by decide) inX8 wd142 rfl dX2_unlike_31 hr11 ?_
      refine v_iload_n X 1 dX2_unlike_34 rfl rfl ?_
      refine v_iload X 4 dX2_unlike_35 rfl ?_
      refine v_callS X (av := [.int l1, .int l4]) (s_X8_at l b D cy h) wd640 wd384 wd59 k_X8_at dn_X8_at rfl ⟨Nat.le_of_ble_eq_true rfl, Nat.le_of_ble_eq_true rfl⟩ (Nat.le_of_ble_eq_true rfl) ⟨Nat.le_of_ble_eq_true rfl, Nat.le_of_ble_eq_true rfl⟩ dX2_unlike_37 rfl (kI (fun r13 S12 h => ?_))
      obtain ⟨hk14, h⟩ := h
      obtain ⟨hi15, h⟩ := h
      refine v_iald X hk14 hi15 dX2_unlike_40 ?_
      refine v_aload_n X 0 dX2_unlike_41 rfl rfl ?_
      obtain ⟨hk16, h⟩ := h
      obtain ⟨r17, hr17, h⟩ := h
      refine v_getR X (T := TX8) (N := 10) (k := 0) hk16 (by decide) rfl (by decide) inX8 wd142 rfl dX2_unlike_42 hr17 ?_
      refine v_iload_n X 2 dX2_unlike_45 rfl rfl ?_
      refine v_iload X 4 dX2_unlike_46 rfl ?_
      refine v_callS X (av := [.int l2, .int l4]) (s_X8_at l b D cy h) wd640 wd384 wd59 k_X8_at dn_X8_at rfl ⟨Nat.le_of_ble_eq_true rfl, Nat.le_of_ble_eq_true rfl⟩ (Nat.le_of_ble_eq_true rfl) ⟨Nat.le_of_ble_eq_true rfl, Nat.le_of_ble_eq_true rfl⟩ dX2_unlike_48 rfl (kI (fun r19 S18 h => ?_))
      obtain ⟨hk20, h⟩ := h
      obtain ⟨hi21, h⟩ := h
      refine v_iald X hk20 hi21 dX2_unlike_51 ?_
      refine v_isub X dX2_unlike_52 ?_
      refine v_mabs X wd713 wd522 wd71 wd523 (Nat.le_of_ble_eq_true rfl) (Nat.le_of_ble_eq_true rfl) (Nat.le_of_ble_eq_true rfl) (Nat.le_of_ble_eq_true rfl) dX2_unlike_53 ?_
      refine v_iadd X dX2_unlike_56 ?_
      refine v_nm (fun v22 hv22 => ?_)
      replace h := h v22 hv22
      refine v_istore_n X (lv' := [(3, .int v22), (0, .ref l0), (1, .int l1), (2, .int l2), (4, .int l4)]) dX2_unlike_57 rfl (by decide) rfl ?_
      obtain ⟨v23, hv23⟩ : ∃ y : Int32, y = l4 + (1 : Int32) := ⟨_, rfl⟩
      replace h := h v23 hv23
      refine v_iinc X (j := 4) (v := v23) (lv' := [(4, .int v23), (3, .int v22), (0, .ref l0), (1, .int l1), (2, .int l2)]) dX2_unlike_58 rfl (by rw [hv23] <;> rfl) (by decide) rfl ?_
      refine v_goto X (tgt := 23) dX2_unlike_61 (by decide) ?_
      refine v_lv (lv' := [(0, .ref l0), (1, .int l1), (2, .int l2), (3, .int v22), (4, .int v23)]) [2, 3, 4, 1, 0] rfl ?_
      exact hbk23 _ _ _ _ _ _ h
  have l23 : ∀  (n : Nat) (S : hp) (l0 : Nat) (l1 : Int32) (l2 : Int32) (l3 : Int32) (l4 : Int32), wl_X2_unlike_23 Q n S l0 l1 l2 l3 l4 → VM l b D cy 5 1 21 0 0 (pI Q) p e s m args below meth c S 0 0 23 [(0, .ref l0), (1, .int l1), (2, .int l2), (3, .int l3), (4, .int l4)] [] := by
    intro  n
    induction n with
    | zero => intro S l0 l1 l2 l3 l4 h; exact h.elim
    | succ n ih => intro S l0 l1 l2 l3 l4 h; exact j23 (wl_X2_unlike_23 Q n) ih S l0 l1 l2 l3 l4 h
  unfold wp_X2_unlike at h
  show VM l b D cy 5 1 21 0 0 (pI Q) p e s m args below meth c S 0 0 0 [(0, .ref a0), (1, .int x1), (2, .int x2)] []
  refine v_aload_n X 0 dX2_unlike_0 rfl rfl ?_
  refine v_iload_n X 1 dX2_unlike_1 rfl rfl ?_
  obtain ⟨hk2, h⟩ := h
  refine v_callV X (av := [.int x1]) (T := TX8) (N := 10) (s_X8_hasDummy l b D cy h) hk2 (by decide) rfl wd796 wd488 wd489 wd59 k_X8_hasDummy dn_X8_hasDummy rfl ⟨Nat.le_of_ble_eq_true rfl, Nat.le_of_ble_eq_true rfl⟩ (Nat.le_of_ble_eq_true rfl) ⟨Nat.le_of_ble_eq_true rfl, Nat.le_of_ble_eq_true rfl⟩ dX2_unlike_2 rfl (kI (fun r3 S1 h => ?_))
  refine v_if_eq X (tgt := 16) dX2_unlike_5 (by decide) (fun c4 => ?_) (fun c4 => ?_)
  · replace h := h.1 c4
    refine v_iconst X (v := 0) dX2_unlike_16 (by decide) ?_
    exact v_iret X hr hlk ⟨_, rfl, h⟩ dX2_unlike_17
  · replace h := h.2 c4
    refine v_aload_n X 0 dX2_unlike_8 rfl rfl ?_
    refine v_iload_n X 2 dX2_unlike_9 rfl rfl ?_
    obtain ⟨hk6, h⟩ := h
    refine v_callV X (av := [.int x2]) (T := TX8) (N := 10) (s_X8_hasDummy l b D cy h) hk6 (by decide) rfl wd796 wd488 wd489 wd59 k_X8_hasDummy dn_X8_hasDummy rfl ⟨Nat.le_of_ble_eq_true rfl, Nat.le_of_ble_eq_true rfl⟩ (Nat.le_of_ble_eq_true rfl) ⟨Nat.le_of_ble_eq_true rfl, Nat.le_of_ble_eq_true rfl⟩ dX2_unlike_10 rfl (kI (fun r7 S5 h => ?_))
    refine v_if_ne X (tgt := 18) dX2_unlike_13 (by decide) (fun c8 => ?_) (fun c8 => ?_)
    · replace h := h.1 c8
      refine v_iconst X (v := 0) dX2_unlike_18 (by decide) ?_
      refine v_istore_n X (lv' := [(3, .int (0 : Int32)), (0, .ref a0), (1, .int x1), (2, .int x2)]) dX2_unlike_19 rfl (by decide) rfl ?_
      refine v_iconst X (v := 0) dX2_unlike_20 (by decide) ?_
      refine v_istore X (lv' := [(4, .int (0 : Int32)), (3, .int (0 : Int32)), (0, .ref a0), (1, .int x1), (2, .int x2)]) dX2_unlike_21 (by decide) rfl ?_
      refine v_lv (lv' := [(0, .ref a0), (1, .int x1), (2, .int x2), (3, .int (0 : Int32)), (4, .int (0 : Int32))]) [2, 3, 4, 1, 0] rfl ?_
      obtain ⟨n, h⟩ := h
      exact l23 n _ _ _ _ _ _ h
    · replace h := h.2 c8
      refine v_iconst X (v := 0) dX2_unlike_16 (by decide) ?_
      exact v_iret X hr hlk ⟨_, rfl, h⟩ dX2_unlike_17
def wB_X2_unlikePairs_24 (Q : Int32 → hp → Prop) (S : hp) (l1 : Nat) (l2 : Int32) (l3 : Int32) (k0 : Int32) : Prop :=
  wp_X2_unlike (fun r7 S6 => wp_X2_unlike (fun r9 S8 => Q (r7 + r9) S8) S6 l1 l3 k0) S l1 (0 : Int32) l2
def wp_X2_unlikePairs (Q : Int32 → hp → Prop) (S : hp) (a0 : Nat) (a1 : Nat) (x2 : Int32) : Prop :=
  wp_X2_restBut (fun r2 S1 => ((¬ r2 = (-1000000 : Int32) → wp_X2_restBut (fun r5 S4 => wB_X2_unlikePairs_24 Q S4 a1 x2 r2 r5) S1 a1 x2 r2) ∧ (r2 = (-1000000 : Int32) → wB_X2_unlikePairs_24 Q S1 a1 x2 r2 (-1000000 : Int32)))) S a1 x2 (0 : Int32)
theorem k_X2_unlikePairs : Cond.code yX2_unlikePairs cX2_unlikePairs 5 (some .int) ∈ gtb := mg 789 (by decide +kernel) (by decide +kernel)
theorem dn_X2_unlikePairs : yX2_unlikePairs.cls ≠ "java/lang/invoke/MethodHandle" ∧ yX2_unlikePairs.cls ≠ "java/lang/invoke/VarHandle" ∧ (parseMethodDescriptor yX2_unlikePairs.desc).map (fun d => d.parameters.length) = some 2 := by decide +kernel
set_option maxRecDepth 100000 in
set_option maxHeartbeats 4000000 in
theorem s_X2_unlikePairs (l : Launch) (b : Nat) (D : va_G) (cy : Nat → ClassId) {Q : Int32 → hp → Prop} {S : hp} {a0 : Nat} {a1 : Nat} {x2 : Int32} (h : wp_X2_unlikePairs Q S a0 a1 x2) : MT l yX2_unlikePairs cX2_unlikePairs 5 (some .int) 2 45 0 0 b D cy S [.ref a0, .ref a1, .int x2] (pI Q) := by
  refine MT.of (by decide +kernel) (Nat.le_of_ble_eq_true rfl) ?_
  intro p e s m args below meth c X hr hlk hnm
  have j24 : ∀  (S : hp) (l1 : Nat) (l2 : Int32) (l3 : Int32) (k0 : Int32), wB_X2_unlikePairs_24 Q S l1 l2 l3 k0 → VM l b D cy 5 2 45 0 0 (pI Q) p e s m args below meth c S 0 0 24 [(1, .ref l1), (2, .int l2), (3, .int l3)] [.int k0] := by
    intro  S l1 l2 l3 k0 h
    unfold wB_X2_unlikePairs_24 at h
    refine v_istore X (lv' := [(4, .int k0), (1, .ref l1), (2, .int l2), (3, .int l3)]) dX2_unlikePairs_24 (by decide) rfl ?_
    refine v_aload_n X 1 dX2_unlikePairs_26 rfl rfl ?_
    refine v_iconst X (v := 0) dX2_unlikePairs_27 (by decide) ?_
    refine v_iload_n X 2 dX2_unlikePairs_28 rfl rfl ?_
    refine v_callS X (av := [.ref l1, .int (0 : Int32), .int l2]) (s_X2_unlike l b D cy h) wd793 wd794 wd60 k_X2_unlike dn_X2_unlike rfl ⟨Nat.le_of_ble_eq_true rfl, Nat.le_of_ble_eq_true rfl⟩ (Nat.le_of_ble_eq_true rfl) ⟨Nat.le_of_ble_eq_true rfl, Nat.le_of_ble_eq_true rfl⟩ dX2_unlikePairs_29 rfl (kI (fun r7 S6 h => ?_))
    refine v_aload_n X 1 dX2_unlikePairs_32 rfl rfl ?_
    refine v_iload_n X 3 dX2_unlikePairs_33 rfl rfl ?_
    refine v_iload X 0 dX2_unlikePairs_34 rfl ?_
    refine v_callS X (av := [.ref l1, .int l3, .int k0]) (s_X2_unlike l b D cy h) wd793 wd794 wd60 k_X2_unlike dn_X2_unlike rfl ⟨Nat.le_of_ble_eq_true rfl, Nat.le_of_ble_eq_true rfl⟩ (Nat.le_of_ble_eq_true rfl) ⟨Nat.le_of_ble_eq_true rfl, Nat.le_of_ble_eq_true rfl⟩ dX2_unlikePairs_36 rfl (kI (fun r9 S8 h => ?_))
    refine v_iadd X dX2_unlikePairs_39 ?_
    exact v_iret X hr hlk ⟨_, rfl, h⟩ dX2_unlikePairs_40
  unfold wp_X2_unlikePairs at h
  show VM l b D cy 5 2 45 0 0 (pI Q) p e s m args below meth c S 0 0 0 [(0, .ref a0), (1, .ref a1), (2, .int x2)] []
  refine v_aload_n X 1 dX2_unlikePairs_0 rfl rfl ?_
  refine v_iload_n X 2 dX2_unlikePairs_1 rfl rfl ?_
  refine v_iconst X (v := 0) dX2_unlikePairs_2 (by decide) ?_
  refine v_callS X (av := [.ref a1, .int x2, .int (0 : Int32)]) (s_X2_restBut l b D cy h) wd790 wd791 wd60 k_X2_restBut dn_X2_restBut rfl ⟨Nat.le_of_ble_eq_true rfl, Nat.le_of_ble_eq_true rfl⟩ (Nat.le_of_ble_eq_true rfl) ⟨Nat.le_of_ble_eq_true rfl, Nat.le_of_ble_eq_true rfl⟩ dX2_unlikePairs_3 rfl (kI (fun r2 S1 h => ?_))
  refine v_istore_n X (lv' := [(3, .int r2), (0, .ref a0), (1, .ref a1), (2, .int x2)]) dX2_unlikePairs_6 rfl (by decide) rfl ?_
  refine v_iload_n X 0 dX2_unlikePairs_7 rfl rfl ?_
  refine v_ldc X wd662 dX2_unlikePairs_8 ?_
  refine v_icmp_ne X (tgt := 18) dX2_unlikePairs_10 (by decide) (fun c3 => ?_) (fun c3 => ?_)
  · replace h := h.1 c3
    refine v_aload_n X 2 dX2_unlikePairs_18 rfl rfl ?_
    refine v_iload_n X 3 dX2_unlikePairs_19 rfl rfl ?_
    refine v_iload_n X 0 dX2_unlikePairs_20 rfl rfl ?_
    refine v_callS X (av := [.ref a1, .int x2, .int r2]) (s_X2_restBut l b D cy h) wd790 wd791 wd60 k_X2_restBut dn_X2_restBut rfl ⟨Nat.le_of_ble_eq_true rfl, Nat.le_of_ble_eq_true rfl⟩ (Nat.le_of_ble_eq_true rfl) ⟨Nat.le_of_ble_eq_true rfl, Nat.le_of_ble_eq_true rfl⟩ dX2_unlikePairs_21 rfl (kI (fun r5 S4 h => ?_))
    refine v_lv (lv' := [(1, .ref a1), (2, .int x2), (3, .int r2)]) [2, 3, 0] rfl ?_
    exact j24 _ _ _ _ _ h
  · replace h := h.2 c3
    refine v_ldc X wd662 dX2_unlikePairs_13 ?_
    refine v_goto X (tgt := 24) dX2_unlikePairs_15 (by decide) ?_
    refine v_lv (lv' := [(1, .ref a1), (2, .int x2), (3, .int r2)]) [2, 3, 0] rfl ?_
    exact j24 _ _ _ _ _ h
def wB_X2_partnerOfFirst_54 (bk29 : hp → Nat → Nat → Int32 → Int32 → Int32 → Prop) (Q : Int32 → hp → Prop) (S : hp) (l0 : Nat) (l1 : Nat) (l2 : Int32) (l3 : Int32) (l4 : Int32) : Prop :=
  ∀ v11 : Int32, v11 = l4 + (1 : Int32) → bk29 S l0 l1 l2 l3 v11
def wB_X2_partnerOfFirst_29 (bk29 : hp → Nat → Nat → Int32 → Int32 → Int32 → Prop) (Q : Int32 → hp → Prop) (S : hp) (l0 : Nat) (l1 : Nat) (l2 : Int32) (l3 : Int32) (l4 : Int32) : Prop :=
  ((l2 < l4 → Q l3 S) ∧ (¬ l2 < l4 → hK S l0 = 2 ∧ wp_X2_unlikePairs (fun r6 S4 => hK S4 l0 = 2 ∧ wp_X2_unlikePairs (fun r9 S7 => ((r9 ≤ r6 → wB_X2_partnerOfFirst_54 bk29 Q S7 l0 l1 l2 l3 l4) ∧ (¬ r9 ≤ r6 → wB_X2_partnerOfFirst_54 bk29 Q S7 l0 l1 l2 l4 l4))) S4 l0 l1 l3) S l0 l1 l4))
def wl_X2_partnerOfFirst_29 (Q : Int32 → hp → Prop) : Nat → hp → Nat → Nat → Int32 → Int32 → Int32 → Prop
  | 0 => fun _ _ _ _ _ _ => False
  | n + 1 => wB_X2_partnerOfFirst_29 (wl_X2_partnerOfFirst_29 Q n) Q
def wB_X2_partnerOfFirst_23 (Q : Int32 → hp → Prop) (S : hp) (l0 : Nat) (l1 : Nat) (k0 : Int32) : Prop :=
  ∃ n : Nat, wl_X2_partnerOfFirst_29 Q n S l0 l1 k0 (1 : Int32) (2 : Int32)
def wp_X2_partnerOfFirst (Q : Int32 → hp → Prop) (S : hp) (a0 : Nat) (a1 : Nat) : Prop :=
  hK S a1 = 7 ∧ ((¬ ((hI S a1 7) - (hI S a1 7) / (2 : Int32) * (2 : Int32)) = (1 : Int32) → wB_X2_partnerOfFirst_23 Q S a0 a1 (((hI S a1 7) - (1 : Int32)))) ∧ (((hI S a1 7) - (hI S a1 7) / (2 : Int32) * (2 : Int32)) = (1 : Int32) → wB_X2_partnerOfFirst_23 Q S a0 a1 ((hI S a1 7))))
theorem k_X2_partnerOfFirst : Cond.code yX2_partnerOfFirst cX2_partnerOfFirst 5 (some .int) ∈ gtb := mg 785 (by decide +kernel) (by decide +kernel)
theorem dn_X2_partnerOfFirst : yX2_partnerOfFirst.cls ≠ "java/lang/invoke/MethodHandle" ∧ yX2_partnerOfFirst.cls ≠ "java/lang/invoke/VarHandle" ∧ (parseMethodDescriptor yX2_partnerOfFirst.desc).map (fun d => d.parameters.length) = some 1 := by decide +kernel
set_option maxRecDepth 100000 in
set_option maxHeartbeats 4000000 in
theorem s_X2_partnerOfFirst (l : Launch) (b : Nat) (D : va_G) (cy : Nat → ClassId) {Q : Int32 → hp → Prop} {S : hp} {a0 : Nat} {a1 : Nat} (h : wp_X2_partnerOfFirst Q S a0 a1) : MT l yX2_partnerOfFirst cX2_partnerOfFirst 5 (some .int) 3 69 0 0 b D cy S [.ref a0, .ref a1] (pI Q) := by
  refine MT.of (by decide +kernel) (Nat.le_of_ble_eq_true rfl) ?_
  intro p e s m args below meth c X hr hlk hnm
  have j54 : ∀ (bk29 : hp → Nat → Nat → Int32 → Int32 → Int32 → Prop) (hbk29 : ∀ (S : hp) (l0 : Nat) (l1 : Nat) (l2 : Int32) (l3 : Int32) (l4 : Int32), bk29 S l0 l1 l2 l3 l4 → VM l b D cy 5 3 69 0 0 (pI Q) p e s m args below meth c S 0 0 29 [(0, .ref l0), (1, .ref l1), (2, .int l2), (3, .int l3), (4, .int l4)] []) (S : hp) (l0 : Nat) (l1 : Nat) (l2 : Int32) (l3 : Int32) (l4 : Int32), wB_X2_partnerOfFirst_54 bk29 Q S l0 l1 l2 l3 l4 → VM l b D cy 5 3 69 0 0 (pI Q) p e s m args below meth c S 0 0 54 [(0, .ref l0), (1, .ref l1), (2, .int l2), (3, .int l3), (4, .int l4)] [] := by
    intro bk29 hbk29 S l0 l1 l2 l3 l4 h
    unfold wB_X2_partnerOfFirst_54 at h
    obtain ⟨v11, hv11⟩ : ∃ y : Int32, y = l4 + (1 : Int32) := ⟨_, rfl⟩
    replace h := h v11 hv11
    refine v_iinc X (j := 4) (v := v11) (lv' := [(4, .int v11), (0, .ref l0), (1, .ref l1), (2, .int l2), (3, .int l3)]) dX2_partnerOfFirst_54 rfl (by rw [hv11] <;> rfl) (by decide) rfl ?_
    refine v_goto X (tgt := 29) dX2_partnerOfFirst_57 (by decide) ?_
    refine v_lv (lv' := [(0, .ref l0), (1, .ref l1), (2, .int l2), (3, .int l3), (4, .int v11)]) [1, 2, 3, 4, 0] rfl ?_
    exact hbk29 _ _ _ _ _ _ h
  have j29 : ∀ (bk29 : hp → Nat → Nat → Int32 → Int32 → Int32 → Prop) (hbk29 : ∀ (S : hp) (l0 : Nat) (l1 : Nat) (l2 : Int32) (l3 : Int32) (l4 : Int32), bk29 S l0 l1 l2 l3 l4 → VM l b D cy 5 3 69 0 0 (pI Q) p e s m args below meth c S 0 0 29 [(0, .ref l0), (1, .ref l1), (2, .int l2), (3, .int l3), (4, .int l4)] []) (S : hp) (l0 : Nat) (l1 : Nat) (l2 : Int32) (l3 : Int32) (l4 : Int32), wB_X2_partnerOfFirst_29 bk29 Q S l0 l1 l2 l3 l4 → VM l b D cy 5 3 69 0 0 (pI Q) p e s m args below meth c S 0 0 29 [(0, .ref l0), (1, .ref l1), (2, .int l2), (3, .int l3), (4, .int l4)] [] := by
    intro bk29 hbk29 S l0 l1 l2 l3 l4 h
    unfold wB_X2_partnerOfFirst_29 at h
    refine v_iload X 4 dX2_partnerOfFirst_29 rfl ?_
    refine v_iload_n X 2 dX2_partnerOfFirst_31 rfl rfl ?_
    refine v_icmp_gt X (tgt := 60) dX2_partnerOfFirst_32 (by decide) (fun c3 => ?_) (fun c3 => ?_)
    · replace h := h.1 c3
      refine v_iload_n X 3 dX2_partnerOfFirst_60 rfl rfl ?_
      exact v_iret X hr hlk ⟨_, rfl, h⟩ dX2_partnerOfFirst_61
    · replace h := h.2 c3
      refine v_aload_n X 0 dX2_partnerOfFirst_35 rfl rfl ?_
      refine v_aload_n X 1 dX2_partnerOfFirst_36 rfl rfl ?_
      refine v_iload X 4 dX2_partnerOfFirst_37 rfl ?_
      obtain ⟨hk5, h⟩ := h
      refine v_callV X (av := [.ref l1, .int l4]) (T := TX2) (N := 2) (s_X2_unlikePairs l b D cy h) hk5 (by decide) rfl wd786 wd787 wd788 wd60 k_X2_unlikePairs dn_X2_unlikePairs rfl ⟨Nat.le_of_ble_eq_true rfl, Nat.le_of_ble_eq_true rfl⟩ (Nat.le_of_ble_eq_true rfl) ⟨Nat.le_of_ble_eq_true rfl, Nat.le_of_ble_eq_true rfl⟩ dX2_partnerOfFirst_39 rfl (kI (fun r6 S4 h => ?_))
      refine v_aload_n X 0 dX2_partnerOfFirst_42 rfl rfl ?_
      refine v_aload_n X 1 dX2_partnerOfFirst_43 rfl rfl ?_
      refine v_iload_n X 3 dX2_partnerOfFirst_44 rfl rfl ?_
      obtain ⟨hk8, h⟩ := h
      refine v_callV X (av := [.ref l1, .int l3]) (T := TX2) (N := 2) (s_X2_unlikePairs l b D cy h) hk8 (by decide) rfl wd786 wd787 wd788 wd60 k_X2_unlikePairs dn_X2_unlikePairs rfl ⟨Nat.le_of_ble_eq_true rfl, Nat.le_of_ble_eq_true rfl⟩ (Nat.le_of_ble_eq_true rfl) ⟨Nat.le_of_ble_eq_true rfl, Nat.le_of_ble_eq_true rfl⟩ dX2_partnerOfFirst_45 rfl (kI (fun r9 S7 h => ?_))
      refine v_icmp_ge X (tgt := 54) dX2_partnerOfFirst_48 (by decide) (fun c10 => ?_) (fun c10 => ?_)
      · replace h := h.1 c10
        exact j54 bk29 hbk29 _ _ _ _ _ _ h
      · replace h := h.2 c10
        refine v_iload X 4 dX2_partnerOfFirst_51 rfl ?_
        refine v_istore_n X (lv' := [(3, .int l4), (0, .ref l0), (1, .ref l1), (2, .int l2), (4, .int l4)]) dX2_partnerOfFirst_53 rfl (by decide) rfl ?_
        refine v_lv (lv' := [(0, .ref l0), (1, .ref l1), (2, .int l2), (3, .int l4), (4, .int l4)]) [1, 2, 3, 0, 4] rfl ?_
        exact j54 bk29 hbk29 _ _ _ _ _ _ h
  have l29 : ∀  (n : Nat) (S : hp) (l0 : Nat) (l1 : Nat) (l2 : Int32) (l3 : Int32) (l4 : Int32), wl_X2_partnerOfFirst_29 Q n S l0 l1 l2 l3 l4 → VM l b D cy 5 3 69 0 0 (pI Q) p e s m args below meth c S 0 0 29 [(0, .ref l0), (1, .ref l1), (2, .int l2), (3, .int l3), (4, .int l4)] [] := by
    intro  n
    induction n with
    | zero => intro S l0 l1 l2 l3 l4 h; exact h.elim
    | succ n ih => intro S l0 l1 l2 l3 l4 h; exact j29 (wl_X2_partnerOfFirst_29 Q n) ih S l0 l1 l2 l3 l4 h
  have j23 : ∀  (S : hp) (l0 : Nat) (l1 : Nat) (k0 : Int32), wB_X2_partnerOfFirst_23 Q S l0 l1 k0 → VM l b D cy 5 3 69 0 0 (pI Q) p e s m args below meth c S 0 0 23 [(0, .ref l0), (1, .ref l1)] [.int k0] := by
    intro  S l0 l1 k0 h
    unfold wB_X2_partnerOfFirst_23 at h
    refine v_istore_n X (lv' := [(2, .int k0), (0, .ref l0), (1, .ref l1)]) dX2_partnerOfFirst_23 rfl (by decide) rfl ?_
    refine v_iconst X (v := 1) dX2_partnerOfFirst_24 (by decide) ?_
    refine v_istore_n X (lv' := [(3, .int (1 : Int32)), (2, .int k0), (0, .ref l0), (1, .ref l1)]) dX2_partnerOfFirst_25 rfl (by decide) rfl ?_
    refine v_iconst X (v := 2) dX2_partnerOfFirst_26 (by decide) ?_
    refine v_istore X (lv' := [(4, .int (2 : Int32)), (3, .int (1 : Int32)), (2, .int k0), (0, .ref l0), (1, .ref l1)]) dX2_partnerOfFirst_27 (by decide) rfl ?_
    refine v_lv (lv' := [(0, .ref l0), (1, .ref l1), (2, .int k0), (3, .int (1 : Int32)), (4, .int (2 : Int32))]) [3, 4, 2, 1, 0] rfl ?_
    obtain ⟨n, h⟩ := h
    exact l29 n _ _ _ _ _ _ h
  unfold wp_X2_partnerOfFirst at h
  show VM l b D cy 5 3 69 0 0 (pI Q) p e s m args below meth c S 0 0 0 [(0, .ref a0), (1, .ref a1)] []
  refine v_aload_n X 1 dX2_partnerOfFirst_0 rfl rfl ?_
  obtain ⟨hk1, h⟩ := h
  refine v_getI X (T := TX8) (N := 10) (k := 7) hk1 (by decide) rfl (by decide) inX8 wd156 rfl dX2_partnerOfFirst_1 ?_
  refine v_iconst X (v := 2) dX2_partnerOfFirst_4 (by decide) ?_
  refine v_irem X dX2_partnerOfFirst_5 (by decide) ?_
  refine v_iconst X (v := 1) dX2_partnerOfFirst_6 (by decide) ?_
  refine v_icmp_ne X (tgt := 17) dX2_partnerOfFirst_7 (by decide) (fun c2 => ?_) (fun c2 => ?_)
  · replace h := h.1 c2
    refine v_aload_n X 1 dX2_partnerOfFirst_17 rfl rfl ?_
    refine v_getI X (T := TX8) (N := 10) (k := 7) hk1 (by decide) rfl (by decide) inX8 wd156 rfl dX2_partnerOfFirst_18 ?_
    refine v_iconst X (v := 1) dX2_partnerOfFirst_21 (by decide) ?_
    refine v_isub X dX2_partnerOfFirst_22 ?_
    exact j23 _ _ _ _ h
  · replace h := h.2 c2
    refine v_aload_n X 1 dX2_partnerOfFirst_10 rfl rfl ?_
    refine v_getI X (T := TX8) (N := 10) (k := 7) hk1 (by decide) rfl (by decide) inX8 wd156 rfl dX2_partnerOfFirst_11 ?_
    refine v_goto X (tgt := 23) dX2_partnerOfFirst_14 (by decide) ?_
    exact j23 _ _ _ _ h
def wp_X2_partnerOf (Q : Int32 → hp → Prop) (S : hp) (a0 : Nat) (a1 : Nat) (x2 : Int32) (x3 : Int32) : Prop :=
  ((¬ x3 = 0 → ((¬ x3 = x2 → wp_X2_restBut (fun r4 S3 => Q r4 S3) S a1 x2 x3) ∧ (x3 = x2 → Q (0 : Int32) S))) ∧ (x3 = 0 → hK S a1 = 7 ∧ wp_X8_hasDummy (fun r7 S5 => ((r7 = 0 → Q (-1000000 : Int32) S5) ∧ (¬ r7 = 0 → Q x2 S5))) S a1 x2))
theorem k_X2_partnerOf : Cond.code yX2_partnerOf cX2_partnerOf 4 (some .int) ∈ gtb := mg 801 (by decide +kernel) (by decide +kernel)
theorem dn_X2_partnerOf : yX2_partnerOf.cls ≠ "java/lang/invoke/MethodHandle" ∧ yX2_partnerOf.cls ≠ "java/lang/invoke/VarHandle" ∧ (parseMethodDescriptor yX2_partnerOf.desc).map (fun d => d.parameters.length) = some 3 := by decide +kernel
set_option maxRecDepth 100000 in
set_option maxHeartbeats 4000000 in
theorem s_X2_partnerOf (l : Launch) (b : Nat) (D : va_G) (cy : Nat → ClassId) {Q : Int32 → hp → Prop} {S : hp} {a0 : Nat} {a1 : Nat} {x2 : Int32} {x3 : Int32} (h : wp_X2_partnerOf Q S a0 a1 x2 x3) : MT l yX2_partnerOf cX2_partnerOf 4 (some .int) 1 23 0 0 b D cy S [.ref a0, .ref a1, .int x2, .int x3] (pI Q) := by
  refine MT.of (by decide +kernel) (Nat.le_of_ble_eq_true rfl) ?_
  intro p e s m args below meth c X hr hlk hnm
  unfold wp_X2_partnerOf at h
  show VM l b D cy 4 1 23 0 0 (pI Q) p e s m args below meth c S 0 0 0 [(0, .ref a0), (1, .ref a1), (2, .int x2), (3, .int x3)] []
  refine v_iload_n X 3 dX2_partnerOf_0 rfl rfl ?_
  refine v_if_ne X (tgt := 19) dX2_partnerOf_1 (by decide) (fun c1 => ?_) (fun c1 => ?_)
  · replace h := h.1 c1
    refine v_iload_n X 3 dX2_partnerOf_19 rfl rfl ?_
    refine v_iload_n X 2 dX2_partnerOf_20 rfl rfl ?_
    refine v_icmp_ne X (tgt := 28) dX2_partnerOf_21 (by decide) (fun c2 => ?_) (fun c2 => ?_)
    · replace h := h.1 c2
      refine v_aload_n X 1 dX2_partnerOf_28 rfl rfl ?_
      refine v_iload_n X 2 dX2_partnerOf_29 rfl rfl ?_
      refine v_iload_n X 3 dX2_partnerOf_30 rfl rfl ?_
      refine v_callS X (av := [.ref a1, .int x2, .int x3]) (s_X2_restBut l b D cy h) wd790 wd791 wd60 k_X2_restBut dn_X2_restBut rfl ⟨Nat.le_of_ble_eq_true rfl, Nat.le_of_ble_eq_true rfl⟩ (Nat.le_of_ble_eq_true rfl) ⟨Nat.le_of_ble_eq_true rfl, Nat.le_of_ble_eq_true rfl⟩ dX2_partnerOf_31 rfl (kI (fun r4 S3 h => ?_))
      exact v_iret X hr hlk ⟨_, rfl, h⟩ dX2_partnerOf_34
    · replace h := h.2 c2
      refine v_iconst X (v := 0) dX2_partnerOf_24 (by decide) ?_
      refine v_goto X (tgt := 34) dX2_partnerOf_25 (by decide) ?_
      exact v_iret X hr hlk ⟨_, rfl, h⟩ dX2_partnerOf_34
  · replace h := h.2 c1
    refine v_aload_n X 1 dX2_partnerOf_4 rfl rfl ?_
    refine v_iload_n X 2 dX2_partnerOf_5 rfl rfl ?_
    obtain ⟨hk6, h⟩ := h
    refine v_callV X (av := [.int x2]) (T := TX8) (N := 10) (s_X8_hasDummy l b D cy h) hk6 (by decide) rfl wd796 wd488 wd489 wd59 k_X8_hasDummy dn_X8_hasDummy rfl ⟨Nat.le_of_ble_eq_true rfl, Nat.le_of_ble_eq_true rfl⟩ (Nat.le_of_ble_eq_true rfl) ⟨Nat.le_of_ble_eq_true rfl, Nat.le_of_ble_eq_true rfl⟩ dX2_partnerOf_6 rfl (kI (fun r7 S5 h => ?_))
    refine v_if_eq X (tgt := 16) dX2_partnerOf_9 (by decide) (fun c8 => ?_) (fun c8 => ?_)
    · replace h := h.1 c8
      refine v_ldc X wd662 dX2_partnerOf_16 ?_
      exact v_iret X hr hlk ⟨_, rfl, h⟩ dX2_partnerOf_18
    · replace h := h.2 c8
      refine v_iload_n X 2 dX2_partnerOf_12 rfl rfl ?_
      refine v_goto X (tgt := 18) dX2_partnerOf_13 (by decide) ?_
      exact v_iret X hr hlk ⟨_, rfl, h⟩ dX2_partnerOf_18
def wB_X11_twins_32 (Q : Int32 → hp → Prop) (S : hp) (l0 : Nat) (l1 : Int32) : Prop :=
  hK S l0 = 10 ∧ ∃ r7 : Nat, hR S l0 4 = some r7 ∧ ∃ r8 : Nat, hR S l0 2 = some r8 ∧ hK S r7 = 2 ∧ wp_X2_partnerOfFirst (fun r11 S9 => ((¬ l1 = (-1 : Int32) → hK S9 l0 = 10 ∧ ∃ r14 : Nat, hR S9 l0 4 = some r14 ∧ ∃ r15 : Nat, hR S9 l0 2 = some r15 ∧ hK S9 r14 = 2 ∧ wp_X2_partnerOf (fun r18 S16 => Q r18 S16) S9 r14 r15 r11 l1) ∧ (l1 = (-1 : Int32) → hK S9 l0 = 10 ∧ ∃ r20 : Nat, hR S9 l0 4 = some r20 ∧ ∃ r21 : Nat, hR S9 l0 2 = some r21 ∧ hK S9 r20 = 2 ∧ wp_X2_unlikePairs (fun r24 S22 => Q r24 S22) S9 r20 r21 r11))) S r7 r8
def wp_X11_twins (Q : Int32 → hp → Prop) (S : hp) (a0 : Nat) (x1 : Int32) : Prop :=
  hK S a0 = 10 ∧ ∃ r2 : Nat, hR S a0 2 = some r2 ∧ hK S r2 = 7 ∧ ((¬ (hI S r2 5) = 0 → ((x1 = (-1 : Int32) → wB_X11_twins_32 Q S a0 x1) ∧ (¬ x1 = (-1 : Int32) → wp_X8_hasDummy (fun r26 S25 => ((¬ r26 = 0 → wB_X11_twins_32 Q S25 a0 x1) ∧ (r26 = 0 → Q (-1000001 : Int32) S25))) S r2 x1))) ∧ ((hI S r2 5) = 0 → Q (-1000002 : Int32) S))
theorem k_X11_twins : Cond.code yX11_twins cX11_twins 3 (some .int) ∈ gtb := mg 781 (by decide +kernel) (by decide +kernel)
theorem dn_X11_twins : yX11_twins.cls ≠ "java/lang/invoke/MethodHandle" ∧ yX11_twins.cls ≠ "java/lang/invoke/VarHandle" ∧ (parseMethodDescriptor yX11_twins.desc).map (fun d => d.parameters.length) = some 1 := by decide +kernel
set_option maxRecDepth 100000 in
set_option maxHeartbeats 4000000 in
theorem s_X11_twins (l : Launch) (b : Nat) (D : va_G) (cy : Nat → ClassId) {Q : Int32 → hp → Prop} {S : hp} {a0 : Nat} {x1 : Int32} (h : wp_X11_twins Q S a0 x1) : MT l yX11_twins cX11_twins 3 (some .int) 4 93 0 0 b D cy S [.ref a0, .int x1] (pI Q) := by
  refine MT.of (by decide +kernel) (Nat.le_of_ble_eq_true rfl) ?_
  intro p e s m args below meth c X hr hlk hnm
  have j32 : ∀  (S : hp) (l0 : Nat) (l1 : Int32), wB_X11_twins_32 Q S l0 l1 → VM l b D cy 3 4 93 0 0 (pI Q) p e s m args below meth c S 0 0 32 [(0, .ref l0), (1, .int l1)] [] := by
    intro  S l0 l1 h
    unfold wB_X11_twins_32 at h
    refine v_aload_n X 0 dX11_twins_32 rfl rfl ?_
    obtain ⟨hk6, h⟩ := h
    obtain ⟨r7, hr7, h⟩ := h
    refine v_getR X (T := TX11) (N := 12) (k := 4) hk6 (by decide) rfl (by decide) inX11 wd219 rfl dX11_twins_33 hr7 ?_
    refine v_aload_n X 0 dX11_twins_36 rfl rfl ?_
    obtain ⟨r8, hr8, h⟩ := h
    refine v_getR X (T := TX11) (N := 12) (k := 2) hk6 (by decide) rfl (by decide) inX11 wd217 rfl dX11_twins_37 hr8 ?_
    obtain ⟨hk10, h⟩ := h
    refine v_callV X (av := [.ref r8]) (T := TX2) (N := 2) (s_X2_partnerOfFirst l b D cy h) hk10 (by decide) rfl wd782 wd783 wd784 wd60 k_X2_partnerOfFirst dn_X2_partnerOfFirst rfl ⟨Nat.le_of_ble_eq_true rfl, Nat.le_of_ble_eq_true rfl⟩ (Nat.le_of_ble_eq_true rfl) ⟨Nat.le_of_ble_eq_true rfl, Nat.le_of_ble_eq_true rfl⟩ dX11_twins_40 rfl (kI (fun r11 S9 h => ?_))
    refine v_istore_n X (lv' := [(2, .int r11), (0, .ref l0), (1, .int l1)]) dX11_twins_43 rfl (by decide) rfl ?_
    refine v_iload_n X 2 dX11_twins_44 rfl rfl ?_
    refine v_iconst X (v := -1) dX11_twins_45 (by decide) ?_
    refine v_icmp_ne X (tgt := 62) dX11_twins_46 (by decide) (fun c12 => ?_) (fun c12 => ?_)
    · replace h := h.1 c12
      refine v_aload_n X 1 dX11_twins_62 rfl rfl ?_
      obtain ⟨hk13, h⟩ := h
      obtain ⟨r14, hr14, h⟩ := h
      refine v_getR X (T := TX11) (N := 12) (k := 4) hk13 (by decide) rfl (by decide) inX11 wd219 rfl dX11_twins_63 hr14 ?_
      refine v_aload_n X 1 dX11_twins_66 rfl rfl ?_
      obtain ⟨r15, hr15, h⟩ := h
      refine v_getR X (T := TX11) (N := 12) (k := 2) hk13 (by decide) rfl (by decide) inX11 wd217 rfl dX11_twins_67 hr15 ?_
      refine v_iload_n X 0 dX11_twins_70 rfl rfl ?_
      refine v_iload_n X 2 dX11_twins_71 rfl rfl ?_
      obtain ⟨hk17, h⟩ := h
      refine v_callV X (av := [.ref r15, .int r11, .int l1]) (T := TX2) (N := 2) (s_X2_partnerOf l b D cy h) hk17 (by decide) rfl wd798 wd799 wd800 wd60 k_X2_partnerOf dn_X2_partnerOf rfl ⟨Nat.le_of_ble_eq_true rfl, Nat.le_of_ble_eq_true rfl⟩ (Nat.le_of_ble_eq_true rfl) ⟨Nat.le_of_ble_eq_true rfl, Nat.le_of_ble_eq_true rfl⟩ dX11_twins_72 rfl (kI (fun r18 S16 h => ?_))
      exact v_iret X hr hlk ⟨_, rfl, h⟩ dX11_twins_75
    · replace h := h.2 c12
      refine v_aload_n X 1 dX11_twins_49 rfl rfl ?_
      obtain ⟨hk19, h⟩ := h
      obtain ⟨r20, hr20, h⟩ := h
      refine v_getR X (T := TX11) (N := 12) (k := 4) hk19 (by decide) rfl (by decide) inX11 wd219 rfl dX11_twins_50 hr20 ?_
      refine v_aload_n X 1 dX11_twins_53 rfl rfl ?_
      obtain ⟨r21, hr21, h⟩ := h
      refine v_getR X (T := TX11) (N := 12) (k := 2) hk19 (by decide) rfl (by decide) inX11 wd217 rfl dX11_twins_54 hr21 ?_
      refine v_iload_n X 0 dX11_twins_57 rfl rfl ?_
      obtain ⟨hk23, h⟩ := h
      refine v_callV X (av := [.ref r21, .int r11]) (T := TX2) (N := 2) (s_X2_unlikePairs l b D cy h) hk23 (by decide) rfl wd797 wd787 wd788 wd60 k_X2_unlikePairs dn_X2_unlikePairs rfl ⟨Nat.le_of_ble_eq_true rfl, Nat.le_of_ble_eq_true rfl⟩ (Nat.le_of_ble_eq_true rfl) ⟨Nat.le_of_ble_eq_true rfl, Nat.le_of_ble_eq_true rfl⟩ dX11_twins_58 rfl (kI (fun r24 S22 h => ?_))
      exact v_iret X hr hlk ⟨_, rfl, h⟩ dX11_twins_61
  unfold wp_X11_twins at h
  show VM l b D cy 3 4 93 0 0 (pI Q) p e s m args below meth c S 0 0 0 [(0, .ref a0), (1, .int x1)] []
  refine v_aload_n X 0 dX11_twins_0 rfl rfl ?_
  obtain ⟨hk1, h⟩ := h
  obtain ⟨r2, hr2, h⟩ := h
  refine v_getR X (T := TX11) (N := 12) (k := 2) hk1 (by decide) rfl (by decide) inX11 wd217 rfl dX11_twins_1 hr2 ?_
  obtain ⟨hk3, h⟩ := h
  refine v_getI X (T := TX8) (N := 10) (k := 5) hk3 (by decide) rfl (by decide) inX8 wd150 rfl dX11_twins_4 ?_
  refine v_if_ne X (tgt := 13) dX11_twins_7 (by decide) (fun c4 => ?_) (fun c4 => ?_)
  · replace h := h.1 c4
    refine v_iload_n X 1 dX11_twins_13 rfl rfl ?_
    refine v_iconst X (v := -1) dX11_twins_14 (by decide) ?_
    refine v_icmp_eq X (tgt := 32) dX11_twins_15 (by decide) (fun c5 => ?_) (fun c5 => ?_)
    · replace h := h.1 c5
      exact j32 _ _ _ h
    · replace h := h.2 c5
      refine v_aload_n X 0 dX11_twins_18 rfl rfl ?_
      refine v_getR X (T := TX11) (N := 12) (k := 2) hk1 (by decide) rfl (by decide) inX11 wd217 rfl dX11_twins_19 hr2 ?_
      refine v_iload_n X 1 dX11_twins_22 rfl rfl ?_
      refine v_callV X (av := [.int x1]) (T := TX8) (N := 10) (s_X8_hasDummy l b D cy h) hk3 (by decide) rfl wd561 wd488 wd489 wd59 k_X8_hasDummy dn_X8_hasDummy rfl ⟨Nat.le_of_ble_eq_true rfl, Nat.le_of_ble_eq_true rfl⟩ (Nat.le_of_ble_eq_true rfl) ⟨Nat.le_of_ble_eq_true rfl, Nat.le_of_ble_eq_true rfl⟩ dX11_twins_23 rfl (kI (fun r26 S25 h => ?_))
      refine v_if_ne X (tgt := 32) dX11_twins_26 (by decide) (fun c27 => ?_) (fun c27 => ?_)
      · replace h := h.1 c27
        exact j32 _ _ _ h
      · replace h := h.2 c27
        refine v_ldc X wd262 dX11_twins_29 ?_
        exact v_iret X hr hlk ⟨_, rfl, h⟩ dX11_twins_31
  · replace h := h.2 c4
    refine v_ldc X wd474 dX11_twins_10 ?_
    exact v_iret X hr hlk ⟨_, rfl, h⟩ dX11_twins_12
def wp_X11_image (Q : Int32 → hp → Prop) (S : hp) (a0 : Nat) (x1 : Int32) : Prop :=
  wp_X11_isImage (fun r2 S1 => ((¬ r2 = 0 → hK S1 a0 = 10 ∧ ∃ r5 : Nat, hR S1 a0 2 = some r5 ∧ hK S1 r5 = 7 ∧ ((¬ (hI S1 r5 5) = 0 → ∃ r8 : Nat, hR S1 a0 6 = some r8 ∧ hK S1 r8 = 15 ∧ vp_in x1 (hN S1 r8) ∧ ((hR S1 r8 (x1).toNatClampNeg = none → wp_X11_copyOver (fun r13 S12 => hK S12 r8 = 15 ∧ vp_in x1 (hN S12 r8) ∧ hK S12 r13 = 7 ∧ ∀ S17 : hp, S17 = setR S12 r8 (x1).toNatClampNeg (some r13) → Q (1 : Int32) S17) S1 a0 none) ∧ (∀ r11 : Nat, hR S1 r8 (x1).toNatClampNeg = some r11 → wp_X11_copyOver (fun r22 S21 => hK S21 r8 = 15 ∧ vp_in x1 (hN S21 r8) ∧ hK S21 r22 = 7 ∧ ∀ S26 : hp, S26 = setR S21 r8 (x1).toNatClampNeg (some r22) → Q (1 : Int32) S26) S1 a0 (some r11)))) ∧ ((hI S1 r5 5) = 0 → Q (-1000002 : Int32) S1))) ∧ (r2 = 0 → Q (-1000001 : Int32) S1))) S x1
theorem k_X11_image : Cond.code yX11_image cX11_image 2 (some .int) ∈ gtb := mg 805 (by decide +kernel) (by decide +kernel)
theorem dn_X11_image : yX11_image.cls ≠ "java/lang/invoke/MethodHandle" ∧ yX11_image.cls ≠ "java/lang/invoke/VarHandle" ∧ (parseMethodDescriptor yX11_image.desc).map (fun d => d.parameters.length) = some 1 := by decide +kernel
set_option maxRecDepth 100000 in
set_option maxHeartbeats 4000000 in
theorem s_X11_image (l : Launch) (b : Nat) (D : va_G) (cy : Nat → ClassId) {Q : Int32 → hp → Prop} {S : hp} {a0 : Nat} {x1 : Int32} (h : wp_X11_image Q S a0 x1) : MT l yX11_image cX11_image 2 (some .int) 3 68 6 147 b D cy S [.ref a0, .int x1] (pI Q) := by
  refine MT.of (by decide +kernel) (Nat.le_of_ble_eq_true rfl) ?_
  intro p e s m args below meth c X hr hlk hnm
  unfold wp_X11_image at h
  show VM l b D cy 2 3 68 6 147 (pI Q) p e s m args below meth c S 0 0 0 [(0, .ref a0), (1, .int x1)] []
  refine v_iload_n X 1 dX11_image_0 rfl rfl ?_
  refine v_callS X (av := [.int x1]) (s_X11_isImage l b D cy h) wd729 wd730 wd56 k_X11_isImage dn_X11_isImage rfl ⟨Nat.le_of_ble_eq_true rfl, Nat.le_of_ble_eq_true rfl⟩ (Nat.le_of_ble_eq_true rfl) ⟨Nat.le_of_ble_eq_true rfl, Nat.le_of_ble_eq_true rfl⟩ dX11_image_1 rfl (kI (fun r2 S1 h => ?_))
  refine v_if_ne X (tgt := 10) dX11_image_4 (by decide) (fun c3 => ?_) (fun c3 => ?_)
  · replace h := h.1 c3
    refine v_aload_n X 0 dX11_image_10 rfl rfl ?_
    obtain ⟨hk4, h⟩ := h
    obtain ⟨r5, hr5, h⟩ := h
    refine v_getR X (T := TX11) (N := 12) (k := 2) hk4 (by decide) rfl (by decide) inX11 wd217 rfl dX11_image_11 hr5 ?_
    obtain ⟨hk6, h⟩ := h
    refine v_getI X (T := TX8) (N := 10) (k := 5) hk6 (by decide) rfl (by decide) inX8 wd150 rfl dX11_image_14 ?_
    refine v_if_ne X (tgt := 23) dX11_image_17 (by decide) (fun c7 => ?_) (fun c7 => ?_)
    · replace h := h.1 c7
      refine v_aload_n X 0 dX11_image_23 rfl rfl ?_
      obtain ⟨r8, hr8, h⟩ := h
      refine v_getR X (T := TX11) (N := 12) (k := 6) hk4 (by decide) rfl (by decide) inX11 wd221 rfl dX11_image_24 hr8 ?_
      refine v_iload_n X 1 dX11_image_27 rfl rfl ?_
      refine v_aload_n X 0 dX11_image_28 rfl rfl ?_
      refine v_aload_n X 0 dX11_image_29 rfl rfl ?_
      refine v_getR X (T := TX11) (N := 12) (k := 6) hk4 (by decide) rfl (by decide) inX11 wd221 rfl dX11_image_30 hr8 ?_
      refine v_iload_n X 1 dX11_image_33 rfl rfl ?_
      obtain ⟨hk9, h⟩ := h
      obtain ⟨hi10, h⟩ := h
      rcases hr11 : hR S1 r8 (x1).toNatClampNeg with _ | r11
      · replace h := h.1 hr11
        refine v_aald15 X hk9 hi10 dX11_image_34 (v := .null) (by rw [hr11] <;> rfl) ?_
        refine v_callV X (av := [.null]) (T := TX11) (N := 12) (s_X11_copyOver l b D cy h) hk4 (by decide) rfl wd528 wd530 wd13 wd56 k_X11_copyOver dn_X11_copyOver rfl ⟨Nat.le_of_ble_eq_true rfl, Nat.le_of_ble_eq_true rfl⟩ (Nat.le_of_ble_eq_true rfl) ⟨Nat.le_of_ble_eq_true rfl, Nat.le_of_ble_eq_true rfl⟩ dX11_image_35 rfl (kA (fun r13 S12 h => ?_))
        obtain ⟨hk14, h⟩ := h
        obtain ⟨hi15, h⟩ := h
        obtain ⟨hk16, h⟩ := h
        refine v_aastS X hk14 rfl hk16 hi15 dX11_image_38 ?_
        refine v_nmS (fun S17 eS17 => ?_)
        replace h := h S17 eS17
        have hk18 : hK S17 r8 = 15 := by rw [eS17]; exact hk14
        have hk19 : hK S17 r13 = 7 := by rw [eS17]; exact hk16
        have hi20 : vp_in x1 (hN S17 r8) := by rw [eS17]; exact hi15
        refine v_iconst X (v := 1) dX11_image_39 (by decide) ?_
        exact v_iret X hr hlk ⟨_, rfl, h⟩ dX11_image_40
      · replace h := h.2 r11 hr11
        refine v_aald15 X hk9 hi10 dX11_image_34 (v := .ref r11) (by rw [hr11] <;> rfl) ?_
        refine v_callV X (av := [.ref r11]) (T := TX11) (N := 12) (s_X11_copyOver l b D cy h) hk4 (by decide) rfl wd528 wd530 wd13 wd56 k_X11_copyOver dn_X11_copyOver rfl ⟨Nat.le_of_ble_eq_true rfl, Nat.le_of_ble_eq_true rfl⟩ (Nat.le_of_ble_eq_true rfl) ⟨Nat.le_of_ble_eq_true rfl, Nat.le_of_ble_eq_true rfl⟩ dX11_image_35 rfl (kA (fun r22 S21 h => ?_))
        obtain ⟨hk23, h⟩ := h
        obtain ⟨hi24, h⟩ := h
        obtain ⟨hk25, h⟩ := h
        refine v_aastS X hk23 rfl hk25 hi24 dX11_image_38 ?_
        refine v_nmS (fun S26 eS26 => ?_)
        replace h := h S26 eS26
        have hk27 : hK S26 r8 = 15 := by rw [eS26]; exact hk23
        have hk28 : hK S26 r22 = 7 := by rw [eS26]; exact hk25
        have hi29 : vp_in x1 (hN S26 r8) := by rw [eS26]; exact hi24
        refine v_iconst X (v := 1) dX11_image_39 (by decide) ?_
        exact v_iret X hr hlk ⟨_, rfl, h⟩ dX11_image_40
    · replace h := h.2 c7
      refine v_ldc X wd474 dX11_image_20 ?_
      refine v_widen (c2 := 6) (s2 := 147) (Nat.le_of_ble_eq_true rfl) (Nat.le_of_ble_eq_true rfl) ?_
      exact v_iret X hr hlk ⟨_, rfl, h⟩ dX11_image_22
  · replace h := h.2 c3
    refine v_ldc X wd262 dX11_image_7 ?_
    refine v_widen (c2 := 6) (s2 := 147) (Nat.le_of_ble_eq_true rfl) (Nat.le_of_ble_eq_true rfl) ?_
    exact v_iret X hr hlk ⟨_, rfl, h⟩ dX11_image_9
def wp_X11_restore (Q : Int32 → hp → Prop) (S : hp) (a0 : Nat) (x1 : Int32) : Prop :=
  wp_X11_isImage (fun r2 S1 => ((¬ r2 = 0 → hK S1 a0 = 10 ∧ ∃ r5 : Nat, hR S1 a0 6 = some r5 ∧ hK S1 r5 = 15 ∧ vp_in x1 (hN S1 r5) ∧ ((hR S1 r5 (x1).toNatClampNeg = none → Q (-1000002 : Int32) S1) ∧ (∀ r8 : Nat, hR S1 r5 (x1).toNatClampNeg = some r8 → ∃ r9 : Nat, hR S1 a0 2 = some r9 ∧ hK S1 r9 = 7 ∧ wp_X8_become (fun S10 => hK S10 a0 = 10 ∧ ∀ S13 : hp, S13 = setI S10 a0 8 (0 : Int32) → Q (1 : Int32) S13) S1 r9 r8))) ∧ (r2 = 0 → Q (-1000001 : Int32) S1))) S x1
theorem k_X11_restore : Cond.code yX11_restore cX11_restore 3 (some .int) ∈ gtb := mg 809 (by decide +kernel) (by decide +kernel)
theorem dn_X11_restore : yX11_restore.cls ≠ "java/lang/invoke/MethodHandle" ∧ yX11_restore.cls ≠ "java/lang/invoke/VarHandle" ∧ (parseMethodDescriptor yX11_restore.desc).map (fun d => d.parameters.length) = some 1 := by decide +kernel
set_option maxRecDepth 100000 in
set_option maxHeartbeats 4000000 in
theorem s_X11_restore (l : Launch) (b : Nat) (D : va_G) (cy : Nat → ClassId) {Q : Int32 → hp → Prop} {S : hp} {a0 : Nat} {x1 : Int32} (h : wp_X11_restore Q S a0 x1) : MT l yX11_restore cX11_restore 3 (some .int) 2 46 0 0 b D cy S [.ref a0, .int x1] (pI Q) := by
  refine MT.of (by decide +kernel) (Nat.le_of_ble_eq_true rfl) ?_
  intro p e s m args below meth c X hr hlk hnm
  unfold wp_X11_restore at h
  show VM l b D cy 3 2 46 0 0 (pI Q) p e s m args below meth c S 0 0 0 [(0, .ref a0), (1, .int x1)] []
  refine v_iload_n X 1 dX11_restore_0 rfl rfl ?_
  refine v_callS X (av := [.int x1]) (s_X11_isImage l b D cy h) wd729 wd730 wd56 k_X11_isImage dn_X11_isImage rfl ⟨Nat.le_of_ble_eq_true rfl, Nat.le_of_ble_eq_true rfl⟩ (Nat.le_of_ble_eq_true rfl) ⟨Nat.le_of_ble_eq_true rfl, Nat.le_of_ble_eq_true rfl⟩ dX11_restore_1 rfl (kI (fun r2 S1 h => ?_))
  refine v_if_ne X (tgt := 10) dX11_restore_4 (by decide) (fun c3 => ?_) (fun c3 => ?_)
  · replace h := h.1 c3
    refine v_aload_n X 0 dX11_restore_10 rfl rfl ?_
    obtain ⟨hk4, h⟩ := h
    obtain ⟨r5, hr5, h⟩ := h
    refine v_getR X (T := TX11) (N := 12) (k := 6) hk4 (by decide) rfl (by decide) inX11 wd221 rfl dX11_restore_11 hr5 ?_
    refine v_iload_n X 1 dX11_restore_14 rfl rfl ?_
    obtain ⟨hk6, h⟩ := h
    obtain ⟨hi7, h⟩ := h
    rcases hr8 : hR S1 r5 (x1).toNatClampNeg with _ | r8
    · replace h := h.1 hr8
      refine v_aald15 X hk6 hi7 dX11_restore_15 (v := .null) (by rw [hr8] <;> rfl) ?_
      refine v_astore_nN X (lv' := [(2, .null), (0, .ref a0), (1, .int x1)]) dX11_restore_16 rfl (by decide) rfl ?_
      refine v_aload_nN X 0 dX11_restore_17 rfl rfl ?_
      refine v_ifnonnullN X dX11_restore_18 ?_
      refine v_ldc X wd474 dX11_restore_21 ?_
      exact v_iret X hr hlk ⟨_, rfl, h⟩ dX11_restore_23
    · replace h := h.2 r8 hr8
      refine v_aald15 X hk6 hi7 dX11_restore_15 (v := .ref r8) (by rw [hr8] <;> rfl) ?_
      refine v_astore_n X (lv' := [(2, .ref r8), (0, .ref a0), (1, .int x1)]) dX11_restore_16 rfl (by decide) rfl ?_
      refine v_aload_n X 0 dX11_restore_17 rfl rfl ?_
      refine v_ifnonnull X (tgt := 24) dX11_restore_18 (by decide) ?_
      refine v_aload_n X 1 dX11_restore_24 rfl rfl ?_
      obtain ⟨r9, hr9, h⟩ := h
      refine v_getR X (T := TX11) (N := 12) (k := 2) hk4 (by decide) rfl (by decide) inX11 wd217 rfl dX11_restore_25 hr9 ?_
      refine v_aload_n X 0 dX11_restore_28 rfl rfl ?_
      obtain ⟨hk11, h⟩ := h
      refine v_callV X (av := [.ref r8]) (T := TX8) (N := 10) (s_X8_become l b D cy h) hk11 (by decide) rfl wd461 wd462 wd463 wd59 k_X8_become dn_X8_become rfl ⟨Nat.le_of_ble_eq_true rfl, Nat.le_of_ble_eq_true rfl⟩ (Nat.le_of_ble_eq_true rfl) ⟨Nat.le_of_ble_eq_true rfl, Nat.le_of_ble_eq_true rfl⟩ dX11_restore_29 rfl (kV (fun S10 h => ?_))
      refine v_aload_n X 1 dX11_restore_32 rfl rfl ?_
      refine v_iconst X (v := 0) dX11_restore_33 (by decide) ?_
      obtain ⟨hk12, h⟩ := h
      refine v_putI X (T := TX11) (N := 12) (k := 8) hk12 (by decide) rfl (by decide) inX11 wd223 tyX11 tyX11_ok nmX11 rfl rfl rfl rfl dX11_restore_34 ?_
      refine v_nmS (fun S13 eS13 => ?_)
      replace h := h S13 eS13
      have hk14 : hK S13 a0 = 10 := by rw [eS13]; exact hk12
      refine v_iconst X (v := 1) dX11_restore_37 (by decide) ?_
      exact v_iret X hr hlk ⟨_, rfl, h⟩ dX11_restore_38
  · replace h := h.2 c3
    refine v_ldc X wd262 dX11_restore_7 ?_
    exact v_iret X hr hlk ⟨_, rfl, h⟩ dX11_restore_9
def wp_X1_sort (Q : Int32 → hp → Prop) (S : hp) (a0 : Nat) : Prop :=
  Q (2 : Int32) S
theorem k_X1_sort : Cond.code yX1_sort cX1_sort 1 (some .int) ∈ gtb := mg 819 (by decide +kernel) (by decide +kernel)
theorem dn_X1_sort : yX1_sort.cls ≠ "java/lang/invoke/MethodHandle" ∧ yX1_sort.cls ≠ "java/lang/invoke/VarHandle" ∧ (parseMethodDescriptor yX1_sort.desc).map (fun d => d.parameters.length) = some 0 := by decide +kernel
set_option maxRecDepth 100000 in
set_option maxHeartbeats 4000000 in
theorem s_X1_sort (l : Launch) (b : Nat) (D : va_G) (cy : Nat → ClassId) {Q : Int32 → hp → Prop} {S : hp} {a0 : Nat} (h : wp_X1_sort Q S a0) : MT l yX1_sort cX1_sort 1 (some .int) 0 0 0 0 b D cy S [.ref a0] (pI Q) := by
  refine MT.of (by decide +kernel) (Nat.le_of_ble_eq_true rfl) ?_
  intro p e s m args below meth c X hr hlk hnm
  unfold wp_X1_sort at h
  show VM l b D cy 1 0 0 0 0 (pI Q) p e s m args below meth c S 0 0 0 [(0, .ref a0)] []
  refine v_iconst X (v := 2) dX1_sort_0 (by decide) ?_
  exact v_iret X hr hlk ⟨_, rfl, h⟩ dX1_sort_1
def wp_X3_sort (Q : Int32 → hp → Prop) (S : hp) (a0 : Nat) : Prop :=
  Q (4 : Int32) S
theorem k_X3_sort : Cond.code yX3_sort cX3_sort 1 (some .int) ∈ gtb := mg 822 (by decide +kernel) (by decide +kernel)
theorem dn_X3_sort : yX3_sort.cls ≠ "java/lang/invoke/MethodHandle" ∧ yX3_sort.cls ≠ "java/lang/invoke/VarHandle" ∧ (parseMethodDescriptor yX3_sort.desc).map (fun d => d.parameters.length) = some 0 := by decide +kernel
set_option maxRecDepth 100000 in
set_option maxHeartbeats 4000000 in
theorem s_X3_sort (l : Launch) (b : Nat) (D : va_G) (cy : Nat → ClassId) {Q : Int32 → hp → Prop} {S : hp} {a0 : Nat} (h : wp_X3_sort Q S a0) : MT l yX3_sort cX3_sort 1 (some .int) 0 0 0 0 b D cy S [.ref a0] (pI Q) := by
  refine MT.of (by decide +kernel) (Nat.le_of_ble_eq_true rfl) ?_
  intro p e s m args below meth c X hr hlk hnm
  unfold wp_X3_sort at h
  show VM l b D cy 1 0 0 0 0 (pI Q) p e s m args below meth c S 0 0 0 [(0, .ref a0)] []
  refine v_iconst X (v := 4) dX3_sort_0 (by decide) ?_
  exact v_iret X hr hlk ⟨_, rfl, h⟩ dX3_sort_1
def wp_X5_sort (Q : Int32 → hp → Prop) (S : hp) (a0 : Nat) : Prop :=
  Q (3 : Int32) S
theorem k_X5_sort : Cond.code yX5_sort cX5_sort 1 (some .int) ∈ gtb := mg 825 (by decide +kernel) (by decide +kernel)
theorem dn_X5_sort : yX5_sort.cls ≠ "java/lang/invoke/MethodHandle" ∧ yX5_sort.cls ≠ "java/lang/invoke/VarHandle" ∧ (parseMethodDescriptor yX5_sort.desc).map (fun d => d.parameters.length) = some 0 := by decide +kernel
set_option maxRecDepth 100000 in
set_option maxHeartbeats 4000000 in
theorem s_X5_sort (l : Launch) (b : Nat) (D : va_G) (cy : Nat → ClassId) {Q : Int32 → hp → Prop} {S : hp} {a0 : Nat} (h : wp_X5_sort Q S a0) : MT l yX5_sort cX5_sort 1 (some .int) 0 0 0 0 b D cy S [.ref a0] (pI Q) := by
  refine MT.of (by decide +kernel) (Nat.le_of_ble_eq_true rfl) ?_
  intro p e s m args below meth c X hr hlk hnm
  unfold wp_X5_sort at h
  show VM l b D cy 1 0 0 0 0 (pI Q) p e s m args below meth c S 0 0 0 [(0, .ref a0)] []
  refine v_iconst X (v := 3) dX5_sort_0 (by decide) ?_
  exact v_iret X hr hlk ⟨_, rfl, h⟩ dX5_sort_1
def wp_X7_sort (Q : Int32 → hp → Prop) (S : hp) (a0 : Nat) : Prop :=
  Q (5 : Int32) S
theorem k_X7_sort : Cond.code yX7_sort cX7_sort 1 (some .int) ∈ gtb := mg 828 (by decide +kernel) (by decide +kernel)
theorem dn_X7_sort : yX7_sort.cls ≠ "java/lang/invoke/MethodHandle" ∧ yX7_sort.cls ≠ "java/lang/invoke/VarHandle" ∧ (parseMethodDescriptor yX7_sort.desc).map (fun d => d.parameters.length) = some 0 := by decide +kernel
set_option maxRecDepth 100000 in
set_option maxHeartbeats 4000000 in
theorem s_X7_sort (l : Launch) (b : Nat) (D : va_G) (cy : Nat → ClassId) {Q : Int32 → hp → Prop} {S : hp} {a0 : Nat} (h : wp_X7_sort Q S a0) : MT l yX7_sort cX7_sort 1 (some .int) 0 0 0 0 b D cy S [.ref a0] (pI Q) := by
  refine MT.of (by decide +kernel) (Nat.le_of_ble_eq_true rfl) ?_
  intro p e s m args below meth c X hr hlk hnm
  unfold wp_X7_sort at h
  show VM l b D cy 1 0 0 0 0 (pI Q) p e s m args below meth c S 0 0 0 [(0, .ref a0)] []
  refine v_iconst X (v := 5) dX7_sort_0 (by decide) ?_
  exact v_iret X hr hlk ⟨_, rfl, h⟩ dX7_sort_1
def wp_X10_sort (Q : Int32 → hp → Prop) (S : hp) (a0 : Nat) : Prop :=
  Q (1 : Int32) S
theorem k_X10_sort : Cond.code yX10_sort cX10_sort 1 (some .int) ∈ gtb := mg 831 (by decide +kernel) (by decide +kernel)
theorem dn_X10_sort : yX10_sort.cls ≠ "java/lang/invoke/MethodHandle" ∧ yX10_sort.cls ≠ "java/lang/invoke/VarHandle" ∧ (parseMethodDescriptor yX10_sort.desc).map (fun d => d.parameters.length) = some 0 := by decide +kernel
set_option maxRecDepth 100000 in
set_option maxHeartbeats 4000000 in
theorem s_X10_sort (l : Launch) (b : Nat) (D : va_G) (cy : Nat → ClassId) {Q : Int32 → hp → Prop} {S : hp} {a0 : Nat} (h : wp_X10_sort Q S a0) : MT l yX10_sort cX10_sort 1 (some .int) 0 0 0 0 b D cy S [.ref a0] (pI Q) := by
  refine MT.of (by decide +kernel) (Nat.le_of_ble_eq_true rfl) ?_
  intro p e s m args below meth c X hr hlk hnm
  unfold wp_X10_sort at h
  show VM l b D cy 1 0 0 0 0 (pI Q) p e s m args below meth c S 0 0 0 [(0, .ref a0)] []
  refine v_iconst X (v := 1) dX10_sort_0 (by decide) ?_
  exact v_iret X hr hlk ⟨_, rfl, h⟩ dX10_sort_1
def wd_Mouth_sort (Q : Int32 → hp → Prop) (S : hp) (a0 : Nat)  : Prop :=
  (hK S a0 = 1 ∧ wp_X1_sort Q S a0 ) ∨ (hK S a0 = 3 ∧ wp_X3_sort Q S a0 ) ∨ (hK S a0 = 4 ∧ wp_X5_sort Q S a0 ) ∨ (hK S a0 = 6 ∧ wp_X7_sort Q S a0 ) ∨ (hK S a0 = 9 ∧ wp_X10_sort Q S a0 )
set_option maxRecDepth 100000 in
theorem v_dyn_Mouth_sort {p : Program} {l : Launch} {e : Env} {R : Room} {s : State} {m : MethodId} {args : Array Value} {below : List Frame} {meth : Method} {c : Code} {b : Nat} {D : va_G} {cy : Nat → ClassId} {nL : Nat} {Qf : State → Prop} {S : hp} {cells slots pc : Nat} {lv : List (Nat × Value)} {cc : ByteArray} {own : String} (X : CX p s m args c cc nL own D cy) {Q : Int32 → hp → Prop} {a0 idx : Nat}  {rest : List Value} (h : wd_Mouth_sort Q S a0 ) (hlink : Cond.methodLink own idx ⟨"DummyInches$Mouth", "sort", "()I"⟩ ∈ gtb) (hR : 0 + 1 ≤ R.frames ∧ 8 + 11 + 1 ≤ R.locals) (hW : ((rest.map (cv b)).map fun v => v.category).sum ≤ 8) (hf : cells + 0 ≤ R.cells ∧ slots + 0 ≤ R.slots) (hd : decode cc pc = .ok (.invokevirtual idx, 3)) (kk : ∀ (r : Int32) (S1 : hp), Q r S1 → V p l e R s m args below meth c b D cy nL Qf S1 cells slots (pc + 3) lv (.int r :: rest)) : V p l e R s m args below meth c b D cy nL Qf S cells slots pc lv (.ref a0 :: rest) := by
  have hdc : va_Decl s ⟨"DummyInches$Mouth", "sort", "()I"⟩ := va_Decl.abs (X.2.2.2.2.2.2.2.2.2.1 _ (List.mem_of_getElem? (i := 1) rfl))
  rcases h with ⟨hk, h⟩ | ⟨hk, h⟩ | ⟨hk, h⟩ | ⟨hk, h⟩ | ⟨hk, h⟩
  · refine v_callA (x := ⟨"DummyInches$Mouth", "sort", "()I"⟩) (owner := "DummyInches$Mouth") X (n := 0) (av := []) (T := TX1) (N := 2) (s_X1_sort l b D cy h) hk (by decide) rfl hdc hlink wd816 wd817 wd818 wd67 k_X1_sort ⟨by decide, by decide, by decide +kernel⟩ rfl ⟨by omega, by omega⟩ hW hf hd rfl (kI kk)
  · refine v_callA (x := ⟨"DummyInches$Mouth", "sort", "()I"⟩) (owner := "DummyInches$Mouth") X (n := 0) (av := []) (T := TX3) (N := 2) (s_X3_sort l b D cy h) hk (by decide) rfl hdc hlink wd816 wd820 wd821 wd69 k_X3_sort ⟨by decide, by decide, by decide +kernel⟩ rfl ⟨by omega, by omega⟩ hW hf hd rfl (kI kk)
  · refine v_callA (x := ⟨"DummyInches$Mouth", "sort", "()I"⟩) (owner := "DummyInches$Mouth") X (n := 0) (av := []) (T := TX5) (N := 2) (s_X5_sort l b D cy h) hk (by decide) rfl hdc hlink wd816 wd823 wd824 wd68 k_X5_sort ⟨by decide, by decide, by decide +kernel⟩ rfl ⟨by omega, by omega⟩ hW hf hd rfl (kI kk)
  · refine v_callA (x := ⟨"DummyInches$Mouth", "sort", "()I"⟩) (owner := "DummyInches$Mouth") X (n := 0) (av := []) (T := TX7) (N := 2) (s_X7_sort l b D cy h) hk (by decide) rfl hdc hlink wd816 wd826 wd827 wd70 k_X7_sort ⟨by decide, by decide, by decide +kernel⟩ rfl ⟨by omega, by omega⟩ hW hf hd rfl (kI kk)
  · refine v_callA (x := ⟨"DummyInches$Mouth", "sort", "()I"⟩) (owner := "DummyInches$Mouth") X (n := 0) (av := []) (T := TX10) (N := 2) (s_X10_sort l b D cy h) hk (by decide) rfl hdc hlink wd816 wd829 wd830 wd66 k_X10_sort ⟨by decide, by decide, by decide +kernel⟩ rfl ⟨by omega, by omega⟩ hW hf hd rfl (kI kk)
def wp_X11_kind (Q : Int32 → hp → Prop) (S : hp) (a0 : Nat) (x1 : Int32) : Prop :=
  hK S a0 = 10 ∧ ∃ r2 : Nat, hR S a0 2 = some r2 ∧ hK S r2 = 7 ∧ wp_X8_mouthAt (fun q8 S3 => (q8 = none → Q (-1000001 : Int32) S3) ∧ (∀ r5 : Nat, q8 = some r5 → wd_Mouth_sort (fun r7 S6 => Q r7 S6) S3 r5)) S r2 x1
theorem k_X11_kind : Cond.code yX11_kind cX11_kind 3 (some .int) ∈ gtb := mg 813 (by decide +kernel) (by decide +kernel)
theorem dn_X11_kind : yX11_kind.cls ≠ "java/lang/invoke/MethodHandle" ∧ yX11_kind.cls ≠ "java/lang/invoke/VarHandle" ∧ (parseMethodDescriptor yX11_kind.desc).map (fun d => d.parameters.length) = some 1 := by decide +kernel
set_option maxRecDepth 100000 in
set_option maxHeartbeats 4000000 in
theorem s_X11_kind (l : Launch) (b : Nat) (D : va_G) (cy : Nat → ClassId) {Q : Int32 → hp → Prop} {S : hp} {a0 : Nat} {x1 : Int32} (h : wp_X11_kind Q S a0 x1) : MT l yX11_kind cX11_kind 3 (some .int) 1 21 0 0 b D cy S [.ref a0, .int x1] (pI Q) := by
  refine MT.of (by decide +kernel) (Nat.le_of_ble_eq_true rfl) ?_
  intro p e s m args below meth c X hr hlk hnm
  unfold wp_X11_kind at h
  show VM l b D cy 3 1 21 0 0 (pI Q) p e s m args below meth c S 0 0 0 [(0, .ref a0), (1, .int x1)] []
  refine v_aload_n X 0 dX11_kind_0 rfl rfl ?_
  obtain ⟨hk1, h⟩ := h
  obtain ⟨r2, hr2, h⟩ := h
  refine v_getR X (T := TX11) (N := 12) (k := 2) hk1 (by decide) rfl (by decide) inX11 wd217 rfl dX11_kind_1 hr2 ?_
  refine v_iload_n X 1 dX11_kind_4 rfl rfl ?_
  obtain ⟨hk4, h⟩ := h
  refine v_callV X (av := [.int x1]) (T := TX8) (N := 10) (s_X8_mouthAt l b D cy h) hk4 (by decide) rfl wd479 wd480 wd481 wd59 k_X8_mouthAt dn_X8_mouthAt rfl ⟨Nat.le_of_ble_eq_true rfl, Nat.le_of_ble_eq_true rfl⟩ (Nat.le_of_ble_eq_true rfl) ⟨Nat.le_of_ble_eq_true rfl, Nat.le_of_ble_eq_true rfl⟩ dX11_kind_5 rfl (kO (fun S3 h => ?_) (fun r5 S3 h => ?_))
  · replace h := h.1 rfl
    refine v_astore_nN X (lv' := [(2, .null), (0, .ref a0), (1, .int x1)]) dX11_kind_8 rfl (by decide) rfl ?_
    refine v_aload_nN X 0 dX11_kind_9 rfl rfl ?_
    refine v_ifnonnullN X dX11_kind_10 ?_
    refine v_ldc X wd262 dX11_kind_13 ?_
    refine v_goto X (tgt := 22) dX11_kind_15 (by decide) ?_
    exact v_iret X hr hlk ⟨_, rfl, h⟩ dX11_kind_22
  · replace h := h.2 _ rfl
    refine v_astore_n X (lv' := [(2, .ref r5), (0, .ref a0), (1, .int x1)]) dX11_kind_8 rfl (by decide) rfl ?_
    refine v_aload_n X 0 dX11_kind_9 rfl rfl ?_
    refine v_ifnonnull X (tgt := 18) dX11_kind_10 (by decide) ?_
    refine v_aload_n X 0 dX11_kind_18 rfl rfl ?_
    refine v_dyn_Mouth_sort X h wd814 ⟨Nat.le_of_ble_eq_true rfl, Nat.le_of_ble_eq_true rfl⟩ (Nat.le_of_ble_eq_true rfl) ⟨Nat.le_of_ble_eq_true rfl, Nat.le_of_ble_eq_true rfl⟩ dX11_kind_19 (fun r7 S6 h => ?_)
    exact v_iret X hr hlk ⟨_, rfl, h⟩ dX11_kind_22
def wp_X11_isOne (Q : Int32 → hp → Prop) (S : hp) (a0 : Nat) (x1 : Int32) : Prop :=
  ((x1 = (1 : Int32) → isM (hK S a0) ∧ isZ (isValet (hK S a0)) ∧ Q (isValet (hK S a0)) S) ∧ (x1 = (2 : Int32) → isM (hK S a0) ∧ isZ (isCook (hK S a0)) ∧ Q (isCook (hK S a0)) S) ∧ (x1 = (3 : Int32) → isM (hK S a0) ∧ isZ (isRival (hK S a0)) ∧ Q (isRival (hK S a0)) S) ∧ (x1 = (4 : Int32) → isM (hK S a0) ∧ isZ (isGossip (hK S a0)) ∧ Q (isGossip (hK S a0)) S) ∧ (x1 = (5 : Int32) → isM (hK S a0) ∧ isZ (isSpy (hK S a0)) ∧ Q (isSpy (hK S a0)) S) ∧ (¬ x1 = (1 : Int32) → ¬ x1 = (2 : Int32) → ¬ x1 = (3 : Int32) → ¬ x1 = (4 : Int32) → ¬ x1 = (5 : Int32) → Q (1 : Int32) S))
theorem k_X11_isOne : Cond.code yX11_isOne cX11_isOne 2 (some .boolean) ∈ gtb := mg 838 (by decide +kernel) (by decide +kernel)
theorem dn_X11_isOne : yX11_isOne.cls ≠ "java/lang/invoke/MethodHandle" ∧ yX11_isOne.cls ≠ "java/lang/invoke/VarHandle" ∧ (parseMethodDescriptor yX11_isOne.desc).map (fun d => d.parameters.length) = some 2 := by decide +kernel
set_option maxRecDepth 100000 in
set_option maxHeartbeats 4000000 in
theorem s_X11_isOne (l : Launch) (b : Nat) (D : va_G) (cy : Nat → ClassId) {Q : Int32 → hp → Prop} {S : hp} {a0 : Nat} {x1 : Int32} (h : wp_X11_isOne Q S a0 x1) : MT l yX11_isOne cX11_isOne 2 (some .boolean) 0 0 0 0 b D cy S [.ref a0, .int x1] (pI Q) := by
  refine MT.of (by decide +kernel) (Nat.le_of_ble_eq_true rfl) ?_
  intro p e s m args below meth c X hr hlk hnm
  unfold wp_X11_isOne at h
  show VM l b D cy 2 0 0 0 0 (pI Q) p e s m args below meth c S 0 0 0 [(0, .ref a0), (1, .int x1)] []
  refine v_iload_n X 1 dX11_isOne_0 rfl rfl ?_
  by_cases c3 : x1 = (1 : Int32)
  · replace h := h.1 c3
    refine v_tabIn X (off := 35) (tgt := 36) (1 : Int32) c3 dX11_isOne_1 (by decide) (by decide) (by decide) (by decide) ?_
    refine v_aload_n X 0 dX11_isOne_36 rfl rfl ?_
    obtain ⟨hk1, h⟩ := h
    refine v_inValet X hk1 wd839 dX11_isOne_37 ?_
    obtain ⟨hz2, h⟩ := h
    exact v_zret X hr hz2 hlk ⟨_, rfl, h⟩ dX11_isOne_40
  by_cases c6 : x1 = (2 : Int32)
  · replace h := h.2.1 c6
    refine v_tabIn X (off := 40) (tgt := 41) (2 : Int32) c6 dX11_isOne_1 (by decide) (by decide) (by decide) (by decide) ?_
    refine v_aload_n X 0 dX11_isOne_41 rfl rfl ?_
    obtain ⟨hk4, h⟩ := h
    refine v_inCook X hk4 wd840 dX11_isOne_42 ?_
    obtain ⟨hz5, h⟩ := h
    exact v_zret X hr hz5 hlk ⟨_, rfl, h⟩ dX11_isOne_45
  by_cases c9 : x1 = (3 : Int32)
  · replace h := h.2.2.1 c9
    refine v_tabIn X (off := 45) (tgt := 46) (3 : Int32) c9 dX11_isOne_1 (by decide) (by decide) (by decide) (by decide) ?_
    refine v_aload_n X 0 dX11_isOne_46 rfl rfl ?_
    obtain ⟨hk7, h⟩ := h
    refine v_inRival X hk7 wd841 dX11_isOne_47 ?_
    obtain ⟨hz8, h⟩ := h
    exact v_zret X hr hz8 hlk ⟨_, rfl, h⟩ dX11_isOne_50
  by_cases c12 : x1 = (4 : Int32)
  · replace h := h.2.2.2.1 c12
    refine v_tabIn X (off := 50) (tgt := 51) (4 : Int32) c12 dX11_isOne_1 (by decide) (by decide) (by decide) (by decide) ?_
    refine v_aload_n X 0 dX11_isOne_51 rfl rfl ?_
    obtain ⟨hk10, h⟩ := h
    refine v_inGossip X hk10 wd842 dX11_isOne_52 ?_
    obtain ⟨hz11, h⟩ := h
    exact v_zret X hr hz11 hlk ⟨_, rfl, h⟩ dX11_isOne_55
  by_cases c15 : x1 = (5 : Int32)
  · replace h := h.2.2.2.2.1 c15
    refine v_tabIn X (off := 55) (tgt := 56) (5 : Int32) c15 dX11_isOne_1 (by decide) (by decide) (by decide) (by decide) ?_
    refine v_aload_n X 0 dX11_isOne_56 rfl rfl ?_
    obtain ⟨hk13, h⟩ := h
    refine v_inSpy X hk13 wd843 dX11_isOne_57 ?_
    obtain ⟨hz14, h⟩ := h
    exact v_zret X hr hz14 hlk ⟨_, rfl, h⟩ dX11_isOne_60
  replace h := h.2.2.2.2.2 c3 c6 c9 c12 c15
  refine v_tabOut X (tgt := 61) dX11_isOne_1 (by have zc3 := ne_ti (1 : Int32) 1 rfl c3; have zc6 := ne_ti (2 : Int32) 2 rfl c6; have zc9 := ne_ti (3 : Int32) 3 rfl c9; have zc12 := ne_ti (4 : Int32) 4 rfl c12; have zc15 := ne_ti (5 : Int32) 5 rfl c15; omega) (by decide) ?_
  refine v_iconst X (v := 1) dX11_isOne_61 (by decide) ?_
  exact v_zret X hr (by decide) hlk ⟨_, rfl, h⟩ dX11_isOne_62
def wp_X11_as (Q : Int32 → hp → Prop) (S : hp) (a0 : Nat) (x1 : Int32) (x2 : Int32) : Prop :=
  hK S a0 = 10 ∧ ∃ r2 : Nat, hR S a0 2 = some r2 ∧ hK S r2 = 7 ∧ wp_X8_mouthAt (fun q18 S3 => (q18 = none → Q (-1000001 : Int32) S3) ∧ (∀ r5 : Nat, q18 = some r5 → ((x2 < 0 → Q (-1000001 : Int32) S3) ∧ (¬ x2 < 0 → ((x2 ≤ (5 : Int32) → wp_X11_isOne (fun r9 S8 => ((r9 = 0 → hK S8 a0 = 10 ∧ wp_X11_found (fun r13 S11 => Q r13 S11) S8 a0 (3 : Int32)) ∧ (¬ r9 = 0 → isM (hK S8 r5) ∧ hK S8 a0 = 10 ∧ wp_X11_answered (fun r17 S15 => Q r17 S15) S8 a0 ((hI S8 r5 0))))) S3 r5 x2) ∧ (¬ x2 ≤ (5 : Int32) → Q (-1000001 : Int32) S3)))))) S r2 x1
theorem k_X11_as : Cond.code yX11_as cX11_as 4 (some .int) ∈ gtb := mg 835 (by decide +kernel) (by decide +kernel)
theorem dn_X11_as : yX11_as.cls ≠ "java/lang/invoke/MethodHandle" ∧ yX11_as.cls ≠ "java/lang/invoke/VarHandle" ∧ (parseMethodDescriptor yX11_as.desc).map (fun d => d.parameters.length) = some 2 := by decide +kernel
set_option maxRecDepth 100000 in
set_option maxHeartbeats 4000000 in
theorem s_X11_as (l : Launch) (b : Nat) (D : va_G) (cy : Nat → ClassId) {Q : Int32 → hp → Prop} {S : hp} {a0 : Nat} {x1 : Int32} {x2 : Int32} (h : wp_X11_as Q S a0 x1 x2) : MT l yX11_as cX11_as 4 (some .int) 1 21 0 0 b D cy S [.ref a0, .int x1, .int x2] (pI Q) := by
  refine MT.of (by decide +kernel) (Nat.le_of_ble_eq_true rfl) ?_
  intro p e s m args below meth c X hr hlk hnm
  unfold wp_X11_as at h
  show VM l b D cy 4 1 21 0 0 (pI Q) p e s m args below meth c S 0 0 0 [(0, .ref a0), (1, .int x1), (2, .int x2)] []
  refine v_aload_n X 0 dX11_as_0 rfl rfl ?_
  obtain ⟨hk1, h⟩ := h
  obtain ⟨r2, hr2, h⟩ := h
  refine v_getR X (T := TX11) (N := 12) (k := 2) hk1 (by decide) rfl (by decide) inX11 wd217 rfl dX11_as_1 hr2 ?_
  refine v_iload_n X 1 dX11_as_4 rfl rfl ?_
  obtain ⟨hk4, h⟩ := h
  refine v_callV X (av := [.int x1]) (T := TX8) (N := 10) (s_X8_mouthAt l b D cy h) hk4 (by decide) rfl wd479 wd480 wd481 wd59 k_X8_mouthAt dn_X8_mouthAt rfl ⟨Nat.le_of_ble_eq_true rfl, Nat.le_of_ble_eq_true rfl⟩ (Nat.le_of_ble_eq_true rfl) ⟨Nat.le_of_ble_eq_true rfl, Nat.le_of_ble_eq_true rfl⟩ dX11_as_5 rfl (kO (fun S3 h => ?_) (fun r5 S3 h => ?_))
  · replace h := h.1 rfl
    refine v_astore_nN X (lv' := [(3, .null), (0, .ref a0), (1, .int x1), (2, .int x2)]) dX11_as_8 rfl (by decide) rfl ?_
    refine v_aload_nN X 0 dX11_as_9 rfl rfl ?_
    refine v_ifnullN X (tgt := 22) dX11_as_10 (by decide) ?_
    refine v_ldc X wd262 dX11_as_22 ?_
    exact v_iret X hr hlk ⟨_, rfl, h⟩ dX11_as_24
  · replace h := h.2 _ rfl
    refine v_astore_n X (lv' := [(3, .ref r5), (0, .ref a0), (1, .int x1), (2, .int x2)]) dX11_as_8 rfl (by decide) rfl ?_
    refine v_aload_n X 0 dX11_as_9 rfl rfl ?_
    refine v_ifnull X dX11_as_10 ?_
    refine v_iload_n X 3 dX11_as_13 rfl rfl ?_
    refine v_if_lt X (tgt := 22) dX11_as_14 (by decide) (fun c6 => ?_) (fun c6 => ?_)
    · replace h := h.1 c6
      refine v_ldc X wd262 dX11_as_22 ?_
      exact v_iret X hr hlk ⟨_, rfl, h⟩ dX11_as_24
    · replace h := h.2 c6
      refine v_iload_n X 3 dX11_as_17 rfl rfl ?_
      refine v_iconst X (v := 5) dX11_as_18 (by decide) ?_
      refine v_icmp_le X (tgt := 25) dX11_as_19 (by decide) (fun c7 => ?_) (fun c7 => ?_)
      · replace h := h.1 c7
        refine v_aload_n X 0 dX11_as_25 rfl rfl ?_
        refine v_iload_n X 3 dX11_as_26 rfl rfl ?_
        refine v_callS X (av := [.ref r5, .int x2]) (s_X11_isOne l b D cy h) wd836 wd837 wd56 k_X11_isOne dn_X11_isOne rfl ⟨Nat.le_of_ble_eq_true rfl, Nat.le_of_ble_eq_true rfl⟩ (Nat.le_of_ble_eq_true rfl) ⟨Nat.le_of_ble_eq_true rfl, Nat.le_of_ble_eq_true rfl⟩ dX11_as_27 rfl (kI (fun r9 S8 h => ?_))
        refine v_if_eq X (tgt := 44) dX11_as_30 (by decide) (fun c10 => ?_) (fun c10 => ?_)
        · replace h := h.1 c10
          refine v_aload_n X 1 dX11_as_44 rfl rfl ?_
          refine v_iconst X (v := 3) dX11_as_45 (by decide) ?_
          obtain ⟨hk12, h⟩ := h
          refine v_callV X (av := [.int (3 : Int32)]) (T := TX11) (N := 12) (s_X11_found l b D cy h) hk12 (by decide) rfl wd263 wd265 wd0 wd56 k_X11_found dn_X11_found rfl ⟨Nat.le_of_ble_eq_true rfl, Nat.le_of_ble_eq_true rfl⟩ (Nat.le_of_ble_eq_true rfl) ⟨Nat.le_of_ble_eq_true rfl, Nat.le_of_ble_eq_true rfl⟩ dX11_as_46 rfl (kI (fun r13 S11 h => ?_))
          exact v_iret X hr hlk ⟨_, rfl, h⟩ dX11_as_49
        · replace h := h.2 c10
          refine v_aload_n X 1 dX11_as_33 rfl rfl ?_
          refine v_aload_n X 0 dX11_as_34 rfl rfl ?_
          obtain ⟨hk14, h⟩ := h
          refine v_getM X (k := 0) hk14 (by decide) wd419 dX11_as_35 ?_
          obtain ⟨hk16, h⟩ := h
          refine v_callV X (av := [.int (hI S8 r5 0)]) (T := TX11) (N := 12) (s_X11_answered l b D cy h) hk16 (by decide) rfl wd275 wd277 wd1 wd56 k_X11_answered dn_X11_answered rfl ⟨Nat.le_of_ble_eq_true rfl, Nat.le_of_ble_eq_true rfl⟩ (Nat.le_of_ble_eq_true rfl) ⟨Nat.le_of_ble_eq_true rfl, Nat.le_of_ble_eq_true rfl⟩ dX11_as_38 rfl (kI (fun r17 S15 h => ?_))
          refine v_goto X (tgt := 49) dX11_as_41 (by decide) ?_
          exact v_iret X hr hlk ⟨_, rfl, h⟩ dX11_as_49
      · replace h := h.2 c7
        refine v_ldc X wd262 dX11_as_22 ?_
        exact v_iret X hr hlk ⟨_, rfl, h⟩ dX11_as_24
