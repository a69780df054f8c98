def wB_X12_addedUp_169 (Q : Int32 → hp → Prop) (S : hp) (l4 : Int32) : Prop :=
  Q l4 S
def wB_X12_addedUp_149 (bk45 : hp → Nat → Int32 → Int32 → Int32 → Int32 → Int32 → Prop) (Q : Int32 → hp → Prop) (S : hp) (l0 : Nat) (l1 : Int32) (l2 : Int32) (l3 : Int32) (l5 : Int32) (k0 : Int32) : Prop :=
  ∀ v24 : Int32, v24 = l5 + (1 : Int32) → bk45 S l0 l1 l2 l3 k0 v24
def wB_X12_addedUp_147 (bk45 : hp → Nat → Int32 → Int32 → Int32 → Int32 → Int32 → Prop) (Q : Int32 → hp → Prop) (S : hp) (l0 : Nat) (l1 : Int32) (l2 : Int32) (l3 : Int32) (l4 : Int32) (l5 : Int32) : Prop :=
  wB_X12_addedUp_149 bk45 Q S l0 l1 l2 l3 l5 l4
def wB_X12_addedUp_142 (bk45 : hp → Nat → Int32 → Int32 → Int32 → Int32 → Int32 → Prop) (Q : Int32 → hp → Prop) (S : hp) (l0 : Nat) (l1 : Int32) (l2 : Int32) (l3 : Int32) (l5 : Int32) : Prop :=
  wB_X12_addedUp_149 bk45 Q S l0 l1 l2 l3 l5 l5
def wB_X12_addedUp_94 (bk45 : hp → Nat → Int32 → Int32 → Int32 → Int32 → Int32 → Prop) (bk58 : hp → Nat → Int32 → Int32 → Int32 → Int32 → Int32 → Int32 → Int32 → Prop) (Q : Int32 → hp → Prop) (S : hp) (l0 : Nat) (l1 : Int32) (l2 : Int32) (l3 : Int32) (l4 : Int32) (l5 : Int32) (l7 : Int32) (k0 : Int32) (k1 : Int32) : Prop :=
  ∀ v36 : Int32, v36 = (k1 - k0) → ∀ v37 : Int32, v37 = l7 + (1 : Int32) → bk58 S l0 l1 l2 l3 l4 l5 v36 v37
def wB_X12_addedUp_58 (bk45 : hp → Nat → Int32 → Int32 → Int32 → Int32 → Int32 → Prop) (bk58 : hp → Nat → Int32 → Int32 → Int32 → Int32 → Int32 → Int32 → Int32 → Prop) (Q : Int32 → hp → Prop) (S : hp) (l0 : Nat) (l1 : Int32) (l2 : Int32) (l3 : Int32) (l4 : Int32) (l5 : Int32) (l6 : Int32) (l7 : Int32) : Prop :=
  (((3 : Int32) ≤ l7 → wp_X12_bits (fun r20 S19 => wp_X12_in (fun r22 S21 => ((r22 = 0 → wB_X12_addedUp_147 bk45 Q S21 l0 l1 l2 l3 l4 l5) ∧ (¬ r22 = 0 → ((l4 = (-1000000 : Int32) → wB_X12_addedUp_142 bk45 Q S21 l0 l1 l2 l3 l5) ∧ (¬ l4 = (-1000000 : Int32) → wp_X12_bits (fun r27 S26 => wp_X12_bits (fun r29 S28 => ((r29 ≤ r27 → wB_X12_addedUp_147 bk45 Q S28 l0 l1 l2 l3 l4 l5) ∧ (¬ r29 ≤ r27 → wB_X12_addedUp_142 bk45 Q S28 l0 l1 l2 l3 l5))) S26 l4) S21 l5))))) S19 ((l6).toInt64) ((0 : Int64)) ((((99 : Int32) * r20)).toInt64)) S l5) ∧ (¬ (3 : Int32) ≤ l7 → ((¬ ((l5 >>> (l7 &&& 31)) &&& (1 : Int32)) = (1 : Int32) → hK S l0 = 11 ∧ ∃ r33 : Nat, hR S l0 5 = some r33 ∧ hK S r33 = 12 ∧ vp_in (((5 : Int32) + ((3 : Int32) * l1)) + l7) (hN S r33) ∧ wB_X12_addedUp_94 bk45 bk58 Q S l0 l1 l2 l3 l4 l5 l7 ((hI S r33 ((((5 : Int32) + ((3 : Int32) * l1)) + l7)).toNatClampNeg)) l6) ∧ (((l5 >>> (l7 &&& 31)) &&& (1 : Int32)) = (1 : Int32) → wB_X12_addedUp_94 bk45 bk58 Q S l0 l1 l2 l3 l4 l5 l7 (0 : Int32) l6))))
def wl_X12_addedUp_58 (bk45 : hp → Nat → Int32 → Int32 → Int32 → Int32 → Int32 → Prop) (Q : Int32 → hp → Prop) : Nat → hp → Nat → Int32 → Int32 → Int32 → Int32 → Int32 → Int32 → Int32 → Prop
  | 0 => fun _ _ _ _ _ _ _ _ _ => False
  | n + 1 => wB_X12_addedUp_58 bk45 (wl_X12_addedUp_58 bk45 Q n) Q
def wB_X12_addedUp_45 (bk45 : hp → Nat → Int32 → Int32 → Int32 → Int32 → Int32 → Prop) (Q : Int32 → hp → Prop) (S : hp) (l0 : Nat) (l1 : Int32) (l2 : Int32) (l3 : Int32) (l4 : Int32) (l5 : Int32) : Prop :=
  (((8 : Int32) ≤ l5 → ((l4 = (-1000000 : Int32) → wB_X12_addedUp_169 Q S l4) ∧ (¬ l4 = (-1000000 : Int32) → ((¬ l3 = (1 : Int32) → wp_X12_bits (fun r17 S16 => Q r17 S16) S l4) ∧ (l3 = (1 : Int32) → wB_X12_addedUp_169 Q S l4))))) ∧ (¬ (8 : Int32) ≤ l5 → ∃ n : Nat, wl_X12_addedUp_58 bk45 Q n S l0 l1 l2 l3 l4 l5 l2 (0 : Int32)))
def wl_X12_addedUp_45 (Q : Int32 → hp → Prop) : Nat → hp → Nat → Int32 → Int32 → Int32 → Int32 → Int32 → Prop
  | 0 => fun _ _ _ _ _ _ _ => False
  | n + 1 => wB_X12_addedUp_45 (wl_X12_addedUp_45 Q n) Q
def wp_X12_addedUp (Q : Int32 → hp → Prop) (S : hp) (a0 : Nat) (x1 : Int32) (x2 : Int32) (x3 : Int32) : Prop :=
  hK S a0 = 11 ∧ ∀ S2 : hp, S2 = setI S a0 0 (0 : Int32) → wp_X12_isDummy (fun r5 S4 => ((r5 = 0 → Q (-1000001 : Int32) S4) ∧ (¬ r5 = 0 → wp_X12_in (fun r8 S7 => ((r8 = 0 → Q (-1000001 : Int32) S7) ∧ (¬ r8 = 0 → wp_X12_in (fun r11 S10 => ((¬ r11 = 0 → ∃ n : Nat, wl_X12_addedUp_45 Q n S10 a0 x1 x2 x3 (-1000000 : Int32) (0 : Int32)) ∧ (r11 = 0 → Q (-1000001 : Int32) S10))) S7 ((x3).toInt64) ((0 : Int64)) ((1 : Int64))))) S4 ((x2).toInt64) ((0 : Int64)) ((297 : Int64))))) S2 a0 x1
theorem k_X12_addedUp : Cond.code yX12_addedUp cX12_addedUp 8 (some .int) ∈ gtb := mg 1260 (by decide +kernel) (by decide +kernel)
theorem dn_X12_addedUp : yX12_addedUp.cls ≠ "java/lang/invoke/MethodHandle" ∧ yX12_addedUp.cls ≠ "java/lang/invoke/VarHandle" ∧ (parseMethodDescriptor yX12_addedUp.desc).map (fun d => d.parameters.length) = some 3 := by decide +kernel
set_option maxRecDepth 100000 in
set_option maxHeartbeats 4000000 in
theorem s_X12_addedUp (l : Launch) (b : Nat) (D : va_G) (cy : Nat → ClassId) {Q : Int32 → hp → Prop} {S : hp} {a0 : Nat} {x1 : Int32} {x2 : Int32} {x3 : Int32} (h : wp_X12_addedUp Q S a0 x1 x2 x3) : MT l yX12_addedUp cX12_addedUp 8 (some .int) 2 46 0 0 b D cy S [.ref a0, .int x1, .int x2, .int x3] (pI Q) := by
  refine MT.of (by decide +kernel) (Nat.le_of_ble_eq_true rfl) ?_
  intro p e s m args below meth c X hr hlk hnm
  have j169 : ∀  (S : hp) (l4 : Int32), wB_X12_addedUp_169 Q S l4 → VM l b D cy 8 2 46 0 0 (pI Q) p e s m args below meth c S 0 0 169 [(4, .int l4)] [] := by
    intro  S l4 h
    unfold wB_X12_addedUp_169 at h
    refine v_iload X 0 dX12_addedUp_169 rfl ?_
    refine v_goto X (tgt := 179) dX12_addedUp_171 (by decide) ?_
    exact v_iret X hr hlk ⟨_, rfl, h⟩ dX12_addedUp_179
  have j149 : ∀ (bk45 : hp → Nat → Int32 → Int32 → Int32 → Int32 → Int32 → Prop) (hbk45 : ∀ (S : hp) (l0 : Nat) (l1 : Int32) (l2 : Int32) (l3 : Int32) (l4 : Int32) (l5 : Int32), bk45 S l0 l1 l2 l3 l4 l5 → VM l b D cy 8 2 46 0 0 (pI Q) p e s m args below meth c S 0 0 45 [(0, .ref l0), (1, .int l1), (2, .int l2), (3, .int l3), (4, .int l4), (5, .int l5)] []) (S : hp) (l0 : Nat) (l1 : Int32) (l2 : Int32) (l3 : Int32) (l5 : Int32) (k0 : Int32), wB_X12_addedUp_149 bk45 Q S l0 l1 l2 l3 l5 k0 → VM l b D cy 8 2 46 0 0 (pI Q) p e s m args below meth c S 0 0 149 [(0, .ref l0), (1, .int l1), (2, .int l2), (3, .int l3), (5, .int l5)] [.int k0] := by
    intro bk45 hbk45 S l0 l1 l2 l3 l5 k0 h
    unfold wB_X12_addedUp_149 at h
    refine v_istore X (lv' := [(4, .int k0), (0, .ref l0), (1, .int l1), (2, .int l2), (3, .int l3), (5, .int l5)]) dX12_addedUp_149 (by decide) rfl ?_
    obtain ⟨v24, hv24⟩ : ∃ y : Int32, y = l5 + (1 : Int32) := ⟨_, rfl⟩
    replace h := h v24 hv24
    refine v_iinc X (j := 5) (v := v24) (lv' := [(5, .int v24), (4, .int k0), (0, .ref l0), (1, .int l1), (2, .int l2), (3, .int l3)]) dX12_addedUp_151 rfl (by rw [hv24] <;> rfl) (by decide) rfl ?_
    refine v_goto X (tgt := 45) dX12_addedUp_154 (by decide) ?_
    refine v_lv (lv' := [(0, .ref l0), (1, .int l1), (2, .int l2), (3, .int l3), (4, .int k0), (5, .int v24)]) [2, 3, 4, 5, 1, 0] rfl ?_
    exact hbk45 _ _ _ _ _ _ _ h
  have j147 : ∀ (bk45 : hp → Nat → Int32 → Int32 → Int32 → Int32 → Int32 → Prop) (hbk45 : ∀ (S : hp) (l0 : Nat) (l1 : Int32) (l2 : Int32) (l3 : Int32) (l4 : Int32) (l5 : Int32), bk45 S l0 l1 l2 l3 l4 l5 → VM l b D cy 8 2 46 0 0 (pI Q) p e s m args below meth c S 0 0 45 [(0, .ref l0), (1, .int l1), (2, .int l2), (3, .int l3), (4, .int l4), (5, .int l5)] []) (S : hp) (l0 : Nat) (l1 : Int32) (l2 : Int32) (l3 : Int32) (l4 : Int32) (l5 : Int32), wB_X12_addedUp_147 bk45 Q S l0 l1 l2 l3 l4 l5 → VM l b D cy 8 2 46 0 0 (pI Q) p e s m args below meth c S 0 0 147 [(0, .ref l0), (1, .int l1), (2, .int l2), (3, .int l3), (4, .int l4), (5, .int l5)] [] := by
    intro bk45 hbk45 S l0 l1 l2 l3 l4 l5 h
    unfold wB_X12_addedUp_147 at h
    refine v_iload X 4 dX12_addedUp_147 rfl ?_
    refine v_lv (lv' := [(0, .ref l0), (1, .int l1), (2, .int l2), (3, .int l3), (5, .int l5)]) [0, 1, 2, 3, 5] rfl ?_
    exact j149 bk45 hbk45 _ _ _ _ _ _ _ h
  have j142 : ∀ (bk45 : hp → Nat → Int32 → Int32 → Int32 → Int32 → Int32 → Prop) (hbk45 : ∀ (S : hp) (l0 : Nat) (l1 : Int32) (l2 : Int32) (l3 : Int32) (l4 : Int32) (l5 : Int32), bk45 S l0 l1 l2 l3 l4 l5 → VM l b D cy 8 2 46 0 0 (pI Q) p e s m args below meth c S 0 0 45 [(0, .ref l0), (1, .int l1), (2, .int l2), (3, .int l3), (4, .int l4), (5, .int l5)] []) (S : hp) (l0 : Nat) (l1 : Int32) (l2 : Int32) (l3 : Int32) (l5 : Int32), wB_X12_addedUp_142 bk45 Q S l0 l1 l2 l3 l5 → VM l b D cy 8 2 46 0 0 (pI Q) p e s m args below meth c S 0 0 142 [(0, .ref l0), (1, .int l1), (2, .int l2), (3, .int l3), (5, .int l5)] [] := by
    intro bk45 hbk45 S l0 l1 l2 l3 l5 h
    unfold wB_X12_addedUp_142 at h
    refine v_iload X 4 dX12_addedUp_142 rfl ?_
    refine v_goto X (tgt := 149) dX12_addedUp_144 (by decide) ?_
    exact j149 bk45 hbk45 _ _ _ _ _ _ _ h
  have j94 : ∀ (bk45 : hp → Nat → Int32 → Int32 → Int32 → Int32 → Int32 → Prop) (hbk45 : ∀ (S : hp) (l0 : Nat) (l1 : Int32) (l2 : Int32) (l3 : Int32) (l4 : Int32) (l5 : Int32), bk45 S l0 l1 l2 l3 l4 l5 → VM l b D cy 8 2 46 0 0 (pI Q) p e s m args below meth c S 0 0 45 [(0, .ref l0), (1, .int l1), (2, .int l2), (3, .int l3), (4, .int l4), (5, .int l5)] []) (bk58 : hp → Nat → Int32 → Int32 → Int32 → Int32 → Int32 → Int32 → Int32 → Prop) (hbk58 : ∀ (S : hp) (l0 : Nat) (l1 : Int32) (l2 : Int32) (l3 : Int32) (l4 : Int32) (l5 : Int32) (l6 : Int32) (l7 : Int32), bk58 S l0 l1 l2 l3 l4 l5 l6 l7 → VM l b D cy 8 2 46 0 0 (pI Q) p e s m args below meth c S 0 0 58 [(0, .ref l0), (1, .int l1), (2, .int l2), (3, .int l3), (4, .int l4), (5, .int l5), (6, .int l6), (7, .int l7)] []) (S : hp) (l0 : Nat) (l1 : Int32) (l2 : Int32) (l3 : Int32) (l4 : Int32) (l5 : Int32) (l7 : Int32) (k0 : Int32) (k1 : Int32), wB_X12_addedUp_94 bk45 bk58 Q S l0 l1 l2 l3 l4 l5 l7 k0 k1 → VM l b D cy 8 2 46 0 0 (pI Q) p e s m args below meth c S 0 0 94 [(0, .ref l0), (1, .int l1), (2, .int l2), (3, .int l3), (4, .int l4), (5, .int l5), (7, .int l7)] [.int k0, .int k1] := by
    intro bk45 hbk45 bk58 hbk58 S l0 l1 l2 l3 l4 l5 l7 k0 k1 h
    unfold wB_X12_addedUp_94 at h
    refine v_isub X dX12_addedUp_94 ?_
    refine v_nm (fun v36 hv36 => ?_)
    replace h := h v36 hv36
    refine v_istore X (lv' := [(6, .int v36), (0, .ref l0), (1, .int l1), (2, .int l2), (3, .int l3), (4, .int l4), (5, .int l5), (7, .int l7)]) dX12_addedUp_95 (by decide) rfl ?_
    obtain ⟨v37, hv37⟩ : ∃ y : Int32, y = l7 + (1 : Int32) := ⟨_, rfl⟩
    replace h := h v37 hv37
    refine v_iinc X (j := 7) (v := v37) (lv' := [(7, .int v37), (6, .int v36), (0, .ref l0), (1, .int l1), (2, .int l2), (3, .int l3), (4, .int l4), (5, .int l5)]) dX12_addedUp_97 rfl (by rw [hv37] <;> rfl) (by decide) rfl ?_
    refine v_goto X (tgt := 58) dX12_addedUp_100 (by decide) ?_
    refine v_lv (lv' := [(0, .ref l0), (1, .int l1), (2, .int l2), (3, .int l3), (4, .int l4), (5, .int l5), (6, .int v36), (7, .int v37)]) [2, 3, 4, 5, 6, 7, 1, 0] rfl ?_
    exact hbk58 _ _ _ _ _ _ _ _ _ h
  have j58 : ∀ (bk45 : hp → Nat → Int32 → Int32 → Int32 → Int32 → Int32 → Prop) (hbk45 : ∀ (S : hp) (l0 : Nat) (l1 : Int32) (l2 : Int32) (l3 : Int32) (l4 : Int32) (l5 : Int32), bk45 S l0 l1 l2 l3 l4 l5 → VM l b D cy 8 2 46 0 0 (pI Q) p e s m args below meth c S 0 0 45 [(0, .ref l0), (1, .int l1), (2, .int l2), (3, .int l3), (4, .int l4), (5, .int l5)] []) (bk58 : hp → Nat → Int32 → Int32 → Int32 → Int32 → Int32 → Int32 → Int32 → Prop) (hbk58 : ∀ (S : hp) (l0 : Nat) (l1 : Int32) (l2 : Int32) (l3 : Int32) (l4 : Int32) (l5 : Int32) (l6 : Int32) (l7 : Int32), bk58 S l0 l1 l2 l3 l4 l5 l6 l7 → VM l b D cy 8 2 46 0 0 (pI Q) p e s m args below meth c S 0 0 58 [(0, .ref l0), (1, .int l1), (2, .int l2), (3, .int l3), (4, .int l4), (5, .int l5), (6, .int l6), (7, .int l7)] []) (S : hp) (l0 : Nat) (l1 : Int32) (l2 : Int32) (l3 : Int32) (l4 : Int32) (l5 : Int32) (l6 : Int32) (l7 : Int32), wB_X12_addedUp_58 bk45 bk58 Q S l0 l1 l2 l3 l4 l5 l6 l7 → VM l b D cy 8 2 46 0 0 (pI Q) p e s m args below meth c S 0 0 58 [(0, .ref l0), (1, .int l1), (2, .int l2), (3, .int l3), (4, .int l4), (5, .int l5), (6, .int l6), (7, .int l7)] [] := by
    intro bk45 hbk45 bk58 hbk58 S l0 l1 l2 l3 l4 l5 l6 l7 h
    unfold wB_X12_addedUp_58 at h
    refine v_iload X 7 dX12_addedUp_58 rfl ?_
    refine v_iconst X (v := 3) dX12_addedUp_60 (by decide) ?_
    refine v_icmp_ge X (tgt := 103) dX12_addedUp_61 (by decide) (fun c18 => ?_) (fun c18 => ?_)
    · replace h := h.1 c18
      refine v_iload X 6 dX12_addedUp_103 rfl ?_
      refine v_i2l X dX12_addedUp_105 ?_
      refine v_lconst X (v := 0) dX12_addedUp_106 (by decide) ?_
      refine v_bipush X (v := 99) dX12_addedUp_107 (by decide) ?_
      refine v_iload X 5 dX12_addedUp_109 rfl ?_
      refine v_callS X (av := [.int l5]) (s_X12_bits l b D cy h) wd1212 wd1213 wd62 k_X12_bits dn_X12_bits rfl ⟨Nat.le_of_ble_eq_true rfl, Nat.le_of_ble_eq_true rfl⟩ (Nat.le_of_ble_eq_true rfl) ⟨Nat.le_of_ble_eq_true rfl, Nat.le_of_ble_eq_true rfl⟩ dX12_addedUp_111 rfl (kI (fun r20 S19 h => ?_))
      refine v_imul X dX12_addedUp_114 ?_
      refine v_i2l X dX12_addedUp_115 ?_
      refine v_callS X (av := [.long (l6).toInt64, .long (0 : Int64), .long (((99 : Int32) * r20)).toInt64]) (s_X12_in l b D cy h) wd1026 wd1027 wd62 k_X12_in dn_X12_in rfl ⟨Nat.le_of_ble_eq_true rfl, Nat.le_of_ble_eq_true rfl⟩ (Nat.le_of_ble_eq_true rfl) ⟨Nat.le_of_ble_eq_true rfl, Nat.le_of_ble_eq_true rfl⟩ dX12_addedUp_116 rfl (kI (fun r22 S21 h => ?_))
      refine v_if_eq X (tgt := 147) dX12_addedUp_119 (by decide) (fun c23 => ?_) (fun c23 => ?_)
      · replace h := h.1 c23
        refine v_lv (lv' := [(0, .ref l0), (1, .int l1), (2, .int l2), (3, .int l3), (4, .int l4), (5, .int l5)]) [0, 1, 2, 3, 4, 5] rfl ?_
        exact j147 bk45 hbk45 _ _ _ _ _ _ _ h
      · replace h := h.2 c23
        refine v_iload X 4 dX12_addedUp_122 rfl ?_
        refine v_ldc X wd1070 dX12_addedUp_124 ?_
        refine v_icmp_eq X (tgt := 142) dX12_addedUp_126 (by decide) (fun c25 => ?_) (fun c25 => ?_)
        · replace h := h.1 c25
          refine v_lv (lv' := [(0, .ref l0), (1, .int l1), (2, .int l2), (3, .int l3), (5, .int l5)]) [0, 1, 2, 3, 5] rfl ?_
          exact j142 bk45 hbk45 _ _ _ _ _ _ h
        · replace h := h.2 c25
          refine v_iload X 5 dX12_addedUp_129 rfl ?_
          refine v_callS X (av := [.int l5]) (s_X12_bits l b D cy h) wd1212 wd1213 wd62 k_X12_bits dn_X12_bits rfl ⟨Nat.le_of_ble_eq_true rfl, Nat.le_of_ble_eq_true rfl⟩ (Nat.le_of_ble_eq_true rfl) ⟨Nat.le_of_ble_eq_true rfl, Nat.le_of_ble_eq_true rfl⟩ dX12_addedUp_131 rfl (kI (fun r27 S26 h => ?_))
          refine v_iload X 4 dX12_addedUp_134 rfl ?_
          refine v_callS X (av := [.int l4]) (s_X12_bits l b D cy h) wd1212 wd1213 wd62 k_X12_bits dn_X12_bits rfl ⟨Nat.le_of_ble_eq_true rfl, Nat.le_of_ble_eq_true rfl⟩ (Nat.le_of_ble_eq_true rfl) ⟨Nat.le_of_ble_eq_true rfl, Nat.le_of_ble_eq_true rfl⟩ dX12_addedUp_136 rfl (kI (fun r29 S28 h => ?_))
          refine v_icmp_ge X (tgt := 147) dX12_addedUp_139 (by decide) (fun c30 => ?_) (fun c30 => ?_)
          · replace h := h.1 c30
            refine v_lv (lv' := [(0, .ref l0), (1, .int l1), (2, .int l2), (3, .int l3), (4, .int l4), (5, .int l5)]) [0, 1, 2, 3, 4, 5] rfl ?_
            exact j147 bk45 hbk45 _ _ _ _ _ _ _ h
          · replace h := h.2 c30
            refine v_lv (lv' := [(0, .ref l0), (1, .int l1), (2, .int l2), (3, .int l3), (5, .int l5)]) [0, 1, 2, 3, 5] rfl ?_
            exact j142 bk45 hbk45 _ _ _ _ _ _ h
    · replace h := h.2 c18
      refine v_iload X 6 dX12_addedUp_64 rfl ?_
      refine v_iload X 5 dX12_addedUp_66 rfl ?_
      refine v_iload X 7 dX12_addedUp_68 rfl ?_
      refine v_ishr X dX12_addedUp_70 ?_
      refine v_iconst X (v := 1) dX12_addedUp_71 (by decide) ?_
      refine v_iand X dX12_addedUp_72 ?_
      refine v_iconst X (v := 1) dX12_addedUp_73 (by decide) ?_
      refine v_icmp_ne X (tgt := 81) dX12_addedUp_74 (by decide) (fun c31 => ?_) (fun c31 => ?_)
      · replace h := h.1 c31
        refine v_aload_n X 0 dX12_addedUp_81 rfl rfl ?_
        obtain ⟨hk32, h⟩ := h
        obtain ⟨r33, hr33, h⟩ := h
        refine v_getR X (T := TX12) (N := 26) (k := 5) hk32 (by decide) rfl (by decide) inX12 wd944 rfl dX12_addedUp_82 hr33 ?_
        refine v_iconst X (v := 5) dX12_addedUp_85 (by decide) ?_
        refine v_iconst X (v := 3) dX12_addedUp_86 (by decide) ?_
        refine v_iload_n X 1 dX12_addedUp_87 rfl rfl ?_
        refine v_imul X dX12_addedUp_88 ?_
        refine v_iadd X dX12_addedUp_89 ?_
        refine v_iload X 7 dX12_addedUp_90 rfl ?_
        refine v_iadd X dX12_addedUp_92 ?_
        obtain ⟨hk34, h⟩ := h
        obtain ⟨hi35, h⟩ := h
        refine v_iald X hk34 hi35 dX12_addedUp_93 ?_
        refine v_lv (lv' := [(0, .ref l0), (1, .int l1), (2, .int l2), (3, .int l3), (4, .int l4), (5, .int l5), (7, .int l7)]) [0, 1, 2, 3, 4, 5, 7] rfl ?_
        exact j94 bk45 hbk45 bk58 hbk58 _ _ _ _ _ _ _ _ _ _ h
      · replace h := h.2 c31
        refine v_iconst X (v := 0) dX12_addedUp_77 (by decide) ?_
        refine v_goto X (tgt := 94) dX12_addedUp_78 (by decide) ?_
        refine v_lv (lv' := [(0, .ref l0), (1, .int l1), (2, .int l2), (3, .int l3), (4, .int l4), (5, .int l5), (7, .int l7)]) [0, 1, 2, 3, 4, 5, 7] rfl ?_
        exact j94 bk45 hbk45 bk58 hbk58 _ _ _ _ _ _ _ _ _ _ h
  have l58 : ∀ (bk45 : hp → Nat → Int32 → Int32 → Int32 → Int32 → Int32 → Prop) (hbk45 : ∀ (S : hp) (l0 : Nat) (l1 : Int32) (l2 : Int32) (l3 : Int32) (l4 : Int32) (l5 : Int32), bk45 S l0 l1 l2 l3 l4 l5 → VM l b D cy 8 2 46 0 0 (pI Q) p e s m args below meth c S 0 0 45 [(0, .ref l0), (1, .int l1), (2, .int l2), (3, .int l3), (4, .int l4), (5, .int l5)] []) (n : Nat) (S : hp) (l0 : Nat) (l1 : Int32) (l2 : Int32) (l3 : Int32) (l4 : Int32) (l5 : Int32) (l6 : Int32) (l7 : Int32), wl_X12_addedUp_58 bk45 Q n S l0 l1 l2 l3 l4 l5 l6 l7 → VM l b D cy 8 2 46 0 0 (pI Q) p e s m args below meth c S 0 0 58 [(0, .ref l0), (1, .int l1), (2, .int l2), (3, .int l3), (4, .int l4), (5, .int l5), (6, .int l6), (7, .int l7)] [] := by
    intro bk45 hbk45 n
    induction n with
    | zero => intro S l0 l1 l2 l3 l4 l5 l6 l7 h; exact h.elim
    | succ n ih => intro S l0 l1 l2 l3 l4 l5 l6 l7 h; exact j58 bk45 hbk45 (wl_X12_addedUp_58 bk45 Q n) ih S l0 l1 l2 l3 l4 l5 l6 l7 h
  have j45 : ∀ (bk45 : hp → Nat → Int32 → Int32 → Int32 → Int32 → Int32 → Prop) (hbk45 : ∀ (S : hp) (l0 : Nat) (l1 : Int32) (l2 : Int32) (l3 : Int32) (l4 : Int32) (l5 : Int32), bk45 S l0 l1 l2 l3 l4 l5 → VM l b D cy 8 2 46 0 0 (pI Q) p e s m args below meth c S 0 0 45 [(0, .ref l0), (1, .int l1), (2, .int l2), (3, .int l3), (4, .int l4), (5, .int l5)] []) (S : hp) (l0 : Nat) (l1 : Int32) (l2 : Int32) (l3 : Int32) (l4 : Int32) (l5 : Int32), wB_X12_addedUp_45 bk45 Q S l0 l1 l2 l3 l4 l5 → VM l b D cy 8 2 46 0 0 (pI Q) p e s m args below meth c S 0 0 45 [(0, .ref l0), (1, .int l1), (2, .int l2), (3, .int l3), (4, .int l4), (5, .int l5)] [] := by
    intro bk45 hbk45 S l0 l1 l2 l3 l4 l5 h
    unfold wB_X12_addedUp_45 at h
    refine v_iload X 5 dX12_addedUp_45 rfl ?_
    refine v_bipush X (v := 8) dX12_addedUp_47 (by decide) ?_
    refine v_icmp_ge X (tgt := 157) dX12_addedUp_49 (by decide) (fun c13 => ?_) (fun c13 => ?_)
    · replace h := h.1 c13
      refine v_iload X 4 dX12_addedUp_157 rfl ?_
      refine v_ldc X wd1070 dX12_addedUp_159 ?_
      refine v_icmp_eq X (tgt := 169) dX12_addedUp_161 (by decide) (fun c14 => ?_) (fun c14 => ?_)
      · replace h := h.1 c14
        refine v_lv (lv' := [(4, .int l4)]) [4] rfl ?_
        exact j169 _ _ h
      · replace h := h.2 c14
        refine v_iload_n X 3 dX12_addedUp_164 rfl rfl ?_
        refine v_iconst X (v := 1) dX12_addedUp_165 (by decide) ?_
        refine v_icmp_ne X (tgt := 174) dX12_addedUp_166 (by decide) (fun c15 => ?_) (fun c15 => ?_)
        · replace h := h.1 c15
          refine v_iload X 4 dX12_addedUp_174 rfl ?_
          refine v_callS X (av := [.int l4]) (s_X12_bits l b D cy h) wd1212 wd1213 wd62 k_X12_bits dn_X12_bits rfl ⟨Nat.le_of_ble_eq_true rfl, Nat.le_of_ble_eq_true rfl⟩ (Nat.le_of_ble_eq_true rfl) ⟨Nat.le_of_ble_eq_true rfl, Nat.le_of_ble_eq_true rfl⟩ dX12_addedUp_176 rfl (kI (fun r17 S16 h => ?_))
          exact v_iret X hr hlk ⟨_, rfl, h⟩ dX12_addedUp_179
        · replace h := h.2 c15
          refine v_lv (lv' := [(4, .int l4)]) [4] rfl ?_
          exact j169 _ _ h
    · replace h := h.2 c13
      refine v_iload_n X 2 dX12_addedUp_52 rfl rfl ?_
      refine v_istore X (lv' := [(6, .int l2), (0, .ref l0), (1, .int l1), (2, .int l2), (3, .int l3), (4, .int l4), (5, .int l5)]) dX12_addedUp_53 (by decide) rfl ?_
      refine v_iconst X (v := 0) dX12_addedUp_55 (by decide) ?_
      refine v_istore X (lv' := [(7, .int (0 : Int32)), (6, .int l2), (0, .ref l0), (1, .int l1), (2, .int l2), (3, .int l3), (4, .int l4), (5, .int l5)]) dX12_addedUp_56 (by decide) rfl ?_
      refine v_lv (lv' := [(0, .ref l0), (1, .int l1), (2, .int l2), (3, .int l3), (4, .int l4), (5, .int l5), (6, .int l2), (7, .int (0 : Int32))]) [2, 3, 4, 5, 6, 7, 1, 0] rfl ?_
      obtain ⟨n, h⟩ := h
      exact l58 bk45 hbk45 n _ _ _ _ _ _ _ _ _ h
  have l45 : ∀  (n : Nat) (S : hp) (l0 : Nat) (l1 : Int32) (l2 : Int32) (l3 : Int32) (l4 : Int32) (l5 : Int32), wl_X12_addedUp_45 Q n S l0 l1 l2 l3 l4 l5 → VM l b D cy 8 2 46 0 0 (pI Q) p e s m args below meth c S 0 0 45 [(0, .ref l0), (1, .int l1), (2, .int l2), (3, .int l3), (4, .int l4), (5, .int l5)] [] := by
    intro  n
    induction n with
    | zero => intro S l0 l1 l2 l3 l4 l5 h; exact h.elim
    | succ n ih => intro S l0 l1 l2 l3 l4 l5 h; exact j45 (wl_X12_addedUp_45 Q n) ih S l0 l1 l2 l3 l4 l5 h
  unfold wp_X12_addedUp at h
  show VM l b D cy 8 2 46 0 0 (pI Q) p e s m args below meth c S 0 0 0 [(0, .ref a0), (1, .int x1), (2, .int x2), (3, .int x3)] []
  refine v_aload_n X 0 dX12_addedUp_0 rfl rfl ?_
  refine v_iconst X (v := 0) dX12_addedUp_1 (by decide) ?_
  obtain ⟨hk1, h⟩ := h
  refine v_putI X (T := TX12) (N := 26) (k := 0) hk1 (by decide) rfl (by decide) inX12 wd939 tyX12 tyX12_ok nmX12 rfl rfl rfl rfl dX12_addedUp_2 ?_
  refine v_nmS (fun S2 eS2 => ?_)
  replace h := h S2 eS2
  have hk3 : hK S2 a0 = 11 := by rw [eS2]; exact hk1
  refine v_aload_n X 0 dX12_addedUp_5 rfl rfl ?_
  refine v_iload_n X 1 dX12_addedUp_6 rfl rfl ?_
  refine v_callV X (av := [.int x1]) (T := TX12) (N := 26) (s_X12_isDummy l b D cy h) hk3 (by decide) rfl wd1119 wd1121 wd32 wd62 k_X12_isDummy dn_X12_isDummy rfl ⟨Nat.le_of_ble_eq_true rfl, Nat.le_of_ble_eq_true rfl⟩ (Nat.le_of_ble_eq_true rfl) ⟨Nat.le_of_ble_eq_true rfl, Nat.le_of_ble_eq_true rfl⟩ dX12_addedUp_7 rfl (kI (fun r5 S4 h => ?_))
  refine v_if_eq X (tgt := 35) dX12_addedUp_10 (by decide) (fun c6 => ?_) (fun c6 => ?_)
  · replace h := h.1 c6
    refine v_ldc X wd1030 dX12_addedUp_35 ?_
    exact v_iret X hr hlk ⟨_, rfl, h⟩ dX12_addedUp_37
  · replace h := h.2 c6
    refine v_iload_n X 2 dX12_addedUp_13 rfl rfl ?_
    refine v_i2l X dX12_addedUp_14 ?_
    refine v_lconst X (v := 0) dX12_addedUp_15 (by decide) ?_
    refine v_ldc2 X wd1261 dX12_addedUp_16 ?_
    refine v_callS X (av := [.long (x2).toInt64, .long (0 : Int64), .long (297 : Int64)]) (s_X12_in l b D cy h) wd1026 wd1027 wd62 k_X12_in dn_X12_in rfl ⟨Nat.le_of_ble_eq_true rfl, Nat.le_of_ble_eq_true rfl⟩ (Nat.le_of_ble_eq_true rfl) ⟨Nat.le_of_ble_eq_true rfl, Nat.le_of_ble_eq_true rfl⟩ dX12_addedUp_19 rfl (kI (fun r8 S7 h => ?_))
    refine v_if_eq X (tgt := 35) dX12_addedUp_22 (by decide) (fun c9 => ?_) (fun c9 => ?_)
    · replace h := h.1 c9
      refine v_ldc X wd1030 dX12_addedUp_35 ?_
      exact v_iret X hr hlk ⟨_, rfl, h⟩ dX12_addedUp_37
    · replace h := h.2 c9
      refine v_iload_n X 3 dX12_addedUp_25 rfl rfl ?_
      refine v_i2l X dX12_addedUp_26 ?_
      refine v_lconst X (v := 0) dX12_addedUp_27 (by decide) ?_
      refine v_lconst X (v := 1) dX12_addedUp_28 (by decide) ?_
      refine v_callS X (av := [.long (x3).toInt64, .long (0 : Int64), .long (1 : Int64)]) (s_X12_in l b D cy h) wd1026 wd1027 wd62 k_X12_in dn_X12_in rfl ⟨Nat.le_of_ble_eq_true rfl, Nat.le_of_ble_eq_true rfl⟩ (Nat.le_of_ble_eq_true rfl) ⟨Nat.le_of_ble_eq_true rfl, Nat.le_of_ble_eq_true rfl⟩ dX12_addedUp_29 rfl (kI (fun r11 S10 h => ?_))
      refine v_if_ne X (tgt := 38) dX12_addedUp_32 (by decide) (fun c12 => ?_) (fun c12 => ?_)
      · replace h := h.1 c12
        refine v_ldc X wd1070 dX12_addedUp_38 ?_
        refine v_istore X (lv' := [(4, .int (-1000000 : Int32)), (0, .ref a0), (1, .int x1), (2, .int x2), (3, .int x3)]) dX12_addedUp_40 (by decide) rfl ?_
        refine v_iconst X (v := 0) dX12_addedUp_42 (by decide) ?_
        refine v_istore X (lv' := [(5, .int (0 : Int32)), (4, .int (-1000000 : Int32)), (0, .ref a0), (1, .int x1), (2, .int x2), (3, .int x3)]) dX12_addedUp_43 (by decide) rfl ?_
        refine v_lv (lv' := [(0, .ref a0), (1, .int x1), (2, .int x2), (3, .int x3), (4, .int (-1000000 : Int32)), (5, .int (0 : Int32))]) [2, 3, 4, 5, 1, 0] rfl ?_
        obtain ⟨n, h⟩ := h
        exact l45 n _ _ _ _ _ _ _ h
      · replace h := h.2 c12
        refine v_ldc X wd1030 dX12_addedUp_35 ?_
        exact v_iret X hr hlk ⟨_, rfl, h⟩ dX12_addedUp_37
def wB_X12_isCut_144 (bk32 : hp → Nat → Int32 → Int32 → Int32 → Int32 → Int32 → Prop) (bk72 : hp → Nat → Int32 → Int32 → Int32 → Int32 → Int32 → Int32 → Int32 → Int32 → Prop) (Q : Int32 → hp → Prop) (S : hp) (l0 : Nat) (l1 : Int32) (l2 : Int32) (l3 : Int32) (l4 : Int32) (l5 : Int32) (l6 : Int32) (l8 : Int32) (k0 : Int32) : Prop :=
  ¬ l3 = 0 ∧ ∀ v29 : Int32, v29 = (l6 / l3) → ∀ v30 : Int32, v30 = l8 + (1 : Int32) → bk72 S l0 l1 l2 l3 l4 l5 v29 k0 v30
def wB_X12_isCut_143 (bk32 : hp → Nat → Int32 → Int32 → Int32 → Int32 → Int32 → Prop) (bk72 : hp → Nat → Int32 → Int32 → Int32 → Int32 → Int32 → Int32 → Int32 → Int32 → Prop) (Q : Int32 → hp → Prop) (S : hp) (l0 : Nat) (l1 : Int32) (l2 : Int32) (l3 : Int32) (l4 : Int32) (l5 : Int32) (l6 : Int32) (l8 : Int32) : Prop :=
  wB_X12_isCut_144 bk32 bk72 Q S l0 l1 l2 l3 l4 l5 l6 l8 (0 : Int32)
def wB_X12_isCut_119 (bk32 : hp → Nat → Int32 → Int32 → Int32 → Int32 → Int32 → Prop) (bk72 : hp → Nat → Int32 → Int32 → Int32 → Int32 → Int32 → Int32 → Int32 → Int32 → Prop) (Q : Int32 → hp → Prop) (S : hp) (l0 : Nat) (l1 : Int32) (l2 : Int32) (l3 : Int32) (l4 : Int32) (l5 : Int32) (l6 : Int32) (l7 : Int32) (l8 : Int32) (k0 : Int32) (k1 : Int32) (k2 : Int32) (k3 : Nat) : Prop :=
  hK S k3 = 12 ∧ vp_in k2 (hN S k3) ∧ ∀ S24 : hp, S24 = setI S k3 (k2).toNatClampNeg (k1 + k0) → ((l7 = 0 → wB_X12_isCut_143 bk32 bk72 Q S24 l0 l1 l2 l3 l4 l5 l6 l8) ∧ (¬ l7 = 0 → hK S24 l0 = 11 ∧ ∃ r32 : Nat, hR S24 l0 21 = some r32 ∧ ¬ l3 = 0 ∧ hK S24 r32 = 12 ∧ vp_in (l6 - l6 / l3 * l3) (hN S24 r32) ∧ ((l2 < (hI S24 r32 ((l6 - l6 / l3 * l3)).toNatClampNeg) → wB_X12_isCut_143 bk32 bk72 Q S24 l0 l1 l2 l3 l4 l5 l6 l8) ∧ (¬ l2 < (hI S24 r32 ((l6 - l6 / l3 * l3)).toNatClampNeg) → wB_X12_isCut_144 bk32 bk72 Q S24 l0 l1 l2 l3 l4 l5 l6 l8 (1 : Int32)))))
def wB_X12_isCut_72 (bk32 : hp → Nat → Int32 → Int32 → Int32 → Int32 → Int32 → Prop) (bk72 : hp → Nat → Int32 → Int32 → Int32 → Int32 → Int32 → Int32 → Int32 → Int32 → Prop) (Q : Int32 → hp → Prop) (S : hp) (l0 : Nat) (l1 : Int32) (l2 : Int32) (l3 : Int32) (l4 : Int32) (l5 : Int32) (l6 : Int32) (l7 : Int32) (l8 : Int32) : Prop :=
  hK S l0 = 11 ∧ ∃ r9 : Nat, hR S l0 5 = some r9 ∧ hK S r9 = 12 ∧ vp_in (2 : Int32) (hN S r9) ∧ (((hI S r9 ((2 : Int32)).toNatClampNeg) ≤ l8 → ((l7 = 0 → ∀ v14 : Int32, v14 = l5 + (1 : Int32) → bk32 S l0 l1 l2 l3 l4 v14) ∧ (¬ l7 = 0 → Q (1 : Int32) S))) ∧ (¬ (hI S r9 ((2 : Int32)).toNatClampNeg) ≤ l8 → vp_in (((5 : Int32) + ((3 : Int32) * l8)) + l1) (hN S r9) ∧ ∀ v16 : Int32, v16 = (hI S r9 ((((5 : Int32) + ((3 : Int32) * l8)) + l1)).toNatClampNeg) → ∃ r17 : Nat, hR S l0 21 = some r17 ∧ ¬ l3 = 0 ∧ hK S r17 = 12 ∧ vp_in (l6 - l6 / l3 * l3) (hN S r17) ∧ ((v16 ≤ 0 → wB_X12_isCut_119 bk32 bk72 Q S l0 l1 l2 l3 l4 l5 l6 l7 l8 (0 : Int32) ((hI S r17 ((l6 - l6 / l3 * l3)).toNatClampNeg)) ((l6 - l6 / l3 * l3)) r17) ∧ (¬ v16 ≤ 0 → wB_X12_isCut_119 bk32 bk72 Q S l0 l1 l2 l3 l4 l5 l6 l7 l8 v16 ((hI S r17 ((l6 - l6 / l3 * l3)).toNatClampNeg)) ((l6 - l6 / l3 * l3)) r17))))
def wl_X12_isCut_72 (bk32 : hp → Nat → Int32 → Int32 → Int32 → Int32 → Int32 → Prop) (Q : Int32 → hp → Prop) : Nat → hp → Nat → Int32 → Int32 → Int32 → Int32 → Int32 → Int32 → Int32 → Int32 → Prop
  | 0 => fun _ _ _ _ _ _ _ _ _ _ => False
  | n + 1 => wB_X12_isCut_72 bk32 (wl_X12_isCut_72 bk32 Q n) Q
def wB_X12_isCut_46 (bk32 : hp → Nat → Int32 → Int32 → Int32 → Int32 → Int32 → Prop) (bk46 : hp → Nat → Int32 → Int32 → Int32 → Int32 → Int32 → Int32 → Int32 → Prop) (Q : Int32 → hp → Prop) (S : hp) (l0 : Nat) (l1 : Int32) (l2 : Int32) (l3 : Int32) (l4 : Int32) (l5 : Int32) (l6 : Int32) (l7 : Int32) : Prop :=
  (((4 : Int32) ≤ l7 → ∃ n : Nat, wl_X12_isCut_72 bk32 Q n S l0 l1 l2 l3 l4 l5 l6 (1 : Int32) (0 : Int32)) ∧ (¬ (4 : Int32) ≤ l7 → hK S l0 = 11 ∧ ∃ r38 : Nat, hR S l0 21 = some r38 ∧ hK S r38 = 12 ∧ vp_in l7 (hN S r38) ∧ ∀ S41 : hp, S41 = setI S r38 (l7).toNatClampNeg (0 : Int32) → ∀ v46 : Int32, v46 = l7 + (1 : Int32) → bk46 S41 l0 l1 l2 l3 l4 l5 l6 v46))
def wl_X12_isCut_46 (bk32 : hp → Nat → Int32 → Int32 → Int32 → Int32 → Int32 → Prop) (Q : Int32 → hp → Prop) : Nat → hp → Nat → Int32 → Int32 → Int32 → Int32 → Int32 → Int32 → Int32 → Prop
  | 0 => fun _ _ _ _ _ _ _ _ _ => False
  | n + 1 => wB_X12_isCut_46 bk32 (wl_X12_isCut_46 bk32 Q n) Q
def wB_X12_isCut_32 (bk32 : hp → Nat → Int32 → Int32 → Int32 → Int32 → Int32 → Prop) (Q : Int32 → hp → Prop) (S : hp) (l0 : Nat) (l1 : Int32) (l2 : Int32) (l3 : Int32) (l4 : Int32) (l5 : Int32) : Prop :=
  ((l4 ≤ l5 → Q (0 : Int32) S) ∧ (¬ l4 ≤ l5 → ∃ n : Nat, wl_X12_isCut_46 bk32 Q n S l0 l1 l2 l3 l4 l5 l5 (0 : Int32)))
def wl_X12_isCut_32 (Q : Int32 → hp → Prop) : Nat → hp → Nat → Int32 → Int32 → Int32 → Int32 → Int32 → Prop
  | 0 => fun _ _ _ _ _ _ _ => False
  | n + 1 => wB_X12_isCut_32 (wl_X12_isCut_32 Q n) Q
def wB_X12_isCut_6 (bk6 : hp → Nat → Int32 → Int32 → Int32 → Int32 → Int32 → Prop) (Q : Int32 → hp → Prop) (S : hp) (l0 : Nat) (l1 : Int32) (l2 : Int32) (l3 : Int32) (l4 : Int32) (l5 : Int32) : Prop :=
  hK S l0 = 11 ∧ ∃ r2 : Nat, hR S l0 5 = some r2 ∧ hK S r2 = 12 ∧ vp_in (2 : Int32) (hN S r2) ∧ (((hI S r2 ((2 : Int32)).toNatClampNeg) ≤ l5 → ∃ n : Nat, wl_X12_isCut_32 Q n S l0 l1 l2 l3 l4 (0 : Int32)) ∧ (¬ (hI S r2 ((2 : Int32)).toNatClampNeg) ≤ l5 → ∀ v47 : Int32, v47 = (l4 * l3) → ∀ v48 : Int32, v48 = l5 + (1 : Int32) → bk6 S l0 l1 l2 l3 v47 v48))
def wl_X12_isCut_6 (Q : Int32 → hp → Prop) : Nat → hp → Nat → Int32 → Int32 → Int32 → Int32 → Int32 → Prop
  | 0 => fun _ _ _ _ _ _ _ => False
  | n + 1 => wB_X12_isCut_6 (wl_X12_isCut_6 Q n) Q
def wp_X12_isCut (Q : Int32 → hp → Prop) (S : hp) (a0 : Nat) (x1 : Int32) (x2 : Int32) (x3 : Int32) : Prop :=
  ∃ n : Nat, wl_X12_isCut_6 Q n S a0 x1 x2 x3 (1 : Int32) (0 : Int32)
theorem k_X12_isCut : Cond.code yX12_isCut cX12_isCut 10 (some .boolean) ∈ gtb := mg 1269 (by decide +kernel) (by decide +kernel)
theorem dn_X12_isCut : yX12_isCut.cls ≠ "java/lang/invoke/MethodHandle" ∧ yX12_isCut.cls ≠ "java/lang/invoke/VarHandle" ∧ (parseMethodDescriptor yX12_isCut.desc).map (fun d => d.parameters.length) = some 3 := by decide +kernel
set_option maxRecDepth 100000 in
set_option maxHeartbeats 4000000 in
theorem s_X12_isCut (l : Launch) (b : Nat) (D : va_G) (cy : Nat → ClassId) {Q : Int32 → hp → Prop} {S : hp} {a0 : Nat} {x1 : Int32} {x2 : Int32} {x3 : Int32} (h : wp_X12_isCut Q S a0 x1 x2 x3) : MT l yX12_isCut cX12_isCut 10 (some .boolean) 0 0 0 0 b D cy S [.ref a0, .int x1, .int x2, .int x3] (pI Q) := by
  refine MT.of (by decide +kernel) (Nat.le_of_ble_eq_true rfl) ?_
  intro p e s m args below meth c X hr hlk hnm
  have j144 : ∀ (bk32 : hp → Nat → Int32 → Int32 → Int32 → Int32 → Int32 → Prop) (hbk32 : ∀ (S : hp) (l0 : Nat) (l1 : Int32) (l2 : Int32) (l3 : Int32) (l4 : Int32) (l5 : Int32), bk32 S l0 l1 l2 l3 l4 l5 → VM l b D cy 10 0 0 0 0 (pI Q) p e s m args below meth c S 0 0 32 [(0, .ref l0), (1, .int l1), (2, .int l2), (3, .int l3), (4, .int l4), (5, .int l5)] []) (bk72 : hp → Nat → Int32 → Int32 → Int32 → Int32 → Int32 → Int32 → Int32 → Int32 → Prop) (hbk72 : ∀ (S : hp) (l0 : Nat) (l1 : Int32) (l2 : Int32) (l3 : Int32) (l4 : Int32) (l5 : Int32) (l6 : Int32) (l7 : Int32) (l8 : Int32), bk72 S l0 l1 l2 l3 l4 l5 l6 l7 l8 → VM l b D cy 10 0 0 0 0 (pI Q) p e s m args below meth c S 0 0 72 [(0, .ref l0), (1, .int l1), (2, .int l2), (3, .int l3), (4, .int l4), (5, .int l5), (6, .int l6), (7, .int l7), (8, .int l8)] []) (S : hp) (l0 : Nat) (l1 : Int32) (l2 : Int32) (l3 : Int32) (l4 : Int32) (l5 : Int32) (l6 : Int32) (l8 : Int32) (k0 : Int32), wB_X12_isCut_144 bk32 bk72 Q S l0 l1 l2 l3 l4 l5 l6 l8 k0 → VM l b D cy 10 0 0 0 0 (pI Q) p e s m args below meth c S 0 0 144 [(0, .ref l0), (1, .int l1), (2, .int l2), (3, .int l3), (4, .int l4), (5, .int l5), (6, .int l6), (8, .int l8)] [.int k0] := by
    intro bk32 hbk32 bk72 hbk72 S l0 l1 l2 l3 l4 l5 l6 l8 k0 h
    unfold wB_X12_isCut_144 at h
    refine v_istore X (lv' := [(7, .int k0), (0, .ref l0), (1, .int l1), (2, .int l2), (3, .int l3), (4, .int l4), (5, .int l5), (6, .int l6), (8, .int l8)]) dX12_isCut_144 (by decide) rfl ?_
    refine v_iload X 7 dX12_isCut_146 rfl ?_
    refine v_iload_n X 4 dX12_isCut_148 rfl rfl ?_
    obtain ⟨hz28, h⟩ := h
    refine v_idiv X dX12_isCut_149 hz28 ?_
    refine v_nm (fun v29 hv29 => ?_)
    replace h := h v29 hv29
    refine v_istore X (lv' := [(6, .int v29), (7, .int k0), (0, .ref l0), (1, .int l1), (2, .int l2), (3, .int l3), (4, .int l4), (5, .int l5), (8, .int l8)]) dX12_isCut_150 (by decide) rfl ?_
    obtain ⟨v30, hv30⟩ : ∃ y : Int32, y = l8 + (1 : Int32) := ⟨_, rfl⟩
    replace h := h v30 hv30
    refine v_iinc X (j := 8) (v := v30) (lv' := [(8, .int v30), (6, .int v29), (7, .int k0), (0, .ref l0), (1, .int l1), (2, .int l2), (3, .int l3), (4, .int l4), (5, .int l5)]) dX12_isCut_152 rfl (by rw [hv30] <;> rfl) (by decide) rfl ?_
    refine v_goto X (tgt := 72) dX12_isCut_155 (by decide) ?_
    refine v_lv (lv' := [(0, .ref l0), (1, .int l1), (2, .int l2), (3, .int l3), (4, .int l4), (5, .int l5), (6, .int v29), (7, .int k0), (8, .int v30)]) [3, 4, 5, 6, 7, 8, 1, 2, 0] rfl ?_
    exact hbk72 _ _ _ _ _ _ _ _ _ _ h
  have j143 : ∀ (bk32 : hp → Nat → Int32 → Int32 → Int32 → Int32 → Int32 → Prop) (hbk32 : ∀ (S : hp) (l0 : Nat) (l1 : Int32) (l2 : Int32) (l3 : Int32) (l4 : Int32) (l5 : Int32), bk32 S l0 l1 l2 l3 l4 l5 → VM l b D cy 10 0 0 0 0 (pI Q) p e s m args below meth c S 0 0 32 [(0, .ref l0), (1, .int l1), (2, .int l2), (3, .int l3), (4, .int l4), (5, .int l5)] []) (bk72 : hp → Nat → Int32 → Int32 → Int32 → Int32 → Int32 → Int32 → Int32 → Int32 → Prop) (hbk72 : ∀ (S : hp) (l0 : Nat) (l1 : Int32) (l2 : Int32) (l3 : Int32) (l4 : Int32) (l5 : Int32) (l6 : Int32) (l7 : Int32) (l8 : Int32), bk72 S l0 l1 l2 l3 l4 l5 l6 l7 l8 → VM l b D cy 10 0 0 0 0 (pI Q) p e s m args below meth c S 0 0 72 [(0, .ref l0), (1, .int l1), (2, .int l2), (3, .int l3), (4, .int l4), (5, .int l5), (6, .int l6), (7, .int l7), (8, .int l8)] []) (S : hp) (l0 : Nat) (l1 : Int32) (l2 : Int32) (l3 : Int32) (l4 : Int32) (l5 : Int32) (l6 : Int32) (l8 : Int32), wB_X12_isCut_143 bk32 bk72 Q S l0 l1 l2 l3 l4 l5 l6 l8 → VM l b D cy 10 0 0 0 0 (pI Q) p e s m args below meth c S 0 0 143 [(0, .ref l0), (1, .int l1), (2, .int l2), (3, .int l3), (4, .int l4), (5, .int l5), (6, .int l6), (8, .int l8)] [] := by
    intro bk32 hbk32 bk72 hbk72 S l0 l1 l2 l3 l4 l5 l6 l8 h
    unfold wB_X12_isCut_143 at h
    refine v_iconst X (v := 0) dX12_isCut_143 (by decide) ?_
    exact j144 bk32 hbk32 bk72 hbk72 _ _ _ _ _ _ _ _ _ _ h
  have j119 : ∀ (bk32 : hp → Nat → Int32 → Int32 → Int32 → Int32 → Int32 → Prop) (hbk32 : ∀ (S : hp) (l0 : Nat) (l1 : Int32) (l2 : Int32) (l3 : Int32) (l4 : Int32) (l5 : Int32), bk32 S l0 l1 l2 l3 l4 l5 → VM l b D cy 10 0 0 0 0 (pI Q) p e s m args below meth c S 0 0 32 [(0, .ref l0), (1, .int l1), (2, .int l2), (3, .int l3), (4, .int l4), (5, .int l5)] []) (bk72 : hp → Nat → Int32 → Int32 → Int32 → Int32 → Int32 → Int32 → Int32 → Int32 → Prop) (hbk72 : ∀ (S : hp) (l0 : Nat) (l1 : Int32) (l2 : Int32) (l3 : Int32) (l4 : Int32) (l5 : Int32) (l6 : Int32) (l7 : Int32) (l8 : Int32), bk72 S l0 l1 l2 l3 l4 l5 l6 l7 l8 → VM l b D cy 10 0 0 0 0 (pI Q) p e s m args below meth c S 0 0 72 [(0, .ref l0), (1, .int l1), (2, .int l2), (3, .int l3), (4, .int l4), (5, .int l5), (6, .int l6), (7, .int l7), (8, .int l8)] []) (S : hp) (l0 : Nat) (l1 : Int32) (l2 : Int32) (l3 : Int32) (l4 : Int32) (l5 : Int32) (l6 : Int32) (l7 : Int32) (l8 : Int32) (k0 : Int32) (k1 : Int32) (k2 : Int32) (k3 : Nat), wB_X12_isCut_119 bk32 bk72 Q S l0 l1 l2 l3 l4 l5 l6 l7 l8 k0 k1 k2 k3 → VM l b D cy 10 0 0 0 0 (pI Q) p e s m args below meth c S 0 0 119 [(0, .ref l0), (1, .int l1), (2, .int l2), (3, .int l3), (4, .int l4), (5, .int l5), (6, .int l6), (7, .int l7), (8, .int l8)] [.int k0, .int k1, .int k2, .ref k3] := by
    intro bk32 hbk32 bk72 hbk72 S l0 l1 l2 l3 l4 l5 l6 l7 l8 k0 k1 k2 k3 h
    unfold wB_X12_isCut_119 at h
    refine v_iadd X dX12_isCut_119 ?_
    obtain ⟨hk22, h⟩ := h
    obtain ⟨hi23, h⟩ := h
    refine v_iast X hk22 hi23 dX12_isCut_120 ?_
    refine v_nmS (fun S24 eS24 => ?_)
    replace h := h S24 eS24
    have hk25 : hK S24 k3 = 12 := by rw [eS24]; exact hk22
    have hi26 : vp_in k2 (hN S24 k3) := by rw [eS24]; exact hi23
    refine v_iload X 7 dX12_isCut_121 rfl ?_
    refine v_if_eq X (tgt := 143) dX12_isCut_123 (by decide) (fun c27 => ?_) (fun c27 => ?_)
    · replace h := h.1 c27
      refine v_lv (lv' := [(0, .ref l0), (1, .int l1), (2, .int l2), (3, .int l3), (4, .int l4), (5, .int l5), (6, .int l6), (8, .int l8)]) [0, 1, 2, 3, 4, 5, 6, 8] rfl ?_
      exact j143 bk32 hbk32 bk72 hbk72 _ _ _ _ _ _ _ _ _ h
    · replace h := h.2 c27
      refine v_aload_n X 0 dX12_isCut_126 rfl rfl ?_
      obtain ⟨hk31, h⟩ := h
      obtain ⟨r32, hr32, h⟩ := h
      refine v_getR X (T := TX12) (N := 26) (k := 21) hk31 (by decide) rfl (by decide) inX12 wd960 rfl dX12_isCut_127 hr32 ?_
      refine v_iload X 6 dX12_isCut_130 rfl ?_
      refine v_iload_n X 3 dX12_isCut_132 rfl rfl ?_
      obtain ⟨hz33, h⟩ := h
      refine v_irem X dX12_isCut_133 hz33 ?_
      obtain ⟨hk34, h⟩ := h
      obtain ⟨hi35, h⟩ := h
      refine v_iald X hk34 hi35 dX12_isCut_134 ?_
      refine v_iload_n X 2 dX12_isCut_135 rfl rfl ?_
      refine v_icmp_gt X (tgt := 143) dX12_isCut_136 (by decide) (fun c36 => ?_) (fun c36 => ?_)
      · replace h := h.1 c36
        refine v_lv (lv' := [(0, .ref l0), (1, .int l1), (2, .int l2), (3, .int l3), (4, .int l4), (5, .int l5), (6, .int l6), (8, .int l8)]) [0, 1, 2, 3, 4, 5, 6, 8] rfl ?_
        exact j143 bk32 hbk32 bk72 hbk72 _ _ _ _ _ _ _ _ _ h
      · replace h := h.2 c36
        refine v_iconst X (v := 1) dX12_isCut_139 (by decide) ?_
        refine v_goto X (tgt := 144) dX12_isCut_140 (by decide) ?_
        refine v_lv (lv' := [(0, .ref l0), (1, .int l1), (2, .int l2), (3, .int l3), (4, .int l4), (5, .int l5), (6, .int l6), (8, .int l8)]) [0, 1, 2, 3, 4, 5, 6, 8] rfl ?_
        exact j144 bk32 hbk32 bk72 hbk72 _ _ _ _ _ _ _ _ _ _ h
  have j72 : ∀ (bk32 : hp → Nat → Int32 → Int32 → Int32 → Int32 → Int32 → Prop) (hbk32 : ∀ (S : hp) (l0 : Nat) (l1 : Int32) (l2 : Int32) (l3 : Int32) (l4 : Int32) (l5 : Int32), bk32 S l0 l1 l2 l3 l4 l5 → VM l b D cy 10 0 0 0 0 (pI Q) p e s m args below meth c S 0 0 32 [(0, .ref l0), (1, .int l1), (2, .int l2), (3, .int l3), (4, .int l4), (5, .int l5)] []) (bk72 : hp → Nat → Int32 → Int32 → Int32 → Int32 → Int32 → Int32 → Int32 → Int32 → Prop) (hbk72 : ∀ (S : hp) (l0 : Nat) (l1 : Int32) (l2 : Int32) (l3 : Int32) (l4 : Int32) (l5 : Int32) (l6 : Int32) (l7 : Int32) (l8 : Int32), bk72 S l0 l1 l2 l3 l4 l5 l6 l7 l8 → VM l b D cy 10 0 0 0 0 (pI Q) p e s m args below meth c S 0 0 72 [(0, .ref l0), (1, .int l1), (2, .int l2), (3, .int l3), (4, .int l4), (5, .int l5), (6, .int l6), (7, .int l7), (8, .int l8)] []) (S : hp) (l0 : Nat) (l1 : Int32) (l2 : Int32) (l3 : Int32) (l4 : Int32) (l5 : Int32) (l6 : Int32) (l7 : Int32) (l8 : Int32), wB_X12_isCut_72 bk32 bk72 Q S l0 l1 l2 l3 l4 l5 l6 l7 l8 → VM l b D cy 10 0 0 0 0 (pI Q) p e s m args below meth c S 0 0 72 [(0, .ref l0), (1, .int l1), (2, .int l2), (3, .int l3), (4, .int l4), (5, .int l5), (6, .int l6), (7, .int l7), (8, .int l8)] [] := by
    intro bk32 hbk32 bk72 hbk72 S l0 l1 l2 l3 l4 l5 l6 l7 l8 h
    unfold wB_X12_isCut_72 at h
    refine v_iload X 8 dX12_isCut_72 rfl ?_
    refine v_aload_n X 0 dX12_isCut_74 rfl rfl ?_
    obtain ⟨hk8, h⟩ := h
    obtain ⟨r9, hr9, h⟩ := h
    refine v_getR X (T := TX12) (N := 26) (k := 5) hk8 (by decide) rfl (by decide) inX12 wd944 rfl dX12_isCut_75 hr9 ?_
    refine v_iconst X (v := 2) dX12_isCut_78 (by decide) ?_
    obtain ⟨hk10, h⟩ := h
    obtain ⟨hi11, h⟩ := h
    refine v_iald X hk10 hi11 dX12_isCut_79 ?_
    refine v_icmp_ge X (tgt := 158) dX12_isCut_80 (by decide) (fun c12 => ?_) (fun c12 => ?_)
    · replace h := h.1 c12
      refine v_iload X 7 dX12_isCut_158 rfl ?_
      refine v_if_eq X (tgt := 165) dX12_isCut_160 (by decide) (fun c13 => ?_) (fun c13 => ?_)
      · replace h := h.1 c13
        obtain ⟨v14, hv14⟩ : ∃ y : Int32, y = l5 + (1 : Int32) := ⟨_, rfl⟩
        replace h := h v14 hv14
        refine v_iinc X (j := 5) (v := v14) (lv' := [(5, .int v14), (0, .ref l0), (1, .int l1), (2, .int l2), (3, .int l3), (4, .int l4), (6, .int l6), (7, .int l7), (8, .int l8)]) dX12_isCut_165 rfl (by rw [hv14] <;> rfl) (by decide) rfl ?_
        refine v_goto X (tgt := 32) dX12_isCut_168 (by decide) ?_
        refine v_lv (lv' := [(0, .ref l0), (1, .int l1), (2, .int l2), (3, .int l3), (4, .int l4), (5, .int v14)]) [1, 2, 3, 4, 5, 0] rfl ?_
        exact hbk32 _ _ _ _ _ _ _ h
      · replace h := h.2 c13
        refine v_iconst X (v := 1) dX12_isCut_163 (by decide) ?_
        exact v_zret X hr (by decide) hlk ⟨_, rfl, h⟩ dX12_isCut_164
    · replace h := h.2 c12
      refine v_aload_n X 0 dX12_isCut_83 rfl rfl ?_
      refine v_getR X (T := TX12) (N := 26) (k := 5) hk8 (by decide) rfl (by decide) inX12 wd944 rfl dX12_isCut_84 hr9 ?_
      refine v_iconst X (v := 5) dX12_isCut_87 (by decide) ?_
      refine v_iconst X (v := 3) dX12_isCut_88 (by decide) ?_
      refine v_iload X 8 dX12_isCut_89 rfl ?_
      refine v_imul X dX12_isCut_91 ?_
      refine v_iadd X dX12_isCut_92 ?_
      refine v_iload_n X 1 dX12_isCut_93 rfl rfl ?_
      refine v_iadd X dX12_isCut_94 ?_
      obtain ⟨hi15, h⟩ := h
      refine v_iald X hk10 hi15 dX12_isCut_95 ?_
      refine v_nm (fun v16 hv16 => ?_)
      replace h := h v16 hv16
      refine v_istore X (lv' := [(9, .int v16), (0, .ref l0), (1, .int l1), (2, .int l2), (3, .int l3), (4, .int l4), (5, .int l5), (6, .int l6), (7, .int l7), (8, .int l8)]) dX12_isCut_96 (by decide) rfl ?_
      refine v_aload_n X 1 dX12_isCut_98 rfl rfl ?_
      obtain ⟨r17, hr17, h⟩ := h
      refine v_getR X (T := TX12) (N := 26) (k := 21) hk8 (by decide) rfl (by decide) inX12 wd960 rfl dX12_isCut_99 hr17 ?_
      refine v_iload X 7 dX12_isCut_102 rfl ?_
      refine v_iload_n X 4 dX12_isCut_104 rfl rfl ?_
      obtain ⟨hz18, h⟩ := h
      refine v_irem X dX12_isCut_105 hz18 ?_
      refine v_dup2 X dX12_isCut_106 rfl rfl ?_
      obtain ⟨hk19, h⟩ := h
      obtain ⟨hi20, h⟩ := h
      refine v_iald X hk19 hi20 dX12_isCut_107 ?_
      refine v_iload X 0 dX12_isCut_108 rfl ?_
      refine v_if_le X (tgt := 118) dX12_isCut_110 (by decide) (fun c21 => ?_) (fun c21 => ?_)
      · replace h := h.1 c21
        refine v_iconst X (v := 0) dX12_isCut_118 (by decide) ?_
        refine v_lv (lv' := [(0, .ref l0), (1, .int l1), (2, .int l2), (3, .int l3), (4, .int l4), (5, .int l5), (6, .int l6), (7, .int l7), (8, .int l8)]) [1, 2, 3, 4, 5, 6, 7, 8, 9] rfl ?_
        exact j119 bk32 hbk32 bk72 hbk72 _ _ _ _ _ _ _ _ _ _ _ _ _ _ h
      · replace h := h.2 c21
        refine v_iload X 0 dX12_isCut_113 rfl ?_
        refine v_goto X (tgt := 119) dX12_isCut_115 (by decide) ?_
        refine v_lv (lv' := [(0, .ref l0), (1, .int l1), (2, .int l2), (3, .int l3), (4, .int l4), (5, .int l5), (6, .int l6), (7, .int l7), (8, .int l8)]) [1, 2, 3, 4, 5, 6, 7, 8, 9] rfl ?_
        exact j119 bk32 hbk32 bk72 hbk72 _ _ _ _ _ _ _ _ _ _ _ _ _ _ h
  have l72 : ∀ (bk32 : hp → Nat → Int32 → Int32 → Int32 → Int32 → Int32 → Prop) (hbk32 : ∀ (S : hp) (l0 : Nat) (l1 : Int32) (l2 : Int32) (l3 : Int32) (l4 : Int32) (l5 : Int32), bk32 S l0 l1 l2 l3 l4 l5 → VM l b D cy 10 0 0 0 0 (pI Q) p e s m args below meth c S 0 0 32 [(0, .ref l0), (1, .int l1), (2, .int l2), (3, .int l3), (4, .int l4), (5, .int l5)] []) (n : Nat) (S : hp) (l0 : Nat) (l1 : Int32) (l2 : Int32) (l3 : Int32) (l4 : Int32) (l5 : Int32) (l6 : Int32) (l7 : Int32) (l8 : Int32), wl_X12_isCut_72 bk32 Q n S l0 l1 l2 l3 l4 l5 l6 l7 l8 → VM l b D cy 10 0 0 0 0 (pI Q) p e s m args below meth c S 0 0 72 [(0, .ref l0), (1, .int l1), (2, .int l2), (3, .int l3), (4, .int l4), (5, .int l5), (6, .int l6), (7, .int l7), (8, .int l8)] [] := by
    intro bk32 hbk32 n
    induction n with
    | zero => intro S l0 l1 l2 l3 l4 l5 l6 l7 l8 h; exact h.elim
    | succ n ih => intro S l0 l1 l2 l3 l4 l5 l6 l7 l8 h; exact j72 bk32 hbk32 (wl_X12_isCut_72 bk32 Q n) ih S l0 l1 l2 l3 l4 l5 l6 l7 l8 h
  have j46 : ∀ (bk32 : hp → Nat → Int32 → Int32 → Int32 → Int32 → Int32 → Prop) (hbk32 : ∀ (S : hp) (l0 : Nat) (l1 : Int32) (l2 : Int32) (l3 : Int32) (l4 : Int32) (l5 : Int32), bk32 S l0 l1 l2 l3 l4 l5 → VM l b D cy 10 0 0 0 0 (pI Q) p e s m args below meth c S 0 0 32 [(0, .ref l0), (1, .int l1), (2, .int l2), (3, .int l3), (4, .int l4), (5, .int l5)] []) (bk46 : hp → Nat → Int32 → Int32 → Int32 → Int32 → Int32 → Int32 → Int32 → Prop) (hbk46 : ∀ (S : hp) (l0 : Nat) (l1 : Int32) (l2 : Int32) (l3 : Int32) (l4 : Int32) (l5 : Int32) (l6 : Int32) (l7 : Int32), bk46 S l0 l1 l2 l3 l4 l5 l6 l7 → VM l b D cy 10 0 0 0 0 (pI Q) p e s m args below meth c S 0 0 46 [(0, .ref l0), (1, .int l1), (2, .int l2), (3, .int l3), (4, .int l4), (5, .int l5), (6, .int l6), (7, .int l7)] []) (S : hp) (l0 : Nat) (l1 : Int32) (l2 : Int32) (l3 : Int32) (l4 : Int32) (l5 : Int32) (l6 : Int32) (l7 : Int32), wB_X12_isCut_46 bk32 bk46 Q S l0 l1 l2 l3 l4 l5 l6 l7 → VM l b D cy 10 0 0 0 0 (pI Q) p e s m args below meth c S 0 0 46 [(0, .ref l0), (1, .int l1), (2, .int l2), (3, .int l3), (4, .int l4), (5, .int l5), (6, .int l6), (7, .int l7)] [] := by
    intro bk32 hbk32 bk46 hbk46 S l0 l1 l2 l3 l4 l5 l6 l7 h
    unfold wB_X12_isCut_46 at h
    refine v_iload X 7 dX12_isCut_46 rfl ?_
    refine v_iconst X (v := 4) dX12_isCut_48 (by decide) ?_
    refine v_icmp_ge X (tgt := 66) dX12_isCut_49 (by decide) (fun c7 => ?_) (fun c7 => ?_)
    · replace h := h.1 c7
      refine v_iconst X (v := 1) dX12_isCut_66 (by decide) ?_
      refine v_istore X (lv' := [(7, .int (1 : Int32)), (0, .ref l0), (1, .int l1), (2, .int l2), (3, .int l3), (4, .int l4), (5, .int l5), (6, .int l6)]) dX12_isCut_67 (by decide) rfl ?_
      refine v_iconst X (v := 0) dX12_isCut_69 (by decide) ?_
      refine v_istore X (lv' := [(8, .int (0 : Int32)), (7, .int (1 : Int32)), (0, .ref l0), (1, .int l1), (2, .int l2), (3, .int l3), (4, .int l4), (5, .int l5), (6, .int l6)]) dX12_isCut_70 (by decide) rfl ?_
      refine v_lv (lv' := [(0, .ref l0), (1, .int l1), (2, .int l2), (3, .int l3), (4, .int l4), (5, .int l5), (6, .int l6), (7, .int (1 : Int32)), (8, .int (0 : Int32))]) [2, 3, 4, 5, 6, 7, 8, 1, 0] rfl ?_
      obtain ⟨n, h⟩ := h
      exact l72 bk32 hbk32 n _ _ _ _ _ _ _ _ _ _ h
    · replace h := h.2 c7
      refine v_aload_n X 0 dX12_isCut_52 rfl rfl ?_
      obtain ⟨hk37, h⟩ := h
      obtain ⟨r38, hr38, h⟩ := h
      refine v_getR X (T := TX12) (N := 26) (k := 21) hk37 (by decide) rfl (by decide) inX12 wd960 rfl dX12_isCut_53 hr38 ?_
      refine v_iload X 7 dX12_isCut_56 rfl ?_
      refine v_iconst X (v := 0) dX12_isCut_58 (by decide) ?_
      obtain ⟨hk39, h⟩ := h
      obtain ⟨hi40, h⟩ := h
      refine v_iast X hk39 hi40 dX12_isCut_59 ?_
      refine v_nmS (fun S41 eS41 => ?_)
      replace h := h S41 eS41
      have hk42 : hK S41 l0 = 11 := by rw [eS41]; exact hk37
      have hk43 : hK S41 r38 = 12 := by rw [eS41]; exact hk39
      have hi44 : vp_in l7 (hN S41 r38) := by rw [eS41]; exact hi40
      have hr45 : hR S41 l0 21 = some r38 := by rw [eS41]; exact hr38
      obtain ⟨v46, hv46⟩ : ∃ y : Int32, y = l7 + (1 : Int32) := ⟨_, rfl⟩
      replace h := h v46 hv46
      refine v_iinc X (j := 7) (v := v46) (lv' := [(7, .int v46), (0, .ref l0), (1, .int l1), (2, .int l2), (3, .int l3), (4, .int l4), (5, .int l5), (6, .int l6)]) dX12_isCut_60 rfl (by rw [hv46] <;> rfl) (by decide) rfl ?_
      refine v_goto X (tgt := 46) dX12_isCut_63 (by decide) ?_
      refine v_lv (lv' := [(0, .ref l0), (1, .int l1), (2, .int l2), (3, .int l3), (4, .int l4), (5, .int l5), (6, .int l6), (7, .int v46)]) [1, 2, 3, 4, 5, 6, 7, 0] rfl ?_
      exact hbk46 _ _ _ _ _ _ _ _ _ h
  have l46 : ∀ (bk32 : hp → Nat → Int32 → Int32 → Int32 → Int32 → Int32 → Prop) (hbk32 : ∀ (S : hp) (l0 : Nat) (l1 : Int32) (l2 : Int32) (l3 : Int32) (l4 : Int32) (l5 : Int32), bk32 S l0 l1 l2 l3 l4 l5 → VM l b D cy 10 0 0 0 0 (pI Q) p e s m args below meth c S 0 0 32 [(0, .ref l0), (1, .int l1), (2, .int l2), (3, .int l3), (4, .int l4), (5, .int l5)] []) (n : Nat) (S : hp) (l0 : Nat) (l1 : Int32) (l2 : Int32) (l3 : Int32) (l4 : Int32) (l5 : Int32) (l6 : Int32) (l7 : Int32), wl_X12_isCut_46 bk32 Q n S l0 l1 l2 l3 l4 l5 l6 l7 → VM l b D cy 10 0 0 0 0 (pI Q) p e s m args below meth c S 0 0 46 [(0, .ref l0), (1, .int l1), (2, .int l2), (3, .int l3), (4, .int l4), (5, .int l5), (6, .int l6), (7, .int l7)] [] := by
    intro bk32 hbk32 n
    induction n with
    | zero => intro S l0 l1 l2 l3 l4 l5 l6 l7 h; exact h.elim
    | succ n ih => intro S l0 l1 l2 l3 l4 l5 l6 l7 h; exact j46 bk32 hbk32 (wl_X12_isCut_46 bk32 Q n) ih S l0 l1 l2 l3 l4 l5 l6 l7 h
  have j32 : ∀ (bk32 : hp → Nat → Int32 → Int32 → Int32 → Int32 → Int32 → Prop) (hbk32 : ∀ (S : hp) (l0 : Nat) (l1 : Int32) (l2 : Int32) (l3 : Int32) (l4 : Int32) (l5 : Int32), bk32 S l0 l1 l2 l3 l4 l5 → VM l b D cy 10 0 0 0 0 (pI Q) p e s m args below meth c S 0 0 32 [(0, .ref l0), (1, .int l1), (2, .int l2), (3, .int l3), (4, .int l4), (5, .int l5)] []) (S : hp) (l0 : Nat) (l1 : Int32) (l2 : Int32) (l3 : Int32) (l4 : Int32) (l5 : Int32), wB_X12_isCut_32 bk32 Q S l0 l1 l2 l3 l4 l5 → VM l b D cy 10 0 0 0 0 (pI Q) p e s m args below meth c S 0 0 32 [(0, .ref l0), (1, .int l1), (2, .int l2), (3, .int l3), (4, .int l4), (5, .int l5)] [] := by
    intro bk32 hbk32 S l0 l1 l2 l3 l4 l5 h
    unfold wB_X12_isCut_32 at h
    refine v_iload X 5 dX12_isCut_32 rfl ?_
    refine v_iload X 4 dX12_isCut_34 rfl ?_
    refine v_icmp_ge X (tgt := 171) dX12_isCut_36 (by decide) (fun c6 => ?_) (fun c6 => ?_)
    · replace h := h.1 c6
      refine v_iconst X (v := 0) dX12_isCut_171 (by decide) ?_
      exact v_zret X hr (by decide) hlk ⟨_, rfl, h⟩ dX12_isCut_172
    · replace h := h.2 c6
      refine v_iload X 5 dX12_isCut_39 rfl ?_
      refine v_istore X (lv' := [(6, .int l5), (0, .ref l0), (1, .int l1), (2, .int l2), (3, .int l3), (4, .int l4), (5, .int l5)]) dX12_isCut_41 (by decide) rfl ?_
      refine v_iconst X (v := 0) dX12_isCut_43 (by decide) ?_
      refine v_istore X (lv' := [(7, .int (0 : Int32)), (6, .int l5), (0, .ref l0), (1, .int l1), (2, .int l2), (3, .int l3), (4, .int l4), (5, .int l5)]) dX12_isCut_44 (by decide) rfl ?_
      refine v_lv (lv' := [(0, .ref l0), (1, .int l1), (2, .int l2), (3, .int l3), (4, .int l4), (5, .int l5), (6, .int l5), (7, .int (0 : Int32))]) [2, 3, 4, 5, 6, 7, 1, 0] rfl ?_
      obtain ⟨n, h⟩ := h
      exact l46 bk32 hbk32 n _ _ _ _ _ _ _ _ _ h
  have l32 : ∀  (n : Nat) (S : hp) (l0 : Nat) (l1 : Int32) (l2 : Int32) (l3 : Int32) (l4 : Int32) (l5 : Int32), wl_X12_isCut_32 Q n S l0 l1 l2 l3 l4 l5 → VM l b D cy 10 0 0 0 0 (pI Q) p e s m args below meth c S 0 0 32 [(0, .ref l0), (1, .int l1), (2, .int l2), (3, .int l3), (4, .int l4), (5, .int l5)] [] := by
    intro  n
    induction n with
    | zero => intro S l0 l1 l2 l3 l4 l5 h; exact h.elim
    | succ n ih => intro S l0 l1 l2 l3 l4 l5 h; exact j32 (wl_X12_isCut_32 Q n) ih S l0 l1 l2 l3 l4 l5 h
  have j6 : ∀ (bk6 : hp → Nat → Int32 → Int32 → Int32 → Int32 → Int32 → Prop) (hbk6 : ∀ (S : hp) (l0 : Nat) (l1 : Int32) (l2 : Int32) (l3 : Int32) (l4 : Int32) (l5 : Int32), bk6 S l0 l1 l2 l3 l4 l5 → VM l b D cy 10 0 0 0 0 (pI Q) p e s m args below meth c S 0 0 6 [(0, .ref l0), (1, .int l1), (2, .int l2), (3, .int l3), (4, .int l4), (5, .int l5)] []) (S : hp) (l0 : Nat) (l1 : Int32) (l2 : Int32) (l3 : Int32) (l4 : Int32) (l5 : Int32), wB_X12_isCut_6 bk6 Q S l0 l1 l2 l3 l4 l5 → VM l b D cy 10 0 0 0 0 (pI Q) p e s m args below meth c S 0 0 6 [(0, .ref l0), (1, .int l1), (2, .int l2), (3, .int l3), (4, .int l4), (5, .int l5)] [] := by
    intro bk6 hbk6 S l0 l1 l2 l3 l4 l5 h
    unfold wB_X12_isCut_6 at h
    refine v_iload X 5 dX12_isCut_6 rfl ?_
    refine v_aload_n X 0 dX12_isCut_8 rfl rfl ?_
    obtain ⟨hk1, h⟩ := h
    obtain ⟨r2, hr2, h⟩ := h
    refine v_getR X (T := TX12) (N := 26) (k := 5) hk1 (by decide) rfl (by decide) inX12 wd944 rfl dX12_isCut_9 hr2 ?_
    refine v_iconst X (v := 2) dX12_isCut_12 (by decide) ?_
    obtain ⟨hk3, h⟩ := h
    obtain ⟨hi4, h⟩ := h
    refine v_iald X hk3 hi4 dX12_isCut_13 ?_
    refine v_icmp_ge X (tgt := 29) dX12_isCut_14 (by decide) (fun c5 => ?_) (fun c5 => ?_)
    · replace h := h.1 c5
      refine v_iconst X (v := 0) dX12_isCut_29 (by decide) ?_
      refine v_istore X (lv' := [(5, .int (0 : Int32)), (0, .ref l0), (1, .int l1), (2, .int l2), (3, .int l3), (4, .int l4)]) dX12_isCut_30 (by decide) rfl ?_
      refine v_lv (lv' := [(0, .ref l0), (1, .int l1), (2, .int l2), (3, .int l3), (4, .int l4), (5, .int (0 : Int32))]) [1, 2, 3, 4, 5, 0] rfl ?_
      obtain ⟨n, h⟩ := h
      exact l32 n _ _ _ _ _ _ _ h
    · replace h := h.2 c5
      refine v_iload X 4 dX12_isCut_17 rfl ?_
      refine v_iload_n X 3 dX12_isCut_19 rfl rfl ?_
      refine v_imul X dX12_isCut_20 ?_
      refine v_nm (fun v47 hv47 => ?_)
      replace h := h v47 hv47
      refine v_istore X (lv' := [(4, .int v47), (0, .ref l0), (1, .int l1), (2, .int l2), (3, .int l3), (5, .int l5)]) dX12_isCut_21 (by decide) rfl ?_
      obtain ⟨v48, hv48⟩ : ∃ y : Int32, y = l5 + (1 : Int32) := ⟨_, rfl⟩
      replace h := h v48 hv48
      refine v_iinc X (j := 5) (v := v48) (lv' := [(5, .int v48), (4, .int v47), (0, .ref l0), (1, .int l1), (2, .int l2), (3, .int l3)]) dX12_isCut_23 rfl (by rw [hv48] <;> rfl) (by decide) rfl ?_
      refine v_goto X (tgt := 6) dX12_isCut_26 (by decide) ?_
      refine v_lv (lv' := [(0, .ref l0), (1, .int l1), (2, .int l2), (3, .int l3), (4, .int v47), (5, .int v48)]) [2, 3, 4, 5, 1, 0] rfl ?_
      exact hbk6 _ _ _ _ _ _ _ h
  have l6 : ∀  (n : Nat) (S : hp) (l0 : Nat) (l1 : Int32) (l2 : Int32) (l3 : Int32) (l4 : Int32) (l5 : Int32), wl_X12_isCut_6 Q n S l0 l1 l2 l3 l4 l5 → VM l b D cy 10 0 0 0 0 (pI Q) p e s m args below meth c S 0 0 6 [(0, .ref l0), (1, .int l1), (2, .int l2), (3, .int l3), (4, .int l4), (5, .int l5)] [] := by
    intro  n
    induction n with
    | zero => intro S l0 l1 l2 l3 l4 l5 h; exact h.elim
    | succ n ih => intro S l0 l1 l2 l3 l4 l5 h; exact j6 (wl_X12_isCut_6 Q n) ih S l0 l1 l2 l3 l4 l5 h
  unfold wp_X12_isCut at h
  show VM l b D cy 10 0 0 0 0 (pI Q) p e s m args below meth c S 0 0 0 [(0, .ref a0), (1, .int x1), (2, .int x2), (3, .int x3)] []
  refine v_iconst X (v := 1) dX12_isCut_0 (by decide) ?_
  refine v_istore X (lv' := [(4, .int (1 : Int32)), (0, .ref a0), (1, .int x1), (2, .int x2), (3, .int x3)]) dX12_isCut_1 (by decide) rfl ?_
  refine v_iconst X (v := 0) dX12_isCut_3 (by decide) ?_
  refine v_istore X (lv' := [(5, .int (0 : Int32)), (4, .int (1 : Int32)), (0, .ref a0), (1, .int x1), (2, .int x2), (3, .int x3)]) dX12_isCut_4 (by decide) rfl ?_
  refine v_lv (lv' := [(0, .ref a0), (1, .int x1), (2, .int x2), (3, .int x3), (4, .int (1 : Int32)), (5, .int (0 : Int32))]) [2, 3, 4, 5, 1, 0] rfl ?_
  obtain ⟨n, h⟩ := h
  exact l6 n _ _ _ _ _ _ _ h
def wB_X12_felt_144 (Q : Int32 → hp → Prop) (S : hp) (l2 : Int32) (l3 : Int32) (l4 : Int32) (l5 : Int32) : Prop :=
  ((¬ l3 = 0 → Q ((l5 * l2) - l4) S) ∧ (l3 = 0 → Q l5 S))
def wB_X12_felt_122 (bk122 : hp → Nat → Int32 → Int32 → Int32 → Int32 → Int32 → Prop) (Q : Int32 → hp → Prop) (S : hp) (l0 : Nat) (l1 : Int32) (l2 : Int32) (l3 : Int32) (l4 : Int32) (l5 : Int32) : Prop :=
  ((l5 ≤ 0 → wB_X12_felt_144 Q S l2 l3 l4 l5) ∧ (¬ l5 ≤ 0 → hK S l0 = 11 ∧ wp_X12_isCut (fun r26 S24 => ((¬ r26 = 0 → wB_X12_felt_144 Q S24 l2 l3 l4 l5) ∧ (r26 = 0 → ∀ v28 : Int32, v28 = l5 + (1 : Int32) → bk122 S24 l0 l1 l2 l3 l4 v28))) S l0 l1 l2 l5))
def wl_X12_felt_122 (Q : Int32 → hp → Prop) : Nat → hp → Nat → Int32 → Int32 → Int32 → Int32 → Int32 → Prop
  | 0 => fun _ _ _ _ _ _ _ => False
  | n + 1 => wB_X12_felt_122 (wl_X12_felt_122 Q n) Q
def wB_X12_felt_120 (Q : Int32 → hp → Prop) (S : hp) (l0 : Nat) (l1 : Int32) (l2 : Int32) (l3 : Int32) (l4 : Int32) (k0 : Int32) : Prop :=
  ∃ n : Nat, wl_X12_felt_122 Q n S l0 l1 l2 l3 l4 k0
def wB_X12_felt_101 (bk53 : hp → Nat → Int32 → Int32 → Int32 → Int32 → Int32 → Prop) (Q : Int32 → hp → Prop) (S : hp) (l0 : Nat) (l1 : Int32) (l2 : Int32) (l3 : Int32) (l5 : Int32) (k0 : Int32) (k1 : Int32) : Prop :=
  ∀ v33 : Int32, v33 = (k1 + k0) → ∀ v34 : Int32, v34 = l5 + (1 : Int32) → bk53 S l0 l1 l2 l3 v33 v34
def wB_X12_felt_53 (bk53 : hp → Nat → Int32 → Int32 → Int32 → Int32 → Int32 → Prop) (Q : Int32 → hp → Prop) (S : hp) (l0 : Nat) (l1 : Int32) (l2 : Int32) (l3 : Int32) (l4 : Int32) (l5 : Int32) : Prop :=
  hK S l0 = 11 ∧ ∃ r17 : Nat, hR S l0 5 = some r17 ∧ hK S r17 = 12 ∧ vp_in (2 : Int32) (hN S r17) ∧ (((hI S r17 ((2 : Int32)).toNatClampNeg) ≤ l5 → ((l4 ≤ 0 → wB_X12_felt_120 Q S l0 l1 l2 l3 l4 (0 : Int32)) ∧ (¬ l4 ≤ 0 → wB_X12_felt_120 Q S l0 l1 l2 l3 l4 (1 : Int32)))) ∧ (¬ (hI S r17 ((2 : Int32)).toNatClampNeg) ≤ l5 → vp_in (((5 : Int32) + ((3 : Int32) * l5)) + l1) (hN S r17) ∧ ∀ v30 : Int32, v30 = (hI S r17 ((((5 : Int32) + ((3 : Int32) * l5)) + l1)).toNatClampNeg) → ((v30 ≤ l2 → ((v30 ≤ 0 → wB_X12_felt_101 bk53 Q S l0 l1 l2 l3 l5 (0 : Int32) l4) ∧ (¬ v30 ≤ 0 → wB_X12_felt_101 bk53 Q S l0 l1 l2 l3 l5 v30 l4))) ∧ (¬ v30 ≤ l2 → Q (-1000000 : Int32) S))))
def wl_X12_felt_53 (Q : Int32 → hp → Prop) : Nat → hp → Nat → Int32 → Int32 → Int32 → Int32 → Int32 → Prop
  | 0 => fun _ _ _ _ _ _ _ => False
  | n + 1 => wB_X12_felt_53 (wl_X12_felt_53 Q n) Q
def wp_X12_felt (Q : Int32 → hp → Prop) (S : hp) (a0 : Nat) (x1 : Int32) (x2 : Int32) (x3 : Int32) : Prop :=
  hK S a0 = 11 ∧ ∀ S2 : hp, S2 = setI S a0 0 (0 : Int32) → wp_X12_isThere (fun r5 S4 => ((¬ r5 = 0 → wp_X12_isPlace (fun r8 S7 => ((r8 = 0 → Q (-1000001 : Int32) S7) ∧ (¬ r8 = 0 → wp_X12_in (fun r11 S10 => ((r11 = 0 → Q (-1000001 : Int32) S10) ∧ (¬ r11 = 0 → wp_X12_in (fun r14 S13 => ((¬ r14 = 0 → ∃ n : Nat, wl_X12_felt_53 Q n S13 a0 x1 x2 x3 (0 : Int32) (0 : Int32)) ∧ (r14 = 0 → Q (-1000001 : Int32) S13))) S10 ((x3).toInt64) ((0 : Int64)) ((1 : Int64))))) S7 ((x2).toInt64) ((1 : Int64)) ((200 : Int64))))) S4 x1) ∧ (r5 = 0 → Q (-1000002 : Int32) S4))) S2 a0
theorem k_X12_felt : Cond.code yX12_felt cX12_felt 7 (some .int) ∈ gtb := mg 1265 (by decide +kernel) (by decide +kernel)
theorem dn_X12_felt : yX12_felt.cls ≠ "java/lang/invoke/MethodHandle" ∧ yX12_felt.cls ≠ "java/lang/invoke/VarHandle" ∧ (parseMethodDescriptor yX12_felt.desc).map (fun d => d.parameters.length) = some 3 := by decide +kernel
set_option maxRecDepth 100000 in
set_option maxHeartbeats 4000000 in
theorem s_X12_felt (l : Launch) (b : Nat) (D : va_G) (cy : Nat → ClassId) {Q : Int32 → hp → Prop} {S : hp} {a0 : Nat} {x1 : Int32} {x2 : Int32} {x3 : Int32} (h : wp_X12_felt Q S a0 x1 x2 x3) : MT l yX12_felt cX12_felt 7 (some .int) 2 45 0 0 b D cy S [.ref a0, .int x1, .int x2, .int x3] (pI Q) := by
  refine MT.of (by decide +kernel) (Nat.le_of_ble_eq_true rfl) ?_
  intro p e s m args below meth c X hr hlk hnm
  have j144 : ∀  (S : hp) (l2 : Int32) (l3 : Int32) (l4 : Int32) (l5 : Int32), wB_X12_felt_144 Q S l2 l3 l4 l5 → VM l b D cy 7 2 45 0 0 (pI Q) p e s m args below meth c S 0 0 144 [(2, .int l2), (3, .int l3), (4, .int l4), (5, .int l5)] [] := by
    intro  S l2 l3 l4 l5 h
    unfold wB_X12_felt_144 at h
    refine v_iload_n X 1 dX12_felt_144 rfl rfl ?_
    refine v_if_ne X (tgt := 153) dX12_felt_145 (by decide) (fun c23 => ?_) (fun c23 => ?_)
    · replace h := h.1 c23
      refine v_iload X 3 dX12_felt_153 rfl ?_
      refine v_iload_n X 0 dX12_felt_155 rfl rfl ?_
      refine v_imul X dX12_felt_156 ?_
      refine v_iload X 2 dX12_felt_157 rfl ?_
      refine v_isub X dX12_felt_159 ?_
      exact v_iret X hr hlk ⟨_, rfl, h⟩ dX12_felt_160
    · replace h := h.2 c23
      refine v_iload X 3 dX12_felt_148 rfl ?_
      refine v_goto X (tgt := 160) dX12_felt_150 (by decide) ?_
      exact v_iret X hr hlk ⟨_, rfl, h⟩ dX12_felt_160
  have j122 : ∀ (bk122 : hp → Nat → Int32 → Int32 → Int32 → Int32 → Int32 → Prop) (hbk122 : ∀ (S : hp) (l0 : Nat) (l1 : Int32) (l2 : Int32) (l3 : Int32) (l4 : Int32) (l5 : Int32), bk122 S l0 l1 l2 l3 l4 l5 → VM l b D cy 7 2 45 0 0 (pI Q) p e s m args below meth c S 0 0 122 [(0, .ref l0), (1, .int l1), (2, .int l2), (3, .int l3), (4, .int l4), (5, .int l5)] []) (S : hp) (l0 : Nat) (l1 : Int32) (l2 : Int32) (l3 : Int32) (l4 : Int32) (l5 : Int32), wB_X12_felt_122 bk122 Q S l0 l1 l2 l3 l4 l5 → VM l b D cy 7 2 45 0 0 (pI Q) p e s m args below meth c S 0 0 122 [(0, .ref l0), (1, .int l1), (2, .int l2), (3, .int l3), (4, .int l4), (5, .int l5)] [] := by
    intro bk122 hbk122 S l0 l1 l2 l3 l4 l5 h
    unfold wB_X12_felt_122 at h
    refine v_iload X 5 dX12_felt_122 rfl ?_
    refine v_if_le X (tgt := 144) dX12_felt_124 (by decide) (fun c22 => ?_) (fun c22 => ?_)
    · replace h := h.1 c22
      refine v_lv (lv' := [(2, .int l2), (3, .int l3), (4, .int l4), (5, .int l5)]) [2, 3, 4, 5] rfl ?_
      exact j144 _ _ _ _ _ h
    · replace h := h.2 c22
      refine v_aload_n X 0 dX12_felt_127 rfl rfl ?_
      refine v_iload_n X 1 dX12_felt_128 rfl rfl ?_
      refine v_iload_n X 2 dX12_felt_129 rfl rfl ?_
      refine v_iload X 5 dX12_felt_130 rfl ?_
      obtain ⟨hk25, h⟩ := h
      refine v_callV X (av := [.int l1, .int l2, .int l5]) (T := TX12) (N := 26) (s_X12_isCut l b D cy h) hk25 (by decide) rfl wd1266 wd1268 wd47 wd62 k_X12_isCut dn_X12_isCut rfl ⟨Nat.le_of_ble_eq_true rfl, Nat.le_of_ble_eq_true rfl⟩ (Nat.le_of_ble_eq_true rfl) ⟨Nat.le_of_ble_eq_true rfl, Nat.le_of_ble_eq_true rfl⟩ dX12_felt_132 rfl (kI (fun r26 S24 h => ?_))
      refine v_if_ne X (tgt := 144) dX12_felt_135 (by decide) (fun c27 => ?_) (fun c27 => ?_)
      · replace h := h.1 c27
        refine v_lv (lv' := [(2, .int l2), (3, .int l3), (4, .int l4), (5, .int l5)]) [2, 3, 4, 5] rfl ?_
        exact j144 _ _ _ _ _ h
      · replace h := h.2 c27
        obtain ⟨v28, hv28⟩ : ∃ y : Int32, y = l5 + (1 : Int32) := ⟨_, rfl⟩
        replace h := h v28 hv28
        refine v_iinc X (j := 5) (v := v28) (lv' := [(5, .int v28), (0, .ref l0), (1, .int l1), (2, .int l2), (3, .int l3), (4, .int l4)]) dX12_felt_138 rfl (by rw [hv28] <;> rfl) (by decide) rfl ?_
        refine v_goto X (tgt := 122) dX12_felt_141 (by decide) ?_
        refine v_lv (lv' := [(0, .ref l0), (1, .int l1), (2, .int l2), (3, .int l3), (4, .int l4), (5, .int v28)]) [1, 2, 3, 4, 5, 0] rfl ?_
        exact hbk122 _ _ _ _ _ _ _ h
  have l122 : ∀  (n : Nat) (S : hp) (l0 : Nat) (l1 : Int32) (l2 : Int32) (l3 : Int32) (l4 : Int32) (l5 : Int32), wl_X12_felt_122 Q n S l0 l1 l2 l3 l4 l5 → VM l b D cy 7 2 45 0 0 (pI Q) p e s m args below meth c S 0 0 122 [(0, .ref l0), (1, .int l1), (2, .int l2), (3, .int l3), (4, .int l4), (5, .int l5)] [] := by
    intro  n
    induction n with
    | zero => intro S l0 l1 l2 l3 l4 l5 h; exact h.elim
    | succ n ih => intro S l0 l1 l2 l3 l4 l5 h; exact j122 (wl_X12_felt_122 Q n) ih S l0 l1 l2 l3 l4 l5 h
  have j120 : ∀  (S : hp) (l0 : Nat) (l1 : Int32) (l2 : Int32) (l3 : Int32) (l4 : Int32) (k0 : Int32), wB_X12_felt_120 Q S l0 l1 l2 l3 l4 k0 → VM l b D cy 7 2 45 0 0 (pI Q) p e s m args below meth c S 0 0 120 [(0, .ref l0), (1, .int l1), (2, .int l2), (3, .int l3), (4, .int l4)] [.int k0] := by
    intro  S l0 l1 l2 l3 l4 k0 h
    unfold wB_X12_felt_120 at h
    refine v_istore X (lv' := [(5, .int k0), (0, .ref l0), (1, .int l1), (2, .int l2), (3, .int l3), (4, .int l4)]) dX12_felt_120 (by decide) rfl ?_
    refine v_lv (lv' := [(0, .ref l0), (1, .int l1), (2, .int l2), (3, .int l3), (4, .int l4), (5, .int k0)]) [1, 2, 3, 4, 5, 0] rfl ?_
    obtain ⟨n, h⟩ := h
    exact l122 n _ _ _ _ _ _ _ h
  have j101 : ∀ (bk53 : hp → Nat → Int32 → Int32 → Int32 → Int32 → Int32 → Prop) (hbk53 : ∀ (S : hp) (l0 : Nat) (l1 : Int32) (l2 : Int32) (l3 : Int32) (l4 : Int32) (l5 : Int32), bk53 S l0 l1 l2 l3 l4 l5 → VM l b D cy 7 2 45 0 0 (pI Q) p e s m args below meth c S 0 0 53 [(0, .ref l0), (1, .int l1), (2, .int l2), (3, .int l3), (4, .int l4), (5, .int l5)] []) (S : hp) (l0 : Nat) (l1 : Int32) (l2 : Int32) (l3 : Int32) (l5 : Int32) (k0 : Int32) (k1 : Int32), wB_X12_felt_101 bk53 Q S l0 l1 l2 l3 l5 k0 k1 → VM l b D cy 7 2 45 0 0 (pI Q) p e s m args below meth c S 0 0 101 [(0, .ref l0), (1, .int l1), (2, .int l2), (3, .int l3), (5, .int l5)] [.int k0, .int k1] := by
    intro bk53 hbk53 S l0 l1 l2 l3 l5 k0 k1 h
    unfold wB_X12_felt_101 at h
    refine v_iadd X dX12_felt_101 ?_
    refine v_nm (fun v33 hv33 => ?_)
    replace h := h v33 hv33
    refine v_istore X (lv' := [(4, .int v33), (0, .ref l0), (1, .int l1), (2, .int l2), (3, .int l3), (5, .int l5)]) dX12_felt_102 (by decide) rfl ?_
    obtain ⟨v34, hv34⟩ : ∃ y : Int32, y = l5 + (1 : Int32) := ⟨_, rfl⟩
    replace h := h v34 hv34
    refine v_iinc X (j := 5) (v := v34) (lv' := [(5, .int v34), (4, .int v33), (0, .ref l0), (1, .int l1), (2, .int l2), (3, .int l3)]) dX12_felt_104 rfl (by rw [hv34] <;> rfl) (by decide) rfl ?_
    refine v_goto X (tgt := 53) dX12_felt_107 (by decide) ?_
    refine v_lv (lv' := [(0, .ref l0), (1, .int l1), (2, .int l2), (3, .int l3), (4, .int v33), (5, .int v34)]) [2, 3, 4, 5, 1, 0] rfl ?_
    exact hbk53 _ _ _ _ _ _ _ h
  have j53 : ∀ (bk53 : hp → Nat → Int32 → Int32 → Int32 → Int32 → Int32 → Prop) (hbk53 : ∀ (S : hp) (l0 : Nat) (l1 : Int32) (l2 : Int32) (l3 : Int32) (l4 : Int32) (l5 : Int32), bk53 S l0 l1 l2 l3 l4 l5 → VM l b D cy 7 2 45 0 0 (pI Q) p e s m args below meth c S 0 0 53 [(0, .ref l0), (1, .int l1), (2, .int l2), (3, .int l3), (4, .int l4), (5, .int l5)] []) (S : hp) (l0 : Nat) (l1 : Int32) (l2 : Int32) (l3 : Int32) (l4 : Int32) (l5 : Int32), wB_X12_felt_53 bk53 Q S l0 l1 l2 l3 l4 l5 → VM l b D cy 7 2 45 0 0 (pI Q) p e s m args below meth c S 0 0 53 [(0, .ref l0), (1, .int l1), (2, .int l2), (3, .int l3), (4, .int l4), (5, .int l5)] [] := by
    intro bk53 hbk53 S l0 l1 l2 l3 l4 l5 h
    unfold wB_X12_felt_53 at h
    refine v_iload X 5 dX12_felt_53 rfl ?_
    refine v_aload_n X 0 dX12_felt_55 rfl rfl ?_
    obtain ⟨hk16, h⟩ := h
    obtain ⟨r17, hr17, h⟩ := h
    refine v_getR X (T := TX12) (N := 26) (k := 5) hk16 (by decide) rfl (by decide) inX12 wd944 rfl dX12_felt_56 hr17 ?_
    refine v_iconst X (v := 2) dX12_felt_59 (by decide) ?_
    obtain ⟨hk18, h⟩ := h
    obtain ⟨hi19, h⟩ := h
    refine v_iald X hk18 hi19 dX12_felt_60 ?_
    refine v_icmp_ge X (tgt := 110) dX12_felt_61 (by decide) (fun c20 => ?_) (fun c20 => ?_)
    · replace h := h.1 c20
      refine v_iload X 4 dX12_felt_110 rfl ?_
      refine v_if_le X (tgt := 119) dX12_felt_112 (by decide) (fun c21 => ?_) (fun c21 => ?_)
      · replace h := h.1 c21
        refine v_iconst X (v := 0) dX12_felt_119 (by decide) ?_
        refine v_lv (lv' := [(0, .ref l0), (1, .int l1), (2, .int l2), (3, .int l3), (4, .int l4)]) [0, 1, 2, 3, 4] rfl ?_
        exact j120 _ _ _ _ _ _ _ h
      · replace h := h.2 c21
        refine v_iconst X (v := 1) dX12_felt_115 (by decide) ?_
        refine v_goto X (tgt := 120) dX12_felt_116 (by decide) ?_
        refine v_lv (lv' := [(0, .ref l0), (1, .int l1), (2, .int l2), (3, .int l3), (4, .int l4)]) [0, 1, 2, 3, 4] rfl ?_
        exact j120 _ _ _ _ _ _ _ h
    · replace h := h.2 c20
      refine v_aload_n X 0 dX12_felt_64 rfl rfl ?_
      refine v_getR X (T := TX12) (N := 26) (k := 5) hk16 (by decide) rfl (by decide) inX12 wd944 rfl dX12_felt_65 hr17 ?_
      refine v_iconst X (v := 5) dX12_felt_68 (by decide) ?_
      refine v_iconst X (v := 3) dX12_felt_69 (by decide) ?_
      refine v_iload X 5 dX12_felt_70 rfl ?_
      refine v_imul X dX12_felt_72 ?_
      refine v_iadd X dX12_felt_73 ?_
      refine v_iload_n X 1 dX12_felt_74 rfl rfl ?_
      refine v_iadd X dX12_felt_75 ?_
      obtain ⟨hi29, h⟩ := h
      refine v_iald X hk18 hi29 dX12_felt_76 ?_
      refine v_nm (fun v30 hv30 => ?_)
      replace h := h v30 hv30
      refine v_istore X (lv' := [(6, .int v30), (0, .ref l0), (1, .int l1), (2, .int l2), (3, .int l3), (4, .int l4), (5, .int l5)]) dX12_felt_77 (by decide) rfl ?_
      refine v_iload X 0 dX12_felt_79 rfl ?_
      refine v_iload_n X 3 dX12_felt_81 rfl rfl ?_
      refine v_icmp_le X (tgt := 88) dX12_felt_82 (by decide) (fun c31 => ?_) (fun c31 => ?_)
      · replace h := h.1 c31
        refine v_iload X 5 dX12_felt_88 rfl ?_
        refine v_iload X 0 dX12_felt_90 rfl ?_
        refine v_if_le X (tgt := 100) dX12_felt_92 (by decide) (fun c32 => ?_) (fun c32 => ?_)
        · replace h := h.1 c32
          refine v_iconst X (v := 0) dX12_felt_100 (by decide) ?_
          refine v_lv (lv' := [(0, .ref l0), (1, .int l1), (2, .int l2), (3, .int l3), (5, .int l5)]) [1, 2, 3, 4, 6] rfl ?_
          exact j101 bk53 hbk53 _ _ _ _ _ _ _ _ h
        · replace h := h.2 c32
          refine v_iload X 0 dX12_felt_95 rfl ?_
          refine v_goto X (tgt := 101) dX12_felt_97 (by decide) ?_
          refine v_lv (lv' := [(0, .ref l0), (1, .int l1), (2, .int l2), (3, .int l3), (5, .int l5)]) [1, 2, 3, 4, 6] rfl ?_
          exact j101 bk53 hbk53 _ _ _ _ _ _ _ _ h
      · replace h := h.2 c31
        refine v_ldc X wd1070 dX12_felt_85 ?_
        exact v_iret X hr hlk ⟨_, rfl, h⟩ dX12_felt_87
  have l53 : ∀  (n : Nat) (S : hp) (l0 : Nat) (l1 : Int32) (l2 : Int32) (l3 : Int32) (l4 : Int32) (l5 : Int32), wl_X12_felt_53 Q n S l0 l1 l2 l3 l4 l5 → VM l b D cy 7 2 45 0 0 (pI Q) p e s m args below meth c S 0 0 53 [(0, .ref l0), (1, .int l1), (2, .int l2), (3, .int l3), (4, .int l4), (5, .int l5)] [] := by
    intro  n
    induction n with
    | zero => intro S l0 l1 l2 l3 l4 l5 h; exact h.elim
    | succ n ih => intro S l0 l1 l2 l3 l4 l5 h; exact j53 (wl_X12_felt_53 Q n) ih S l0 l1 l2 l3 l4 l5 h
  unfold wp_X12_felt at h
  show VM l b D cy 7 2 45 0 0 (pI Q) p e s m args below meth c S 0 0 0 [(0, .ref a0), (1, .int x1), (2, .int x2), (3, .int x3)] []
  refine v_aload_n X 0 dX12_felt_0 rfl rfl ?_
  refine v_iconst X (v := 0) dX12_felt_1 (by decide) ?_
  obtain ⟨hk1, h⟩ := h
  refine v_putI X (T := TX12) (N := 26) (k := 0) hk1 (by decide) rfl (by decide) inX12 wd939 tyX12 tyX12_ok nmX12 rfl rfl rfl rfl dX12_felt_2 ?_
  refine v_nmS (fun S2 eS2 => ?_)
  replace h := h S2 eS2
  have hk3 : hK S2 a0 = 11 := by rw [eS2]; exact hk1
  refine v_aload_n X 0 dX12_felt_5 rfl rfl ?_
  refine v_callV X (av := []) (T := TX12) (N := 26) (s_X12_isThere l b D cy h) hk3 (by decide) rfl wd1150 wd1152 wd37 wd62 k_X12_isThere dn_X12_isThere rfl ⟨Nat.le_of_ble_eq_true rfl, Nat.le_of_ble_eq_true rfl⟩ (Nat.le_of_ble_eq_true rfl) ⟨Nat.le_of_ble_eq_true rfl, Nat.le_of_ble_eq_true rfl⟩ dX12_felt_6 rfl (kI (fun r5 S4 h => ?_))
  refine v_if_ne X (tgt := 15) dX12_felt_9 (by decide) (fun c6 => ?_) (fun c6 => ?_)
  · replace h := h.1 c6
    refine v_iload_n X 1 dX12_felt_15 rfl rfl ?_
    refine v_callS X (av := [.int x1]) (s_X12_isPlace l b D cy h) wd1123 wd1124 wd62 k_X12_isPlace dn_X12_isPlace rfl ⟨Nat.le_of_ble_eq_true rfl, Nat.le_of_ble_eq_true rfl⟩ (Nat.le_of_ble_eq_true rfl) ⟨Nat.le_of_ble_eq_true rfl, Nat.le_of_ble_eq_true rfl⟩ dX12_felt_16 rfl (kI (fun r8 S7 h => ?_))
    refine v_if_eq X (tgt := 44) dX12_felt_19 (by decide) (fun c9 => ?_) (fun c9 => ?_)
    · replace h := h.1 c9
      refine v_ldc X wd1030 dX12_felt_44 ?_
      exact v_iret X hr hlk ⟨_, rfl, h⟩ dX12_felt_46
    · replace h := h.2 c9
      refine v_iload_n X 2 dX12_felt_22 rfl rfl ?_
      refine v_i2l X dX12_felt_23 ?_
      refine v_lconst X (v := 1) dX12_felt_24 (by decide) ?_
      refine v_ldc2 X wd1256 dX12_felt_25 ?_
      refine v_callS X (av := [.long (x2).toInt64, .long (1 : Int64), .long (200 : Int64)]) (s_X12_in l b D cy h) wd1026 wd1027 wd62 k_X12_in dn_X12_in rfl ⟨Nat.le_of_ble_eq_true rfl, Nat.le_of_ble_eq_true rfl⟩ (Nat.le_of_ble_eq_true rfl) ⟨Nat.le_of_ble_eq_true rfl, Nat.le_of_ble_eq_true rfl⟩ dX12_felt_28 rfl (kI (fun r11 S10 h => ?_))
      refine v_if_eq X (tgt := 44) dX12_felt_31 (by decide) (fun c12 => ?_) (fun c12 => ?_)
      · replace h := h.1 c12
        refine v_ldc X wd1030 dX12_felt_44 ?_
        exact v_iret X hr hlk ⟨_, rfl, h⟩ dX12_felt_46
      · replace h := h.2 c12
        refine v_iload_n X 3 dX12_felt_34 rfl rfl ?_
        refine v_i2l X dX12_felt_35 ?_
        refine v_lconst X (v := 0) dX12_felt_36 (by decide) ?_
        refine v_lconst X (v := 1) dX12_felt_37 (by decide) ?_
        refine v_callS X (av := [.long (x3).toInt64, .long (0 : Int64), .long (1 : Int64)]) (s_X12_in l b D cy h) wd1026 wd1027 wd62 k_X12_in dn_X12_in rfl ⟨Nat.le_of_ble_eq_true rfl, Nat.le_of_ble_eq_true rfl⟩ (Nat.le_of_ble_eq_true rfl) ⟨Nat.le_of_ble_eq_true rfl, Nat.le_of_ble_eq_true rfl⟩ dX12_felt_38 rfl (kI (fun r14 S13 h => ?_))
        refine v_if_ne X (tgt := 47) dX12_felt_41 (by decide) (fun c15 => ?_) (fun c15 => ?_)
        · replace h := h.1 c15
          refine v_iconst X (v := 0) dX12_felt_47 (by decide) ?_
          refine v_istore X (lv' := [(4, .int (0 : Int32)), (0, .ref a0), (1, .int x1), (2, .int x2), (3, .int x3)]) dX12_felt_48 (by decide) rfl ?_
          refine v_iconst X (v := 0) dX12_felt_50 (by decide) ?_
          refine v_istore X (lv' := [(5, .int (0 : Int32)), (4, .int (0 : Int32)), (0, .ref a0), (1, .int x1), (2, .int x2), (3, .int x3)]) dX12_felt_51 (by decide) rfl ?_
          refine v_lv (lv' := [(0, .ref a0), (1, .int x1), (2, .int x2), (3, .int x3), (4, .int (0 : Int32)), (5, .int (0 : Int32))]) [2, 3, 4, 5, 1, 0] rfl ?_
          obtain ⟨n, h⟩ := h
          exact l53 n _ _ _ _ _ _ _ h
        · replace h := h.2 c15
          refine v_ldc X wd1030 dX12_felt_44 ?_
          exact v_iret X hr hlk ⟨_, rfl, h⟩ dX12_felt_46
  · replace h := h.2 c6
    refine v_ldc X wd1154 dX12_felt_12 ?_
    exact v_iret X hr hlk ⟨_, rfl, h⟩ dX12_felt_14
def wB_X12_unlike_54 (bk5 : hp → Nat → Int32 → Int32 → Int32 → Int32 → Prop) (Q : Int32 → hp → Prop) (S : hp) (l0 : Nat) (l1 : Int32) (l2 : Int32) (l4 : Int32) (k0 : Int32) (k1 : Int32) : Prop :=
  ∀ v9 : Int32, v9 = (k1 + k0) → ∀ v10 : Int32, v10 = l4 + (1 : Int32) → bk5 S l0 l1 l2 v9 v10
def wB_X12_unlike_5 (bk5 : hp → Nat → Int32 → Int32 → Int32 → Int32 → Prop) (Q : Int32 → hp → Prop) (S : hp) (l0 : Nat) (l1 : Int32) (l2 : Int32) (l3 : Int32) (l4 : Int32) : Prop :=
  (((3 : Int32) ≤ l4 → Q l3 S) ∧ (¬ (3 : Int32) ≤ l4 → hK S l0 = 11 ∧ ∃ r3 : Nat, hR S l0 5 = some r3 ∧ hK S r3 = 12 ∧ vp_in (((5 : Int32) + ((3 : Int32) * l1)) + l4) (hN S r3) ∧ vp_in (((5 : Int32) + ((3 : Int32) * l2)) + l4) (hN S r3) ∧ ∀ v7 : Int32, v7 = ((hI S r3 ((((5 : Int32) + ((3 : Int32) * l1)) + l4)).toNatClampNeg) - (hI S r3 ((((5 : Int32) + ((3 : Int32) * l2)) + l4)).toNatClampNeg)) → ((0 ≤ v7 → wB_X12_unlike_54 bk5 Q S l0 l1 l2 l4 v7 l3) ∧ (¬ 0 ≤ v7 → wB_X12_unlike_54 bk5 Q S l0 l1 l2 l4 ((-v7)) l3))))
def wl_X12_unlike_5 (Q : Int32 → hp → Prop) : Nat → hp → Nat → Int32 → Int32 → Int32 → Int32 → Prop
  | 0 => fun _ _ _ _ _ _ => False
  | n + 1 => wB_X12_unlike_5 (wl_X12_unlike_5 Q n) Q
def wp_X12_unlike (Q : Int32 → hp → Prop) (S : hp) (a0 : Nat) (x1 : Int32) (x2 : Int32) : Prop :=
  ∃ n : Nat, wl_X12_unlike_5 Q n S a0 x1 x2 (0 : Int32) (0 : Int32)
theorem k_X12_unlike : Cond.code yX12_unlike cX12_unlike 6 (some .int) ∈ gtb := mg 1282 (by decide +kernel) (by decide +kernel)
theorem dn_X12_unlike : yX12_unlike.cls ≠ "java/lang/invoke/MethodHandle" ∧ yX12_unlike.cls ≠ "java/lang/invoke/VarHandle" ∧ (parseMethodDescriptor yX12_unlike.desc).map (fun d => d.parameters.length) = some 2 := by decide +kernel
set_option maxRecDepth 100000 in
set_option maxHeartbeats 4000000 in
theorem s_X12_unlike (l : Launch) (b : Nat) (D : va_G) (cy : Nat → ClassId) {Q : Int32 → hp → Prop} {S : hp} {a0 : Nat} {x1 : Int32} {x2 : Int32} (h : wp_X12_unlike Q S a0 x1 x2) : MT l yX12_unlike cX12_unlike 6 (some .int) 0 0 0 0 b D cy S [.ref a0, .int x1, .int x2] (pI Q) := by
  refine MT.of (by decide +kernel) (Nat.le_of_ble_eq_true rfl) ?_
  intro p e s m args below meth c X hr hlk hnm
  have j54 : ∀ (bk5 : hp → Nat → Int32 → Int32 → Int32 → Int32 → Prop) (hbk5 : ∀ (S : hp) (l0 : Nat) (l1 : Int32) (l2 : Int32) (l3 : Int32) (l4 : Int32), bk5 S l0 l1 l2 l3 l4 → VM l b D cy 6 0 0 0 0 (pI Q) p e s m args below meth c S 0 0 5 [(0, .ref l0), (1, .int l1), (2, .int l2), (3, .int l3), (4, .int l4)] []) (S : hp) (l0 : Nat) (l1 : Int32) (l2 : Int32) (l4 : Int32) (k0 : Int32) (k1 : Int32), wB_X12_unlike_54 bk5 Q S l0 l1 l2 l4 k0 k1 → VM l b D cy 6 0 0 0 0 (pI Q) p e s m args below meth c S 0 0 54 [(0, .ref l0), (1, .int l1), (2, .int l2), (4, .int l4)] [.int k0, .int k1] := by
    intro bk5 hbk5 S l0 l1 l2 l4 k0 k1 h
    unfold wB_X12_unlike_54 at h
    refine v_iadd X dX12_unlike_54 ?_
    refine v_nm (fun v9 hv9 => ?_)
    replace h := h v9 hv9
    refine v_istore_n X (lv' := [(3, .int v9), (0, .ref l0), (1, .int l1), (2, .int l2), (4, .int l4)]) dX12_unlike_55 rfl (by decide) rfl ?_
    obtain ⟨v10, hv10⟩ : ∃ y : Int32, y = l4 + (1 : Int32) := ⟨_, rfl⟩
    replace h := h v10 hv10
    refine v_iinc X (j := 4) (v := v10) (lv' := [(4, .int v10), (3, .int v9), (0, .ref l0), (1, .int l1), (2, .int l2)]) dX12_unlike_56 rfl (by rw [hv10] <;> rfl) (by decide) rfl ?_
    refine v_goto X (tgt := 5) dX12_unlike_59 (by decide) ?_
    refine v_lv (lv' := [(0, .ref l0), (1, .int l1), (2, .int l2), (3, .int v9), (4, .int v10)]) [2, 3, 4, 1, 0] rfl ?_
    exact hbk5 _ _ _ _ _ _ h
  have j5 : ∀ (bk5 : hp → Nat → Int32 → Int32 → Int32 → Int32 → Prop) (hbk5 : ∀ (S : hp) (l0 : Nat) (l1 : Int32) (l2 : Int32) (l3 : Int32) (l4 : Int32), bk5 S l0 l1 l2 l3 l4 → VM l b D cy 6 0 0 0 0 (pI Q) p e s m args below meth c S 0 0 5 [(0, .ref l0), (1, .int l1), (2, .int l2), (3, .int l3), (4, .int l4)] []) (S : hp) (l0 : Nat) (l1 : Int32) (l2 : Int32) (l3 : Int32) (l4 : Int32), wB_X12_unlike_5 bk5 Q S l0 l1 l2 l3 l4 → VM l b D cy 6 0 0 0 0 (pI Q) p e s m args below meth c S 0 0 5 [(0, .ref l0), (1, .int l1), (2, .int l2), (3, .int l3), (4, .int l4)] [] := by
    intro bk5 hbk5 S l0 l1 l2 l3 l4 h
    unfold wB_X12_unlike_5 at h
    refine v_iload X 4 dX12_unlike_5 rfl ?_
    refine v_iconst X (v := 3) dX12_unlike_7 (by decide) ?_
    refine v_icmp_ge X (tgt := 62) dX12_unlike_8 (by decide) (fun c1 => ?_) (fun c1 => ?_)
    · replace h := h.1 c1
      refine v_iload_n X 3 dX12_unlike_62 rfl rfl ?_
      exact v_iret X hr hlk ⟨_, rfl, h⟩ dX12_unlike_63
    · replace h := h.2 c1
      refine v_aload_n X 0 dX12_unlike_11 rfl rfl ?_
      obtain ⟨hk2, h⟩ := h
      obtain ⟨r3, hr3, h⟩ := h
      refine v_getR X (T := TX12) (N := 26) (k := 5) hk2 (by decide) rfl (by decide) inX12 wd944 rfl dX12_unlike_12 hr3 ?_
      refine v_iconst X (v := 5) dX12_unlike_15 (by decide) ?_
      refine v_iconst X (v := 3) dX12_unlike_16 (by decide) ?_
      refine v_iload_n X 1 dX12_unlike_17 rfl rfl ?_
      refine v_imul X dX12_unlike_18 ?_
      refine v_iadd X dX12_unlike_19 ?_
      refine v_iload X 4 dX12_unlike_20 rfl ?_
      refine v_iadd X dX12_unlike_22 ?_
      obtain ⟨hk4, h⟩ := h
      obtain ⟨hi5, h⟩ := h
      refine v_iald X hk4 hi5 dX12_unlike_23 ?_
      refine v_aload_n X 0 dX12_unlike_24 rfl rfl ?_
      refine v_getR X (T := TX12) (N := 26) (k := 5) hk2 (by decide) rfl (by decide) inX12 wd944 rfl dX12_unlike_25 hr3 ?_
      refine v_iconst X (v := 5) dX12_unlike_28 (by decide) ?_
      refine v_iconst X (v := 3) dX12_unlike_29 (by decide) ?_
      refine v_iload_n X 2 dX12_unlike_30 rfl rfl ?_
      refine v_imul X dX12_unlike_31 ?_
      refine v_iadd X dX12_unlike_32 ?_
      refine v_iload X 4 dX12_unlike_33 rfl ?_
      refine v_iadd X dX12_unlike_35 ?_
      obtain ⟨hi6, h⟩ := h
      refine v_iald X hk4 hi6 dX12_unlike_36 ?_
      refine v_isub X dX12_unlike_37 ?_
      refine v_nm (fun v7 hv7 => ?_)
      replace h := h v7 hv7
      refine v_istore X (lv' := [(5, .int v7), (0, .ref l0), (1, .int l1), (2, .int l2), (3, .int l3), (4, .int l4)]) dX12_unlike_38 (by decide) rfl ?_
      refine v_iload_n X 4 dX12_unlike_40 rfl rfl ?_
      refine v_iload X 0 dX12_unlike_41 rfl ?_
      refine v_if_ge X (tgt := 52) dX12_unlike_43 (by decide) (fun c8 => ?_) (fun c8 => ?_)
      · replace h := h.1 c8
        refine v_iload X 0 dX12_unlike_52 rfl ?_
        refine v_lv (lv' := [(0, .ref l0), (1, .int l1), (2, .int l2), (4, .int l4)]) [1, 2, 3, 5] rfl ?_
        exact j54 bk5 hbk5 _ _ _ _ _ _ _ h
      · replace h := h.2 c8
        refine v_iload X 0 dX12_unlike_46 rfl ?_
        refine v_ineg X dX12_unlike_48 ?_
        refine v_goto X (tgt := 54) dX12_unlike_49 (by decide) ?_
        refine v_lv (lv' := [(0, .ref l0), (1, .int l1), (2, .int l2), (4, .int l4)]) [1, 2, 3, 5] rfl ?_
        exact j54 bk5 hbk5 _ _ _ _ _ _ _ h
  have l5 : ∀  (n : Nat) (S : hp) (l0 : Nat) (l1 : Int32) (l2 : Int32) (l3 : Int32) (l4 : Int32), wl_X12_unlike_5 Q n S l0 l1 l2 l3 l4 → VM l b D cy 6 0 0 0 0 (pI Q) p e s m args below meth c S 0 0 5 [(0, .ref l0), (1, .int l1), (2, .int l2), (3, .int l3), (4, .int l4)] [] := by
    intro  n
    induction n with
    | zero => intro S l0 l1 l2 l3 l4 h; exact h.elim
    | succ n ih => intro S l0 l1 l2 l3 l4 h; exact j5 (wl_X12_unlike_5 Q n) ih S l0 l1 l2 l3 l4 h
  unfold wp_X12_unlike at h
  show VM l b D cy 6 0 0 0 0 (pI Q) p e s m args below meth c S 0 0 0 [(0, .ref a0), (1, .int x1), (2, .int x2)] []
  refine v_iconst X (v := 0) dX12_unlike_0 (by decide) ?_
  refine v_istore_n X (lv' := [(3, .int (0 : Int32)), (0, .ref a0), (1, .int x1), (2, .int x2)]) dX12_unlike_1 rfl (by decide) rfl ?_
  refine v_iconst X (v := 0) dX12_unlike_2 (by decide) ?_
  refine v_istore X (lv' := [(4, .int (0 : Int32)), (3, .int (0 : Int32)), (0, .ref a0), (1, .int x1), (2, .int x2)]) dX12_unlike_3 (by decide) rfl ?_
  refine v_lv (lv' := [(0, .ref a0), (1, .int x1), (2, .int x2), (3, .int (0 : Int32)), (4, .int (0 : Int32))]) [2, 3, 4, 1, 0] rfl ?_
  obtain ⟨n, h⟩ := h
  exact l5 n _ _ _ _ _ _ h
