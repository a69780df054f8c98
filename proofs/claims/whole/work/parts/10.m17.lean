def wB_X12_markOf_107 (bk69 : hp → Nat → Int32 → Int32 → Int32 → Int32 → Prop) (Q : Int32 → hp → Prop) (S : hp) (l0 : Nat) (l1 : Int32) (l2 : Int32) (l4 : Int32) (k0 : Int32) (k1 : Int32) : Prop :=
  ∀ v20 : Int32, v20 = (k1 + k0) → ∀ v21 : Int32, v21 = l4 + (1 : Int32) → bk69 S l0 l1 l2 v20 v21
def wB_X12_markOf_106 (bk69 : hp → Nat → Int32 → Int32 → Int32 → Int32 → Prop) (Q : Int32 → hp → Prop) (S : hp) (l0 : Nat) (l1 : Int32) (l2 : Int32) (l4 : Int32) (k0 : Int32) : Prop :=
  wB_X12_markOf_107 bk69 Q S l0 l1 l2 l4 (0 : Int32) k0
def wB_X12_markOf_69 (bk69 : hp → Nat → Int32 → Int32 → Int32 → Int32 → Prop) (Q : Int32 → hp → Prop) (S : hp) (l0 : Nat) (l1 : Int32) (l2 : Int32) (l3 : Int32) (l4 : Int32) : Prop :=
  hK S l0 = 11 ∧ ∃ r11 : Nat, hR S l0 5 = some r11 ∧ hK S r11 = 12 ∧ vp_in (4 : Int32) (hN S r11) ∧ (((hI S r11 ((4 : Int32)).toNatClampNeg) ≤ l4 → ((¬ l2 = (1 : Int32) → ((¬ l2 = (3 : Int32) → Q ((2 : Int32) * l3) S) ∧ (l2 = (3 : Int32) → Q (l3 - (1000 : Int32)) S))) ∧ (l2 = (1 : Int32) → Q l3 S))) ∧ (¬ (hI S r11 ((4 : Int32)).toNatClampNeg) ≤ l4 → wp_X12_lineOf (fun r18 S17 => ((¬ r18 = 0 → wB_X12_markOf_106 bk69 Q S17 l0 l1 l2 l4 l3) ∧ (r18 = 0 → hK S17 l0 = 11 ∧ wp_X12_lineOf (fun r24 S22 => ((¬ r24 = l1 → wB_X12_markOf_106 bk69 Q S22 l0 l1 l2 l4 l3) ∧ (r24 = l1 → wB_X12_markOf_107 bk69 Q S22 l0 l1 l2 l4 (1 : Int32) l3))) S17 l0 l4 (1 : Int32)))) S l0 l4 (0 : Int32)))
def wl_X12_markOf_69 (Q : Int32 → hp → Prop) : Nat → hp → Nat → Int32 → Int32 → Int32 → Int32 → Prop
  | 0 => fun _ _ _ _ _ _ => False
  | n + 1 => wB_X12_markOf_69 (wl_X12_markOf_69 Q n) Q
def wB_X12_markOf_52 (Q : Int32 → hp → Prop) (S : hp) (l0 : Nat) (l1 : Int32) (l2 : Int32) : Prop :=
  hK S l0 = 11 ∧ wp_X12_began (fun S6 => hK S6 l0 = 11 ∧ wp_X12_began (fun S8 => ∃ n : Nat, wl_X12_markOf_69 Q n S8 l0 l1 l2 l1 (0 : Int32)) S6 l0 (20 : Int32)) S l0 (21 : Int32)
def wB_X12_markOf_49 (Q : Int32 → hp → Prop) (S : hp) (l0 : Nat) (l1 : Int32) (l2 : Int32) (k0 : Int32) (k1 : Nat) : Prop :=
  hK S k1 = 11 ∧ wp_X12_began (fun S27 => wB_X12_markOf_52 Q S27 l0 l1 l2) S k1 k0
def wp_X12_markOf (Q : Int32 → hp → Prop) (S : hp) (a0 : Nat) (x1 : Int32) : Prop :=
  hK S a0 = 11 ∧ wp_X12_kindOf (fun r3 S1 => ((r3 < (4 : Int32) → ((r3 = (1 : Int32) → wB_X12_markOf_52 Q S1 a0 x1 r3) ∧ (¬ r3 = (1 : Int32) → ((¬ r3 = (3 : Int32) → wB_X12_markOf_49 Q S1 a0 x1 r3 (24 : Int32) a0) ∧ (r3 = (3 : Int32) → wB_X12_markOf_49 Q S1 a0 x1 r3 (22 : Int32) a0))))) ∧ (¬ r3 < (4 : Int32) → hK S1 a0 = 11 ∧ wp_X12_began (fun S29 => hK S29 a0 = 11 ∧ wp_X12_began (fun S31 => hK S31 a0 = 11 ∧ wp_X12_gossipSize (fun r35 S33 => Q (x1 - r35) S33) S31 a0 x1) S29 a0 (20 : Int32)) S1 a0 (23 : Int32)))) S a0 x1
theorem k_X12_markOf : Cond.code yX12_markOf cX12_markOf 5 (some .int) ∈ gtb := mg 1325 (by decide +kernel) (by decide +kernel)
theorem dn_X12_markOf : yX12_markOf.cls ≠ "java/lang/invoke/MethodHandle" ∧ yX12_markOf.cls ≠ "java/lang/invoke/VarHandle" ∧ (parseMethodDescriptor yX12_markOf.desc).map (fun d => d.parameters.length) = some 1 := by decide +kernel
set_option maxRecDepth 100000 in
set_option maxHeartbeats 4000000 in
theorem s_X12_markOf (l : Launch) (b : Nat) (D : va_G) (cy : Nat → ClassId) {Q : Int32 → hp → Prop} {S : hp} {a0 : Nat} {x1 : Int32} (h : wp_X12_markOf Q S a0 x1) : MT l yX12_markOf cX12_markOf 5 (some .int) 3 64 0 0 b D cy S [.ref a0, .int x1] (pI Q) := by
  refine MT.of (by decide +kernel) (Nat.le_of_ble_eq_true rfl) ?_
  intro p e s m args below meth c X hr hlk hnm
  have j107 : ∀ (bk69 : hp → Nat → Int32 → Int32 → Int32 → Int32 → Prop) (hbk69 : ∀ (S : hp) (l0 : Nat) (l1 : Int32) (l2 : Int32) (l3 : Int32) (l4 : Int32), bk69 S l0 l1 l2 l3 l4 → VM l b D cy 5 3 64 0 0 (pI Q) p e s m args below meth c S 0 0 69 [(0, .ref l0), (1, .int l1), (2, .int l2), (3, .int l3), (4, .int l4)] []) (S : hp) (l0 : Nat) (l1 : Int32) (l2 : Int32) (l4 : Int32) (k0 : Int32) (k1 : Int32), wB_X12_markOf_107 bk69 Q S l0 l1 l2 l4 k0 k1 → VM l b D cy 5 3 64 0 0 (pI Q) p e s m args below meth c S 0 0 107 [(0, .ref l0), (1, .int l1), (2, .int l2), (4, .int l4)] [.int k0, .int k1] := by
    intro bk69 hbk69 S l0 l1 l2 l4 k0 k1 h
    unfold wB_X12_markOf_107 at h
    refine v_iadd X dX12_markOf_107 ?_
    refine v_nm (fun v20 hv20 => ?_)
    replace h := h v20 hv20
    refine v_istore_n X (lv' := [(3, .int v20), (0, .ref l0), (1, .int l1), (2, .int l2), (4, .int l4)]) dX12_markOf_108 rfl (by decide) rfl ?_
    obtain ⟨v21, hv21⟩ : ∃ y : Int32, y = l4 + (1 : Int32) := ⟨_, rfl⟩
    replace h := h v21 hv21
    refine v_iinc X (j := 4) (v := v21) (lv' := [(4, .int v21), (3, .int v20), (0, .ref l0), (1, .int l1), (2, .int l2)]) dX12_markOf_109 rfl (by rw [hv21] <;> rfl) (by decide) rfl ?_
    refine v_goto X (tgt := 69) dX12_markOf_112 (by decide) ?_
    refine v_lv (lv' := [(0, .ref l0), (1, .int l1), (2, .int l2), (3, .int v20), (4, .int v21)]) [2, 3, 4, 1, 0] rfl ?_
    exact hbk69 _ _ _ _ _ _ h
  have j106 : ∀ (bk69 : hp → Nat → Int32 → Int32 → Int32 → Int32 → Prop) (hbk69 : ∀ (S : hp) (l0 : Nat) (l1 : Int32) (l2 : Int32) (l3 : Int32) (l4 : Int32), bk69 S l0 l1 l2 l3 l4 → VM l b D cy 5 3 64 0 0 (pI Q) p e s m args below meth c S 0 0 69 [(0, .ref l0), (1, .int l1), (2, .int l2), (3, .int l3), (4, .int l4)] []) (S : hp) (l0 : Nat) (l1 : Int32) (l2 : Int32) (l4 : Int32) (k0 : Int32), wB_X12_markOf_106 bk69 Q S l0 l1 l2 l4 k0 → VM l b D cy 5 3 64 0 0 (pI Q) p e s m args below meth c S 0 0 106 [(0, .ref l0), (1, .int l1), (2, .int l2), (4, .int l4)] [.int k0] := by
    intro bk69 hbk69 S l0 l1 l2 l4 k0 h
    unfold wB_X12_markOf_106 at h
    refine v_iconst X (v := 0) dX12_markOf_106 (by decide) ?_
    exact j107 bk69 hbk69 _ _ _ _ _ _ _ h
  have j69 : ∀ (bk69 : hp → Nat → Int32 → Int32 → Int32 → Int32 → Prop) (hbk69 : ∀ (S : hp) (l0 : Nat) (l1 : Int32) (l2 : Int32) (l3 : Int32) (l4 : Int32), bk69 S l0 l1 l2 l3 l4 → VM l b D cy 5 3 64 0 0 (pI Q) p e s m args below meth c S 0 0 69 [(0, .ref l0), (1, .int l1), (2, .int l2), (3, .int l3), (4, .int l4)] []) (S : hp) (l0 : Nat) (l1 : Int32) (l2 : Int32) (l3 : Int32) (l4 : Int32), wB_X12_markOf_69 bk69 Q S l0 l1 l2 l3 l4 → VM l b D cy 5 3 64 0 0 (pI Q) p e s m args below meth c S 0 0 69 [(0, .ref l0), (1, .int l1), (2, .int l2), (3, .int l3), (4, .int l4)] [] := by
    intro bk69 hbk69 S l0 l1 l2 l3 l4 h
    unfold wB_X12_markOf_69 at h
    refine v_iload X 4 dX12_markOf_69 rfl ?_
    refine v_aload_n X 0 dX12_markOf_71 rfl rfl ?_
    obtain ⟨hk10, h⟩ := h
    obtain ⟨r11, hr11, h⟩ := h
    refine v_getR X (T := TX12) (N := 26) (k := 5) hk10 (by decide) rfl (by decide) inX12 wd944 rfl dX12_markOf_72 hr11 ?_
    refine v_iconst X (v := 4) dX12_markOf_75 (by decide) ?_
    obtain ⟨hk12, h⟩ := h
    obtain ⟨hi13, h⟩ := h
    refine v_iald X hk12 hi13 dX12_markOf_76 ?_
    refine v_icmp_ge X (tgt := 115) dX12_markOf_77 (by decide) (fun c14 => ?_) (fun c14 => ?_)
    · replace h := h.1 c14
      refine v_iload_n X 2 dX12_markOf_115 rfl rfl ?_
      refine v_iconst X (v := 1) dX12_markOf_116 (by decide) ?_
      refine v_icmp_ne X (tgt := 124) dX12_markOf_117 (by decide) (fun c15 => ?_) (fun c15 => ?_)
      · replace h := h.1 c15
        refine v_iload_n X 2 dX12_markOf_124 rfl rfl ?_
        refine v_iconst X (v := 3) dX12_markOf_125 (by decide) ?_
        refine v_icmp_ne X (tgt := 137) dX12_markOf_126 (by decide) (fun c16 => ?_) (fun c16 => ?_)
        · replace h := h.1 c16
          refine v_iconst X (v := 2) dX12_markOf_137 (by decide) ?_
          refine v_iload_n X 3 dX12_markOf_138 rfl rfl ?_
          refine v_imul X dX12_markOf_139 ?_
          exact v_iret X hr hlk ⟨_, rfl, h⟩ dX12_markOf_140
        · replace h := h.2 c16
          refine v_iload_n X 3 dX12_markOf_129 rfl rfl ?_
          refine v_sipush X (v := 1000) dX12_markOf_130 (by decide) ?_
          refine v_isub X dX12_markOf_133 ?_
          refine v_goto X (tgt := 140) dX12_markOf_134 (by decide) ?_
          exact v_iret X hr hlk ⟨_, rfl, h⟩ dX12_markOf_140
      · replace h := h.2 c15
        refine v_iload_n X 3 dX12_markOf_120 rfl rfl ?_
        refine v_goto X (tgt := 140) dX12_markOf_121 (by decide) ?_
        exact v_iret X hr hlk ⟨_, rfl, h⟩ dX12_markOf_140
    · replace h := h.2 c14
      refine v_iload_n X 3 dX12_markOf_80 rfl rfl ?_
      refine v_aload_n X 0 dX12_markOf_81 rfl rfl ?_
      refine v_iload X 4 dX12_markOf_82 rfl ?_
      refine v_iconst X (v := 0) dX12_markOf_84 (by decide) ?_
      refine v_callV X (av := [.int l4, .int (0 : Int32)]) (T := TX12) (N := 26) (s_X12_lineOf l b D cy h) hk10 (by decide) rfl wd1184 wd1186 wd40 wd62 k_X12_lineOf dn_X12_lineOf rfl ⟨Nat.le_of_ble_eq_true rfl, Nat.le_of_ble_eq_true rfl⟩ (Nat.le_of_ble_eq_true rfl) ⟨Nat.le_of_ble_eq_true rfl, Nat.le_of_ble_eq_true rfl⟩ dX12_markOf_85 rfl (kI (fun r18 S17 h => ?_))
      refine v_if_ne X (tgt := 106) dX12_markOf_88 (by decide) (fun c19 => ?_) (fun c19 => ?_)
      · replace h := h.1 c19
        refine v_lv (lv' := [(0, .ref l0), (1, .int l1), (2, .int l2), (4, .int l4)]) [0, 1, 2, 4] rfl ?_
        exact j106 bk69 hbk69 _ _ _ _ _ _ h
      · replace h := h.2 c19
        refine v_aload_n X 0 dX12_markOf_91 rfl rfl ?_
        refine v_iload X 4 dX12_markOf_92 rfl ?_
        refine v_iconst X (v := 1) dX12_markOf_94 (by decide) ?_
        obtain ⟨hk23, h⟩ := h
        refine v_callV X (av := [.int l4, .int (1 : Int32)]) (T := TX12) (N := 26) (s_X12_lineOf l b D cy h) hk23 (by decide) rfl wd1184 wd1186 wd40 wd62 k_X12_lineOf dn_X12_lineOf rfl ⟨Nat.le_of_ble_eq_true rfl, Nat.le_of_ble_eq_true rfl⟩ (Nat.le_of_ble_eq_true rfl) ⟨Nat.le_of_ble_eq_true rfl, Nat.le_of_ble_eq_true rfl⟩ dX12_markOf_95 rfl (kI (fun r24 S22 h => ?_))
        refine v_iload_n X 1 dX12_markOf_98 rfl rfl ?_
        refine v_icmp_ne X (tgt := 106) dX12_markOf_99 (by decide) (fun c25 => ?_) (fun c25 => ?_)
        · replace h := h.1 c25
          refine v_lv (lv' := [(0, .ref l0), (1, .int l1), (2, .int l2), (4, .int l4)]) [0, 1, 2, 4] rfl ?_
          exact j106 bk69 hbk69 _ _ _ _ _ _ h
        · replace h := h.2 c25
          refine v_iconst X (v := 1) dX12_markOf_102 (by decide) ?_
          refine v_goto X (tgt := 107) dX12_markOf_103 (by decide) ?_
          refine v_lv (lv' := [(0, .ref l0), (1, .int l1), (2, .int l2), (4, .int l4)]) [0, 1, 2, 4] rfl ?_
          exact j107 bk69 hbk69 _ _ _ _ _ _ _ h
  have l69 : ∀  (n : Nat) (S : hp) (l0 : Nat) (l1 : Int32) (l2 : Int32) (l3 : Int32) (l4 : Int32), wl_X12_markOf_69 Q n S l0 l1 l2 l3 l4 → VM l b D cy 5 3 64 0 0 (pI Q) p e s m args below meth c S 0 0 69 [(0, .ref l0), (1, .int l1), (2, .int l2), (3, .int l3), (4, .int l4)] [] := by
    intro  n
    induction n with
    | zero => intro S l0 l1 l2 l3 l4 h; exact h.elim
    | succ n ih => intro S l0 l1 l2 l3 l4 h; exact j69 (wl_X12_markOf_69 Q n) ih S l0 l1 l2 l3 l4 h
  have j52 : ∀  (S : hp) (l0 : Nat) (l1 : Int32) (l2 : Int32), wB_X12_markOf_52 Q S l0 l1 l2 → VM l b D cy 5 3 64 0 0 (pI Q) p e s m args below meth c S 0 0 52 [(0, .ref l0), (1, .int l1), (2, .int l2)] [] := by
    intro  S l0 l1 l2 h
    unfold wB_X12_markOf_52 at h
    refine v_aload_n X 0 dX12_markOf_52 rfl rfl ?_
    refine v_bipush X (v := 21) dX12_markOf_53 (by decide) ?_
    obtain ⟨hk7, h⟩ := h
    refine v_callV X (av := [.int (21 : Int32)]) (T := TX12) (N := 26) (s_X12_began l b D cy h) hk7 (by decide) rfl wd1314 wd1316 wd52 wd62 k_X12_began dn_X12_began rfl ⟨Nat.le_of_ble_eq_true rfl, Nat.le_of_ble_eq_true rfl⟩ (Nat.le_of_ble_eq_true rfl) ⟨Nat.le_of_ble_eq_true rfl, Nat.le_of_ble_eq_true rfl⟩ dX12_markOf_55 rfl (kV (fun S6 h => ?_))
    refine v_aload_n X 0 dX12_markOf_58 rfl rfl ?_
    refine v_bipush X (v := 20) dX12_markOf_59 (by decide) ?_
    obtain ⟨hk9, h⟩ := h
    refine v_callV X (av := [.int (20 : Int32)]) (T := TX12) (N := 26) (s_X12_began l b D cy h) hk9 (by decide) rfl wd1314 wd1316 wd52 wd62 k_X12_began dn_X12_began rfl ⟨Nat.le_of_ble_eq_true rfl, Nat.le_of_ble_eq_true rfl⟩ (Nat.le_of_ble_eq_true rfl) ⟨Nat.le_of_ble_eq_true rfl, Nat.le_of_ble_eq_true rfl⟩ dX12_markOf_61 rfl (kV (fun S8 h => ?_))
    refine v_iload_n X 1 dX12_markOf_64 rfl rfl ?_
    refine v_istore_n X (lv' := [(3, .int l1), (0, .ref l0), (1, .int l1), (2, .int l2)]) dX12_markOf_65 rfl (by decide) rfl ?_
    refine v_iconst X (v := 0) dX12_markOf_66 (by decide) ?_
    refine v_istore X (lv' := [(4, .int (0 : Int32)), (3, .int l1), (0, .ref l0), (1, .int l1), (2, .int l2)]) dX12_markOf_67 (by decide) rfl ?_
    refine v_lv (lv' := [(0, .ref l0), (1, .int l1), (2, .int l2), (3, .int l1), (4, .int (0 : Int32))]) [2, 3, 4, 1, 0] rfl ?_
    obtain ⟨n, h⟩ := h
    exact l69 n _ _ _ _ _ _ h
  have j49 : ∀  (S : hp) (l0 : Nat) (l1 : Int32) (l2 : Int32) (k0 : Int32) (k1 : Nat), wB_X12_markOf_49 Q S l0 l1 l2 k0 k1 → VM l b D cy 5 3 64 0 0 (pI Q) p e s m args below meth c S 0 0 49 [(0, .ref l0), (1, .int l1), (2, .int l2)] [.int k0, .ref k1] := by
    intro  S l0 l1 l2 k0 k1 h
    unfold wB_X12_markOf_49 at h
    obtain ⟨hk28, h⟩ := h
    refine v_callV X (av := [.int k0]) (T := TX12) (N := 26) (s_X12_began l b D cy h) hk28 (by decide) rfl wd1314 wd1316 wd52 wd62 k_X12_began dn_X12_began rfl ⟨Nat.le_of_ble_eq_true rfl, Nat.le_of_ble_eq_true rfl⟩ (Nat.le_of_ble_eq_true rfl) ⟨Nat.le_of_ble_eq_true rfl, Nat.le_of_ble_eq_true rfl⟩ dX12_markOf_49 rfl (kV (fun S27 h => ?_))
    exact j52 _ _ _ _ h
  unfold wp_X12_markOf at h
  show VM l b D cy 5 3 64 0 0 (pI Q) p e s m args below meth c S 0 0 0 [(0, .ref a0), (1, .int x1)] []
  refine v_aload_n X 0 dX12_markOf_0 rfl rfl ?_
  refine v_iload_n X 1 dX12_markOf_1 rfl rfl ?_
  obtain ⟨hk2, h⟩ := h
  refine v_callV X (av := [.int x1]) (T := TX12) (N := 26) (s_X12_kindOf l b D cy h) hk2 (by decide) rfl wd1132 wd1134 wd34 wd62 k_X12_kindOf dn_X12_kindOf rfl ⟨Nat.le_of_ble_eq_true rfl, Nat.le_of_ble_eq_true rfl⟩ (Nat.le_of_ble_eq_true rfl) ⟨Nat.le_of_ble_eq_true rfl, Nat.le_of_ble_eq_true rfl⟩ dX12_markOf_2 rfl (kI (fun r3 S1 h => ?_))
  refine v_istore_n X (lv' := [(2, .int r3), (0, .ref a0), (1, .int x1)]) dX12_markOf_5 rfl (by decide) rfl ?_
  refine v_iload_n X 0 dX12_markOf_6 rfl rfl ?_
  refine v_iconst X (v := 4) dX12_markOf_7 (by decide) ?_
  refine v_icmp_lt X (tgt := 31) dX12_markOf_8 (by decide) (fun c4 => ?_) (fun c4 => ?_)
  · replace h := h.1 c4
    refine v_iload_n X 0 dX12_markOf_31 rfl rfl ?_
    refine v_iconst X (v := 1) dX12_markOf_32 (by decide) ?_
    refine v_icmp_eq X (tgt := 52) dX12_markOf_33 (by decide) (fun c5 => ?_) (fun c5 => ?_)
    · replace h := h.1 c5
      refine v_lv (lv' := [(0, .ref a0), (1, .int x1), (2, .int r3)]) [1, 2, 0] rfl ?_
      exact j52 _ _ _ _ h
    · replace h := h.2 c5
      refine v_aload_n X 1 dX12_markOf_36 rfl rfl ?_
      refine v_iload_n X 0 dX12_markOf_37 rfl rfl ?_
      refine v_iconst X (v := 3) dX12_markOf_38 (by decide) ?_
      refine v_icmp_ne X (tgt := 47) dX12_markOf_39 (by decide) (fun c26 => ?_) (fun c26 => ?_)
      · replace h := h.1 c26
        refine v_bipush X (v := 24) dX12_markOf_47 (by decide) ?_
        refine v_lv (lv' := [(0, .ref a0), (1, .int x1), (2, .int r3)]) [1, 2, 0] rfl ?_
        exact j49 _ _ _ _ _ _ h
      · replace h := h.2 c26
        refine v_bipush X (v := 22) dX12_markOf_42 (by decide) ?_
        refine v_goto X (tgt := 49) dX12_markOf_44 (by decide) ?_
        refine v_lv (lv' := [(0, .ref a0), (1, .int x1), (2, .int r3)]) [1, 2, 0] rfl ?_
        exact j49 _ _ _ _ _ _ h
  · replace h := h.2 c4
    refine v_aload_n X 1 dX12_markOf_11 rfl rfl ?_
    refine v_bipush X (v := 23) dX12_markOf_12 (by decide) ?_
    obtain ⟨hk30, h⟩ := h
    refine v_callV X (av := [.int (23 : Int32)]) (T := TX12) (N := 26) (s_X12_began l b D cy h) hk30 (by decide) rfl wd1314 wd1316 wd52 wd62 k_X12_began dn_X12_began rfl ⟨Nat.le_of_ble_eq_true rfl, Nat.le_of_ble_eq_true rfl⟩ (Nat.le_of_ble_eq_true rfl) ⟨Nat.le_of_ble_eq_true rfl, Nat.le_of_ble_eq_true rfl⟩ dX12_markOf_14 rfl (kV (fun S29 h => ?_))
    refine v_aload_n X 1 dX12_markOf_17 rfl rfl ?_
    refine v_bipush X (v := 20) dX12_markOf_18 (by decide) ?_
    obtain ⟨hk32, h⟩ := h
    refine v_callV X (av := [.int (20 : Int32)]) (T := TX12) (N := 26) (s_X12_began l b D cy h) hk32 (by decide) rfl wd1314 wd1316 wd52 wd62 k_X12_began dn_X12_began rfl ⟨Nat.le_of_ble_eq_true rfl, Nat.le_of_ble_eq_true rfl⟩ (Nat.le_of_ble_eq_true rfl) ⟨Nat.le_of_ble_eq_true rfl, Nat.le_of_ble_eq_true rfl⟩ dX12_markOf_20 rfl (kV (fun S31 h => ?_))
    refine v_iload_n X 2 dX12_markOf_23 rfl rfl ?_
    refine v_aload_n X 1 dX12_markOf_24 rfl rfl ?_
    refine v_iload_n X 2 dX12_markOf_25 rfl rfl ?_
    obtain ⟨hk34, h⟩ := h
    refine v_callV X (av := [.int x1]) (T := TX12) (N := 26) (s_X12_gossipSize l b D cy h) hk34 (by decide) rfl wd1310 wd1312 wd51 wd62 k_X12_gossipSize dn_X12_gossipSize rfl ⟨Nat.le_of_ble_eq_true rfl, Nat.le_of_ble_eq_true rfl⟩ (Nat.le_of_ble_eq_true rfl) ⟨Nat.le_of_ble_eq_true rfl, Nat.le_of_ble_eq_true rfl⟩ dX12_markOf_26 rfl (kI (fun r35 S33 h => ?_))
    refine v_isub X dX12_markOf_29 ?_
    exact v_iret X hr hlk ⟨_, rfl, h⟩ dX12_markOf_30
def wB_X12_sizeOf_28 (Q : Int32 → hp → Prop) (S : hp) (l0 : Nat) (l1 : Int32) (l2 : Int32) : Prop :=
  hK S l0 = 11 ∧ wp_X12_began (fun S6 => hK S6 l0 = 11 ∧ wp_X12_plainSize (fun r10 S8 => hK S8 l0 = 11 ∧ wp_X12_markOf (fun r13 S11 => ∀ v14 : Int32, v14 = (r10 + r13) → ((¬ l2 = (2 : Int32) → Q v14 S11) ∧ (l2 = (2 : Int32) → Q (-v14) S11))) S8 l0 l1) S6 l0 l1) S l0 (11 : Int32)
def wp_X12_sizeOf (Q : Int32 → hp → Prop) (S : hp) (a0 : Nat) (x1 : Int32) : Prop :=
  hK S a0 = 11 ∧ wp_X12_kindOf (fun r3 S1 => ((r3 < (4 : Int32) → ((¬ r3 = (2 : Int32) → wB_X12_sizeOf_28 Q S1 a0 x1 r3) ∧ (r3 = (2 : Int32) → hK S1 a0 = 11 ∧ wp_X12_began (fun S16 => wB_X12_sizeOf_28 Q S16 a0 x1 r3) S1 a0 (12 : Int32)))) ∧ (¬ r3 < (4 : Int32) → hK S1 a0 = 11 ∧ wp_X12_gossipSize (fun r20 S18 => Q r20 S18) S1 a0 x1))) S a0 x1
theorem k_X12_sizeOf : Cond.code yX12_sizeOf cX12_sizeOf 4 (some .int) ∈ gtb := mg 1309 (by decide +kernel) (by decide +kernel)
theorem dn_X12_sizeOf : yX12_sizeOf.cls ≠ "java/lang/invoke/MethodHandle" ∧ yX12_sizeOf.cls ≠ "java/lang/invoke/VarHandle" ∧ (parseMethodDescriptor yX12_sizeOf.desc).map (fun d => d.parameters.length) = some 1 := by decide +kernel
set_option maxRecDepth 100000 in
set_option maxHeartbeats 4000000 in
theorem s_X12_sizeOf (l : Launch) (b : Nat) (D : va_G) (cy : Nat → ClassId) {Q : Int32 → hp → Prop} {S : hp} {a0 : Nat} {x1 : Int32} (h : wp_X12_sizeOf Q S a0 x1) : MT l yX12_sizeOf cX12_sizeOf 4 (some .int) 4 88 0 0 b D cy S [.ref a0, .int x1] (pI Q) := by
  refine MT.of (by decide +kernel) (Nat.le_of_ble_eq_true rfl) ?_
  intro p e s m args below meth c X hr hlk hnm
  have j28 : ∀  (S : hp) (l0 : Nat) (l1 : Int32) (l2 : Int32), wB_X12_sizeOf_28 Q S l0 l1 l2 → VM l b D cy 4 4 88 0 0 (pI Q) p e s m args below meth c S 0 0 28 [(0, .ref l0), (1, .int l1), (2, .int l2)] [] := by
    intro  S l0 l1 l2 h
    unfold wB_X12_sizeOf_28 at h
    refine v_aload_n X 0 dX12_sizeOf_28 rfl rfl ?_
    refine v_bipush X (v := 11) dX12_sizeOf_29 (by decide) ?_
    obtain ⟨hk7, h⟩ := h
    refine v_callV X (av := [.int (11 : Int32)]) (T := TX12) (N := 26) (s_X12_began l b D cy h) hk7 (by decide) rfl wd1314 wd1316 wd52 wd62 k_X12_began dn_X12_began rfl ⟨Nat.le_of_ble_eq_true rfl, Nat.le_of_ble_eq_true rfl⟩ (Nat.le_of_ble_eq_true rfl) ⟨Nat.le_of_ble_eq_true rfl, Nat.le_of_ble_eq_true rfl⟩ dX12_sizeOf_31 rfl (kV (fun S6 h => ?_))
    refine v_aload_n X 0 dX12_sizeOf_34 rfl rfl ?_
    refine v_iload_n X 1 dX12_sizeOf_35 rfl rfl ?_
    obtain ⟨hk9, h⟩ := h
    refine v_callV X (av := [.int l1]) (T := TX12) (N := 26) (s_X12_plainSize l b D cy h) hk9 (by decide) rfl wd1318 wd1320 wd53 wd62 k_X12_plainSize dn_X12_plainSize rfl ⟨Nat.le_of_ble_eq_true rfl, Nat.le_of_ble_eq_true rfl⟩ (Nat.le_of_ble_eq_true rfl) ⟨Nat.le_of_ble_eq_true rfl, Nat.le_of_ble_eq_true rfl⟩ dX12_sizeOf_36 rfl (kI (fun r10 S8 h => ?_))
    refine v_istore_n X (lv' := [(3, .int r10), (0, .ref l0), (1, .int l1), (2, .int l2)]) dX12_sizeOf_39 rfl (by decide) rfl ?_
    refine v_iload_n X 0 dX12_sizeOf_40 rfl rfl ?_
    refine v_aload_n X 1 dX12_sizeOf_41 rfl rfl ?_
    refine v_iload_n X 2 dX12_sizeOf_42 rfl rfl ?_
    obtain ⟨hk12, h⟩ := h
    refine v_callV X (av := [.int l1]) (T := TX12) (N := 26) (s_X12_markOf l b D cy h) hk12 (by decide) rfl wd1322 wd1324 wd54 wd62 k_X12_markOf dn_X12_markOf rfl ⟨Nat.le_of_ble_eq_true rfl, Nat.le_of_ble_eq_true rfl⟩ (Nat.le_of_ble_eq_true rfl) ⟨Nat.le_of_ble_eq_true rfl, Nat.le_of_ble_eq_true rfl⟩ dX12_sizeOf_43 rfl (kI (fun r13 S11 h => ?_))
    refine v_iadd X dX12_sizeOf_46 ?_
    refine v_nm (fun v14 hv14 => ?_)
    replace h := h v14 hv14
    refine v_istore_n X (lv' := [(3, .int v14), (0, .ref l0), (1, .int l1), (2, .int l2)]) dX12_sizeOf_47 rfl (by decide) rfl ?_
    refine v_iload_n X 3 dX12_sizeOf_48 rfl rfl ?_
    refine v_iconst X (v := 2) dX12_sizeOf_49 (by decide) ?_
    refine v_icmp_ne X (tgt := 58) dX12_sizeOf_50 (by decide) (fun c15 => ?_) (fun c15 => ?_)
    · replace h := h.1 c15
      refine v_iload_n X 0 dX12_sizeOf_58 rfl rfl ?_
      exact v_iret X hr hlk ⟨_, rfl, h⟩ dX12_sizeOf_59
    · replace h := h.2 c15
      refine v_iload_n X 0 dX12_sizeOf_53 rfl rfl ?_
      refine v_ineg X dX12_sizeOf_54 ?_
      refine v_goto X (tgt := 59) dX12_sizeOf_55 (by decide) ?_
      exact v_iret X hr hlk ⟨_, rfl, h⟩ dX12_sizeOf_59
  unfold wp_X12_sizeOf at h
  show VM l b D cy 4 4 88 0 0 (pI Q) p e s m args below meth c S 0 0 0 [(0, .ref a0), (1, .int x1)] []
  refine v_aload_n X 0 dX12_sizeOf_0 rfl rfl ?_
  refine v_iload_n X 1 dX12_sizeOf_1 rfl rfl ?_
  obtain ⟨hk2, h⟩ := h
  refine v_callV X (av := [.int x1]) (T := TX12) (N := 26) (s_X12_kindOf l b D cy h) hk2 (by decide) rfl wd1132 wd1134 wd34 wd62 k_X12_kindOf dn_X12_kindOf rfl ⟨Nat.le_of_ble_eq_true rfl, Nat.le_of_ble_eq_true rfl⟩ (Nat.le_of_ble_eq_true rfl) ⟨Nat.le_of_ble_eq_true rfl, Nat.le_of_ble_eq_true rfl⟩ dX12_sizeOf_2 rfl (kI (fun r3 S1 h => ?_))
  refine v_istore_n X (lv' := [(2, .int r3), (0, .ref a0), (1, .int x1)]) dX12_sizeOf_5 rfl (by decide) rfl ?_
  refine v_iload_n X 0 dX12_sizeOf_6 rfl rfl ?_
  refine v_iconst X (v := 4) dX12_sizeOf_7 (by decide) ?_
  refine v_icmp_lt X (tgt := 17) dX12_sizeOf_8 (by decide) (fun c4 => ?_) (fun c4 => ?_)
  · replace h := h.1 c4
    refine v_iload_n X 0 dX12_sizeOf_17 rfl rfl ?_
    refine v_iconst X (v := 2) dX12_sizeOf_18 (by decide) ?_
    refine v_icmp_ne X (tgt := 28) dX12_sizeOf_19 (by decide) (fun c5 => ?_) (fun c5 => ?_)
    · replace h := h.1 c5
      refine v_lv (lv' := [(0, .ref a0), (1, .int x1), (2, .int r3)]) [1, 2, 0] rfl ?_
      exact j28 _ _ _ _ h
    · replace h := h.2 c5
      refine v_aload_n X 1 dX12_sizeOf_22 rfl rfl ?_
      refine v_bipush X (v := 12) dX12_sizeOf_23 (by decide) ?_
      obtain ⟨hk17, h⟩ := h
      refine v_callV X (av := [.int (12 : Int32)]) (T := TX12) (N := 26) (s_X12_began l b D cy h) hk17 (by decide) rfl wd1314 wd1316 wd52 wd62 k_X12_began dn_X12_began rfl ⟨Nat.le_of_ble_eq_true rfl, Nat.le_of_ble_eq_true rfl⟩ (Nat.le_of_ble_eq_true rfl) ⟨Nat.le_of_ble_eq_true rfl, Nat.le_of_ble_eq_true rfl⟩ dX12_sizeOf_25 rfl (kV (fun S16 h => ?_))
      refine v_lv (lv' := [(0, .ref a0), (1, .int x1), (2, .int r3)]) [1, 2, 0] rfl ?_
      exact j28 _ _ _ _ h
  · replace h := h.2 c4
    refine v_aload_n X 1 dX12_sizeOf_11 rfl rfl ?_
    refine v_iload_n X 2 dX12_sizeOf_12 rfl rfl ?_
    obtain ⟨hk19, h⟩ := h
    refine v_callV X (av := [.int x1]) (T := TX12) (N := 26) (s_X12_gossipSize l b D cy h) hk19 (by decide) rfl wd1310 wd1312 wd51 wd62 k_X12_gossipSize dn_X12_gossipSize rfl ⟨Nat.le_of_ble_eq_true rfl, Nat.le_of_ble_eq_true rfl⟩ (Nat.le_of_ble_eq_true rfl) ⟨Nat.le_of_ble_eq_true rfl, Nat.le_of_ble_eq_true rfl⟩ dX12_sizeOf_13 rfl (kI (fun r20 S18 h => ?_))
    exact v_iret X hr hlk ⟨_, rfl, h⟩ dX12_sizeOf_16
def wp_X12_ask (Q : Int32 → hp → Prop) (S : hp) (a0 : Nat) (x1 : Int32) (x2 : Int32) : Prop :=
  hK S a0 = 11 ∧ ∀ S2 : hp, S2 = setI S a0 0 (0 : Int32) → wp_X12_isMouth (fun r5 S4 => ((r5 = 0 → Q (-1000001 : Int32) S4) ∧ (¬ r5 = 0 → wp_X12_in (fun r8 S7 => ((¬ r8 = 0 → hK S7 a0 = 11 ∧ ∀ S11 : hp, S11 = setI S7 a0 25 (0 : Int32) → ((¬ x2 = 0 → wp_X12_markOf (fun r15 S14 => Q r15 S14) S11 a0 x1) ∧ (x2 = 0 → wp_X12_sizeOf (fun r17 S16 => Q r17 S16) S11 a0 x1))) ∧ (r8 = 0 → Q (-1000001 : Int32) S7))) S4 ((x2).toInt64) ((0 : Int64)) ((1 : Int64))))) S2 a0 x1
theorem k_X12_ask : Cond.code yX12_ask cX12_ask 3 (some .int) ∈ gtb := mg 1305 (by decide +kernel) (by decide +kernel)
theorem dn_X12_ask : yX12_ask.cls ≠ "java/lang/invoke/MethodHandle" ∧ yX12_ask.cls ≠ "java/lang/invoke/VarHandle" ∧ (parseMethodDescriptor yX12_ask.desc).map (fun d => d.parameters.length) = some 2 := by decide +kernel
set_option maxRecDepth 100000 in
set_option maxHeartbeats 4000000 in
theorem s_X12_ask (l : Launch) (b : Nat) (D : va_G) (cy : Nat → ClassId) {Q : Int32 → hp → Prop} {S : hp} {a0 : Nat} {x1 : Int32} {x2 : Int32} (h : wp_X12_ask Q S a0 x1 x2) : MT l yX12_ask cX12_ask 3 (some .int) 5 111 0 0 b D cy S [.ref a0, .int x1, .int x2] (pI Q) := by
  refine MT.of (by decide +kernel) (Nat.le_of_ble_eq_true rfl) ?_
  intro p e s m args below meth c X hr hlk hnm
  unfold wp_X12_ask at h
  show VM l b D cy 3 5 111 0 0 (pI Q) p e s m args below meth c S 0 0 0 [(0, .ref a0), (1, .int x1), (2, .int x2)] []
  refine v_aload_n X 0 dX12_ask_0 rfl rfl ?_
  refine v_iconst X (v := 0) dX12_ask_1 (by decide) ?_
  obtain ⟨hk1, h⟩ := h
  refine v_putI X (T := TX12) (N := 26) (k := 0) hk1 (by decide) rfl (by decide) inX12 wd939 tyX12 tyX12_ok nmX12 rfl rfl rfl rfl dX12_ask_2 ?_
  refine v_nmS (fun S2 eS2 => ?_)
  replace h := h S2 eS2
  have hk3 : hK S2 a0 = 11 := by rw [eS2]; exact hk1
  refine v_aload_n X 0 dX12_ask_5 rfl rfl ?_
  refine v_iload_n X 1 dX12_ask_6 rfl rfl ?_
  refine v_callV X (av := [.int x1]) (T := TX12) (N := 26) (s_X12_isMouth l b D cy h) hk3 (by decide) rfl wd1115 wd1117 wd31 wd62 k_X12_isMouth dn_X12_isMouth rfl ⟨Nat.le_of_ble_eq_true rfl, Nat.le_of_ble_eq_true rfl⟩ (Nat.le_of_ble_eq_true rfl) ⟨Nat.le_of_ble_eq_true rfl, Nat.le_of_ble_eq_true rfl⟩ dX12_ask_7 rfl (kI (fun r5 S4 h => ?_))
  refine v_if_eq X (tgt := 23) dX12_ask_10 (by decide) (fun c6 => ?_) (fun c6 => ?_)
  · replace h := h.1 c6
    refine v_ldc X wd1030 dX12_ask_23 ?_
    exact v_iret X hr hlk ⟨_, rfl, h⟩ dX12_ask_25
  · replace h := h.2 c6
    refine v_iload_n X 2 dX12_ask_13 rfl rfl ?_
    refine v_i2l X dX12_ask_14 ?_
    refine v_lconst X (v := 0) dX12_ask_15 (by decide) ?_
    refine v_lconst X (v := 1) dX12_ask_16 (by decide) ?_
    refine v_callS X (av := [.long (x2).toInt64, .long (0 : Int64), .long (1 : Int64)]) (s_X12_in l b D cy h) wd1026 wd1027 wd62 k_X12_in dn_X12_in rfl ⟨Nat.le_of_ble_eq_true rfl, Nat.le_of_ble_eq_true rfl⟩ (Nat.le_of_ble_eq_true rfl) ⟨Nat.le_of_ble_eq_true rfl, Nat.le_of_ble_eq_true rfl⟩ dX12_ask_17 rfl (kI (fun r8 S7 h => ?_))
    refine v_if_ne X (tgt := 26) dX12_ask_20 (by decide) (fun c9 => ?_) (fun c9 => ?_)
    · replace h := h.1 c9
      refine v_aload_n X 0 dX12_ask_26 rfl rfl ?_
      refine v_iconst X (v := 0) dX12_ask_27 (by decide) ?_
      obtain ⟨hk10, h⟩ := h
      refine v_putI X (T := TX12) (N := 26) (k := 25) hk10 (by decide) rfl (by decide) inX12 wd964 tyX12 tyX12_ok nmX12 rfl rfl rfl rfl dX12_ask_28 ?_
      refine v_nmS (fun S11 eS11 => ?_)
      replace h := h S11 eS11
      have hk12 : hK S11 a0 = 11 := by rw [eS11]; exact hk10
      refine v_iload_n X 2 dX12_ask_31 rfl rfl ?_
      refine v_if_ne X (tgt := 43) dX12_ask_32 (by decide) (fun c13 => ?_) (fun c13 => ?_)
      · replace h := h.1 c13
        refine v_aload_n X 0 dX12_ask_43 rfl rfl ?_
        refine v_iload_n X 1 dX12_ask_44 rfl rfl ?_
        refine v_callV X (av := [.int x1]) (T := TX12) (N := 26) (s_X12_markOf l b D cy h) hk12 (by decide) rfl wd1322 wd1324 wd54 wd62 k_X12_markOf dn_X12_markOf rfl ⟨Nat.le_of_ble_eq_true rfl, Nat.le_of_ble_eq_true rfl⟩ (Nat.le_of_ble_eq_true rfl) ⟨Nat.le_of_ble_eq_true rfl, Nat.le_of_ble_eq_true rfl⟩ dX12_ask_45 rfl (kI (fun r15 S14 h => ?_))
        exact v_iret X hr hlk ⟨_, rfl, h⟩ dX12_ask_48
      · replace h := h.2 c13
        refine v_aload_n X 0 dX12_ask_35 rfl rfl ?_
        refine v_iload_n X 1 dX12_ask_36 rfl rfl ?_
        refine v_callV X (av := [.int x1]) (T := TX12) (N := 26) (s_X12_sizeOf l b D cy h) hk12 (by decide) rfl wd1306 wd1308 wd50 wd62 k_X12_sizeOf dn_X12_sizeOf rfl ⟨Nat.le_of_ble_eq_true rfl, Nat.le_of_ble_eq_true rfl⟩ (Nat.le_of_ble_eq_true rfl) ⟨Nat.le_of_ble_eq_true rfl, Nat.le_of_ble_eq_true rfl⟩ dX12_ask_37 rfl (kI (fun r17 S16 h => ?_))
        refine v_goto X (tgt := 48) dX12_ask_40 (by decide) ?_
        exact v_iret X hr hlk ⟨_, rfl, h⟩ dX12_ask_48
    · replace h := h.2 c9
      refine v_ldc X wd1030 dX12_ask_23 ?_
      exact v_iret X hr hlk ⟨_, rfl, h⟩ dX12_ask_25
def wp_X12_trace (Q : Int32 → hp → Prop) (S : hp) (a0 : Nat) (x1 : Int32) : Prop :=
  hK S a0 = 11 ∧ ∀ S2 : hp, S2 = setI S a0 0 (0 : Int32) → wp_X12_in (fun r5 S4 => ((r5 = 0 → Q (-1000000 : Int32) S4) ∧ (¬ r5 = 0 → hK S4 a0 = 11 ∧ ∃ r8 : Nat, hR S4 a0 24 = some r8 ∧ hK S4 r8 = 12 ∧ vp_in x1 (hN S4 r8) ∧ Q (hI S4 r8 (x1).toNatClampNeg) S4))) S2 ((x1).toInt64) ((0 : Int64)) ((((hI S2 a0 25) - (1 : Int32))).toInt64)
theorem k_X12_trace : Cond.code yX12_trace cX12_trace 2 (some .int) ∈ gtb := mg 1329 (by decide +kernel) (by decide +kernel)
theorem dn_X12_trace : yX12_trace.cls ≠ "java/lang/invoke/MethodHandle" ∧ yX12_trace.cls ≠ "java/lang/invoke/VarHandle" ∧ (parseMethodDescriptor yX12_trace.desc).map (fun d => d.parameters.length) = some 1 := by decide +kernel
set_option maxRecDepth 100000 in
set_option maxHeartbeats 4000000 in
theorem s_X12_trace (l : Launch) (b : Nat) (D : va_G) (cy : Nat → ClassId) {Q : Int32 → hp → Prop} {S : hp} {a0 : Nat} {x1 : Int32} (h : wp_X12_trace Q S a0 x1) : MT l yX12_trace cX12_trace 2 (some .int) 1 25 0 0 b D cy S [.ref a0, .int x1] (pI Q) := by
  refine MT.of (by decide +kernel) (Nat.le_of_ble_eq_true rfl) ?_
  intro p e s m args below meth c X hr hlk hnm
  unfold wp_X12_trace at h
  show VM l b D cy 2 1 25 0 0 (pI Q) p e s m args below meth c S 0 0 0 [(0, .ref a0), (1, .int x1)] []
  refine v_aload_n X 0 dX12_trace_0 rfl rfl ?_
  refine v_iconst X (v := 0) dX12_trace_1 (by decide) ?_
  obtain ⟨hk1, h⟩ := h
  refine v_putI X (T := TX12) (N := 26) (k := 0) hk1 (by decide) rfl (by decide) inX12 wd939 tyX12 tyX12_ok nmX12 rfl rfl rfl rfl dX12_trace_2 ?_
  refine v_nmS (fun S2 eS2 => ?_)
  replace h := h S2 eS2
  have hk3 : hK S2 a0 = 11 := by rw [eS2]; exact hk1
  refine v_iload_n X 1 dX12_trace_5 rfl rfl ?_
  refine v_i2l X dX12_trace_6 ?_
  refine v_lconst X (v := 0) dX12_trace_7 (by decide) ?_
  refine v_aload_n X 0 dX12_trace_8 rfl rfl ?_
  refine v_getI X (T := TX12) (N := 26) (k := 25) hk3 (by decide) rfl (by decide) inX12 wd964 rfl dX12_trace_9 ?_
  refine v_iconst X (v := 1) dX12_trace_12 (by decide) ?_
  refine v_isub X dX12_trace_13 ?_
  refine v_i2l X dX12_trace_14 ?_
  refine v_callS X (av := [.long (x1).toInt64, .long (0 : Int64), .long (((hI S2 a0 25) - (1 : Int32))).toInt64]) (s_X12_in l b D cy h) wd1026 wd1027 wd62 k_X12_in dn_X12_in rfl ⟨Nat.le_of_ble_eq_true rfl, Nat.le_of_ble_eq_true rfl⟩ (Nat.le_of_ble_eq_true rfl) ⟨Nat.le_of_ble_eq_true rfl, Nat.le_of_ble_eq_true rfl⟩ dX12_trace_15 rfl (kI (fun r5 S4 h => ?_))
  refine v_if_eq X (tgt := 30) dX12_trace_18 (by decide) (fun c6 => ?_) (fun c6 => ?_)
  · replace h := h.1 c6
    refine v_ldc X wd1070 dX12_trace_30 ?_
    exact v_iret X hr hlk ⟨_, rfl, h⟩ dX12_trace_32
  · replace h := h.2 c6
    refine v_aload_n X 0 dX12_trace_21 rfl rfl ?_
    obtain ⟨hk7, h⟩ := h
    obtain ⟨r8, hr8, h⟩ := h
    refine v_getR X (T := TX12) (N := 26) (k := 24) hk7 (by decide) rfl (by decide) inX12 wd963 rfl dX12_trace_22 hr8 ?_
    refine v_iload_n X 1 dX12_trace_25 rfl rfl ?_
    obtain ⟨hk9, h⟩ := h
    obtain ⟨hi10, h⟩ := h
    refine v_iald X hk9 hi10 dX12_trace_26 ?_
    refine v_goto X (tgt := 32) dX12_trace_27 (by decide) ?_
    exact v_iret X hr hlk ⟨_, rfl, h⟩ dX12_trace_32
def wB_X12_count_75 (bk54 : hp → Nat → Int32 → Int32 → Prop) (Q : Int32 → hp → Prop) (S : hp) (l0 : Nat) (l3 : Int32) (k0 : Int32) (k1 : Int32) : Prop :=
  ∀ v10 : Int32, v10 = (k1 + k0) → ∀ v11 : Int32, v11 = l3 + (1 : Int32) → bk54 S l0 v10 v11
def wB_X12_count_54 (bk54 : hp → Nat → Int32 → Int32 → Prop) (Q : Int32 → hp → Prop) (S : hp) (l0 : Nat) (l2 : Int32) (l3 : Int32) : Prop :=
  (((8 : Int32) ≤ l3 → Q l2 S) ∧ (¬ (8 : Int32) ≤ l3 → hK S l0 = 11 ∧ ∃ r6 : Nat, hR S l0 2 = some r6 ∧ hK S r6 = 12 ∧ vp_in l3 (hN S r6) ∧ (((hI S r6 (l3).toNatClampNeg) < 0 → wB_X12_count_75 bk54 Q S l0 l3 (0 : Int32) l2) ∧ (¬ (hI S r6 (l3).toNatClampNeg) < 0 → wB_X12_count_75 bk54 Q S l0 l3 (1 : Int32) l2))))
def wl_X12_count_54 (Q : Int32 → hp → Prop) : Nat → hp → Nat → Int32 → Int32 → Prop
  | 0 => fun _ _ _ _ => False
  | n + 1 => wB_X12_count_54 (wl_X12_count_54 Q n) Q
def wB_X12_count_134 (bk108 : hp → Nat → Int32 → Int32 → Prop) (Q : Int32 → hp → Prop) (S : hp) (l0 : Nat) (l3 : Int32) (k0 : Int32) (k1 : Int32) : Prop :=
  ∀ v33 : Int32, v33 = (k1 + k0) → ∀ v34 : Int32, v34 = l3 + (1 : Int32) → bk108 S l0 v33 v34
def wB_X12_count_108 (bk108 : hp → Nat → Int32 → Int32 → Prop) (Q : Int32 → hp → Prop) (S : hp) (l0 : Nat) (l2 : Int32) (l3 : Int32) : Prop :=
  hK S l0 = 11 ∧ ∃ r26 : Nat, hR S l0 5 = some r26 ∧ hK S r26 = 12 ∧ vp_in (4 : Int32) (hN S r26) ∧ (((hI S r26 ((4 : Int32)).toNatClampNeg) ≤ l3 → Q l2 S) ∧ (¬ (hI S r26 ((4 : Int32)).toNatClampNeg) ≤ l3 → wp_X12_lineOf (fun r31 S30 => ((¬ r31 = (1 : Int32) → wB_X12_count_134 bk108 Q S30 l0 l3 (0 : Int32) l2) ∧ (r31 = (1 : Int32) → wB_X12_count_134 bk108 Q S30 l0 l3 (1 : Int32) l2))) S l0 l3 (0 : Int32)))
def wl_X12_count_108 (Q : Int32 → hp → Prop) : Nat → hp → Nat → Int32 → Int32 → Prop
  | 0 => fun _ _ _ _ => False
  | n + 1 => wB_X12_count_108 (wl_X12_count_108 Q n) Q
def wp_X12_count (Q : Int32 → hp → Prop) (S : hp) (a0 : Nat) (x1 : Int32) : Prop :=
  hK S a0 = 11 ∧ ∀ S2 : hp, S2 = setI S a0 0 (0 : Int32) → ((x1 = (0 : Int32) → ∃ n : Nat, wl_X12_count_54 Q n S2 a0 (0 : Int32) (0 : Int32)) ∧ (x1 = (1 : Int32) → ∃ r13 : Nat, hR S2 a0 5 = some r13 ∧ hK S2 r13 = 12 ∧ vp_in (2 : Int32) (hN S2 r13) ∧ Q (hI S2 r13 ((2 : Int32)).toNatClampNeg) S2) ∧ (x1 = (2 : Int32) → ∃ r17 : Nat, hR S2 a0 5 = some r17 ∧ hK S2 r17 = 12 ∧ vp_in (3 : Int32) (hN S2 r17) ∧ Q (hI S2 r17 ((3 : Int32)).toNatClampNeg) S2) ∧ (x1 = (3 : Int32) → ∃ r21 : Nat, hR S2 a0 5 = some r21 ∧ hK S2 r21 = 12 ∧ vp_in (4 : Int32) (hN S2 r21) ∧ Q (hI S2 r21 ((4 : Int32)).toNatClampNeg) S2) ∧ (x1 = (4 : Int32) → ∃ n : Nat, wl_X12_count_108 Q n S2 a0 (0 : Int32) (0 : Int32)) ∧ (x1 = (5 : Int32) → Q (hI S2 a0 8) S2) ∧ (x1 = (6 : Int32) → Q (hI S2 a0 10) S2) ∧ (¬ x1 = (0 : Int32) → ¬ x1 = (1 : Int32) → ¬ x1 = (2 : Int32) → ¬ x1 = (3 : Int32) → ¬ x1 = (4 : Int32) → ¬ x1 = (5 : Int32) → ¬ x1 = (6 : Int32) → Q (-1000001 : Int32) S2))
theorem k_X12_count : Cond.code yX12_count cX12_count 4 (some .int) ∈ gtb := mg 1333 (by decide +kernel) (by decide +kernel)
theorem dn_X12_count : yX12_count.cls ≠ "java/lang/invoke/MethodHandle" ∧ yX12_count.cls ≠ "java/lang/invoke/VarHandle" ∧ (parseMethodDescriptor yX12_count.desc).map (fun d => d.parameters.length) = some 1 := by decide +kernel
set_option maxRecDepth 100000 in
set_option maxHeartbeats 4000000 in
theorem s_X12_count (l : Launch) (b : Nat) (D : va_G) (cy : Nat → ClassId) {Q : Int32 → hp → Prop} {S : hp} {a0 : Nat} {x1 : Int32} (h : wp_X12_count Q S a0 x1) : MT l yX12_count cX12_count 4 (some .int) 1 22 0 0 b D cy S [.ref a0, .int x1] (pI Q) := by
  refine MT.of (by decide +kernel) (Nat.le_of_ble_eq_true rfl) ?_
  intro p e s m args below meth c X hr hlk hnm
  have j75 : ∀ (bk54 : hp → Nat → Int32 → Int32 → Prop) (hbk54 : ∀ (S : hp) (l0 : Nat) (l2 : Int32) (l3 : Int32), bk54 S l0 l2 l3 → VM l b D cy 4 1 22 0 0 (pI Q) p e s m args below meth c S 0 0 54 [(0, .ref l0), (2, .int l2), (3, .int l3)] []) (S : hp) (l0 : Nat) (l3 : Int32) (k0 : Int32) (k1 : Int32), wB_X12_count_75 bk54 Q S l0 l3 k0 k1 → VM l b D cy 4 1 22 0 0 (pI Q) p e s m args below meth c S 0 0 75 [(0, .ref l0), (3, .int l3)] [.int k0, .int k1] := by
    intro bk54 hbk54 S l0 l3 k0 k1 h
    unfold wB_X12_count_75 at h
    refine v_iadd X dX12_count_75 ?_
    refine v_nm (fun v10 hv10 => ?_)
    replace h := h v10 hv10
    refine v_istore_n X (lv' := [(2, .int v10), (0, .ref l0), (3, .int l3)]) dX12_count_76 rfl (by decide) rfl ?_
    obtain ⟨v11, hv11⟩ : ∃ y : Int32, y = l3 + (1 : Int32) := ⟨_, rfl⟩
    replace h := h v11 hv11
    refine v_iinc X (j := 2) (v := v11) (lv' := [(3, .int v11), (2, .int v10), (0, .ref l0)]) dX12_count_77 rfl (by rw [hv11] <;> rfl) (by decide) rfl ?_
    refine v_goto X (tgt := 54) dX12_count_80 (by decide) ?_
    refine v_lv (lv' := [(0, .ref l0), (2, .int v10), (3, .int v11)]) [2, 1, 0] rfl ?_
    exact hbk54 _ _ _ _ h
  have j54 : ∀ (bk54 : hp → Nat → Int32 → Int32 → Prop) (hbk54 : ∀ (S : hp) (l0 : Nat) (l2 : Int32) (l3 : Int32), bk54 S l0 l2 l3 → VM l b D cy 4 1 22 0 0 (pI Q) p e s m args below meth c S 0 0 54 [(0, .ref l0), (2, .int l2), (3, .int l3)] []) (S : hp) (l0 : Nat) (l2 : Int32) (l3 : Int32), wB_X12_count_54 bk54 Q S l0 l2 l3 → VM l b D cy 4 1 22 0 0 (pI Q) p e s m args below meth c S 0 0 54 [(0, .ref l0), (2, .int l2), (3, .int l3)] [] := by
    intro bk54 hbk54 S l0 l2 l3 h
    unfold wB_X12_count_54 at h
    refine v_iload_n X 2 dX12_count_54 rfl rfl ?_
    refine v_bipush X (v := 8) dX12_count_55 (by decide) ?_
    refine v_icmp_ge X (tgt := 83) dX12_count_57 (by decide) (fun c4 => ?_) (fun c4 => ?_)
    · replace h := h.1 c4
      refine v_iload_n X 1 dX12_count_83 rfl rfl ?_
      exact v_iret X hr hlk ⟨_, rfl, h⟩ dX12_count_84
    · replace h := h.2 c4
      refine v_iload_n X 1 dX12_count_60 rfl rfl ?_
      refine v_aload_n X 0 dX12_count_61 rfl rfl ?_
      obtain ⟨hk5, h⟩ := h
      obtain ⟨r6, hr6, h⟩ := h
      refine v_getR X (T := TX12) (N := 26) (k := 2) hk5 (by decide) rfl (by decide) inX12 wd941 rfl dX12_count_62 hr6 ?_
      refine v_iload_n X 2 dX12_count_65 rfl rfl ?_
      obtain ⟨hk7, h⟩ := h
      obtain ⟨hi8, h⟩ := h
      refine v_iald X hk7 hi8 dX12_count_66 ?_
      refine v_if_lt X (tgt := 74) dX12_count_67 (by decide) (fun c9 => ?_) (fun c9 => ?_)
      · replace h := h.1 c9
        refine v_iconst X (v := 0) dX12_count_74 (by decide) ?_
        refine v_lv (lv' := [(0, .ref l0), (3, .int l3)]) [0, 2] rfl ?_
        exact j75 bk54 hbk54 _ _ _ _ _ h
      · replace h := h.2 c9
        refine v_iconst X (v := 1) dX12_count_70 (by decide) ?_
        refine v_goto X (tgt := 75) dX12_count_71 (by decide) ?_
        refine v_lv (lv' := [(0, .ref l0), (3, .int l3)]) [0, 2] rfl ?_
        exact j75 bk54 hbk54 _ _ _ _ _ h
  have l54 : ∀  (n : Nat) (S : hp) (l0 : Nat) (l2 : Int32) (l3 : Int32), wl_X12_count_54 Q n S l0 l2 l3 → VM l b D cy 4 1 22 0 0 (pI Q) p e s m args below meth c S 0 0 54 [(0, .ref l0), (2, .int l2), (3, .int l3)] [] := by
    intro  n
    induction n with
    | zero => intro S l0 l2 l3 h; exact h.elim
    | succ n ih => intro S l0 l2 l3 h; exact j54 (wl_X12_count_54 Q n) ih S l0 l2 l3 h
  have j134 : ∀ (bk108 : hp → Nat → Int32 → Int32 → Prop) (hbk108 : ∀ (S : hp) (l0 : Nat) (l2 : Int32) (l3 : Int32), bk108 S l0 l2 l3 → VM l b D cy 4 1 22 0 0 (pI Q) p e s m args below meth c S 0 0 108 [(0, .ref l0), (2, .int l2), (3, .int l3)] []) (S : hp) (l0 : Nat) (l3 : Int32) (k0 : Int32) (k1 : Int32), wB_X12_count_134 bk108 Q S l0 l3 k0 k1 → VM l b D cy 4 1 22 0 0 (pI Q) p e s m args below meth c S 0 0 134 [(0, .ref l0), (3, .int l3)] [.int k0, .int k1] := by
    intro bk108 hbk108 S l0 l3 k0 k1 h
    unfold wB_X12_count_134 at h
    refine v_iadd X dX12_count_134 ?_
    refine v_nm (fun v33 hv33 => ?_)
    replace h := h v33 hv33
    refine v_istore_n X (lv' := [(2, .int v33), (0, .ref l0), (3, .int l3)]) dX12_count_135 rfl (by decide) rfl ?_
    obtain ⟨v34, hv34⟩ : ∃ y : Int32, y = l3 + (1 : Int32) := ⟨_, rfl⟩
    replace h := h v34 hv34
    refine v_iinc X (j := 2) (v := v34) (lv' := [(3, .int v34), (2, .int v33), (0, .ref l0)]) dX12_count_136 rfl (by rw [hv34] <;> rfl) (by decide) rfl ?_
    refine v_goto X (tgt := 108) dX12_count_139 (by decide) ?_
    refine v_lv (lv' := [(0, .ref l0), (2, .int v33), (3, .int v34)]) [2, 1, 0] rfl ?_
    exact hbk108 _ _ _ _ h
  have j108 : ∀ (bk108 : hp → Nat → Int32 → Int32 → Prop) (hbk108 : ∀ (S : hp) (l0 : Nat) (l2 : Int32) (l3 : Int32), bk108 S l0 l2 l3 → VM l b D cy 4 1 22 0 0 (pI Q) p e s m args below meth c S 0 0 108 [(0, .ref l0), (2, .int l2), (3, .int l3)] []) (S : hp) (l0 : Nat) (l2 : Int32) (l3 : Int32), wB_X12_count_108 bk108 Q S l0 l2 l3 → VM l b D cy 4 1 22 0 0 (pI Q) p e s m args below meth c S 0 0 108 [(0, .ref l0), (2, .int l2), (3, .int l3)] [] := by
    intro bk108 hbk108 S l0 l2 l3 h
    unfold wB_X12_count_108 at h
    refine v_iload_n X 2 dX12_count_108 rfl rfl ?_
    refine v_aload_n X 0 dX12_count_109 rfl rfl ?_
    obtain ⟨hk25, h⟩ := h
    obtain ⟨r26, hr26, h⟩ := h
    refine v_getR X (T := TX12) (N := 26) (k := 5) hk25 (by decide) rfl (by decide) inX12 wd944 rfl dX12_count_110 hr26 ?_
    refine v_iconst X (v := 4) dX12_count_113 (by decide) ?_
    obtain ⟨hk27, h⟩ := h
    obtain ⟨hi28, h⟩ := h
    refine v_iald X hk27 hi28 dX12_count_114 ?_
    refine v_icmp_ge X (tgt := 142) dX12_count_115 (by decide) (fun c29 => ?_) (fun c29 => ?_)
    · replace h := h.1 c29
      refine v_iload_n X 1 dX12_count_142 rfl rfl ?_
      exact v_iret X hr hlk ⟨_, rfl, h⟩ dX12_count_143
    · replace h := h.2 c29
      refine v_iload_n X 1 dX12_count_118 rfl rfl ?_
      refine v_aload_n X 0 dX12_count_119 rfl rfl ?_
      refine v_iload_n X 2 dX12_count_120 rfl rfl ?_
      refine v_iconst X (v := 0) dX12_count_121 (by decide) ?_
      refine v_callV X (av := [.int l3, .int (0 : Int32)]) (T := TX12) (N := 26) (s_X12_lineOf l b D cy h) hk25 (by decide) rfl wd1184 wd1186 wd40 wd62 k_X12_lineOf dn_X12_lineOf rfl ⟨Nat.le_of_ble_eq_true rfl, Nat.le_of_ble_eq_true rfl⟩ (Nat.le_of_ble_eq_true rfl) ⟨Nat.le_of_ble_eq_true rfl, Nat.le_of_ble_eq_true rfl⟩ dX12_count_122 rfl (kI (fun r31 S30 h => ?_))
      refine v_iconst X (v := 1) dX12_count_125 (by decide) ?_
      refine v_icmp_ne X (tgt := 133) dX12_count_126 (by decide) (fun c32 => ?_) (fun c32 => ?_)
      · replace h := h.1 c32
        refine v_iconst X (v := 0) dX12_count_133 (by decide) ?_
        refine v_lv (lv' := [(0, .ref l0), (3, .int l3)]) [0, 2] rfl ?_
        exact j134 bk108 hbk108 _ _ _ _ _ h
      · replace h := h.2 c32
        refine v_iconst X (v := 1) dX12_count_129 (by decide) ?_
        refine v_goto X (tgt := 134) dX12_count_130 (by decide) ?_
        refine v_lv (lv' := [(0, .ref l0), (3, .int l3)]) [0, 2] rfl ?_
        exact j134 bk108 hbk108 _ _ _ _ _ h
  have l108 : ∀  (n : Nat) (S : hp) (l0 : Nat) (l2 : Int32) (l3 : Int32), wl_X12_count_108 Q n S l0 l2 l3 → VM l b D cy 4 1 22 0 0 (pI Q) p e s m args below meth c S 0 0 108 [(0, .ref l0), (2, .int l2), (3, .int l3)] [] := by
    intro  n
    induction n with
    | zero => intro S l0 l2 l3 h; exact h.elim
    | succ n ih => intro S l0 l2 l3 h; exact j108 (wl_X12_count_108 Q n) ih S l0 l2 l3 h
  unfold wp_X12_count at h
  show VM l b D cy 4 1 22 0 0 (pI Q) p e s m args below meth c S 0 0 0 [(0, .ref a0), (1, .int x1)] []
  refine v_aload_n X 0 dX12_count_0 rfl rfl ?_
  refine v_iconst X (v := 0) dX12_count_1 (by decide) ?_
  obtain ⟨hk1, h⟩ := h
  refine v_putI X (T := TX12) (N := 26) (k := 0) hk1 (by decide) rfl (by decide) inX12 wd939 tyX12 tyX12_ok nmX12 rfl rfl rfl rfl dX12_count_2 ?_
  refine v_nmS (fun S2 eS2 => ?_)
  replace h := h S2 eS2
  have hk3 : hK S2 a0 = 11 := by rw [eS2]; exact hk1
  refine v_iconst X (v := 0) dX12_count_5 (by decide) ?_
  refine v_istore_n X (lv' := [(2, .int (0 : Int32)), (0, .ref a0), (1, .int x1)]) dX12_count_6 rfl (by decide) rfl ?_
  refine v_iload_n X 2 dX12_count_7 rfl rfl ?_
  by_cases c12 : x1 = (0 : Int32)
  · replace h := h.1 c12
    refine v_tabIn X (off := 44) (tgt := 52) (0 : Int32) c12 dX12_count_8 (by decide) (by decide) (by decide) (by decide) ?_
    refine v_iconst X (v := 0) dX12_count_52 (by decide) ?_
    refine v_istore_n X (lv' := [(3, .int (0 : Int32)), (2, .int (0 : Int32)), (0, .ref a0), (1, .int x1)]) dX12_count_53 rfl (by decide) rfl ?_
    refine v_lv (lv' := [(0, .ref a0), (2, .int (0 : Int32)), (3, .int (0 : Int32))]) [2, 1, 0] rfl ?_
    obtain ⟨n, h⟩ := h
    exact l54 n _ _ _ _ h
  by_cases c16 : x1 = (1 : Int32)
  · replace h := h.2.1 c16
    refine v_tabIn X (off := 77) (tgt := 85) (1 : Int32) c16 dX12_count_8 (by decide) (by decide) (by decide) (by decide) ?_
    refine v_aload_n X 1 dX12_count_85 rfl rfl ?_
    obtain ⟨r13, hr13, h⟩ := h
    refine v_getR X (T := TX12) (N := 26) (k := 5) hk3 (by decide) rfl (by decide) inX12 wd944 rfl dX12_count_86 hr13 ?_
    refine v_iconst X (v := 2) dX12_count_89 (by decide) ?_
    obtain ⟨hk14, h⟩ := h
    obtain ⟨hi15, h⟩ := h
    refine v_iald X hk14 hi15 dX12_count_90 ?_
    exact v_iret X hr hlk ⟨_, rfl, h⟩ dX12_count_91
  by_cases c20 : x1 = (2 : Int32)
  · replace h := h.2.2.1 c20
    refine v_tabIn X (off := 84) (tgt := 92) (2 : Int32) c20 dX12_count_8 (by decide) (by decide) (by decide) (by decide) ?_
    refine v_aload_n X 1 dX12_count_92 rfl rfl ?_
    obtain ⟨r17, hr17, h⟩ := h
    refine v_getR X (T := TX12) (N := 26) (k := 5) hk3 (by decide) rfl (by decide) inX12 wd944 rfl dX12_count_93 hr17 ?_
    refine v_iconst X (v := 3) dX12_count_96 (by decide) ?_
    obtain ⟨hk18, h⟩ := h
    obtain ⟨hi19, h⟩ := h
    refine v_iald X hk18 hi19 dX12_count_97 ?_
    exact v_iret X hr hlk ⟨_, rfl, h⟩ dX12_count_98
  by_cases c24 : x1 = (3 : Int32)
  · replace h := h.2.2.2.1 c24
    refine v_tabIn X (off := 91) (tgt := 99) (3 : Int32) c24 dX12_count_8 (by decide) (by decide) (by decide) (by decide) ?_
    refine v_aload_n X 1 dX12_count_99 rfl rfl ?_
    obtain ⟨r21, hr21, h⟩ := h
    refine v_getR X (T := TX12) (N := 26) (k := 5) hk3 (by decide) rfl (by decide) inX12 wd944 rfl dX12_count_100 hr21 ?_
    refine v_iconst X (v := 4) dX12_count_103 (by decide) ?_
    obtain ⟨hk22, h⟩ := h
    obtain ⟨hi23, h⟩ := h
    refine v_iald X hk22 hi23 dX12_count_104 ?_
    exact v_iret X hr hlk ⟨_, rfl, h⟩ dX12_count_105
  by_cases c35 : x1 = (4 : Int32)
  · replace h := h.2.2.2.2.1 c35
    refine v_tabIn X (off := 98) (tgt := 106) (4 : Int32) c35 dX12_count_8 (by decide) (by decide) (by decide) (by decide) ?_
    refine v_iconst X (v := 0) dX12_count_106 (by decide) ?_
    refine v_istore_n X (lv' := [(3, .int (0 : Int32)), (2, .int (0 : Int32)), (0, .ref a0), (1, .int x1)]) dX12_count_107 rfl (by decide) rfl ?_
    refine v_lv (lv' := [(0, .ref a0), (2, .int (0 : Int32)), (3, .int (0 : Int32))]) [2, 1, 0] rfl ?_
    obtain ⟨n, h⟩ := h
    exact l108 n _ _ _ _ h
  by_cases c36 : x1 = (5 : Int32)
  · replace h := h.2.2.2.2.2.1 c36
    refine v_tabIn X (off := 136) (tgt := 144) (5 : Int32) c36 dX12_count_8 (by decide) (by decide) (by decide) (by decide) ?_
    refine v_aload_n X 1 dX12_count_144 rfl rfl ?_
    refine v_getI X (T := TX12) (N := 26) (k := 8) hk3 (by decide) rfl (by decide) inX12 wd947 rfl dX12_count_145 ?_
    exact v_iret X hr hlk ⟨_, rfl, h⟩ dX12_count_148
  by_cases c37 : x1 = (6 : Int32)
  · replace h := h.2.2.2.2.2.2.1 c37
    refine v_tabIn X (off := 141) (tgt := 149) (6 : Int32) c37 dX12_count_8 (by decide) (by decide) (by decide) (by decide) ?_
    refine v_aload_n X 1 dX12_count_149 rfl rfl ?_
    refine v_getI X (T := TX12) (N := 26) (k := 10) hk3 (by decide) rfl (by decide) inX12 wd949 rfl dX12_count_150 ?_
    exact v_iret X hr hlk ⟨_, rfl, h⟩ dX12_count_153
  replace h := h.2.2.2.2.2.2.2 c12 c16 c20 c24 c35 c36 c37
  refine v_tabOut X (tgt := 154) dX12_count_8 (by have zc12 := ne_ti (0 : Int32) 0 rfl c12; have zc16 := ne_ti (1 : Int32) 1 rfl c16; have zc20 := ne_ti (2 : Int32) 2 rfl c20; have zc24 := ne_ti (3 : Int32) 3 rfl c24; have zc35 := ne_ti (4 : Int32) 4 rfl c35; have zc36 := ne_ti (5 : Int32) 5 rfl c36; have zc37 := ne_ti (6 : Int32) 6 rfl c37; omega) (by decide) ?_
  refine v_ldc X wd1030 dX12_count_154 ?_
  exact v_iret X hr hlk ⟨_, rfl, h⟩ dX12_count_156
def wp_X12_status (Q : Int32 → hp → Prop) (S : hp) (a0 : Nat) : Prop :=
  hK S a0 = 11 ∧ ∀ S2 : hp, S2 = setI S a0 0 (0 : Int32) → Q (hI S2 a0 1) S2
theorem k_X12_status : Cond.code yX12_status cX12_status 1 (some .int) ∈ gtb := mg 1337 (by decide +kernel) (by decide +kernel)
theorem dn_X12_status : yX12_status.cls ≠ "java/lang/invoke/MethodHandle" ∧ yX12_status.cls ≠ "java/lang/invoke/VarHandle" ∧ (parseMethodDescriptor yX12_status.desc).map (fun d => d.parameters.length) = some 0 := by decide +kernel
set_option maxRecDepth 100000 in
set_option maxHeartbeats 4000000 in
theorem s_X12_status (l : Launch) (b : Nat) (D : va_G) (cy : Nat → ClassId) {Q : Int32 → hp → Prop} {S : hp} {a0 : Nat} (h : wp_X12_status Q S a0) : MT l yX12_status cX12_status 1 (some .int) 0 0 0 0 b D cy S [.ref a0] (pI Q) := by
  refine MT.of (by decide +kernel) (Nat.le_of_ble_eq_true rfl) ?_
  intro p e s m args below meth c X hr hlk hnm
  unfold wp_X12_status at h
  show VM l b D cy 1 0 0 0 0 (pI Q) p e s m args below meth c S 0 0 0 [(0, .ref a0)] []
  refine v_aload_n X 0 dX12_status_0 rfl rfl ?_
  refine v_iconst X (v := 0) dX12_status_1 (by decide) ?_
  obtain ⟨hk1, h⟩ := h
  refine v_putI X (T := TX12) (N := 26) (k := 0) hk1 (by decide) rfl (by decide) inX12 wd939 tyX12 tyX12_ok nmX12 rfl rfl rfl rfl dX12_status_2 ?_
  refine v_nmS (fun S2 eS2 => ?_)
  replace h := h S2 eS2
  have hk3 : hK S2 a0 = 11 := by rw [eS2]; exact hk1
  refine v_aload_n X 0 dX12_status_5 rfl rfl ?_
  refine v_getI X (T := TX12) (N := 26) (k := 1) hk3 (by decide) rfl (by decide) inX12 wd940 rfl dX12_status_6 ?_
  exact v_iret X hr hlk ⟨_, rfl, h⟩ dX12_status_9
