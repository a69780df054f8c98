def wB_X12_swaps_244 (bk69 : hp → Nat → Int32 → Int32 → Int32 → Int32 → Int32 → Int32 → Prop) (bk86 : hp → Nat → Int32 → Int32 → Int32 → Int32 → Int32 → Int32 → Int32 → Prop) (Q : Int32 → hp → Prop) (S : hp) (l0 : Nat) (l1 : Int32) (l2 : Int32) (l3 : Int32) (l6 : Int32) (l7 : Int32) (l8 : Int32) (k0 : Int32) (k1 : Int32) : Prop :=
  ∀ v40 : Int32, v40 = (k1 + k0) → ∀ v41 : Int32, v41 = l8 + (1 : Int32) → bk86 S l0 l1 l2 l3 v40 l6 l7 v41
def wB_X12_swaps_230 (bk69 : hp → Nat → Int32 → Int32 → Int32 → Int32 → Int32 → Int32 → Prop) (bk86 : hp → Nat → Int32 → Int32 → Int32 → Int32 → Int32 → Int32 → Int32 → Prop) (Q : Int32 → hp → Prop) (S : hp) (l0 : Nat) (l1 : Int32) (l2 : Int32) (l3 : Int32) (l5 : Int32) (l7 : Int32) (l8 : Int32) (l9 : Int32) (k0 : Int32) : Prop :=
  ((l9 = 0 → wB_X12_swaps_244 bk69 bk86 Q S l0 l1 l2 l3 k0 l7 l8 (0 : Int32) l5) ∧ (¬ l9 = 0 → wB_X12_swaps_244 bk69 bk86 Q S l0 l1 l2 l3 k0 l7 l8 (1 : Int32) l5))
def wB_X12_swaps_228 (bk69 : hp → Nat → Int32 → Int32 → Int32 → Int32 → Int32 → Int32 → Prop) (bk86 : hp → Nat → Int32 → Int32 → Int32 → Int32 → Int32 → Int32 → Int32 → Prop) (Q : Int32 → hp → Prop) (S : hp) (l0 : Nat) (l1 : Int32) (l2 : Int32) (l3 : Int32) (l5 : Int32) (l6 : Int32) (l7 : Int32) (l8 : Int32) (l9 : Int32) : Prop :=
  wB_X12_swaps_230 bk69 bk86 Q S l0 l1 l2 l3 l5 l7 l8 l9 l6
def wB_X12_swaps_198 (bk69 : hp → Nat → Int32 → Int32 → Int32 → Int32 → Int32 → Int32 → Prop) (bk86 : hp → Nat → Int32 → Int32 → Int32 → Int32 → Int32 → Int32 → Int32 → Prop) (bk103 : hp → Nat → Int32 → Int32 → Int32 → Int32 → Int32 → Int32 → Int32 → Int32 → Int32 → Prop) (Q : Int32 → hp → Prop) (S : hp) (l0 : Nat) (l1 : Int32) (l2 : Int32) (l3 : Int32) (l5 : Int32) (l6 : Int32) (l7 : Int32) (l8 : Int32) (l10 : Int32) (k0 : Int32) : Prop :=
  ∀ v46 : Int32, v46 = l10 + (1 : Int32) → bk103 S l0 l1 l2 l3 l5 l6 l7 l8 k0 v46
def wB_X12_swaps_197 (bk69 : hp → Nat → Int32 → Int32 → Int32 → Int32 → Int32 → Int32 → Prop) (bk86 : hp → Nat → Int32 → Int32 → Int32 → Int32 → Int32 → Int32 → Int32 → Prop) (bk103 : hp → Nat → Int32 → Int32 → Int32 → Int32 → Int32 → Int32 → Int32 → Int32 → Int32 → Prop) (Q : Int32 → hp → Prop) (S : hp) (l0 : Nat) (l1 : Int32) (l2 : Int32) (l3 : Int32) (l5 : Int32) (l6 : Int32) (l7 : Int32) (l8 : Int32) (l10 : Int32) : Prop :=
  wB_X12_swaps_198 bk69 bk86 bk103 Q S l0 l1 l2 l3 l5 l6 l7 l8 l10 (0 : Int32)
def wB_X12_swaps_160 (bk69 : hp → Nat → Int32 → Int32 → Int32 → Int32 → Int32 → Int32 → Prop) (bk86 : hp → Nat → Int32 → Int32 → Int32 → Int32 → Int32 → Int32 → Int32 → Prop) (bk103 : hp → Nat → Int32 → Int32 → Int32 → Int32 → Int32 → Int32 → Int32 → Int32 → Int32 → Prop) (Q : Int32 → hp → Prop) (S : hp) (l0 : Nat) (l1 : Int32) (l2 : Int32) (l3 : Int32) (l5 : Int32) (l6 : Int32) (l7 : Int32) (l8 : Int32) (l9 : Int32) (l10 : Int32) (k0 : Int32) : Prop :=
  ((l9 = 0 → wB_X12_swaps_197 bk69 bk86 bk103 Q S l0 l1 l2 l3 l5 l6 l7 l8 l10) ∧ (¬ l9 = 0 → hK S l0 = 11 ∧ ∃ r48 : Nat, hR S l0 5 = some r48 ∧ hK S r48 = 12 ∧ vp_in ((5 : Int32) + k0) (hN S r48) ∧ ∃ r51 : Nat, hR S l0 4 = some r51 ∧ hK S r51 = 12 ∧ vp_in ((((40 : Int32) * l1) + l2) + l10) (hN S r51) ∧ ((¬ (hI S r48 (((5 : Int32) + k0)).toNatClampNeg) = (hI S r51 (((((40 : Int32) * l1) + l2) + l10)).toNatClampNeg) → wB_X12_swaps_197 bk69 bk86 bk103 Q S l0 l1 l2 l3 l5 l6 l7 l8 l10) ∧ ((hI S r48 (((5 : Int32) + k0)).toNatClampNeg) = (hI S r51 (((((40 : Int32) * l1) + l2) + l10)).toNatClampNeg) → wB_X12_swaps_198 bk69 bk86 bk103 Q S l0 l1 l2 l3 l5 l6 l7 l8 l10 (1 : Int32)))))
def wB_X12_swaps_103 (bk69 : hp → Nat → Int32 → Int32 → Int32 → Int32 → Int32 → Int32 → Prop) (bk86 : hp → Nat → Int32 → Int32 → Int32 → Int32 → Int32 → Int32 → Int32 → Prop) (bk103 : hp → Nat → Int32 → Int32 → Int32 → Int32 → Int32 → Int32 → Int32 → Int32 → Int32 → Prop) (Q : Int32 → hp → Prop) (S : hp) (l0 : Nat) (l1 : Int32) (l2 : Int32) (l3 : Int32) (l5 : Int32) (l6 : Int32) (l7 : Int32) (l8 : Int32) (l9 : Int32) (l10 : Int32) : Prop :=
  hK S l0 = 11 ∧ ∃ r34 : Nat, hR S l0 5 = some r34 ∧ hK S r34 = 12 ∧ vp_in (2 : Int32) (hN S r34) ∧ ((((3 : Int32) * (hI S r34 ((2 : Int32)).toNatClampNeg)) ≤ l10 → ((l9 = 0 → wB_X12_swaps_228 bk69 bk86 Q S l0 l1 l2 l3 l5 l6 l7 l8 l9) ∧ (¬ l9 = 0 → ((¬ l6 = (-1000000 : Int32) → wB_X12_swaps_228 bk69 bk86 Q S l0 l1 l2 l3 l5 l6 l7 l8 l9) ∧ (l6 = (-1000000 : Int32) → wB_X12_swaps_230 bk69 bk86 Q S l0 l1 l2 l3 l5 l7 l8 l9 ((((4 : Int32) * l7) + l8))))))) ∧ (¬ ((3 : Int32) * (hI S r34 ((2 : Int32)).toNatClampNeg)) ≤ l10 → ((¬ (l10 / (3 : Int32)) = l7 → ((¬ (l10 / (3 : Int32)) = l8 → wB_X12_swaps_160 bk69 bk86 bk103 Q S l0 l1 l2 l3 l5 l6 l7 l8 l9 l10 l10) ∧ ((l10 / (3 : Int32)) = l8 → wB_X12_swaps_160 bk69 bk86 bk103 Q S l0 l1 l2 l3 l5 l6 l7 l8 l9 l10 ((((3 : Int32) * l7) + (l10 - l10 / (3 : Int32) * (3 : Int32))))))) ∧ ((l10 / (3 : Int32)) = l7 → wB_X12_swaps_160 bk69 bk86 bk103 Q S l0 l1 l2 l3 l5 l6 l7 l8 l9 l10 ((((3 : Int32) * l8) + (l10 - l10 / (3 : Int32) * (3 : Int32))))))))
def wl_X12_swaps_103 (bk69 : hp → Nat → Int32 → Int32 → Int32 → Int32 → Int32 → Int32 → Prop) (bk86 : hp → Nat → Int32 → Int32 → Int32 → Int32 → Int32 → Int32 → Int32 → Prop) (Q : Int32 → hp → Prop) : Nat → hp → Nat → Int32 → Int32 → Int32 → Int32 → Int32 → Int32 → Int32 → Int32 → Int32 → Prop
  | 0 => fun _ _ _ _ _ _ _ _ _ _ _ => False
  | n + 1 => wB_X12_swaps_103 bk69 bk86 (wl_X12_swaps_103 bk69 bk86 Q n) Q
def wB_X12_swaps_86 (bk69 : hp → Nat → Int32 → Int32 → Int32 → Int32 → Int32 → Int32 → Prop) (bk86 : hp → Nat → Int32 → Int32 → Int32 → Int32 → Int32 → Int32 → Int32 → Prop) (Q : Int32 → hp → Prop) (S : hp) (l0 : Nat) (l1 : Int32) (l2 : Int32) (l3 : Int32) (l5 : Int32) (l6 : Int32) (l7 : Int32) (l8 : Int32) : Prop :=
  hK S l0 = 11 ∧ ∃ r28 : Nat, hR S l0 5 = some r28 ∧ hK S r28 = 12 ∧ vp_in (2 : Int32) (hN S r28) ∧ (((hI S r28 ((2 : Int32)).toNatClampNeg) ≤ l8 → ∀ v32 : Int32, v32 = l7 + (1 : Int32) → bk69 S l0 l1 l2 l3 l5 l6 v32) ∧ (¬ (hI S r28 ((2 : Int32)).toNatClampNeg) ≤ l8 → ∃ n : Nat, wl_X12_swaps_103 bk69 bk86 Q n S l0 l1 l2 l3 l5 l6 l7 l8 (1 : Int32) (0 : Int32)))
def wl_X12_swaps_86 (bk69 : hp → Nat → Int32 → Int32 → Int32 → Int32 → Int32 → Int32 → Prop) (Q : Int32 → hp → Prop) : Nat → hp → Nat → Int32 → Int32 → Int32 → Int32 → Int32 → Int32 → Int32 → Prop
  | 0 => fun _ _ _ _ _ _ _ _ _ => False
  | n + 1 => wB_X12_swaps_86 bk69 (wl_X12_swaps_86 bk69 Q n) Q
def wB_X12_swaps_69 (bk69 : hp → Nat → Int32 → Int32 → Int32 → Int32 → Int32 → Int32 → Prop) (Q : Int32 → hp → Prop) (S : hp) (l0 : Nat) (l1 : Int32) (l2 : Int32) (l3 : Int32) (l5 : Int32) (l6 : Int32) (l7 : Int32) : Prop :=
  hK S l0 = 11 ∧ ∃ r21 : Nat, hR S l0 5 = some r21 ∧ hK S r21 = 12 ∧ vp_in (2 : Int32) (hN S r21) ∧ (((hI S r21 ((2 : Int32)).toNatClampNeg) ≤ l7 → ((¬ l3 = 0 → Q l6 S) ∧ (l3 = 0 → Q l5 S))) ∧ (¬ (hI S r21 ((2 : Int32)).toNatClampNeg) ≤ l7 → ∀ v26 : Int32, v26 = (l7 + (1 : Int32)) → ∃ n : Nat, wl_X12_swaps_86 bk69 Q n S l0 l1 l2 l3 l5 l6 l7 v26))
def wl_X12_swaps_69 (Q : Int32 → hp → Prop) : Nat → hp → Nat → Int32 → Int32 → Int32 → Int32 → Int32 → Int32 → Prop
  | 0 => fun _ _ _ _ _ _ _ _ => False
  | n + 1 => wB_X12_swaps_69 (wl_X12_swaps_69 Q n) Q
def wp_X12_swaps (Q : Int32 → hp → Prop) (S : hp) (a0 : Nat) (x1 : Int32) (x2 : Int32) (x3 : Int32) : Prop :=
  hK S a0 = 11 ∧ ∀ S2 : hp, S2 = setI S a0 0 (0 : Int32) → wp_X12_isThere (fun r5 S4 => ((¬ r5 = 0 → wp_X12_isRow (fun r8 S7 => ((r8 = 0 → Q (-1000001 : Int32) S7) ∧ (¬ r8 = 0 → wp_X12_in (fun r11 S10 => ((¬ r11 = 0 → hK S10 a0 = 11 ∧ ∃ r14 : Nat, hR S10 a0 5 = some r14 ∧ hK S10 r14 = 12 ∧ vp_in (2 : Int32) (hN S10 r14) ∧ wp_X12_noRow (fun r18 S17 => ((0 ≤ r18 → ∃ n : Nat, wl_X12_swaps_69 Q n S17 a0 x1 x2 x3 (0 : Int32) (-1000000 : Int32) (0 : Int32)) ∧ (¬ 0 ≤ r18 → Q r18 S17))) S10 a0 x1 x2 (((3 : Int32) * (hI S10 r14 ((2 : Int32)).toNatClampNeg)))) ∧ (r11 = 0 → Q (-1000001 : Int32) S10))) S7 ((x3).toInt64) ((0 : Int64)) ((1 : Int64))))) S4 x1) ∧ (r5 = 0 → Q (-1000002 : Int32) S4))) S2 a0
theorem k_X12_swaps : Cond.code yX12_swaps cX12_swaps 12 (some .int) ∈ gtb := mg 1246 (by decide +kernel) (by decide +kernel)
theorem dn_X12_swaps : yX12_swaps.cls ≠ "java/lang/invoke/MethodHandle" ∧ yX12_swaps.cls ≠ "java/lang/invoke/VarHandle" ∧ (parseMethodDescriptor yX12_swaps.desc).map (fun d => d.parameters.length) = some 3 := by decide +kernel
set_option maxRecDepth 100000 in
set_option maxHeartbeats 4000000 in
theorem s_X12_swaps (l : Launch) (b : Nat) (D : va_G) (cy : Nat → ClassId) {Q : Int32 → hp → Prop} {S : hp} {a0 : Nat} {x1 : Int32} {x2 : Int32} {x3 : Int32} (h : wp_X12_swaps Q S a0 x1 x2 x3) : MT l yX12_swaps cX12_swaps 12 (some .int) 2 45 0 0 b D cy S [.ref a0, .int x1, .int x2, .int x3] (pI Q) := by
  refine MT.of (by decide +kernel) (Nat.le_of_ble_eq_true rfl) ?_
  intro p e s m args below meth c X hr hlk hnm
  have j244 : ∀ (bk69 : hp → Nat → Int32 → Int32 → Int32 → Int32 → Int32 → Int32 → Prop) (hbk69 : ∀ (S : hp) (l0 : Nat) (l1 : Int32) (l2 : Int32) (l3 : Int32) (l5 : Int32) (l6 : Int32) (l7 : Int32), bk69 S l0 l1 l2 l3 l5 l6 l7 → VM l b D cy 12 2 45 0 0 (pI Q) p e s m args below meth c S 0 0 69 [(0, .ref l0), (1, .int l1), (2, .int l2), (3, .int l3), (5, .int l5), (6, .int l6), (7, .int l7)] []) (bk86 : hp → Nat → Int32 → Int32 → Int32 → Int32 → Int32 → Int32 → Int32 → Prop) (hbk86 : ∀ (S : hp) (l0 : Nat) (l1 : Int32) (l2 : Int32) (l3 : Int32) (l5 : Int32) (l6 : Int32) (l7 : Int32) (l8 : Int32), bk86 S l0 l1 l2 l3 l5 l6 l7 l8 → VM l b D cy 12 2 45 0 0 (pI Q) p e s m args below meth c S 0 0 86 [(0, .ref l0), (1, .int l1), (2, .int l2), (3, .int l3), (5, .int l5), (6, .int l6), (7, .int l7), (8, .int l8)] []) (S : hp) (l0 : Nat) (l1 : Int32) (l2 : Int32) (l3 : Int32) (l6 : Int32) (l7 : Int32) (l8 : Int32) (k0 : Int32) (k1 : Int32), wB_X12_swaps_244 bk69 bk86 Q S l0 l1 l2 l3 l6 l7 l8 k0 k1 → VM l b D cy 12 2 45 0 0 (pI Q) p e s m args below meth c S 0 0 244 [(0, .ref l0), (1, .int l1), (2, .int l2), (3, .int l3), (6, .int l6), (7, .int l7), (8, .int l8)] [.int k0, .int k1] := by
    intro bk69 hbk69 bk86 hbk86 S l0 l1 l2 l3 l6 l7 l8 k0 k1 h
    unfold wB_X12_swaps_244 at h
    refine v_iadd X dX12_swaps_244 ?_
    refine v_nm (fun v40 hv40 => ?_)
    replace h := h v40 hv40
    refine v_istore X (lv' := [(5, .int v40), (0, .ref l0), (1, .int l1), (2, .int l2), (3, .int l3), (6, .int l6), (7, .int l7), (8, .int l8)]) dX12_swaps_245 (by decide) rfl ?_
    obtain ⟨v41, hv41⟩ : ∃ y : Int32, y = l8 + (1 : Int32) := ⟨_, rfl⟩
    replace h := h v41 hv41
    refine v_iinc X (j := 7) (v := v41) (lv' := [(8, .int v41), (5, .int v40), (0, .ref l0), (1, .int l1), (2, .int l2), (3, .int l3), (6, .int l6), (7, .int l7)]) dX12_swaps_247 rfl (by rw [hv41] <;> rfl) (by decide) rfl ?_
    refine v_goto X (tgt := 86) dX12_swaps_250 (by decide) ?_
    refine v_lv (lv' := [(0, .ref l0), (1, .int l1), (2, .int l2), (3, .int l3), (5, .int v40), (6, .int l6), (7, .int l7), (8, .int v41)]) [2, 3, 4, 5, 1, 6, 7, 0] rfl ?_
    exact hbk86 _ _ _ _ _ _ _ _ _ h
  have j230 : ∀ (bk69 : hp → Nat → Int32 → Int32 → Int32 → Int32 → Int32 → Int32 → Prop) (hbk69 : ∀ (S : hp) (l0 : Nat) (l1 : Int32) (l2 : Int32) (l3 : Int32) (l5 : Int32) (l6 : Int32) (l7 : Int32), bk69 S l0 l1 l2 l3 l5 l6 l7 → VM l b D cy 12 2 45 0 0 (pI Q) p e s m args below meth c S 0 0 69 [(0, .ref l0), (1, .int l1), (2, .int l2), (3, .int l3), (5, .int l5), (6, .int l6), (7, .int l7)] []) (bk86 : hp → Nat → Int32 → Int32 → Int32 → Int32 → Int32 → Int32 → Int32 → Prop) (hbk86 : ∀ (S : hp) (l0 : Nat) (l1 : Int32) (l2 : Int32) (l3 : Int32) (l5 : Int32) (l6 : Int32) (l7 : Int32) (l8 : Int32), bk86 S l0 l1 l2 l3 l5 l6 l7 l8 → VM l b D cy 12 2 45 0 0 (pI Q) p e s m args below meth c S 0 0 86 [(0, .ref l0), (1, .int l1), (2, .int l2), (3, .int l3), (5, .int l5), (6, .int l6), (7, .int l7), (8, .int l8)] []) (S : hp) (l0 : Nat) (l1 : Int32) (l2 : Int32) (l3 : Int32) (l5 : Int32) (l7 : Int32) (l8 : Int32) (l9 : Int32) (k0 : Int32), wB_X12_swaps_230 bk69 bk86 Q S l0 l1 l2 l3 l5 l7 l8 l9 k0 → VM l b D cy 12 2 45 0 0 (pI Q) p e s m args below meth c S 0 0 230 [(0, .ref l0), (1, .int l1), (2, .int l2), (3, .int l3), (5, .int l5), (7, .int l7), (8, .int l8), (9, .int l9)] [.int k0] := by
    intro bk69 hbk69 bk86 hbk86 S l0 l1 l2 l3 l5 l7 l8 l9 k0 h
    unfold wB_X12_swaps_230 at h
    refine v_istore X (lv' := [(6, .int k0), (0, .ref l0), (1, .int l1), (2, .int l2), (3, .int l3), (5, .int l5), (7, .int l7), (8, .int l8), (9, .int l9)]) dX12_swaps_230 (by decide) rfl ?_
    refine v_iload X 5 dX12_swaps_232 rfl ?_
    refine v_iload X 8 dX12_swaps_234 rfl ?_
    refine v_if_eq X (tgt := 243) dX12_swaps_236 (by decide) (fun c39 => ?_) (fun c39 => ?_)
    · replace h := h.1 c39
      refine v_iconst X (v := 0) dX12_swaps_243 (by decide) ?_
      refine v_lv (lv' := [(0, .ref l0), (1, .int l1), (2, .int l2), (3, .int l3), (6, .int k0), (7, .int l7), (8, .int l8)]) [1, 2, 3, 4, 0, 6, 7] rfl ?_
      exact j244 bk69 hbk69 bk86 hbk86 _ _ _ _ _ _ _ _ _ _ h
    · replace h := h.2 c39
      refine v_iconst X (v := 1) dX12_swaps_239 (by decide) ?_
      refine v_goto X (tgt := 244) dX12_swaps_240 (by decide) ?_
      refine v_lv (lv' := [(0, .ref l0), (1, .int l1), (2, .int l2), (3, .int l3), (6, .int k0), (7, .int l7), (8, .int l8)]) [1, 2, 3, 4, 0, 6, 7] rfl ?_
      exact j244 bk69 hbk69 bk86 hbk86 _ _ _ _ _ _ _ _ _ _ h
  have j228 : ∀ (bk69 : hp → Nat → Int32 → Int32 → Int32 → Int32 → Int32 → Int32 → Prop) (hbk69 : ∀ (S : hp) (l0 : Nat) (l1 : Int32) (l2 : Int32) (l3 : Int32) (l5 : Int32) (l6 : Int32) (l7 : Int32), bk69 S l0 l1 l2 l3 l5 l6 l7 → VM l b D cy 12 2 45 0 0 (pI Q) p e s m args below meth c S 0 0 69 [(0, .ref l0), (1, .int l1), (2, .int l2), (3, .int l3), (5, .int l5), (6, .int l6), (7, .int l7)] []) (bk86 : hp → Nat → Int32 → Int32 → Int32 → Int32 → Int32 → Int32 → Int32 → Prop) (hbk86 : ∀ (S : hp) (l0 : Nat) (l1 : Int32) (l2 : Int32) (l3 : Int32) (l5 : Int32) (l6 : Int32) (l7 : Int32) (l8 : Int32), bk86 S l0 l1 l2 l3 l5 l6 l7 l8 → VM l b D cy 12 2 45 0 0 (pI Q) p e s m args below meth c S 0 0 86 [(0, .ref l0), (1, .int l1), (2, .int l2), (3, .int l3), (5, .int l5), (6, .int l6), (7, .int l7), (8, .int l8)] []) (S : hp) (l0 : Nat) (l1 : Int32) (l2 : Int32) (l3 : Int32) (l5 : Int32) (l6 : Int32) (l7 : Int32) (l8 : Int32) (l9 : Int32), wB_X12_swaps_228 bk69 bk86 Q S l0 l1 l2 l3 l5 l6 l7 l8 l9 → VM l b D cy 12 2 45 0 0 (pI Q) p e s m args below meth c S 0 0 228 [(0, .ref l0), (1, .int l1), (2, .int l2), (3, .int l3), (5, .int l5), (6, .int l6), (7, .int l7), (8, .int l8), (9, .int l9)] [] := by
    intro bk69 hbk69 bk86 hbk86 S l0 l1 l2 l3 l5 l6 l7 l8 l9 h
    unfold wB_X12_swaps_228 at h
    refine v_iload X 5 dX12_swaps_228 rfl ?_
    refine v_lv (lv' := [(0, .ref l0), (1, .int l1), (2, .int l2), (3, .int l3), (5, .int l5), (7, .int l7), (8, .int l8), (9, .int l9)]) [0, 1, 2, 3, 4, 6, 7, 8] rfl ?_
    exact j230 bk69 hbk69 bk86 hbk86 _ _ _ _ _ _ _ _ _ _ h
  have j198 : ∀ (bk69 : hp → Nat → Int32 → Int32 → Int32 → Int32 → Int32 → Int32 → Prop) (hbk69 : ∀ (S : hp) (l0 : Nat) (l1 : Int32) (l2 : Int32) (l3 : Int32) (l5 : Int32) (l6 : Int32) (l7 : Int32), bk69 S l0 l1 l2 l3 l5 l6 l7 → VM l b D cy 12 2 45 0 0 (pI Q) p e s m args below meth c S 0 0 69 [(0, .ref l0), (1, .int l1), (2, .int l2), (3, .int l3), (5, .int l5), (6, .int l6), (7, .int l7)] []) (bk86 : hp → Nat → Int32 → Int32 → Int32 → Int32 → Int32 → Int32 → Int32 → Prop) (hbk86 : ∀ (S : hp) (l0 : Nat) (l1 : Int32) (l2 : Int32) (l3 : Int32) (l5 : Int32) (l6 : Int32) (l7 : Int32) (l8 : Int32), bk86 S l0 l1 l2 l3 l5 l6 l7 l8 → VM l b D cy 12 2 45 0 0 (pI Q) p e s m args below meth c S 0 0 86 [(0, .ref l0), (1, .int l1), (2, .int l2), (3, .int l3), (5, .int l5), (6, .int l6), (7, .int l7), (8, .int l8)] []) (bk103 : hp → Nat → Int32 → Int32 → Int32 → Int32 → Int32 → Int32 → Int32 → Int32 → Int32 → Prop) (hbk103 : ∀ (S : hp) (l0 : Nat) (l1 : Int32) (l2 : Int32) (l3 : Int32) (l5 : Int32) (l6 : Int32) (l7 : Int32) (l8 : Int32) (l9 : Int32) (l10 : Int32), bk103 S l0 l1 l2 l3 l5 l6 l7 l8 l9 l10 → VM l b D cy 12 2 45 0 0 (pI Q) p e s m args below meth c S 0 0 103 [(0, .ref l0), (1, .int l1), (2, .int l2), (3, .int l3), (5, .int l5), (6, .int l6), (7, .int l7), (8, .int l8), (9, .int l9), (10, .int l10)] []) (S : hp) (l0 : Nat) (l1 : Int32) (l2 : Int32) (l3 : Int32) (l5 : Int32) (l6 : Int32) (l7 : Int32) (l8 : Int32) (l10 : Int32) (k0 : Int32), wB_X12_swaps_198 bk69 bk86 bk103 Q S l0 l1 l2 l3 l5 l6 l7 l8 l10 k0 → VM l b D cy 12 2 45 0 0 (pI Q) p e s m args below meth c S 0 0 198 [(0, .ref l0), (1, .int l1), (2, .int l2), (3, .int l3), (5, .int l5), (6, .int l6), (7, .int l7), (8, .int l8), (10, .int l10)] [.int k0] := by
    intro bk69 hbk69 bk86 hbk86 bk103 hbk103 S l0 l1 l2 l3 l5 l6 l7 l8 l10 k0 h
    unfold wB_X12_swaps_198 at h
    refine v_istore X (lv' := [(9, .int k0), (0, .ref l0), (1, .int l1), (2, .int l2), (3, .int l3), (5, .int l5), (6, .int l6), (7, .int l7), (8, .int l8), (10, .int l10)]) dX12_swaps_198 (by decide) rfl ?_
    obtain ⟨v46, hv46⟩ : ∃ y : Int32, y = l10 + (1 : Int32) := ⟨_, rfl⟩
    replace h := h v46 hv46
    refine v_iinc X (j := 9) (v := v46) (lv' := [(10, .int v46), (9, .int k0), (0, .ref l0), (1, .int l1), (2, .int l2), (3, .int l3), (5, .int l5), (6, .int l6), (7, .int l7), (8, .int l8)]) dX12_swaps_200 rfl (by rw [hv46] <;> rfl) (by decide) rfl ?_
    refine v_goto X (tgt := 103) dX12_swaps_203 (by decide) ?_
    refine v_lv (lv' := [(0, .ref l0), (1, .int l1), (2, .int l2), (3, .int l3), (5, .int l5), (6, .int l6), (7, .int l7), (8, .int l8), (9, .int k0), (10, .int v46)]) [2, 3, 4, 5, 6, 7, 8, 9, 1, 0] rfl ?_
    exact hbk103 _ _ _ _ _ _ _ _ _ _ _ h
  have j197 : ∀ (bk69 : hp → Nat → Int32 → Int32 → Int32 → Int32 → Int32 → Int32 → Prop) (hbk69 : ∀ (S : hp) (l0 : Nat) (l1 : Int32) (l2 : Int32) (l3 : Int32) (l5 : Int32) (l6 : Int32) (l7 : Int32), bk69 S l0 l1 l2 l3 l5 l6 l7 → VM l b D cy 12 2 45 0 0 (pI Q) p e s m args below meth c S 0 0 69 [(0, .ref l0), (1, .int l1), (2, .int l2), (3, .int l3), (5, .int l5), (6, .int l6), (7, .int l7)] []) (bk86 : hp → Nat → Int32 → Int32 → Int32 → Int32 → Int32 → Int32 → Int32 → Prop) (hbk86 : ∀ (S : hp) (l0 : Nat) (l1 : Int32) (l2 : Int32) (l3 : Int32) (l5 : Int32) (l6 : Int32) (l7 : Int32) (l8 : Int32), bk86 S l0 l1 l2 l3 l5 l6 l7 l8 → VM l b D cy 12 2 45 0 0 (pI Q) p e s m args below meth c S 0 0 86 [(0, .ref l0), (1, .int l1), (2, .int l2), (3, .int l3), (5, .int l5), (6, .int l6), (7, .int l7), (8, .int l8)] []) (bk103 : hp → Nat → Int32 → Int32 → Int32 → Int32 → Int32 → Int32 → Int32 → Int32 → Int32 → Prop) (hbk103 : ∀ (S : hp) (l0 : Nat) (l1 : Int32) (l2 : Int32) (l3 : Int32) (l5 : Int32) (l6 : Int32) (l7 : Int32) (l8 : Int32) (l9 : Int32) (l10 : Int32), bk103 S l0 l1 l2 l3 l5 l6 l7 l8 l9 l10 → VM l b D cy 12 2 45 0 0 (pI Q) p e s m args below meth c S 0 0 103 [(0, .ref l0), (1, .int l1), (2, .int l2), (3, .int l3), (5, .int l5), (6, .int l6), (7, .int l7), (8, .int l8), (9, .int l9), (10, .int l10)] []) (S : hp) (l0 : Nat) (l1 : Int32) (l2 : Int32) (l3 : Int32) (l5 : Int32) (l6 : Int32) (l7 : Int32) (l8 : Int32) (l10 : Int32), wB_X12_swaps_197 bk69 bk86 bk103 Q S l0 l1 l2 l3 l5 l6 l7 l8 l10 → VM l b D cy 12 2 45 0 0 (pI Q) p e s m args below meth c S 0 0 197 [(0, .ref l0), (1, .int l1), (2, .int l2), (3, .int l3), (5, .int l5), (6, .int l6), (7, .int l7), (8, .int l8), (10, .int l10)] [] := by
    intro bk69 hbk69 bk86 hbk86 bk103 hbk103 S l0 l1 l2 l3 l5 l6 l7 l8 l10 h
    unfold wB_X12_swaps_197 at h
    refine v_iconst X (v := 0) dX12_swaps_197 (by decide) ?_
    exact j198 bk69 hbk69 bk86 hbk86 bk103 hbk103 _ _ _ _ _ _ _ _ _ _ _ h
  have j160 : ∀ (bk69 : hp → Nat → Int32 → Int32 → Int32 → Int32 → Int32 → Int32 → Prop) (hbk69 : ∀ (S : hp) (l0 : Nat) (l1 : Int32) (l2 : Int32) (l3 : Int32) (l5 : Int32) (l6 : Int32) (l7 : Int32), bk69 S l0 l1 l2 l3 l5 l6 l7 → VM l b D cy 12 2 45 0 0 (pI Q) p e s m args below meth c S 0 0 69 [(0, .ref l0), (1, .int l1), (2, .int l2), (3, .int l3), (5, .int l5), (6, .int l6), (7, .int l7)] []) (bk86 : hp → Nat → Int32 → Int32 → Int32 → Int32 → Int32 → Int32 → Int32 → Prop) (hbk86 : ∀ (S : hp) (l0 : Nat) (l1 : Int32) (l2 : Int32) (l3 : Int32) (l5 : Int32) (l6 : Int32) (l7 : Int32) (l8 : Int32), bk86 S l0 l1 l2 l3 l5 l6 l7 l8 → VM l b D cy 12 2 45 0 0 (pI Q) p e s m args below meth c S 0 0 86 [(0, .ref l0), (1, .int l1), (2, .int l2), (3, .int l3), (5, .int l5), (6, .int l6), (7, .int l7), (8, .int l8)] []) (bk103 : hp → Nat → Int32 → Int32 → Int32 → Int32 → Int32 → Int32 → Int32 → Int32 → Int32 → Prop) (hbk103 : ∀ (S : hp) (l0 : Nat) (l1 : Int32) (l2 : Int32) (l3 : Int32) (l5 : Int32) (l6 : Int32) (l7 : Int32) (l8 : Int32) (l9 : Int32) (l10 : Int32), bk103 S l0 l1 l2 l3 l5 l6 l7 l8 l9 l10 → VM l b D cy 12 2 45 0 0 (pI Q) p e s m args below meth c S 0 0 103 [(0, .ref l0), (1, .int l1), (2, .int l2), (3, .int l3), (5, .int l5), (6, .int l6), (7, .int l7), (8, .int l8), (9, .int l9), (10, .int l10)] []) (S : hp) (l0 : Nat) (l1 : Int32) (l2 : Int32) (l3 : Int32) (l5 : Int32) (l6 : Int32) (l7 : Int32) (l8 : Int32) (l9 : Int32) (l10 : Int32) (k0 : Int32), wB_X12_swaps_160 bk69 bk86 bk103 Q S l0 l1 l2 l3 l5 l6 l7 l8 l9 l10 k0 → VM l b D cy 12 2 45 0 0 (pI Q) p e s m args below meth c S 0 0 160 [(0, .ref l0), (1, .int l1), (2, .int l2), (3, .int l3), (5, .int l5), (6, .int l6), (7, .int l7), (8, .int l8), (9, .int l9), (10, .int l10)] [.int k0] := by
    intro bk69 hbk69 bk86 hbk86 bk103 hbk103 S l0 l1 l2 l3 l5 l6 l7 l8 l9 l10 k0 h
    unfold wB_X12_swaps_160 at h
    refine v_istore X (lv' := [(11, .int k0), (0, .ref l0), (1, .int l1), (2, .int l2), (3, .int l3), (5, .int l5), (6, .int l6), (7, .int l7), (8, .int l8), (9, .int l9), (10, .int l10)]) dX12_swaps_160 (by decide) rfl ?_
    refine v_iload X 9 dX12_swaps_162 rfl ?_
    refine v_if_eq X (tgt := 197) dX12_swaps_164 (by decide) (fun c45 => ?_) (fun c45 => ?_)
    · replace h := h.1 c45
      refine v_lv (lv' := [(0, .ref l0), (1, .int l1), (2, .int l2), (3, .int l3), (5, .int l5), (6, .int l6), (7, .int l7), (8, .int l8), (10, .int l10)]) [1, 2, 3, 4, 5, 6, 7, 8, 10] rfl ?_
      exact j197 bk69 hbk69 bk86 hbk86 bk103 hbk103 _ _ _ _ _ _ _ _ _ _ h
    · replace h := h.2 c45
      refine v_aload_n X 1 dX12_swaps_167 rfl rfl ?_
      obtain ⟨hk47, h⟩ := h
      obtain ⟨r48, hr48, h⟩ := h
      refine v_getR X (T := TX12) (N := 26) (k := 5) hk47 (by decide) rfl (by decide) inX12 wd944 rfl dX12_swaps_168 hr48 ?_
      refine v_iconst X (v := 5) dX12_swaps_171 (by decide) ?_
      refine v_iload X 0 dX12_swaps_172 rfl ?_
      refine v_iadd X dX12_swaps_174 ?_
      obtain ⟨hk49, h⟩ := h
      obtain ⟨hi50, h⟩ := h
      refine v_iald X hk49 hi50 dX12_swaps_175 ?_
      refine v_aload_n X 1 dX12_swaps_176 rfl rfl ?_
      obtain ⟨r51, hr51, h⟩ := h
      refine v_getR X (T := TX12) (N := 26) (k := 4) hk47 (by decide) rfl (by decide) inX12 wd943 rfl dX12_swaps_177 hr51 ?_
      refine v_bipush X (v := 40) dX12_swaps_180 (by decide) ?_
      refine v_iload_n X 2 dX12_swaps_182 rfl rfl ?_
      refine v_imul X dX12_swaps_183 ?_
      refine v_iload_n X 3 dX12_swaps_184 rfl rfl ?_
      refine v_iadd X dX12_swaps_185 ?_
      refine v_iload X 10 dX12_swaps_186 rfl ?_
      refine v_iadd X dX12_swaps_188 ?_
      obtain ⟨hk52, h⟩ := h
      obtain ⟨hi53, h⟩ := h
      refine v_iald X hk52 hi53 dX12_swaps_189 ?_
      refine v_icmp_ne X (tgt := 197) dX12_swaps_190 (by decide) (fun c54 => ?_) (fun c54 => ?_)
      · replace h := h.1 c54
        refine v_lv (lv' := [(0, .ref l0), (1, .int l1), (2, .int l2), (3, .int l3), (5, .int l5), (6, .int l6), (7, .int l7), (8, .int l8), (10, .int l10)]) [1, 2, 3, 4, 5, 6, 7, 8, 10] rfl ?_
        exact j197 bk69 hbk69 bk86 hbk86 bk103 hbk103 _ _ _ _ _ _ _ _ _ _ h
      · replace h := h.2 c54
        refine v_iconst X (v := 1) dX12_swaps_193 (by decide) ?_
        refine v_goto X (tgt := 198) dX12_swaps_194 (by decide) ?_
        refine v_lv (lv' := [(0, .ref l0), (1, .int l1), (2, .int l2), (3, .int l3), (5, .int l5), (6, .int l6), (7, .int l7), (8, .int l8), (10, .int l10)]) [1, 2, 3, 4, 5, 6, 7, 8, 10] rfl ?_
        exact j198 bk69 hbk69 bk86 hbk86 bk103 hbk103 _ _ _ _ _ _ _ _ _ _ _ h
  have j103 : ∀ (bk69 : hp → Nat → Int32 → Int32 → Int32 → Int32 → Int32 → Int32 → Prop) (hbk69 : ∀ (S : hp) (l0 : Nat) (l1 : Int32) (l2 : Int32) (l3 : Int32) (l5 : Int32) (l6 : Int32) (l7 : Int32), bk69 S l0 l1 l2 l3 l5 l6 l7 → VM l b D cy 12 2 45 0 0 (pI Q) p e s m args below meth c S 0 0 69 [(0, .ref l0), (1, .int l1), (2, .int l2), (3, .int l3), (5, .int l5), (6, .int l6), (7, .int l7)] []) (bk86 : hp → Nat → Int32 → Int32 → Int32 → Int32 → Int32 → Int32 → Int32 → Prop) (hbk86 : ∀ (S : hp) (l0 : Nat) (l1 : Int32) (l2 : Int32) (l3 : Int32) (l5 : Int32) (l6 : Int32) (l7 : Int32) (l8 : Int32), bk86 S l0 l1 l2 l3 l5 l6 l7 l8 → VM l b D cy 12 2 45 0 0 (pI Q) p e s m args below meth c S 0 0 86 [(0, .ref l0), (1, .int l1), (2, .int l2), (3, .int l3), (5, .int l5), (6, .int l6), (7, .int l7), (8, .int l8)] []) (bk103 : hp → Nat → Int32 → Int32 → Int32 → Int32 → Int32 → Int32 → Int32 → Int32 → Int32 → Prop) (hbk103 : ∀ (S : hp) (l0 : Nat) (l1 : Int32) (l2 : Int32) (l3 : Int32) (l5 : Int32) (l6 : Int32) (l7 : Int32) (l8 : Int32) (l9 : Int32) (l10 : Int32), bk103 S l0 l1 l2 l3 l5 l6 l7 l8 l9 l10 → VM l b D cy 12 2 45 0 0 (pI Q) p e s m args below meth c S 0 0 103 [(0, .ref l0), (1, .int l1), (2, .int l2), (3, .int l3), (5, .int l5), (6, .int l6), (7, .int l7), (8, .int l8), (9, .int l9), (10, .int l10)] []) (S : hp) (l0 : Nat) (l1 : Int32) (l2 : Int32) (l3 : Int32) (l5 : Int32) (l6 : Int32) (l7 : Int32) (l8 : Int32) (l9 : Int32) (l10 : Int32), wB_X12_swaps_103 bk69 bk86 bk103 Q S l0 l1 l2 l3 l5 l6 l7 l8 l9 l10 → VM l b D cy 12 2 45 0 0 (pI Q) p e s m args below meth c S 0 0 103 [(0, .ref l0), (1, .int l1), (2, .int l2), (3, .int l3), (5, .int l5), (6, .int l6), (7, .int l7), (8, .int l8), (9, .int l9), (10, .int l10)] [] := by
    intro bk69 hbk69 bk86 hbk86 bk103 hbk103 S l0 l1 l2 l3 l5 l6 l7 l8 l9 l10 h
    unfold wB_X12_swaps_103 at h
    refine v_iload X 9 dX12_swaps_103 rfl ?_
    refine v_iconst X (v := 3) dX12_swaps_105 (by decide) ?_
    refine v_aload_n X 0 dX12_swaps_106 rfl rfl ?_
    obtain ⟨hk33, h⟩ := h
    obtain ⟨r34, hr34, h⟩ := h
    refine v_getR X (T := TX12) (N := 26) (k := 5) hk33 (by decide) rfl (by decide) inX12 wd944 rfl dX12_swaps_107 hr34 ?_
    refine v_iconst X (v := 2) dX12_swaps_110 (by decide) ?_
    obtain ⟨hk35, h⟩ := h
    obtain ⟨hi36, h⟩ := h
    refine v_iald X hk35 hi36 dX12_swaps_111 ?_
    refine v_imul X dX12_swaps_112 ?_
    refine v_icmp_ge X (tgt := 206) dX12_swaps_113 (by decide) (fun c37 => ?_) (fun c37 => ?_)
    · replace h := h.1 c37
      refine v_iload X 8 dX12_swaps_206 rfl ?_
      refine v_if_eq X (tgt := 228) dX12_swaps_208 (by decide) (fun c38 => ?_) (fun c38 => ?_)
      · replace h := h.1 c38
        refine v_lv (lv' := [(0, .ref l0), (1, .int l1), (2, .int l2), (3, .int l3), (5, .int l5), (6, .int l6), (7, .int l7), (8, .int l8), (9, .int l9)]) [0, 1, 2, 3, 4, 5, 6, 7, 8] rfl ?_
        exact j228 bk69 hbk69 bk86 hbk86 _ _ _ _ _ _ _ _ _ _ h
      · replace h := h.2 c38
        refine v_iload X 5 dX12_swaps_211 rfl ?_
        refine v_ldc X wd1070 dX12_swaps_213 ?_
        refine v_icmp_ne X (tgt := 228) dX12_swaps_215 (by decide) (fun c42 => ?_) (fun c42 => ?_)
        · replace h := h.1 c42
          refine v_lv (lv' := [(0, .ref l0), (1, .int l1), (2, .int l2), (3, .int l3), (5, .int l5), (6, .int l6), (7, .int l7), (8, .int l8), (9, .int l9)]) [0, 1, 2, 3, 4, 5, 6, 7, 8] rfl ?_
          exact j228 bk69 hbk69 bk86 hbk86 _ _ _ _ _ _ _ _ _ _ h
        · replace h := h.2 c42
          refine v_iconst X (v := 4) dX12_swaps_218 (by decide) ?_
          refine v_iload X 6 dX12_swaps_219 rfl ?_
          refine v_imul X dX12_swaps_221 ?_
          refine v_iload X 7 dX12_swaps_222 rfl ?_
          refine v_iadd X dX12_swaps_224 ?_
          refine v_goto X (tgt := 230) dX12_swaps_225 (by decide) ?_
          refine v_lv (lv' := [(0, .ref l0), (1, .int l1), (2, .int l2), (3, .int l3), (5, .int l5), (7, .int l7), (8, .int l8), (9, .int l9)]) [0, 1, 2, 3, 4, 6, 7, 8] rfl ?_
          exact j230 bk69 hbk69 bk86 hbk86 _ _ _ _ _ _ _ _ _ _ h
    · replace h := h.2 c37
      refine v_iload X 9 dX12_swaps_116 rfl ?_
      refine v_iconst X (v := 3) dX12_swaps_118 (by decide) ?_
      refine v_idiv X dX12_swaps_119 (by decide) ?_
      refine v_iload X 6 dX12_swaps_120 rfl ?_
      refine v_icmp_ne X (tgt := 137) dX12_swaps_122 (by decide) (fun c43 => ?_) (fun c43 => ?_)
      · replace h := h.1 c43
        refine v_iload X 9 dX12_swaps_137 rfl ?_
        refine v_iconst X (v := 3) dX12_swaps_139 (by decide) ?_
        refine v_idiv X dX12_swaps_140 (by decide) ?_
        refine v_iload X 7 dX12_swaps_141 rfl ?_
        refine v_icmp_ne X (tgt := 158) dX12_swaps_143 (by decide) (fun c44 => ?_) (fun c44 => ?_)
        · replace h := h.1 c44
          refine v_iload X 9 dX12_swaps_158 rfl ?_
          exact j160 bk69 hbk69 bk86 hbk86 bk103 hbk103 _ _ _ _ _ _ _ _ _ _ _ _ h
        · replace h := h.2 c44
          refine v_iconst X (v := 3) dX12_swaps_146 (by decide) ?_
          refine v_iload X 6 dX12_swaps_147 rfl ?_
          refine v_imul X dX12_swaps_149 ?_
          refine v_iload X 9 dX12_swaps_150 rfl ?_
          refine v_iconst X (v := 3) dX12_swaps_152 (by decide) ?_
          refine v_irem X dX12_swaps_153 (by decide) ?_
          refine v_iadd X dX12_swaps_154 ?_
          refine v_goto X (tgt := 160) dX12_swaps_155 (by decide) ?_
          exact j160 bk69 hbk69 bk86 hbk86 bk103 hbk103 _ _ _ _ _ _ _ _ _ _ _ _ h
      · replace h := h.2 c43
        refine v_iconst X (v := 3) dX12_swaps_125 (by decide) ?_
        refine v_iload X 7 dX12_swaps_126 rfl ?_
        refine v_imul X dX12_swaps_128 ?_
        refine v_iload X 9 dX12_swaps_129 rfl ?_
        refine v_iconst X (v := 3) dX12_swaps_131 (by decide) ?_
        refine v_irem X dX12_swaps_132 (by decide) ?_
        refine v_iadd X dX12_swaps_133 ?_
        refine v_goto X (tgt := 160) dX12_swaps_134 (by decide) ?_
        exact j160 bk69 hbk69 bk86 hbk86 bk103 hbk103 _ _ _ _ _ _ _ _ _ _ _ _ h
  have l103 : ∀ (bk69 : hp → Nat → Int32 → Int32 → Int32 → Int32 → Int32 → Int32 → Prop) (hbk69 : ∀ (S : hp) (l0 : Nat) (l1 : Int32) (l2 : Int32) (l3 : Int32) (l5 : Int32) (l6 : Int32) (l7 : Int32), bk69 S l0 l1 l2 l3 l5 l6 l7 → VM l b D cy 12 2 45 0 0 (pI Q) p e s m args below meth c S 0 0 69 [(0, .ref l0), (1, .int l1), (2, .int l2), (3, .int l3), (5, .int l5), (6, .int l6), (7, .int l7)] []) (bk86 : hp → Nat → Int32 → Int32 → Int32 → Int32 → Int32 → Int32 → Int32 → Prop) (hbk86 : ∀ (S : hp) (l0 : Nat) (l1 : Int32) (l2 : Int32) (l3 : Int32) (l5 : Int32) (l6 : Int32) (l7 : Int32) (l8 : Int32), bk86 S l0 l1 l2 l3 l5 l6 l7 l8 → VM l b D cy 12 2 45 0 0 (pI Q) p e s m args below meth c S 0 0 86 [(0, .ref l0), (1, .int l1), (2, .int l2), (3, .int l3), (5, .int l5), (6, .int l6), (7, .int l7), (8, .int l8)] []) (n : Nat) (S : hp) (l0 : Nat) (l1 : Int32) (l2 : Int32) (l3 : Int32) (l5 : Int32) (l6 : Int32) (l7 : Int32) (l8 : Int32) (l9 : Int32) (l10 : Int32), wl_X12_swaps_103 bk69 bk86 Q n S l0 l1 l2 l3 l5 l6 l7 l8 l9 l10 → VM l b D cy 12 2 45 0 0 (pI Q) p e s m args below meth c S 0 0 103 [(0, .ref l0), (1, .int l1), (2, .int l2), (3, .int l3), (5, .int l5), (6, .int l6), (7, .int l7), (8, .int l8), (9, .int l9), (10, .int l10)] [] := by
    intro bk69 hbk69 bk86 hbk86 n
    induction n with
    | zero => intro S l0 l1 l2 l3 l5 l6 l7 l8 l9 l10 h; exact h.elim
    | succ n ih => intro S l0 l1 l2 l3 l5 l6 l7 l8 l9 l10 h; exact j103 bk69 hbk69 bk86 hbk86 (wl_X12_swaps_103 bk69 bk86 Q n) ih S l0 l1 l2 l3 l5 l6 l7 l8 l9 l10 h
  have j86 : ∀ (bk69 : hp → Nat → Int32 → Int32 → Int32 → Int32 → Int32 → Int32 → Prop) (hbk69 : ∀ (S : hp) (l0 : Nat) (l1 : Int32) (l2 : Int32) (l3 : Int32) (l5 : Int32) (l6 : Int32) (l7 : Int32), bk69 S l0 l1 l2 l3 l5 l6 l7 → VM l b D cy 12 2 45 0 0 (pI Q) p e s m args below meth c S 0 0 69 [(0, .ref l0), (1, .int l1), (2, .int l2), (3, .int l3), (5, .int l5), (6, .int l6), (7, .int l7)] []) (bk86 : hp → Nat → Int32 → Int32 → Int32 → Int32 → Int32 → Int32 → Int32 → Prop) (hbk86 : ∀ (S : hp) (l0 : Nat) (l1 : Int32) (l2 : Int32) (l3 : Int32) (l5 : Int32) (l6 : Int32) (l7 : Int32) (l8 : Int32), bk86 S l0 l1 l2 l3 l5 l6 l7 l8 → VM l b D cy 12 2 45 0 0 (pI Q) p e s m args below meth c S 0 0 86 [(0, .ref l0), (1, .int l1), (2, .int l2), (3, .int l3), (5, .int l5), (6, .int l6), (7, .int l7), (8, .int l8)] []) (S : hp) (l0 : Nat) (l1 : Int32) (l2 : Int32) (l3 : Int32) (l5 : Int32) (l6 : Int32) (l7 : Int32) (l8 : Int32), wB_X12_swaps_86 bk69 bk86 Q S l0 l1 l2 l3 l5 l6 l7 l8 → VM l b D cy 12 2 45 0 0 (pI Q) p e s m args below meth c S 0 0 86 [(0, .ref l0), (1, .int l1), (2, .int l2), (3, .int l3), (5, .int l5), (6, .int l6), (7, .int l7), (8, .int l8)] [] := by
    intro bk69 hbk69 bk86 hbk86 S l0 l1 l2 l3 l5 l6 l7 l8 h
    unfold wB_X12_swaps_86 at h
    refine v_iload X 7 dX12_swaps_86 rfl ?_
    refine v_aload_n X 0 dX12_swaps_88 rfl rfl ?_
    obtain ⟨hk27, h⟩ := h
    obtain ⟨r28, hr28, h⟩ := h
    refine v_getR X (T := TX12) (N := 26) (k := 5) hk27 (by decide) rfl (by decide) inX12 wd944 rfl dX12_swaps_89 hr28 ?_
    refine v_iconst X (v := 2) dX12_swaps_92 (by decide) ?_
    obtain ⟨hk29, h⟩ := h
    obtain ⟨hi30, h⟩ := h
    refine v_iald X hk29 hi30 dX12_swaps_93 ?_
    refine v_icmp_ge X (tgt := 253) dX12_swaps_94 (by decide) (fun c31 => ?_) (fun c31 => ?_)
    · replace h := h.1 c31
      obtain ⟨v32, hv32⟩ : ∃ y : Int32, y = l7 + (1 : Int32) := ⟨_, rfl⟩
      replace h := h v32 hv32
      refine v_iinc X (j := 6) (v := v32) (lv' := [(7, .int v32), (0, .ref l0), (1, .int l1), (2, .int l2), (3, .int l3), (5, .int l5), (6, .int l6), (8, .int l8)]) dX12_swaps_253 rfl (by rw [hv32] <;> rfl) (by decide) rfl ?_
      refine v_goto X (tgt := 69) dX12_swaps_256 (by decide) ?_
      refine v_lv (lv' := [(0, .ref l0), (1, .int l1), (2, .int l2), (3, .int l3), (5, .int l5), (6, .int l6), (7, .int v32)]) [1, 2, 3, 4, 5, 6, 0] rfl ?_
      exact hbk69 _ _ _ _ _ _ _ _ h
    · replace h := h.2 c31
      refine v_iconst X (v := 1) dX12_swaps_97 (by decide) ?_
      refine v_istore X (lv' := [(9, .int (1 : Int32)), (0, .ref l0), (1, .int l1), (2, .int l2), (3, .int l3), (5, .int l5), (6, .int l6), (7, .int l7), (8, .int l8)]) dX12_swaps_98 (by decide) rfl ?_
      refine v_iconst X (v := 0) dX12_swaps_100 (by decide) ?_
      refine v_istore X (lv' := [(10, .int (0 : Int32)), (9, .int (1 : Int32)), (0, .ref l0), (1, .int l1), (2, .int l2), (3, .int l3), (5, .int l5), (6, .int l6), (7, .int l7), (8, .int l8)]) dX12_swaps_101 (by decide) rfl ?_
      refine v_lv (lv' := [(0, .ref l0), (1, .int l1), (2, .int l2), (3, .int l3), (5, .int l5), (6, .int l6), (7, .int l7), (8, .int l8), (9, .int (1 : Int32)), (10, .int (0 : Int32))]) [2, 3, 4, 5, 6, 7, 8, 9, 1, 0] rfl ?_
      obtain ⟨n, h⟩ := h
      exact l103 bk69 hbk69 bk86 hbk86 n _ _ _ _ _ _ _ _ _ _ _ h
  have l86 : ∀ (bk69 : hp → Nat → Int32 → Int32 → Int32 → Int32 → Int32 → Int32 → Prop) (hbk69 : ∀ (S : hp) (l0 : Nat) (l1 : Int32) (l2 : Int32) (l3 : Int32) (l5 : Int32) (l6 : Int32) (l7 : Int32), bk69 S l0 l1 l2 l3 l5 l6 l7 → VM l b D cy 12 2 45 0 0 (pI Q) p e s m args below meth c S 0 0 69 [(0, .ref l0), (1, .int l1), (2, .int l2), (3, .int l3), (5, .int l5), (6, .int l6), (7, .int l7)] []) (n : Nat) (S : hp) (l0 : Nat) (l1 : Int32) (l2 : Int32) (l3 : Int32) (l5 : Int32) (l6 : Int32) (l7 : Int32) (l8 : Int32), wl_X12_swaps_86 bk69 Q n S l0 l1 l2 l3 l5 l6 l7 l8 → VM l b D cy 12 2 45 0 0 (pI Q) p e s m args below meth c S 0 0 86 [(0, .ref l0), (1, .int l1), (2, .int l2), (3, .int l3), (5, .int l5), (6, .int l6), (7, .int l7), (8, .int l8)] [] := by
    intro bk69 hbk69 n
    induction n with
    | zero => intro S l0 l1 l2 l3 l5 l6 l7 l8 h; exact h.elim
    | succ n ih => intro S l0 l1 l2 l3 l5 l6 l7 l8 h; exact j86 bk69 hbk69 (wl_X12_swaps_86 bk69 Q n) ih S l0 l1 l2 l3 l5 l6 l7 l8 h
  have j69 : ∀ (bk69 : hp → Nat → Int32 → Int32 → Int32 → Int32 → Int32 → Int32 → Prop) (hbk69 : ∀ (S : hp) (l0 : Nat) (l1 : Int32) (l2 : Int32) (l3 : Int32) (l5 : Int32) (l6 : Int32) (l7 : Int32), bk69 S l0 l1 l2 l3 l5 l6 l7 → VM l b D cy 12 2 45 0 0 (pI Q) p e s m args below meth c S 0 0 69 [(0, .ref l0), (1, .int l1), (2, .int l2), (3, .int l3), (5, .int l5), (6, .int l6), (7, .int l7)] []) (S : hp) (l0 : Nat) (l1 : Int32) (l2 : Int32) (l3 : Int32) (l5 : Int32) (l6 : Int32) (l7 : Int32), wB_X12_swaps_69 bk69 Q S l0 l1 l2 l3 l5 l6 l7 → VM l b D cy 12 2 45 0 0 (pI Q) p e s m args below meth c S 0 0 69 [(0, .ref l0), (1, .int l1), (2, .int l2), (3, .int l3), (5, .int l5), (6, .int l6), (7, .int l7)] [] := by
    intro bk69 hbk69 S l0 l1 l2 l3 l5 l6 l7 h
    unfold wB_X12_swaps_69 at h
    refine v_iload X 6 dX12_swaps_69 rfl ?_
    refine v_aload_n X 0 dX12_swaps_71 rfl rfl ?_
    obtain ⟨hk20, h⟩ := h
    obtain ⟨r21, hr21, h⟩ := h
    refine v_getR X (T := TX12) (N := 26) (k := 5) hk20 (by decide) rfl (by decide) inX12 wd944 rfl dX12_swaps_72 hr21 ?_
    refine v_iconst X (v := 2) dX12_swaps_75 (by decide) ?_
    obtain ⟨hk22, h⟩ := h
    obtain ⟨hi23, h⟩ := h
    refine v_iald X hk22 hi23 dX12_swaps_76 ?_
    refine v_icmp_ge X (tgt := 259) dX12_swaps_77 (by decide) (fun c24 => ?_) (fun c24 => ?_)
    · replace h := h.1 c24
      refine v_iload_n X 3 dX12_swaps_259 rfl rfl ?_
      refine v_if_ne X (tgt := 268) dX12_swaps_260 (by decide) (fun c25 => ?_) (fun c25 => ?_)
      · replace h := h.1 c25
        refine v_iload X 5 dX12_swaps_268 rfl ?_
        exact v_iret X hr hlk ⟨_, rfl, h⟩ dX12_swaps_270
      · replace h := h.2 c25
        refine v_iload X 4 dX12_swaps_263 rfl ?_
        refine v_goto X (tgt := 270) dX12_swaps_265 (by decide) ?_
        exact v_iret X hr hlk ⟨_, rfl, h⟩ dX12_swaps_270
    · replace h := h.2 c24
      refine v_iload X 6 dX12_swaps_80 rfl ?_
      refine v_iconst X (v := 1) dX12_swaps_82 (by decide) ?_
      refine v_iadd X dX12_swaps_83 ?_
      refine v_nm (fun v26 hv26 => ?_)
      replace h := h v26 hv26
      refine v_istore X (lv' := [(8, .int v26), (0, .ref l0), (1, .int l1), (2, .int l2), (3, .int l3), (5, .int l5), (6, .int l6), (7, .int l7)]) dX12_swaps_84 (by decide) rfl ?_
      refine v_lv (lv' := [(0, .ref l0), (1, .int l1), (2, .int l2), (3, .int l3), (5, .int l5), (6, .int l6), (7, .int l7), (8, .int v26)]) [1, 2, 3, 4, 5, 6, 7, 0] rfl ?_
      obtain ⟨n, h⟩ := h
      exact l86 bk69 hbk69 n _ _ _ _ _ _ _ _ _ h
  have l69 : ∀  (n : Nat) (S : hp) (l0 : Nat) (l1 : Int32) (l2 : Int32) (l3 : Int32) (l5 : Int32) (l6 : Int32) (l7 : Int32), wl_X12_swaps_69 Q n S l0 l1 l2 l3 l5 l6 l7 → VM l b D cy 12 2 45 0 0 (pI Q) p e s m args below meth c S 0 0 69 [(0, .ref l0), (1, .int l1), (2, .int l2), (3, .int l3), (5, .int l5), (6, .int l6), (7, .int l7)] [] := by
    intro  n
    induction n with
    | zero => intro S l0 l1 l2 l3 l5 l6 l7 h; exact h.elim
    | succ n ih => intro S l0 l1 l2 l3 l5 l6 l7 h; exact j69 (wl_X12_swaps_69 Q n) ih S l0 l1 l2 l3 l5 l6 l7 h
  unfold wp_X12_swaps at h
  show VM l b D cy 12 2 45 0 0 (pI Q) p e s m args below meth c S 0 0 0 [(0, .ref a0), (1, .int x1), (2, .int x2), (3, .int x3)] []
  refine v_aload_n X 0 dX12_swaps_0 rfl rfl ?_
  refine v_iconst X (v := 0) dX12_swaps_1 (by decide) ?_
  obtain ⟨hk1, h⟩ := h
  refine v_putI X (T := TX12) (N := 26) (k := 0) hk1 (by decide) rfl (by decide) inX12 wd939 tyX12 tyX12_ok nmX12 rfl rfl rfl rfl dX12_swaps_2 ?_
  refine v_nmS (fun S2 eS2 => ?_)
  replace h := h S2 eS2
  have hk3 : hK S2 a0 = 11 := by rw [eS2]; exact hk1
  refine v_aload_n X 0 dX12_swaps_5 rfl rfl ?_
  refine v_callV X (av := []) (T := TX12) (N := 26) (s_X12_isThere l b D cy h) hk3 (by decide) rfl wd1150 wd1152 wd37 wd62 k_X12_isThere dn_X12_isThere rfl ⟨Nat.le_of_ble_eq_true rfl, Nat.le_of_ble_eq_true rfl⟩ (Nat.le_of_ble_eq_true rfl) ⟨Nat.le_of_ble_eq_true rfl, Nat.le_of_ble_eq_true rfl⟩ dX12_swaps_6 rfl (kI (fun r5 S4 h => ?_))
  refine v_if_ne X (tgt := 15) dX12_swaps_9 (by decide) (fun c6 => ?_) (fun c6 => ?_)
  · replace h := h.1 c6
    refine v_iload_n X 1 dX12_swaps_15 rfl rfl ?_
    refine v_callS X (av := [.int x1]) (s_X12_isRow l b D cy h) wd1022 wd1023 wd62 k_X12_isRow dn_X12_isRow rfl ⟨Nat.le_of_ble_eq_true rfl, Nat.le_of_ble_eq_true rfl⟩ (Nat.le_of_ble_eq_true rfl) ⟨Nat.le_of_ble_eq_true rfl, Nat.le_of_ble_eq_true rfl⟩ dX12_swaps_16 rfl (kI (fun r8 S7 h => ?_))
    refine v_if_eq X (tgt := 32) dX12_swaps_19 (by decide) (fun c9 => ?_) (fun c9 => ?_)
    · replace h := h.1 c9
      refine v_ldc X wd1030 dX12_swaps_32 ?_
      exact v_iret X hr hlk ⟨_, rfl, h⟩ dX12_swaps_34
    · replace h := h.2 c9
      refine v_iload_n X 3 dX12_swaps_22 rfl rfl ?_
      refine v_i2l X dX12_swaps_23 ?_
      refine v_lconst X (v := 0) dX12_swaps_24 (by decide) ?_
      refine v_lconst X (v := 1) dX12_swaps_25 (by decide) ?_
      refine v_callS X (av := [.long (x3).toInt64, .long (0 : Int64), .long (1 : Int64)]) (s_X12_in l b D cy h) wd1026 wd1027 wd62 k_X12_in dn_X12_in rfl ⟨Nat.le_of_ble_eq_true rfl, Nat.le_of_ble_eq_true rfl⟩ (Nat.le_of_ble_eq_true rfl) ⟨Nat.le_of_ble_eq_true rfl, Nat.le_of_ble_eq_true rfl⟩ dX12_swaps_26 rfl (kI (fun r11 S10 h => ?_))
      refine v_if_ne X (tgt := 35) dX12_swaps_29 (by decide) (fun c12 => ?_) (fun c12 => ?_)
      · replace h := h.1 c12
        refine v_aload_n X 0 dX12_swaps_35 rfl rfl ?_
        refine v_iload_n X 1 dX12_swaps_36 rfl rfl ?_
        refine v_iload_n X 2 dX12_swaps_37 rfl rfl ?_
        refine v_iconst X (v := 3) dX12_swaps_38 (by decide) ?_
        refine v_aload_n X 0 dX12_swaps_39 rfl rfl ?_
        obtain ⟨hk13, h⟩ := h
        obtain ⟨r14, hr14, h⟩ := h
        refine v_getR X (T := TX12) (N := 26) (k := 5) hk13 (by decide) rfl (by decide) inX12 wd944 rfl dX12_swaps_40 hr14 ?_
        refine v_iconst X (v := 2) dX12_swaps_43 (by decide) ?_
        obtain ⟨hk15, h⟩ := h
        obtain ⟨hi16, h⟩ := h
        refine v_iald X hk15 hi16 dX12_swaps_44 ?_
        refine v_imul X dX12_swaps_45 ?_
        refine v_callV X (av := [.int x1, .int x2, .int ((3 : Int32) * (hI S10 r14 ((2 : Int32)).toNatClampNeg))]) (T := TX12) (N := 26) (s_X12_noRow l b D cy h) hk13 (by decide) rfl wd1200 wd1202 wd41 wd62 k_X12_noRow dn_X12_noRow rfl ⟨Nat.le_of_ble_eq_true rfl, Nat.le_of_ble_eq_true rfl⟩ (Nat.le_of_ble_eq_true rfl) ⟨Nat.le_of_ble_eq_true rfl, Nat.le_of_ble_eq_true rfl⟩ dX12_swaps_46 rfl (kI (fun r18 S17 h => ?_))
        refine v_istore X (lv' := [(4, .int r18), (0, .ref a0), (1, .int x1), (2, .int x2), (3, .int x3)]) dX12_swaps_49 (by decide) rfl ?_
        refine v_iload X 0 dX12_swaps_51 rfl ?_
        refine v_if_ge X (tgt := 59) dX12_swaps_53 (by decide) (fun c19 => ?_) (fun c19 => ?_)
        · replace h := h.1 c19
          refine v_iconst X (v := 0) dX12_swaps_59 (by decide) ?_
          refine v_istore X (lv' := [(5, .int (0 : Int32)), (4, .int r18), (0, .ref a0), (1, .int x1), (2, .int x2), (3, .int x3)]) dX12_swaps_60 (by decide) rfl ?_
          refine v_ldc X wd1070 dX12_swaps_62 ?_
          refine v_istore X (lv' := [(6, .int (-1000000 : Int32)), (5, .int (0 : Int32)), (4, .int r18), (0, .ref a0), (1, .int x1), (2, .int x2), (3, .int x3)]) dX12_swaps_64 (by decide) rfl ?_
          refine v_iconst X (v := 0) dX12_swaps_66 (by decide) ?_
          refine v_istore X (lv' := [(7, .int (0 : Int32)), (6, .int (-1000000 : Int32)), (5, .int (0 : Int32)), (4, .int r18), (0, .ref a0), (1, .int x1), (2, .int x2), (3, .int x3)]) dX12_swaps_67 (by decide) rfl ?_
          refine v_lv (lv' := [(0, .ref a0), (1, .int x1), (2, .int x2), (3, .int x3), (5, .int (0 : Int32)), (6, .int (-1000000 : Int32)), (7, .int (0 : Int32))]) [4, 5, 6, 7, 2, 1, 0] rfl ?_
          obtain ⟨n, h⟩ := h
          exact l69 n _ _ _ _ _ _ _ _ h
        · replace h := h.2 c19
          refine v_iload X 0 dX12_swaps_56 rfl ?_
          exact v_iret X hr hlk ⟨_, rfl, h⟩ dX12_swaps_58
      · replace h := h.2 c12
        refine v_ldc X wd1030 dX12_swaps_32 ?_
        exact v_iret X hr hlk ⟨_, rfl, h⟩ dX12_swaps_34
  · replace h := h.2 c6
    refine v_ldc X wd1154 dX12_swaps_12 ?_
    exact v_iret X hr hlk ⟨_, rfl, h⟩ dX12_swaps_14
def wB_X12_lent_150 (bk79 : hp → Nat → Int32 → Int32 → Int32 → Int32 → Int32 → Prop) (Q : Int32 → hp → Prop) (S : hp) (l0 : Nat) (l1 : Int32) (l2 : Int32) (l3 : Int32) (l5 : Int32) (k0 : Int32) (k1 : Int32) : Prop :=
  ∀ v39 : Int32, v39 = (k1 + k0) → ∀ v40 : Int32, v40 = l5 + (1 : Int32) → bk79 S l0 l1 l2 l3 v39 v40
def wB_X12_lent_133 (bk79 : hp → Nat → Int32 → Int32 → Int32 → Int32 → Int32 → Prop) (Q : Int32 → hp → Prop) (S : hp) (l0 : Nat) (l1 : Int32) (l2 : Int32) (l4 : Int32) (l5 : Int32) (l6 : Int32) (k0 : Int32) (k1 : Int32) : Prop :=
  ∀ v37 : Int32, v37 = (k1 ||| k0) → ((0 ≤ l6 → wB_X12_lent_150 bk79 Q S l0 l1 l2 v37 l5 l6 l4) ∧ (¬ 0 ≤ l6 → wB_X12_lent_150 bk79 Q S l0 l1 l2 v37 l5 ((-l6)) l4))
def wB_X12_lent_79 (bk79 : hp → Nat → Int32 → Int32 → Int32 → Int32 → Int32 → Prop) (Q : Int32 → hp → Prop) (S : hp) (l0 : Nat) (l1 : Int32) (l2 : Int32) (l3 : Int32) (l4 : Int32) (l5 : Int32) : Prop :=
  hK S l0 = 11 ∧ ∃ r26 : Nat, hR S l0 5 = some r26 ∧ hK S r26 = 12 ∧ vp_in (2 : Int32) (hN S r26) ∧ ((((3 : Int32) * (hI S r26 ((2 : Int32)).toNatClampNeg)) ≤ l5 → ((¬ l2 = 0 → Q l4 S) ∧ (l2 = 0 → Q l3 S))) ∧ (¬ ((3 : Int32) * (hI S r26 ((2 : Int32)).toNatClampNeg)) ≤ l5 → vp_in ((5 : Int32) + l5) (hN S r26) ∧ ∃ r32 : Nat, hR S l0 20 = some r32 ∧ hK S r32 = 12 ∧ vp_in ((((147 : Int32) * l1) + (5 : Int32)) + l5) (hN S r32) ∧ ∀ v35 : Int32, v35 = ((hI S r26 (((5 : Int32) + l5)).toNatClampNeg) - (hI S r32 (((((147 : Int32) * l1) + (5 : Int32)) + l5)).toNatClampNeg)) → ((v35 = 0 → wB_X12_lent_133 bk79 Q S l0 l1 l2 l4 l5 v35 (0 : Int32) l3) ∧ (¬ v35 = 0 → wB_X12_lent_133 bk79 Q S l0 l1 l2 l4 l5 v35 (((1 : Int32) <<< (l5 &&& 31))) l3))))
def wl_X12_lent_79 (Q : Int32 → hp → Prop) : Nat → hp → Nat → Int32 → Int32 → Int32 → Int32 → Int32 → Prop
  | 0 => fun _ _ _ _ _ _ _ => False
  | n + 1 => wB_X12_lent_79 (wl_X12_lent_79 Q n) Q
def wp_X12_lent (Q : Int32 → hp → Prop) (S : hp) (a0 : Nat) (x1 : Int32) (x2 : Int32) : Prop :=
  hK S a0 = 11 ∧ ∀ S2 : hp, S2 = setI S a0 0 (0 : Int32) → wp_X12_isThere (fun r5 S4 => ((¬ r5 = 0 → wp_X12_in (fun r8 S7 => ((r8 = 0 → Q (-1000001 : Int32) S7) ∧ (¬ r8 = 0 → wp_X12_in (fun r11 S10 => ((¬ r11 = 0 → hK S10 a0 = 11 ∧ ∃ r14 : Nat, hR S10 a0 19 = some r14 ∧ hK S10 r14 = 13 ∧ vp_in x1 (hN S10 r14) ∧ (((hI S10 r14 (x1).toNatClampNeg) = 0 → Q (-1000002 : Int32) S10) ∧ (¬ (hI S10 r14 (x1).toNatClampNeg) = 0 → ∃ r18 : Nat, hR S10 a0 20 = some r18 ∧ hK S10 r18 = 12 ∧ vp_in (((147 : Int32) * x1) + (2 : Int32)) (hN S10 r18) ∧ ∃ r21 : Nat, hR S10 a0 5 = some r21 ∧ hK S10 r21 = 12 ∧ vp_in (2 : Int32) (hN S10 r21) ∧ (((hI S10 r18 ((((147 : Int32) * x1) + (2 : Int32))).toNatClampNeg) = (hI S10 r21 ((2 : Int32)).toNatClampNeg) → ∃ n : Nat, wl_X12_lent_79 Q n S10 a0 x1 x2 (0 : Int32) (0 : Int32) (0 : Int32)) ∧ (¬ (hI S10 r18 ((((147 : Int32) * x1) + (2 : Int32))).toNatClampNeg) = (hI S10 r21 ((2 : Int32)).toNatClampNeg) → Q (-1000002 : Int32) S10))))) ∧ (r11 = 0 → Q (-1000001 : Int32) S10))) S7 ((x2).toInt64) ((0 : Int64)) ((1 : Int64))))) S4 ((x1).toInt64) ((0 : Int64)) ((1 : Int64))) ∧ (r5 = 0 → Q (-1000002 : Int32) S4))) S2 a0
theorem k_X12_lent : Cond.code yX12_lent cX12_lent 7 (some .int) ∈ gtb := mg 1250 (by decide +kernel) (by decide +kernel)
theorem dn_X12_lent : yX12_lent.cls ≠ "java/lang/invoke/MethodHandle" ∧ yX12_lent.cls ≠ "java/lang/invoke/VarHandle" ∧ (parseMethodDescriptor yX12_lent.desc).map (fun d => d.parameters.length) = some 2 := by decide +kernel
set_option maxRecDepth 100000 in
set_option maxHeartbeats 4000000 in
theorem s_X12_lent (l : Launch) (b : Nat) (D : va_G) (cy : Nat → ClassId) {Q : Int32 → hp → Prop} {S : hp} {a0 : Nat} {x1 : Int32} {x2 : Int32} (h : wp_X12_lent Q S a0 x1 x2) : MT l yX12_lent cX12_lent 7 (some .int) 1 25 0 0 b D cy S [.ref a0, .int x1, .int x2] (pI Q) := by
  refine MT.of (by decide +kernel) (Nat.le_of_ble_eq_true rfl) ?_
  intro p e s m args below meth c X hr hlk hnm
  have j150 : ∀ (bk79 : hp → Nat → Int32 → Int32 → Int32 → Int32 → Int32 → Prop) (hbk79 : ∀ (S : hp) (l0 : Nat) (l1 : Int32) (l2 : Int32) (l3 : Int32) (l4 : Int32) (l5 : Int32), bk79 S l0 l1 l2 l3 l4 l5 → VM l b D cy 7 1 25 0 0 (pI Q) p e s m args below meth c S 0 0 79 [(0, .ref l0), (1, .int l1), (2, .int l2), (3, .int l3), (4, .int l4), (5, .int l5)] []) (S : hp) (l0 : Nat) (l1 : Int32) (l2 : Int32) (l3 : Int32) (l5 : Int32) (k0 : Int32) (k1 : Int32), wB_X12_lent_150 bk79 Q S l0 l1 l2 l3 l5 k0 k1 → VM l b D cy 7 1 25 0 0 (pI Q) p e s m args below meth c S 0 0 150 [(0, .ref l0), (1, .int l1), (2, .int l2), (3, .int l3), (5, .int l5)] [.int k0, .int k1] := by
    intro bk79 hbk79 S l0 l1 l2 l3 l5 k0 k1 h
    unfold wB_X12_lent_150 at h
    refine v_iadd X dX12_lent_150 ?_
    refine v_nm (fun v39 hv39 => ?_)
    replace h := h v39 hv39
    refine v_istore X (lv' := [(4, .int v39), (0, .ref l0), (1, .int l1), (2, .int l2), (3, .int l3), (5, .int l5)]) dX12_lent_151 (by decide) rfl ?_
    obtain ⟨v40, hv40⟩ : ∃ y : Int32, y = l5 + (1 : Int32) := ⟨_, rfl⟩
    replace h := h v40 hv40
    refine v_iinc X (j := 5) (v := v40) (lv' := [(5, .int v40), (4, .int v39), (0, .ref l0), (1, .int l1), (2, .int l2), (3, .int l3)]) dX12_lent_153 rfl (by rw [hv40] <;> rfl) (by decide) rfl ?_
    refine v_goto X (tgt := 79) dX12_lent_156 (by decide) ?_
    refine v_lv (lv' := [(0, .ref l0), (1, .int l1), (2, .int l2), (3, .int l3), (4, .int v39), (5, .int v40)]) [2, 3, 4, 5, 1, 0] rfl ?_
    exact hbk79 _ _ _ _ _ _ _ h
  have j133 : ∀ (bk79 : hp → Nat → Int32 → Int32 → Int32 → Int32 → Int32 → Prop) (hbk79 : ∀ (S : hp) (l0 : Nat) (l1 : Int32) (l2 : Int32) (l3 : Int32) (l4 : Int32) (l5 : Int32), bk79 S l0 l1 l2 l3 l4 l5 → VM l b D cy 7 1 25 0 0 (pI Q) p e s m args below meth c S 0 0 79 [(0, .ref l0), (1, .int l1), (2, .int l2), (3, .int l3), (4, .int l4), (5, .int l5)] []) (S : hp) (l0 : Nat) (l1 : Int32) (l2 : Int32) (l4 : Int32) (l5 : Int32) (l6 : Int32) (k0 : Int32) (k1 : Int32), wB_X12_lent_133 bk79 Q S l0 l1 l2 l4 l5 l6 k0 k1 → VM l b D cy 7 1 25 0 0 (pI Q) p e s m args below meth c S 0 0 133 [(0, .ref l0), (1, .int l1), (2, .int l2), (4, .int l4), (5, .int l5), (6, .int l6)] [.int k0, .int k1] := by
    intro bk79 hbk79 S l0 l1 l2 l4 l5 l6 k0 k1 h
    unfold wB_X12_lent_133 at h
    refine v_ior X dX12_lent_133 ?_
    refine v_nm (fun v37 hv37 => ?_)
    replace h := h v37 hv37
    refine v_istore_n X (lv' := [(3, .int v37), (0, .ref l0), (1, .int l1), (2, .int l2), (4, .int l4), (5, .int l5), (6, .int l6)]) dX12_lent_134 rfl (by decide) rfl ?_
    refine v_iload X 4 dX12_lent_135 rfl ?_
    refine v_iload X 6 dX12_lent_137 rfl ?_
    refine v_if_ge X (tgt := 148) dX12_lent_139 (by decide) (fun c38 => ?_) (fun c38 => ?_)
    · replace h := h.1 c38
      refine v_iload X 6 dX12_lent_148 rfl ?_
      refine v_lv (lv' := [(0, .ref l0), (1, .int l1), (2, .int l2), (3, .int v37), (5, .int l5)]) [1, 2, 3, 0, 5] rfl ?_
      exact j150 bk79 hbk79 _ _ _ _ _ _ _ _ h
    · replace h := h.2 c38
      refine v_iload X 6 dX12_lent_142 rfl ?_
      refine v_ineg X dX12_lent_144 ?_
      refine v_goto X (tgt := 150) dX12_lent_145 (by decide) ?_
      refine v_lv (lv' := [(0, .ref l0), (1, .int l1), (2, .int l2), (3, .int v37), (5, .int l5)]) [1, 2, 3, 0, 5] rfl ?_
      exact j150 bk79 hbk79 _ _ _ _ _ _ _ _ h
  have j79 : ∀ (bk79 : hp → Nat → Int32 → Int32 → Int32 → Int32 → Int32 → Prop) (hbk79 : ∀ (S : hp) (l0 : Nat) (l1 : Int32) (l2 : Int32) (l3 : Int32) (l4 : Int32) (l5 : Int32), bk79 S l0 l1 l2 l3 l4 l5 → VM l b D cy 7 1 25 0 0 (pI Q) p e s m args below meth c S 0 0 79 [(0, .ref l0), (1, .int l1), (2, .int l2), (3, .int l3), (4, .int l4), (5, .int l5)] []) (S : hp) (l0 : Nat) (l1 : Int32) (l2 : Int32) (l3 : Int32) (l4 : Int32) (l5 : Int32), wB_X12_lent_79 bk79 Q S l0 l1 l2 l3 l4 l5 → VM l b D cy 7 1 25 0 0 (pI Q) p e s m args below meth c S 0 0 79 [(0, .ref l0), (1, .int l1), (2, .int l2), (3, .int l3), (4, .int l4), (5, .int l5)] [] := by
    intro bk79 hbk79 S l0 l1 l2 l3 l4 l5 h
    unfold wB_X12_lent_79 at h
    refine v_iload X 5 dX12_lent_79 rfl ?_
    refine v_iconst X (v := 3) dX12_lent_81 (by decide) ?_
    refine v_aload_n X 0 dX12_lent_82 rfl rfl ?_
    obtain ⟨hk25, h⟩ := h
    obtain ⟨r26, hr26, h⟩ := h
    refine v_getR X (T := TX12) (N := 26) (k := 5) hk25 (by decide) rfl (by decide) inX12 wd944 rfl dX12_lent_83 hr26 ?_
    refine v_iconst X (v := 2) dX12_lent_86 (by decide) ?_
    obtain ⟨hk27, h⟩ := h
    obtain ⟨hi28, h⟩ := h
    refine v_iald X hk27 hi28 dX12_lent_87 ?_
    refine v_imul X dX12_lent_88 ?_
    refine v_icmp_ge X (tgt := 159) dX12_lent_89 (by decide) (fun c29 => ?_) (fun c29 => ?_)
    · replace h := h.1 c29
      refine v_iload_n X 2 dX12_lent_159 rfl rfl ?_
      refine v_if_ne X (tgt := 167) dX12_lent_160 (by decide) (fun c30 => ?_) (fun c30 => ?_)
      · replace h := h.1 c30
        refine v_iload X 4 dX12_lent_167 rfl ?_
        exact v_iret X hr hlk ⟨_, rfl, h⟩ dX12_lent_169
      · replace h := h.2 c30
        refine v_iload_n X 3 dX12_lent_163 rfl rfl ?_
        refine v_goto X (tgt := 169) dX12_lent_164 (by decide) ?_
        exact v_iret X hr hlk ⟨_, rfl, h⟩ dX12_lent_169
    · replace h := h.2 c29
      refine v_aload_n X 0 dX12_lent_92 rfl rfl ?_
      refine v_getR X (T := TX12) (N := 26) (k := 5) hk25 (by decide) rfl (by decide) inX12 wd944 rfl dX12_lent_93 hr26 ?_
      refine v_iconst X (v := 5) dX12_lent_96 (by decide) ?_
      refine v_iload X 5 dX12_lent_97 rfl ?_
      refine v_iadd X dX12_lent_99 ?_
      obtain ⟨hi31, h⟩ := h
      refine v_iald X hk27 hi31 dX12_lent_100 ?_
      refine v_aload_n X 0 dX12_lent_101 rfl rfl ?_
      obtain ⟨r32, hr32, h⟩ := h
      refine v_getR X (T := TX12) (N := 26) (k := 20) hk25 (by decide) rfl (by decide) inX12 wd959 rfl dX12_lent_102 hr32 ?_
      refine v_sipush X (v := 147) dX12_lent_105 (by decide) ?_
      refine v_iload_n X 1 dX12_lent_108 rfl rfl ?_
      refine v_imul X dX12_lent_109 ?_
      refine v_iconst X (v := 5) dX12_lent_110 (by decide) ?_
      refine v_iadd X dX12_lent_111 ?_
      refine v_iload X 5 dX12_lent_112 rfl ?_
      refine v_iadd X dX12_lent_114 ?_
      obtain ⟨hk33, h⟩ := h
      obtain ⟨hi34, h⟩ := h
      refine v_iald X hk33 hi34 dX12_lent_115 ?_
      refine v_isub X dX12_lent_116 ?_
      refine v_nm (fun v35 hv35 => ?_)
      replace h := h v35 hv35
      refine v_istore X (lv' := [(6, .int v35), (0, .ref l0), (1, .int l1), (2, .int l2), (3, .int l3), (4, .int l4), (5, .int l5)]) dX12_lent_117 (by decide) rfl ?_
      refine v_iload_n X 4 dX12_lent_119 rfl rfl ?_
      refine v_iload X 0 dX12_lent_120 rfl ?_
      refine v_if_eq X (tgt := 132) dX12_lent_122 (by decide) (fun c36 => ?_) (fun c36 => ?_)
      · replace h := h.1 c36
        refine v_iconst X (v := 0) dX12_lent_132 (by decide) ?_
        refine v_lv (lv' := [(0, .ref l0), (1, .int l1), (2, .int l2), (4, .int l4), (5, .int l5), (6, .int v35)]) [1, 2, 3, 5, 6, 0] rfl ?_
        exact j133 bk79 hbk79 _ _ _ _ _ _ _ _ _ h
      · replace h := h.2 c36
        refine v_iconst X (v := 1) dX12_lent_125 (by decide) ?_
        refine v_iload X 6 dX12_lent_126 rfl ?_
        refine v_ishl X dX12_lent_128 ?_
        refine v_goto X (tgt := 133) dX12_lent_129 (by decide) ?_
        refine v_lv (lv' := [(0, .ref l0), (1, .int l1), (2, .int l2), (4, .int l4), (5, .int l5), (6, .int v35)]) [1, 2, 3, 5, 6, 0] rfl ?_
        exact j133 bk79 hbk79 _ _ _ _ _ _ _ _ _ h
  have l79 : ∀  (n : Nat) (S : hp) (l0 : Nat) (l1 : Int32) (l2 : Int32) (l3 : Int32) (l4 : Int32) (l5 : Int32), wl_X12_lent_79 Q n S l0 l1 l2 l3 l4 l5 → VM l b D cy 7 1 25 0 0 (pI Q) p e s m args below meth c S 0 0 79 [(0, .ref l0), (1, .int l1), (2, .int l2), (3, .int l3), (4, .int l4), (5, .int l5)] [] := by
    intro  n
    induction n with
    | zero => intro S l0 l1 l2 l3 l4 l5 h; exact h.elim
    | succ n ih => intro S l0 l1 l2 l3 l4 l5 h; exact j79 (wl_X12_lent_79 Q n) ih S l0 l1 l2 l3 l4 l5 h
  unfold wp_X12_lent at h
  show VM l b D cy 7 1 25 0 0 (pI Q) p e s m args below meth c S 0 0 0 [(0, .ref a0), (1, .int x1), (2, .int x2)] []
  refine v_aload_n X 0 dX12_lent_0 rfl rfl ?_
  refine v_iconst X (v := 0) dX12_lent_1 (by decide) ?_
  obtain ⟨hk1, h⟩ := h
  refine v_putI X (T := TX12) (N := 26) (k := 0) hk1 (by decide) rfl (by decide) inX12 wd939 tyX12 tyX12_ok nmX12 rfl rfl rfl rfl dX12_lent_2 ?_
  refine v_nmS (fun S2 eS2 => ?_)
  replace h := h S2 eS2
  have hk3 : hK S2 a0 = 11 := by rw [eS2]; exact hk1
  refine v_aload_n X 0 dX12_lent_5 rfl rfl ?_
  refine v_callV X (av := []) (T := TX12) (N := 26) (s_X12_isThere l b D cy h) hk3 (by decide) rfl wd1150 wd1152 wd37 wd62 k_X12_isThere dn_X12_isThere rfl ⟨Nat.le_of_ble_eq_true rfl, Nat.le_of_ble_eq_true rfl⟩ (Nat.le_of_ble_eq_true rfl) ⟨Nat.le_of_ble_eq_true rfl, Nat.le_of_ble_eq_true rfl⟩ dX12_lent_6 rfl (kI (fun r5 S4 h => ?_))
  refine v_if_ne X (tgt := 15) dX12_lent_9 (by decide) (fun c6 => ?_) (fun c6 => ?_)
  · replace h := h.1 c6
    refine v_iload_n X 1 dX12_lent_15 rfl rfl ?_
    refine v_i2l X dX12_lent_16 ?_
    refine v_lconst X (v := 0) dX12_lent_17 (by decide) ?_
    refine v_lconst X (v := 1) dX12_lent_18 (by decide) ?_
    refine v_callS X (av := [.long (x1).toInt64, .long (0 : Int64), .long (1 : Int64)]) (s_X12_in l b D cy h) wd1026 wd1027 wd62 k_X12_in dn_X12_in rfl ⟨Nat.le_of_ble_eq_true rfl, Nat.le_of_ble_eq_true rfl⟩ (Nat.le_of_ble_eq_true rfl) ⟨Nat.le_of_ble_eq_true rfl, Nat.le_of_ble_eq_true rfl⟩ dX12_lent_19 rfl (kI (fun r8 S7 h => ?_))
    refine v_if_eq X (tgt := 35) dX12_lent_22 (by decide) (fun c9 => ?_) (fun c9 => ?_)
    · replace h := h.1 c9
      refine v_ldc X wd1030 dX12_lent_35 ?_
      exact v_iret X hr hlk ⟨_, rfl, h⟩ dX12_lent_37
    · replace h := h.2 c9
      refine v_iload_n X 2 dX12_lent_25 rfl rfl ?_
      refine v_i2l X dX12_lent_26 ?_
      refine v_lconst X (v := 0) dX12_lent_27 (by decide) ?_
      refine v_lconst X (v := 1) dX12_lent_28 (by decide) ?_
      refine v_callS X (av := [.long (x2).toInt64, .long (0 : Int64), .long (1 : Int64)]) (s_X12_in l b D cy h) wd1026 wd1027 wd62 k_X12_in dn_X12_in rfl ⟨Nat.le_of_ble_eq_true rfl, Nat.le_of_ble_eq_true rfl⟩ (Nat.le_of_ble_eq_true rfl) ⟨Nat.le_of_ble_eq_true rfl, Nat.le_of_ble_eq_true rfl⟩ dX12_lent_29 rfl (kI (fun r11 S10 h => ?_))
      refine v_if_ne X (tgt := 38) dX12_lent_32 (by decide) (fun c12 => ?_) (fun c12 => ?_)
      · replace h := h.1 c12
        refine v_aload_n X 0 dX12_lent_38 rfl rfl ?_
        obtain ⟨hk13, h⟩ := h
        obtain ⟨r14, hr14, h⟩ := h
        refine v_getR X (T := TX12) (N := 26) (k := 19) hk13 (by decide) rfl (by decide) inX12 wd958 rfl dX12_lent_39 hr14 ?_
        refine v_iload_n X 1 dX12_lent_42 rfl rfl ?_
        obtain ⟨hk15, h⟩ := h
        obtain ⟨hi16, h⟩ := h
        refine v_zald X hk15 hi16 dX12_lent_43 ?_
        refine v_if_eq X (tgt := 68) dX12_lent_44 (by decide) (fun c17 => ?_) (fun c17 => ?_)
        · replace h := h.1 c17
          refine v_ldc X wd1154 dX12_lent_68 ?_
          exact v_iret X hr hlk ⟨_, rfl, h⟩ dX12_lent_70
        · replace h := h.2 c17
          refine v_aload_n X 0 dX12_lent_47 rfl rfl ?_
          obtain ⟨r18, hr18, h⟩ := h
          refine v_getR X (T := TX12) (N := 26) (k := 20) hk13 (by decide) rfl (by decide) inX12 wd959 rfl dX12_lent_48 hr18 ?_
          refine v_sipush X (v := 147) dX12_lent_51 (by decide) ?_
          refine v_iload_n X 1 dX12_lent_54 rfl rfl ?_
          refine v_imul X dX12_lent_55 ?_
          refine v_iconst X (v := 2) dX12_lent_56 (by decide) ?_
          refine v_iadd X dX12_lent_57 ?_
          obtain ⟨hk19, h⟩ := h
          obtain ⟨hi20, h⟩ := h
          refine v_iald X hk19 hi20 dX12_lent_58 ?_
          refine v_aload_n X 0 dX12_lent_59 rfl rfl ?_
          obtain ⟨r21, hr21, h⟩ := h
          refine v_getR X (T := TX12) (N := 26) (k := 5) hk13 (by decide) rfl (by decide) inX12 wd944 rfl dX12_lent_60 hr21 ?_
          refine v_iconst X (v := 2) dX12_lent_63 (by decide) ?_
          obtain ⟨hk22, h⟩ := h
          obtain ⟨hi23, h⟩ := h
          refine v_iald X hk22 hi23 dX12_lent_64 ?_
          refine v_icmp_eq X (tgt := 71) dX12_lent_65 (by decide) (fun c24 => ?_) (fun c24 => ?_)
          · replace h := h.1 c24
            refine v_iconst X (v := 0) dX12_lent_71 (by decide) ?_
            refine v_istore_n X (lv' := [(3, .int (0 : Int32)), (0, .ref a0), (1, .int x1), (2, .int x2)]) dX12_lent_72 rfl (by decide) rfl ?_
            refine v_iconst X (v := 0) dX12_lent_73 (by decide) ?_
            refine v_istore X (lv' := [(4, .int (0 : Int32)), (3, .int (0 : Int32)), (0, .ref a0), (1, .int x1), (2, .int x2)]) dX12_lent_74 (by decide) rfl ?_
            refine v_iconst X (v := 0) dX12_lent_76 (by decide) ?_
            refine v_istore X (lv' := [(5, .int (0 : Int32)), (4, .int (0 : Int32)), (3, .int (0 : Int32)), (0, .ref a0), (1, .int x1), (2, .int x2)]) dX12_lent_77 (by decide) rfl ?_
            refine v_lv (lv' := [(0, .ref a0), (1, .int x1), (2, .int x2), (3, .int (0 : Int32)), (4, .int (0 : Int32)), (5, .int (0 : Int32))]) [3, 4, 5, 2, 1, 0] rfl ?_
            obtain ⟨n, h⟩ := h
            exact l79 n _ _ _ _ _ _ _ h
          · replace h := h.2 c24
            refine v_ldc X wd1154 dX12_lent_68 ?_
            exact v_iret X hr hlk ⟨_, rfl, h⟩ dX12_lent_70
      · replace h := h.2 c12
        refine v_ldc X wd1030 dX12_lent_35 ?_
        exact v_iret X hr hlk ⟨_, rfl, h⟩ dX12_lent_37
  · replace h := h.2 c6
    refine v_ldc X wd1154 dX12_lent_12 ?_
    exact v_iret X hr hlk ⟨_, rfl, h⟩ dX12_lent_14
def wB_X12_parted_143 (bk65 : hp → Nat → Int32 → Int32 → Int32 → Int32 → Int32 → Int32 → Int32 → Prop) (bk76 : hp → Nat → Int32 → Int32 → Int32 → Int32 → Int32 → Int32 → Int32 → Int32 → Prop) (Q : Int32 → hp → Prop) (S : hp) (l0 : Nat) (l1 : Int32) (l2 : Int32) (l3 : Int32) (l4 : Int32) (l5 : Int32) (l7 : Int32) (l8 : Int32) (k0 : Int32) : Prop :=
  ∀ v32 : Int32, v32 = l8 + (1 : Int32) → bk76 S l0 l1 l2 l3 l4 l5 k0 l7 v32
def wB_X12_parted_141 (bk65 : hp → Nat → Int32 → Int32 → Int32 → Int32 → Int32 → Int32 → Int32 → Prop) (bk76 : hp → Nat → Int32 → Int32 → Int32 → Int32 → Int32 → Int32 → Int32 → Int32 → Prop) (Q : Int32 → hp → Prop) (S : hp) (l0 : Nat) (l1 : Int32) (l2 : Int32) (l3 : Int32) (l4 : Int32) (l5 : Int32) (l6 : Int32) (l7 : Int32) (l8 : Int32) : Prop :=
  wB_X12_parted_143 bk65 bk76 Q S l0 l1 l2 l3 l4 l5 l7 l8 l6
def wB_X12_parted_121 (bk65 : hp → Nat → Int32 → Int32 → Int32 → Int32 → Int32 → Int32 → Int32 → Prop) (bk76 : hp → Nat → Int32 → Int32 → Int32 → Int32 → Int32 → Int32 → Int32 → Int32 → Prop) (Q : Int32 → hp → Prop) (S : hp) (l0 : Nat) (l1 : Int32) (l2 : Int32) (l3 : Int32) (l4 : Int32) (l6 : Int32) (l7 : Int32) (l8 : Int32) (l9 : Int32) (k0 : Int32) (k1 : Int32) : Prop :=
  ∀ v30 : Int32, v30 = (k1 + k0) → ((l9 = 0 → wB_X12_parted_141 bk65 bk76 Q S l0 l1 l2 l3 l4 v30 l6 l7 l8) ∧ (¬ l9 = 0 → ((¬ l6 = (-1000000 : Int32) → wB_X12_parted_141 bk65 bk76 Q S l0 l1 l2 l3 l4 v30 l6 l7 l8) ∧ (l6 = (-1000000 : Int32) → wB_X12_parted_143 bk65 bk76 Q S l0 l1 l2 l3 l4 v30 l7 l8 l7))))
def wB_X12_parted_107 (bk65 : hp → Nat → Int32 → Int32 → Int32 → Int32 → Int32 → Int32 → Int32 → Prop) (bk76 : hp → Nat → Int32 → Int32 → Int32 → Int32 → Int32 → Int32 → Int32 → Int32 → Prop) (Q : Int32 → hp → Prop) (S : hp) (l0 : Nat) (l1 : Int32) (l2 : Int32) (l3 : Int32) (l4 : Int32) (l5 : Int32) (l6 : Int32) (l7 : Int32) (l8 : Int32) (k0 : Int32) : Prop :=
  ((k0 = 0 → wB_X12_parted_121 bk65 bk76 Q S l0 l1 l2 l3 l4 l6 l7 l8 k0 (0 : Int32) l5) ∧ (¬ k0 = 0 → wB_X12_parted_121 bk65 bk76 Q S l0 l1 l2 l3 l4 l6 l7 l8 k0 (1 : Int32) l5))
def wB_X12_parted_76 (bk65 : hp → Nat → Int32 → Int32 → Int32 → Int32 → Int32 → Int32 → Int32 → Prop) (bk76 : hp → Nat → Int32 → Int32 → Int32 → Int32 → Int32 → Int32 → Int32 → Int32 → Prop) (Q : Int32 → hp → Prop) (S : hp) (l0 : Nat) (l1 : Int32) (l2 : Int32) (l3 : Int32) (l4 : Int32) (l5 : Int32) (l6 : Int32) (l7 : Int32) (l8 : Int32) : Prop :=
  (((20 : Int32) < l8 → ∀ v21 : Int32, v21 = l7 + (1 : Int32) → bk65 S l0 l1 l2 l3 l4 l5 l6 v21) ∧ (¬ (20 : Int32) < l8 → hK S l0 = 11 ∧ wp_X12_padsOf (fun r24 S22 => hK S22 l0 = 11 ∧ wp_X12_padsOf (fun r27 S25 => ((¬ (r24 + r27) = l3 → wB_X12_parted_107 bk65 bk76 Q S25 l0 l1 l2 l3 l4 l5 l6 l7 l8 (0 : Int32)) ∧ ((r24 + r27) = l3 → wB_X12_parted_107 bk65 bk76 Q S25 l0 l1 l2 l3 l4 l5 l6 l7 l8 (1 : Int32)))) S22 l0 l2 l8) S l0 l1 l7))
def wl_X12_parted_76 (bk65 : hp → Nat → Int32 → Int32 → Int32 → Int32 → Int32 → Int32 → Int32 → Prop) (Q : Int32 → hp → Prop) : Nat → hp → Nat → Int32 → Int32 → Int32 → Int32 → Int32 → Int32 → Int32 → Int32 → Prop
  | 0 => fun _ _ _ _ _ _ _ _ _ _ => False
  | n + 1 => wB_X12_parted_76 bk65 (wl_X12_parted_76 bk65 Q n) Q
def wB_X12_parted_65 (bk65 : hp → Nat → Int32 → Int32 → Int32 → Int32 → Int32 → Int32 → Int32 → Prop) (Q : Int32 → hp → Prop) (S : hp) (l0 : Nat) (l1 : Int32) (l2 : Int32) (l3 : Int32) (l4 : Int32) (l5 : Int32) (l6 : Int32) (l7 : Int32) : Prop :=
  (((20 : Int32) < l7 → ((¬ l4 = 0 → Q l6 S) ∧ (l4 = 0 → Q l5 S))) ∧ (¬ (20 : Int32) < l7 → ∃ n : Nat, wl_X12_parted_76 bk65 Q n S l0 l1 l2 l3 l4 l5 l6 l7 (-20 : Int32)))
def wl_X12_parted_65 (Q : Int32 → hp → Prop) : Nat → hp → Nat → Int32 → Int32 → Int32 → Int32 → Int32 → Int32 → Int32 → Prop
  | 0 => fun _ _ _ _ _ _ _ _ _ => False
  | n + 1 => wB_X12_parted_65 (wl_X12_parted_65 Q n) Q
def wp_X12_parted (Q : Int32 → hp → Prop) (S : hp) (a0 : Nat) (x1 : Int32) (x2 : Int32) (x3 : Int32) (x4 : Int32) : Prop :=
  hK S a0 = 11 ∧ ∀ S2 : hp, S2 = setI S a0 0 (0 : Int32) → wp_X12_isMouth (fun r5 S4 => ((r5 = 0 → Q (-1000001 : Int32) S4) ∧ (¬ r5 = 0 → hK S4 a0 = 11 ∧ wp_X12_isMouth (fun r9 S7 => ((r9 = 0 → Q (-1000001 : Int32) S7) ∧ (¬ r9 = 0 → ((x1 = x2 → Q (-1000001 : Int32) S7) ∧ (¬ x1 = x2 → wp_X12_in (fun r13 S12 => ((r13 = 0 → Q (-1000001 : Int32) S12) ∧ (¬ r13 = 0 → wp_X12_in (fun r16 S15 => ((¬ r16 = 0 → ∃ n : Nat, wl_X12_parted_65 Q n S15 a0 x1 x2 x3 x4 (0 : Int32) (-1000000 : Int32) (-20 : Int32)) ∧ (r16 = 0 → Q (-1000001 : Int32) S15))) S12 ((x4).toInt64) ((0 : Int64)) ((1 : Int64))))) S7 ((x3).toInt64) ((-200 : Int64)) ((200 : Int64))))))) S4 a0 x2))) S2 a0 x1
theorem k_X12_parted : Cond.code yX12_parted cX12_parted 10 (some .int) ∈ gtb := mg 1254 (by decide +kernel) (by decide +kernel)
theorem dn_X12_parted : yX12_parted.cls ≠ "java/lang/invoke/MethodHandle" ∧ yX12_parted.cls ≠ "java/lang/invoke/VarHandle" ∧ (parseMethodDescriptor yX12_parted.desc).map (fun d => d.parameters.length) = some 4 := by decide +kernel
set_option maxRecDepth 100000 in
set_option maxHeartbeats 4000000 in
theorem s_X12_parted (l : Launch) (b : Nat) (D : va_G) (cy : Nat → ClassId) {Q : Int32 → hp → Prop} {S : hp} {a0 : Nat} {x1 : Int32} {x2 : Int32} {x3 : Int32} {x4 : Int32} (h : wp_X12_parted Q S a0 x1 x2 x3 x4) : MT l yX12_parted cX12_parted 10 (some .int) 2 46 0 0 b D cy S [.ref a0, .int x1, .int x2, .int x3, .int x4] (pI Q) := by
  refine MT.of (by decide +kernel) (Nat.le_of_ble_eq_true rfl) ?_
  intro p e s m args below meth c X hr hlk hnm
  have j143 : ∀ (bk65 : hp → Nat → Int32 → Int32 → Int32 → Int32 → Int32 → Int32 → Int32 → Prop) (hbk65 : ∀ (S : hp) (l0 : Nat) (l1 : Int32) (l2 : Int32) (l3 : Int32) (l4 : Int32) (l5 : Int32) (l6 : Int32) (l7 : Int32), bk65 S l0 l1 l2 l3 l4 l5 l6 l7 → VM l b D cy 10 2 46 0 0 (pI Q) p e s m args below meth c S 0 0 65 [(0, .ref l0), (1, .int l1), (2, .int l2), (3, .int l3), (4, .int l4), (5, .int l5), (6, .int l6), (7, .int l7)] []) (bk76 : hp → Nat → Int32 → Int32 → Int32 → Int32 → Int32 → Int32 → Int32 → Int32 → Prop) (hbk76 : ∀ (S : hp) (l0 : Nat) (l1 : Int32) (l2 : Int32) (l3 : Int32) (l4 : Int32) (l5 : Int32) (l6 : Int32) (l7 : Int32) (l8 : Int32), bk76 S l0 l1 l2 l3 l4 l5 l6 l7 l8 → VM l b D cy 10 2 46 0 0 (pI Q) p e s m args below meth c S 0 0 76 [(0, .ref l0), (1, .int l1), (2, .int l2), (3, .int l3), (4, .int l4), (5, .int l5), (6, .int l6), (7, .int l7), (8, .int l8)] []) (S : hp) (l0 : Nat) (l1 : Int32) (l2 : Int32) (l3 : Int32) (l4 : Int32) (l5 : Int32) (l7 : Int32) (l8 : Int32) (k0 : Int32), wB_X12_parted_143 bk65 bk76 Q S l0 l1 l2 l3 l4 l5 l7 l8 k0 → VM l b D cy 10 2 46 0 0 (pI Q) p e s m args below meth c S 0 0 143 [(0, .ref l0), (1, .int l1), (2, .int l2), (3, .int l3), (4, .int l4), (5, .int l5), (7, .int l7), (8, .int l8)] [.int k0] := by
    intro bk65 hbk65 bk76 hbk76 S l0 l1 l2 l3 l4 l5 l7 l8 k0 h
    unfold wB_X12_parted_143 at h
    refine v_istore X (lv' := [(6, .int k0), (0, .ref l0), (1, .int l1), (2, .int l2), (3, .int l3), (4, .int l4), (5, .int l5), (7, .int l7), (8, .int l8)]) dX12_parted_143 (by decide) rfl ?_
    obtain ⟨v32, hv32⟩ : ∃ y : Int32, y = l8 + (1 : Int32) := ⟨_, rfl⟩
    replace h := h v32 hv32
    refine v_iinc X (j := 8) (v := v32) (lv' := [(8, .int v32), (6, .int k0), (0, .ref l0), (1, .int l1), (2, .int l2), (3, .int l3), (4, .int l4), (5, .int l5), (7, .int l7)]) dX12_parted_145 rfl (by rw [hv32] <;> rfl) (by decide) rfl ?_
    refine v_goto X (tgt := 76) dX12_parted_148 (by decide) ?_
    refine v_lv (lv' := [(0, .ref l0), (1, .int l1), (2, .int l2), (3, .int l3), (4, .int l4), (5, .int l5), (6, .int k0), (7, .int l7), (8, .int v32)]) [2, 3, 4, 5, 6, 7, 1, 8, 0] rfl ?_
    exact hbk76 _ _ _ _ _ _ _ _ _ _ h
  have j141 : ∀ (bk65 : hp → Nat → Int32 → Int32 → Int32 → Int32 → Int32 → Int32 → Int32 → Prop) (hbk65 : ∀ (S : hp) (l0 : Nat) (l1 : Int32) (l2 : Int32) (l3 : Int32) (l4 : Int32) (l5 : Int32) (l6 : Int32) (l7 : Int32), bk65 S l0 l1 l2 l3 l4 l5 l6 l7 → VM l b D cy 10 2 46 0 0 (pI Q) p e s m args below meth c S 0 0 65 [(0, .ref l0), (1, .int l1), (2, .int l2), (3, .int l3), (4, .int l4), (5, .int l5), (6, .int l6), (7, .int l7)] []) (bk76 : hp → Nat → Int32 → Int32 → Int32 → Int32 → Int32 → Int32 → Int32 → Int32 → Prop) (hbk76 : ∀ (S : hp) (l0 : Nat) (l1 : Int32) (l2 : Int32) (l3 : Int32) (l4 : Int32) (l5 : Int32) (l6 : Int32) (l7 : Int32) (l8 : Int32), bk76 S l0 l1 l2 l3 l4 l5 l6 l7 l8 → VM l b D cy 10 2 46 0 0 (pI Q) p e s m args below meth c S 0 0 76 [(0, .ref l0), (1, .int l1), (2, .int l2), (3, .int l3), (4, .int l4), (5, .int l5), (6, .int l6), (7, .int l7), (8, .int l8)] []) (S : hp) (l0 : Nat) (l1 : Int32) (l2 : Int32) (l3 : Int32) (l4 : Int32) (l5 : Int32) (l6 : Int32) (l7 : Int32) (l8 : Int32), wB_X12_parted_141 bk65 bk76 Q S l0 l1 l2 l3 l4 l5 l6 l7 l8 → VM l b D cy 10 2 46 0 0 (pI Q) p e s m args below meth c S 0 0 141 [(0, .ref l0), (1, .int l1), (2, .int l2), (3, .int l3), (4, .int l4), (5, .int l5), (6, .int l6), (7, .int l7), (8, .int l8)] [] := by
    intro bk65 hbk65 bk76 hbk76 S l0 l1 l2 l3 l4 l5 l6 l7 l8 h
    unfold wB_X12_parted_141 at h
    refine v_iload X 6 dX12_parted_141 rfl ?_
    refine v_lv (lv' := [(0, .ref l0), (1, .int l1), (2, .int l2), (3, .int l3), (4, .int l4), (5, .int l5), (7, .int l7), (8, .int l8)]) [0, 1, 2, 3, 4, 5, 7, 8] rfl ?_
    exact j143 bk65 hbk65 bk76 hbk76 _ _ _ _ _ _ _ _ _ _ h
  have j121 : ∀ (bk65 : hp → Nat → Int32 → Int32 → Int32 → Int32 → Int32 → Int32 → Int32 → Prop) (hbk65 : ∀ (S : hp) (l0 : Nat) (l1 : Int32) (l2 : Int32) (l3 : Int32) (l4 : Int32) (l5 : Int32) (l6 : Int32) (l7 : Int32), bk65 S l0 l1 l2 l3 l4 l5 l6 l7 → VM l b D cy 10 2 46 0 0 (pI Q) p e s m args below meth c S 0 0 65 [(0, .ref l0), (1, .int l1), (2, .int l2), (3, .int l3), (4, .int l4), (5, .int l5), (6, .int l6), (7, .int l7)] []) (bk76 : hp → Nat → Int32 → Int32 → Int32 → Int32 → Int32 → Int32 → Int32 → Int32 → Prop) (hbk76 : ∀ (S : hp) (l0 : Nat) (l1 : Int32) (l2 : Int32) (l3 : Int32) (l4 : Int32) (l5 : Int32) (l6 : Int32) (l7 : Int32) (l8 : Int32), bk76 S l0 l1 l2 l3 l4 l5 l6 l7 l8 → VM l b D cy 10 2 46 0 0 (pI Q) p e s m args below meth c S 0 0 76 [(0, .ref l0), (1, .int l1), (2, .int l2), (3, .int l3), (4, .int l4), (5, .int l5), (6, .int l6), (7, .int l7), (8, .int l8)] []) (S : hp) (l0 : Nat) (l1 : Int32) (l2 : Int32) (l3 : Int32) (l4 : Int32) (l6 : Int32) (l7 : Int32) (l8 : Int32) (l9 : Int32) (k0 : Int32) (k1 : Int32), wB_X12_parted_121 bk65 bk76 Q S l0 l1 l2 l3 l4 l6 l7 l8 l9 k0 k1 → VM l b D cy 10 2 46 0 0 (pI Q) p e s m args below meth c S 0 0 121 [(0, .ref l0), (1, .int l1), (2, .int l2), (3, .int l3), (4, .int l4), (6, .int l6), (7, .int l7), (8, .int l8), (9, .int l9)] [.int k0, .int k1] := by
    intro bk65 hbk65 bk76 hbk76 S l0 l1 l2 l3 l4 l6 l7 l8 l9 k0 k1 h
    unfold wB_X12_parted_121 at h
    refine v_iadd X dX12_parted_121 ?_
    refine v_nm (fun v30 hv30 => ?_)
    replace h := h v30 hv30
    refine v_istore X (lv' := [(5, .int v30), (0, .ref l0), (1, .int l1), (2, .int l2), (3, .int l3), (4, .int l4), (6, .int l6), (7, .int l7), (8, .int l8), (9, .int l9)]) dX12_parted_122 (by decide) rfl ?_
    refine v_iload X 9 dX12_parted_124 rfl ?_
    refine v_if_eq X (tgt := 141) dX12_parted_126 (by decide) (fun c31 => ?_) (fun c31 => ?_)
    · replace h := h.1 c31
      refine v_lv (lv' := [(0, .ref l0), (1, .int l1), (2, .int l2), (3, .int l3), (4, .int l4), (5, .int v30), (6, .int l6), (7, .int l7), (8, .int l8)]) [1, 2, 3, 4, 5, 0, 6, 7, 8] rfl ?_
      exact j141 bk65 hbk65 bk76 hbk76 _ _ _ _ _ _ _ _ _ _ h
    · replace h := h.2 c31
      refine v_iload X 6 dX12_parted_129 rfl ?_
      refine v_ldc X wd1070 dX12_parted_131 ?_
      refine v_icmp_ne X (tgt := 141) dX12_parted_133 (by decide) (fun c33 => ?_) (fun c33 => ?_)
      · replace h := h.1 c33
        refine v_lv (lv' := [(0, .ref l0), (1, .int l1), (2, .int l2), (3, .int l3), (4, .int l4), (5, .int v30), (6, .int l6), (7, .int l7), (8, .int l8)]) [1, 2, 3, 4, 5, 0, 6, 7, 8] rfl ?_
        exact j141 bk65 hbk65 bk76 hbk76 _ _ _ _ _ _ _ _ _ _ h
      · replace h := h.2 c33
        refine v_iload X 7 dX12_parted_136 rfl ?_
        refine v_goto X (tgt := 143) dX12_parted_138 (by decide) ?_
        refine v_lv (lv' := [(0, .ref l0), (1, .int l1), (2, .int l2), (3, .int l3), (4, .int l4), (5, .int v30), (7, .int l7), (8, .int l8)]) [1, 2, 3, 4, 5, 0, 7, 8] rfl ?_
        exact j143 bk65 hbk65 bk76 hbk76 _ _ _ _ _ _ _ _ _ _ h
  have j107 : ∀ (bk65 : hp → Nat → Int32 → Int32 → Int32 → Int32 → Int32 → Int32 → Int32 → Prop) (hbk65 : ∀ (S : hp) (l0 : Nat) (l1 : Int32) (l2 : Int32) (l3 : Int32) (l4 : Int32) (l5 : Int32) (l6 : Int32) (l7 : Int32), bk65 S l0 l1 l2 l3 l4 l5 l6 l7 → VM l b D cy 10 2 46 0 0 (pI Q) p e s m args below meth c S 0 0 65 [(0, .ref l0), (1, .int l1), (2, .int l2), (3, .int l3), (4, .int l4), (5, .int l5), (6, .int l6), (7, .int l7)] []) (bk76 : hp → Nat → Int32 → Int32 → Int32 → Int32 → Int32 → Int32 → Int32 → Int32 → Prop) (hbk76 : ∀ (S : hp) (l0 : Nat) (l1 : Int32) (l2 : Int32) (l3 : Int32) (l4 : Int32) (l5 : Int32) (l6 : Int32) (l7 : Int32) (l8 : Int32), bk76 S l0 l1 l2 l3 l4 l5 l6 l7 l8 → VM l b D cy 10 2 46 0 0 (pI Q) p e s m args below meth c S 0 0 76 [(0, .ref l0), (1, .int l1), (2, .int l2), (3, .int l3), (4, .int l4), (5, .int l5), (6, .int l6), (7, .int l7), (8, .int l8)] []) (S : hp) (l0 : Nat) (l1 : Int32) (l2 : Int32) (l3 : Int32) (l4 : Int32) (l5 : Int32) (l6 : Int32) (l7 : Int32) (l8 : Int32) (k0 : Int32), wB_X12_parted_107 bk65 bk76 Q S l0 l1 l2 l3 l4 l5 l6 l7 l8 k0 → VM l b D cy 10 2 46 0 0 (pI Q) p e s m args below meth c S 0 0 107 [(0, .ref l0), (1, .int l1), (2, .int l2), (3, .int l3), (4, .int l4), (5, .int l5), (6, .int l6), (7, .int l7), (8, .int l8)] [.int k0] := by
    intro bk65 hbk65 bk76 hbk76 S l0 l1 l2 l3 l4 l5 l6 l7 l8 k0 h
    unfold wB_X12_parted_107 at h
    refine v_istore X (lv' := [(9, .int k0), (0, .ref l0), (1, .int l1), (2, .int l2), (3, .int l3), (4, .int l4), (5, .int l5), (6, .int l6), (7, .int l7), (8, .int l8)]) dX12_parted_107 (by decide) rfl ?_
    refine v_iload X 6 dX12_parted_109 rfl ?_
    refine v_iload X 0 dX12_parted_111 rfl ?_
    refine v_if_eq X (tgt := 120) dX12_parted_113 (by decide) (fun c29 => ?_) (fun c29 => ?_)
    · replace h := h.1 c29
      refine v_iconst X (v := 0) dX12_parted_120 (by decide) ?_
      refine v_lv (lv' := [(0, .ref l0), (1, .int l1), (2, .int l2), (3, .int l3), (4, .int l4), (6, .int l6), (7, .int l7), (8, .int l8), (9, .int k0)]) [1, 2, 3, 4, 5, 7, 8, 9, 0] rfl ?_
      exact j121 bk65 hbk65 bk76 hbk76 _ _ _ _ _ _ _ _ _ _ _ _ h
    · replace h := h.2 c29
      refine v_iconst X (v := 1) dX12_parted_116 (by decide) ?_
      refine v_goto X (tgt := 121) dX12_parted_117 (by decide) ?_
      refine v_lv (lv' := [(0, .ref l0), (1, .int l1), (2, .int l2), (3, .int l3), (4, .int l4), (6, .int l6), (7, .int l7), (8, .int l8), (9, .int k0)]) [1, 2, 3, 4, 5, 7, 8, 9, 0] rfl ?_
      exact j121 bk65 hbk65 bk76 hbk76 _ _ _ _ _ _ _ _ _ _ _ _ h
  have j76 : ∀ (bk65 : hp → Nat → Int32 → Int32 → Int32 → Int32 → Int32 → Int32 → Int32 → Prop) (hbk65 : ∀ (S : hp) (l0 : Nat) (l1 : Int32) (l2 : Int32) (l3 : Int32) (l4 : Int32) (l5 : Int32) (l6 : Int32) (l7 : Int32), bk65 S l0 l1 l2 l3 l4 l5 l6 l7 → VM l b D cy 10 2 46 0 0 (pI Q) p e s m args below meth c S 0 0 65 [(0, .ref l0), (1, .int l1), (2, .int l2), (3, .int l3), (4, .int l4), (5, .int l5), (6, .int l6), (7, .int l7)] []) (bk76 : hp → Nat → Int32 → Int32 → Int32 → Int32 → Int32 → Int32 → Int32 → Int32 → Prop) (hbk76 : ∀ (S : hp) (l0 : Nat) (l1 : Int32) (l2 : Int32) (l3 : Int32) (l4 : Int32) (l5 : Int32) (l6 : Int32) (l7 : Int32) (l8 : Int32), bk76 S l0 l1 l2 l3 l4 l5 l6 l7 l8 → VM l b D cy 10 2 46 0 0 (pI Q) p e s m args below meth c S 0 0 76 [(0, .ref l0), (1, .int l1), (2, .int l2), (3, .int l3), (4, .int l4), (5, .int l5), (6, .int l6), (7, .int l7), (8, .int l8)] []) (S : hp) (l0 : Nat) (l1 : Int32) (l2 : Int32) (l3 : Int32) (l4 : Int32) (l5 : Int32) (l6 : Int32) (l7 : Int32) (l8 : Int32), wB_X12_parted_76 bk65 bk76 Q S l0 l1 l2 l3 l4 l5 l6 l7 l8 → VM l b D cy 10 2 46 0 0 (pI Q) p e s m args below meth c S 0 0 76 [(0, .ref l0), (1, .int l1), (2, .int l2), (3, .int l3), (4, .int l4), (5, .int l5), (6, .int l6), (7, .int l7), (8, .int l8)] [] := by
    intro bk65 hbk65 bk76 hbk76 S l0 l1 l2 l3 l4 l5 l6 l7 l8 h
    unfold wB_X12_parted_76 at h
    refine v_iload X 8 dX12_parted_76 rfl ?_
    refine v_bipush X (v := 20) dX12_parted_78 (by decide) ?_
    refine v_icmp_gt X (tgt := 151) dX12_parted_80 (by decide) (fun c20 => ?_) (fun c20 => ?_)
    · replace h := h.1 c20
      obtain ⟨v21, hv21⟩ : ∃ y : Int32, y = l7 + (1 : Int32) := ⟨_, rfl⟩
      replace h := h v21 hv21
      refine v_iinc X (j := 7) (v := v21) (lv' := [(7, .int v21), (0, .ref l0), (1, .int l1), (2, .int l2), (3, .int l3), (4, .int l4), (5, .int l5), (6, .int l6), (8, .int l8)]) dX12_parted_151 rfl (by rw [hv21] <;> rfl) (by decide) rfl ?_
      refine v_goto X (tgt := 65) dX12_parted_154 (by decide) ?_
      refine v_lv (lv' := [(0, .ref l0), (1, .int l1), (2, .int l2), (3, .int l3), (4, .int l4), (5, .int l5), (6, .int l6), (7, .int v21)]) [1, 2, 3, 4, 5, 6, 7, 0] rfl ?_
      exact hbk65 _ _ _ _ _ _ _ _ _ h
    · replace h := h.2 c20
      refine v_aload_n X 0 dX12_parted_83 rfl rfl ?_
      refine v_iload_n X 1 dX12_parted_84 rfl rfl ?_
      refine v_iload X 7 dX12_parted_85 rfl ?_
      obtain ⟨hk23, h⟩ := h
      refine v_callV X (av := [.int l1, .int l7]) (T := TX12) (N := 26) (s_X12_padsOf l b D cy h) hk23 (by decide) rfl wd1128 wd1130 wd33 wd62 k_X12_padsOf dn_X12_padsOf rfl ⟨Nat.le_of_ble_eq_true rfl, Nat.le_of_ble_eq_true rfl⟩ (Nat.le_of_ble_eq_true rfl) ⟨Nat.le_of_ble_eq_true rfl, Nat.le_of_ble_eq_true rfl⟩ dX12_parted_87 rfl (kI (fun r24 S22 h => ?_))
      refine v_aload_n X 0 dX12_parted_90 rfl rfl ?_
      refine v_iload_n X 2 dX12_parted_91 rfl rfl ?_
      refine v_iload X 8 dX12_parted_92 rfl ?_
      obtain ⟨hk26, h⟩ := h
      refine v_callV X (av := [.int l2, .int l8]) (T := TX12) (N := 26) (s_X12_padsOf l b D cy h) hk26 (by decide) rfl wd1128 wd1130 wd33 wd62 k_X12_padsOf dn_X12_padsOf rfl ⟨Nat.le_of_ble_eq_true rfl, Nat.le_of_ble_eq_true rfl⟩ (Nat.le_of_ble_eq_true rfl) ⟨Nat.le_of_ble_eq_true rfl, Nat.le_of_ble_eq_true rfl⟩ dX12_parted_94 rfl (kI (fun r27 S25 h => ?_))
      refine v_iadd X dX12_parted_97 ?_
      refine v_iload_n X 3 dX12_parted_98 rfl rfl ?_
      refine v_icmp_ne X (tgt := 106) dX12_parted_99 (by decide) (fun c28 => ?_) (fun c28 => ?_)
      · replace h := h.1 c28
        refine v_iconst X (v := 0) dX12_parted_106 (by decide) ?_
        exact j107 bk65 hbk65 bk76 hbk76 _ _ _ _ _ _ _ _ _ _ _ h
      · replace h := h.2 c28
        refine v_iconst X (v := 1) dX12_parted_102 (by decide) ?_
        refine v_goto X (tgt := 107) dX12_parted_103 (by decide) ?_
        exact j107 bk65 hbk65 bk76 hbk76 _ _ _ _ _ _ _ _ _ _ _ h
  have l76 : ∀ (bk65 : hp → Nat → Int32 → Int32 → Int32 → Int32 → Int32 → Int32 → Int32 → Prop) (hbk65 : ∀ (S : hp) (l0 : Nat) (l1 : Int32) (l2 : Int32) (l3 : Int32) (l4 : Int32) (l5 : Int32) (l6 : Int32) (l7 : Int32), bk65 S l0 l1 l2 l3 l4 l5 l6 l7 → VM l b D cy 10 2 46 0 0 (pI Q) p e s m args below meth c S 0 0 65 [(0, .ref l0), (1, .int l1), (2, .int l2), (3, .int l3), (4, .int l4), (5, .int l5), (6, .int l6), (7, .int l7)] []) (n : Nat) (S : hp) (l0 : Nat) (l1 : Int32) (l2 : Int32) (l3 : Int32) (l4 : Int32) (l5 : Int32) (l6 : Int32) (l7 : Int32) (l8 : Int32), wl_X12_parted_76 bk65 Q n S l0 l1 l2 l3 l4 l5 l6 l7 l8 → VM l b D cy 10 2 46 0 0 (pI Q) p e s m args below meth c S 0 0 76 [(0, .ref l0), (1, .int l1), (2, .int l2), (3, .int l3), (4, .int l4), (5, .int l5), (6, .int l6), (7, .int l7), (8, .int l8)] [] := by
    intro bk65 hbk65 n
    induction n with
    | zero => intro S l0 l1 l2 l3 l4 l5 l6 l7 l8 h; exact h.elim
    | succ n ih => intro S l0 l1 l2 l3 l4 l5 l6 l7 l8 h; exact j76 bk65 hbk65 (wl_X12_parted_76 bk65 Q n) ih S l0 l1 l2 l3 l4 l5 l6 l7 l8 h
  have j65 : ∀ (bk65 : hp → Nat → Int32 → Int32 → Int32 → Int32 → Int32 → Int32 → Int32 → Prop) (hbk65 : ∀ (S : hp) (l0 : Nat) (l1 : Int32) (l2 : Int32) (l3 : Int32) (l4 : Int32) (l5 : Int32) (l6 : Int32) (l7 : Int32), bk65 S l0 l1 l2 l3 l4 l5 l6 l7 → VM l b D cy 10 2 46 0 0 (pI Q) p e s m args below meth c S 0 0 65 [(0, .ref l0), (1, .int l1), (2, .int l2), (3, .int l3), (4, .int l4), (5, .int l5), (6, .int l6), (7, .int l7)] []) (S : hp) (l0 : Nat) (l1 : Int32) (l2 : Int32) (l3 : Int32) (l4 : Int32) (l5 : Int32) (l6 : Int32) (l7 : Int32), wB_X12_parted_65 bk65 Q S l0 l1 l2 l3 l4 l5 l6 l7 → VM l b D cy 10 2 46 0 0 (pI Q) p e s m args below meth c S 0 0 65 [(0, .ref l0), (1, .int l1), (2, .int l2), (3, .int l3), (4, .int l4), (5, .int l5), (6, .int l6), (7, .int l7)] [] := by
    intro bk65 hbk65 S l0 l1 l2 l3 l4 l5 l6 l7 h
    unfold wB_X12_parted_65 at h
    refine v_iload X 7 dX12_parted_65 rfl ?_
    refine v_bipush X (v := 20) dX12_parted_67 (by decide) ?_
    refine v_icmp_gt X (tgt := 157) dX12_parted_69 (by decide) (fun c18 => ?_) (fun c18 => ?_)
    · replace h := h.1 c18
      refine v_iload X 4 dX12_parted_157 rfl ?_
      refine v_if_ne X (tgt := 167) dX12_parted_159 (by decide) (fun c19 => ?_) (fun c19 => ?_)
      · replace h := h.1 c19
        refine v_iload X 6 dX12_parted_167 rfl ?_
        exact v_iret X hr hlk ⟨_, rfl, h⟩ dX12_parted_169
      · replace h := h.2 c19
        refine v_iload X 5 dX12_parted_162 rfl ?_
        refine v_goto X (tgt := 169) dX12_parted_164 (by decide) ?_
        exact v_iret X hr hlk ⟨_, rfl, h⟩ dX12_parted_169
    · replace h := h.2 c18
      refine v_bipush X (v := -20) dX12_parted_72 (by decide) ?_
      refine v_istore X (lv' := [(8, .int (-20 : Int32)), (0, .ref l0), (1, .int l1), (2, .int l2), (3, .int l3), (4, .int l4), (5, .int l5), (6, .int l6), (7, .int l7)]) dX12_parted_74 (by decide) rfl ?_
      refine v_lv (lv' := [(0, .ref l0), (1, .int l1), (2, .int l2), (3, .int l3), (4, .int l4), (5, .int l5), (6, .int l6), (7, .int l7), (8, .int (-20 : Int32))]) [1, 2, 3, 4, 5, 6, 7, 8, 0] rfl ?_
      obtain ⟨n, h⟩ := h
      exact l76 bk65 hbk65 n _ _ _ _ _ _ _ _ _ _ h
  have l65 : ∀  (n : Nat) (S : hp) (l0 : Nat) (l1 : Int32) (l2 : Int32) (l3 : Int32) (l4 : Int32) (l5 : Int32) (l6 : Int32) (l7 : Int32), wl_X12_parted_65 Q n S l0 l1 l2 l3 l4 l5 l6 l7 → VM l b D cy 10 2 46 0 0 (pI Q) p e s m args below meth c S 0 0 65 [(0, .ref l0), (1, .int l1), (2, .int l2), (3, .int l3), (4, .int l4), (5, .int l5), (6, .int l6), (7, .int l7)] [] := by
    intro  n
    induction n with
    | zero => intro S l0 l1 l2 l3 l4 l5 l6 l7 h; exact h.elim
    | succ n ih => intro S l0 l1 l2 l3 l4 l5 l6 l7 h; exact j65 (wl_X12_parted_65 Q n) ih S l0 l1 l2 l3 l4 l5 l6 l7 h
  unfold wp_X12_parted at h
  show VM l b D cy 10 2 46 0 0 (pI Q) p e s m args below meth c S 0 0 0 [(0, .ref a0), (1, .int x1), (2, .int x2), (3, .int x3), (4, .int x4)] []
  refine v_aload_n X 0 dX12_parted_0 rfl rfl ?_
  refine v_iconst X (v := 0) dX12_parted_1 (by decide) ?_
  obtain ⟨hk1, h⟩ := h
  refine v_putI X (T := TX12) (N := 26) (k := 0) hk1 (by decide) rfl (by decide) inX12 wd939 tyX12 tyX12_ok nmX12 rfl rfl rfl rfl dX12_parted_2 ?_
  refine v_nmS (fun S2 eS2 => ?_)
  replace h := h S2 eS2
  have hk3 : hK S2 a0 = 11 := by rw [eS2]; exact hk1
  refine v_aload_n X 0 dX12_parted_5 rfl rfl ?_
  refine v_iload_n X 1 dX12_parted_6 rfl rfl ?_
  refine v_callV X (av := [.int x1]) (T := TX12) (N := 26) (s_X12_isMouth l b D cy h) hk3 (by decide) rfl wd1115 wd1117 wd31 wd62 k_X12_isMouth dn_X12_isMouth rfl ⟨Nat.le_of_ble_eq_true rfl, Nat.le_of_ble_eq_true rfl⟩ (Nat.le_of_ble_eq_true rfl) ⟨Nat.le_of_ble_eq_true rfl, Nat.le_of_ble_eq_true rfl⟩ dX12_parted_7 rfl (kI (fun r5 S4 h => ?_))
  refine v_if_eq X (tgt := 51) dX12_parted_10 (by decide) (fun c6 => ?_) (fun c6 => ?_)
  · replace h := h.1 c6
    refine v_ldc X wd1030 dX12_parted_51 ?_
    exact v_iret X hr hlk ⟨_, rfl, h⟩ dX12_parted_53
  · replace h := h.2 c6
    refine v_aload_n X 0 dX12_parted_13 rfl rfl ?_
    refine v_iload_n X 2 dX12_parted_14 rfl rfl ?_
    obtain ⟨hk8, h⟩ := h
    refine v_callV X (av := [.int x2]) (T := TX12) (N := 26) (s_X12_isMouth l b D cy h) hk8 (by decide) rfl wd1115 wd1117 wd31 wd62 k_X12_isMouth dn_X12_isMouth rfl ⟨Nat.le_of_ble_eq_true rfl, Nat.le_of_ble_eq_true rfl⟩ (Nat.le_of_ble_eq_true rfl) ⟨Nat.le_of_ble_eq_true rfl, Nat.le_of_ble_eq_true rfl⟩ dX12_parted_15 rfl (kI (fun r9 S7 h => ?_))
    refine v_if_eq X (tgt := 51) dX12_parted_18 (by decide) (fun c10 => ?_) (fun c10 => ?_)
    · replace h := h.1 c10
      refine v_ldc X wd1030 dX12_parted_51 ?_
      exact v_iret X hr hlk ⟨_, rfl, h⟩ dX12_parted_53
    · replace h := h.2 c10
      refine v_iload_n X 1 dX12_parted_21 rfl rfl ?_
      refine v_iload_n X 2 dX12_parted_22 rfl rfl ?_
      refine v_icmp_eq X (tgt := 51) dX12_parted_23 (by decide) (fun c11 => ?_) (fun c11 => ?_)
      · replace h := h.1 c11
        refine v_ldc X wd1030 dX12_parted_51 ?_
        exact v_iret X hr hlk ⟨_, rfl, h⟩ dX12_parted_53
      · replace h := h.2 c11
        refine v_iload_n X 3 dX12_parted_26 rfl rfl ?_
        refine v_i2l X dX12_parted_27 ?_
        refine v_ldc2 X wd1255 dX12_parted_28 ?_
        refine v_ldc2 X wd1256 dX12_parted_31 ?_
        refine v_callS X (av := [.long (x3).toInt64, .long (-200 : Int64), .long (200 : Int64)]) (s_X12_in l b D cy h) wd1026 wd1027 wd62 k_X12_in dn_X12_in rfl ⟨Nat.le_of_ble_eq_true rfl, Nat.le_of_ble_eq_true rfl⟩ (Nat.le_of_ble_eq_true rfl) ⟨Nat.le_of_ble_eq_true rfl, Nat.le_of_ble_eq_true rfl⟩ dX12_parted_34 rfl (kI (fun r13 S12 h => ?_))
        refine v_if_eq X (tgt := 51) dX12_parted_37 (by decide) (fun c14 => ?_) (fun c14 => ?_)
        · replace h := h.1 c14
          refine v_ldc X wd1030 dX12_parted_51 ?_
          exact v_iret X hr hlk ⟨_, rfl, h⟩ dX12_parted_53
        · replace h := h.2 c14
          refine v_iload X 4 dX12_parted_40 rfl ?_
          refine v_i2l X dX12_parted_42 ?_
          refine v_lconst X (v := 0) dX12_parted_43 (by decide) ?_
          refine v_lconst X (v := 1) dX12_parted_44 (by decide) ?_
          refine v_callS X (av := [.long (x4).toInt64, .long (0 : Int64), .long (1 : Int64)]) (s_X12_in l b D cy h) wd1026 wd1027 wd62 k_X12_in dn_X12_in rfl ⟨Nat.le_of_ble_eq_true rfl, Nat.le_of_ble_eq_true rfl⟩ (Nat.le_of_ble_eq_true rfl) ⟨Nat.le_of_ble_eq_true rfl, Nat.le_of_ble_eq_true rfl⟩ dX12_parted_45 rfl (kI (fun r16 S15 h => ?_))
          refine v_if_ne X (tgt := 54) dX12_parted_48 (by decide) (fun c17 => ?_) (fun c17 => ?_)
          · replace h := h.1 c17
            refine v_iconst X (v := 0) dX12_parted_54 (by decide) ?_
            refine v_istore X (lv' := [(5, .int (0 : Int32)), (0, .ref a0), (1, .int x1), (2, .int x2), (3, .int x3), (4, .int x4)]) dX12_parted_55 (by decide) rfl ?_
            refine v_ldc X wd1070 dX12_parted_57 ?_
            refine v_istore X (lv' := [(6, .int (-1000000 : Int32)), (5, .int (0 : Int32)), (0, .ref a0), (1, .int x1), (2, .int x2), (3, .int x3), (4, .int x4)]) dX12_parted_59 (by decide) rfl ?_
            refine v_bipush X (v := -20) dX12_parted_61 (by decide) ?_
            refine v_istore X (lv' := [(7, .int (-20 : Int32)), (6, .int (-1000000 : Int32)), (5, .int (0 : Int32)), (0, .ref a0), (1, .int x1), (2, .int x2), (3, .int x3), (4, .int x4)]) dX12_parted_63 (by decide) rfl ?_
            refine v_lv (lv' := [(0, .ref a0), (1, .int x1), (2, .int x2), (3, .int x3), (4, .int x4), (5, .int (0 : Int32)), (6, .int (-1000000 : Int32)), (7, .int (-20 : Int32))]) [3, 4, 5, 6, 7, 2, 1, 0] rfl ?_
            obtain ⟨n, h⟩ := h
            exact l65 n _ _ _ _ _ _ _ _ _ h
          · replace h := h.2 c17
            refine v_ldc X wd1030 dX12_parted_51 ?_
            exact v_iret X hr hlk ⟨_, rfl, h⟩ dX12_parted_53
