def wB_X12_layTwins_290 (bk32 : hp → Nat → Int32 → Int32 → Int32 → Int32 → Prop) (Q : Int32 → hp → Prop) (S : hp) (l0 : Nat) (l1 : Int32) (l2 : Int32) (l3 : Int32) (l4 : Int32) : Prop :=
  ∀ v12 : Int32, v12 = l4 + (1 : Int32) → bk32 S l0 l1 l2 l3 v12
def wB_X12_layTwins_264 (bk32 : hp → Nat → Int32 → Int32 → Int32 → Int32 → Prop) (bk264 : hp → Nat → Int32 → Int32 → Int32 → Int32 → Int32 → Prop) (Q : Int32 → hp → Prop) (S : hp) (l0 : Nat) (l1 : Int32) (l2 : Int32) (l3 : Int32) (l4 : Int32) (l9 : Int32) : Prop :=
  ((l1 ≤ l9 → wB_X12_layTwins_290 bk32 Q S l0 l1 l2 l3 l4) ∧ (¬ l1 ≤ l9 → hK S l0 = 11 ∧ ∃ r17 : Nat, hR S l0 23 = some r17 ∧ ∃ r18 : Nat, hR S l0 22 = some r18 ∧ hK S r18 = 12 ∧ vp_in l9 (hN S r18) ∧ hK S r17 = 12 ∧ vp_in l9 (hN S r17) ∧ ∀ S23 : hp, S23 = setI S r17 (l9).toNatClampNeg (hI S r18 (l9).toNatClampNeg) → ∀ v31 : Int32, v31 = l9 + (1 : Int32) → bk264 S23 l0 l1 l2 l3 l4 v31))
def wl_X12_layTwins_264 (bk32 : hp → Nat → Int32 → Int32 → Int32 → Int32 → Prop) (Q : Int32 → hp → Prop) : Nat → hp → Nat → Int32 → Int32 → Int32 → Int32 → Int32 → Prop
  | 0 => fun _ _ _ _ _ _ _ => False
  | n + 1 => wB_X12_layTwins_264 bk32 (wl_X12_layTwins_264 bk32 Q n) Q
def wB_X12_layTwins_258 (bk32 : hp → Nat → Int32 → Int32 → Int32 → Int32 → Prop) (Q : Int32 → hp → Prop) (S : hp) (l0 : Nat) (l1 : Int32) (l2 : Int32) (l4 : Int32) (l6 : Int32) : Prop :=
  ∃ n : Nat, wl_X12_layTwins_264 bk32 Q n S l0 l1 l2 l6 l4 (0 : Int32)
def wB_X12_layTwins_224 (bk32 : hp → Nat → Int32 → Int32 → Int32 → Int32 → Prop) (bk87 : hp → Nat → Int32 → Int32 → Int32 → Int32 → Int32 → Int32 → Int32 → Int32 → Prop) (Q : Int32 → hp → Prop) (S : hp) (l0 : Nat) (l1 : Int32) (l2 : Int32) (l3 : Int32) (l4 : Int32) (l7 : Int32) (l8 : Int32) (l9 : Int32) (k0 : Int32) (k1 : Int32) : Prop :=
  ∀ v42 : Int32, v42 = (k1 + k0) → ∀ v43 : Int32, v43 = l9 + (1 : Int32) → bk87 S l0 l1 l2 l3 l4 v42 l7 l8 v43
def wB_X12_layTwins_223 (bk32 : hp → Nat → Int32 → Int32 → Int32 → Int32 → Prop) (bk87 : hp → Nat → Int32 → Int32 → Int32 → Int32 → Int32 → Int32 → Int32 → Int32 → Prop) (Q : Int32 → hp → Prop) (S : hp) (l0 : Nat) (l1 : Int32) (l2 : Int32) (l3 : Int32) (l4 : Int32) (l7 : Int32) (l8 : Int32) (l9 : Int32) (k0 : Int32) : Prop :=
  wB_X12_layTwins_224 bk32 bk87 Q S l0 l1 l2 l3 l4 l7 l8 l9 (0 : Int32) k0
def wB_X12_layTwins_181 (bk32 : hp → Nat → Int32 → Int32 → Int32 → Int32 → Prop) (bk87 : hp → Nat → Int32 → Int32 → Int32 → Int32 → Int32 → Int32 → Int32 → Int32 → Prop) (Q : Int32 → hp → Prop) (S : hp) (l0 : Nat) (l1 : Int32) (l2 : Int32) (l3 : Int32) (l4 : Int32) (l6 : Int32) (l7 : Int32) (l9 : Int32) (l10 : Int32) (k0 : Int32) : Prop :=
  ((k0 = 0 → wB_X12_layTwins_223 bk32 bk87 Q S l0 l1 l2 l3 l4 l7 k0 l9 l6) ∧ (¬ k0 = 0 → ((¬ l10 = 0 → wB_X12_layTwins_223 bk32 bk87 Q S l0 l1 l2 l3 l4 l7 k0 l9 l6) ∧ (l10 = 0 → hK S l0 = 11 ∧ ∃ r46 : Nat, hR S l0 22 = some r46 ∧ hK S r46 = 12 ∧ vp_in l9 (hN S r46) ∧ (((hI S r46 (l9).toNatClampNeg) ≤ l9 → wB_X12_layTwins_223 bk32 bk87 Q S l0 l1 l2 l3 l4 l7 k0 l9 l6) ∧ (¬ (hI S r46 (l9).toNatClampNeg) ≤ l9 → wp_X12_unlike (fun r51 S50 => wB_X12_layTwins_224 bk32 bk87 Q S50 l0 l1 l2 l3 l4 l7 k0 l9 r51 l6) S l0 l9 ((hI S r46 (l9).toNatClampNeg))))))))
def wB_X12_layTwins_180 (bk32 : hp → Nat → Int32 → Int32 → Int32 → Int32 → Prop) (bk87 : hp → Nat → Int32 → Int32 → Int32 → Int32 → Int32 → Int32 → Int32 → Int32 → Prop) (Q : Int32 → hp → Prop) (S : hp) (l0 : Nat) (l1 : Int32) (l2 : Int32) (l3 : Int32) (l4 : Int32) (l6 : Int32) (l7 : Int32) (l9 : Int32) (l10 : Int32) : Prop :=
  wB_X12_layTwins_181 bk32 bk87 Q S l0 l1 l2 l3 l4 l6 l7 l9 l10 (0 : Int32)
def wB_X12_layTwins_176 (bk32 : hp → Nat → Int32 → Int32 → Int32 → Int32 → Prop) (bk87 : hp → Nat → Int32 → Int32 → Int32 → Int32 → Int32 → Int32 → Int32 → Int32 → Prop) (Q : Int32 → hp → Prop) (S : hp) (l0 : Nat) (l1 : Int32) (l2 : Int32) (l3 : Int32) (l4 : Int32) (l6 : Int32) (l7 : Int32) (l9 : Int32) (l10 : Int32) : Prop :=
  wB_X12_layTwins_181 bk32 bk87 Q S l0 l1 l2 l3 l4 l6 l7 l9 l10 (1 : Int32)
def wB_X12_layTwins_123 (bk32 : hp → Nat → Int32 → Int32 → Int32 → Int32 → Prop) (bk87 : hp → Nat → Int32 → Int32 → Int32 → Int32 → Int32 → Int32 → Int32 → Int32 → Prop) (Q : Int32 → hp → Prop) (S : hp) (l0 : Nat) (l1 : Int32) (l2 : Int32) (l3 : Int32) (l4 : Int32) (l6 : Int32) (l8 : Int32) (l9 : Int32) (l10 : Int32) (k0 : Int32) (k1 : Int32) : Prop :=
  ∀ v39 : Int32, v39 = (k1 + k0) → ((l8 = 0 → wB_X12_layTwins_180 bk32 bk87 Q S l0 l1 l2 l3 l4 l6 v39 l9 l10) ∧ (¬ l8 = 0 → ((¬ l10 = 0 → wB_X12_layTwins_176 bk32 bk87 Q S l0 l1 l2 l3 l4 l6 v39 l9 l10) ∧ (l10 = 0 → hK S l0 = 11 ∧ ∃ r54 : Nat, hR S l0 22 = some r54 ∧ hK S r54 = 12 ∧ vp_in l9 (hN S r54) ∧ ((l1 ≤ (hI S r54 (l9).toNatClampNeg) → wB_X12_layTwins_180 bk32 bk87 Q S l0 l1 l2 l3 l4 l6 v39 l9 l10) ∧ (¬ l1 ≤ (hI S r54 (l9).toNatClampNeg) → (((hI S r54 (l9).toNatClampNeg) = l9 → wB_X12_layTwins_180 bk32 bk87 Q S l0 l1 l2 l3 l4 l6 v39 l9 l10) ∧ (¬ (hI S r54 (l9).toNatClampNeg) = l9 → vp_in (hI S r54 (l9).toNatClampNeg) (hN S r54) ∧ ((¬ (hI S r54 ((hI S r54 (l9).toNatClampNeg)).toNatClampNeg) = l9 → wB_X12_layTwins_180 bk32 bk87 Q S l0 l1 l2 l3 l4 l6 v39 l9 l10) ∧ ((hI S r54 ((hI S r54 (l9).toNatClampNeg)).toNatClampNeg) = l9 → wB_X12_layTwins_176 bk32 bk87 Q S l0 l1 l2 l3 l4 l6 v39 l9 l10))))))))))
def wB_X12_layTwins_109 (bk32 : hp → Nat → Int32 → Int32 → Int32 → Int32 → Prop) (bk87 : hp → Nat → Int32 → Int32 → Int32 → Int32 → Int32 → Int32 → Int32 → Int32 → Prop) (Q : Int32 → hp → Prop) (S : hp) (l0 : Nat) (l1 : Int32) (l2 : Int32) (l3 : Int32) (l4 : Int32) (l6 : Int32) (l7 : Int32) (l8 : Int32) (l9 : Int32) (k0 : Int32) : Prop :=
  ((k0 = 0 → wB_X12_layTwins_123 bk32 bk87 Q S l0 l1 l2 l3 l4 l6 l8 l9 k0 (0 : Int32) l7) ∧ (¬ k0 = 0 → wB_X12_layTwins_123 bk32 bk87 Q S l0 l1 l2 l3 l4 l6 l8 l9 k0 (1 : Int32) l7))
def wB_X12_layTwins_87 (bk32 : hp → Nat → Int32 → Int32 → Int32 → Int32 → Prop) (bk87 : hp → Nat → Int32 → Int32 → Int32 → Int32 → Int32 → Int32 → Int32 → Int32 → Prop) (Q : Int32 → hp → Prop) (S : hp) (l0 : Nat) (l1 : Int32) (l2 : Int32) (l3 : Int32) (l4 : Int32) (l6 : Int32) (l7 : Int32) (l8 : Int32) (l9 : Int32) : Prop :=
  ((l1 ≤ l9 → ((l8 = 0 → wB_X12_layTwins_290 bk32 Q S l0 l1 l2 l3 l4) ∧ (¬ l8 = 0 → ((¬ l7 = (l1 - l1 / (2 : Int32) * (2 : Int32)) → wB_X12_layTwins_290 bk32 Q S l0 l1 l2 l3 l4) ∧ (l7 = (l1 - l1 / (2 : Int32) * (2 : Int32)) → ((l3 = (-1000000 : Int32) → wB_X12_layTwins_258 bk32 Q S l0 l1 l2 l4 l6) ∧ (¬ l3 = (-1000000 : Int32) → ((l3 ≤ l6 → wB_X12_layTwins_290 bk32 Q S l0 l1 l2 l3 l4) ∧ (¬ l3 ≤ l6 → wB_X12_layTwins_258 bk32 Q S l0 l1 l2 l4 l6))))))))) ∧ (¬ l1 ≤ l9 → hK S l0 = 11 ∧ ∃ r34 : Nat, hR S l0 22 = some r34 ∧ hK S r34 = 12 ∧ vp_in l9 (hN S r34) ∧ ((¬ (hI S r34 (l9).toNatClampNeg) = (4 : Int32) → wB_X12_layTwins_109 bk32 bk87 Q S l0 l1 l2 l3 l4 l6 l7 l8 l9 (0 : Int32)) ∧ ((hI S r34 (l9).toNatClampNeg) = (4 : Int32) → wB_X12_layTwins_109 bk32 bk87 Q S l0 l1 l2 l3 l4 l6 l7 l8 l9 (1 : Int32)))))
def wl_X12_layTwins_87 (bk32 : hp → Nat → Int32 → Int32 → Int32 → Int32 → Prop) (Q : Int32 → hp → Prop) : Nat → hp → Nat → Int32 → Int32 → Int32 → Int32 → Int32 → Int32 → Int32 → Int32 → Prop
  | 0 => fun _ _ _ _ _ _ _ _ _ _ => False
  | n + 1 => wB_X12_layTwins_87 bk32 (wl_X12_layTwins_87 bk32 Q n) Q
def wB_X12_layTwins_47 (bk32 : hp → Nat → Int32 → Int32 → Int32 → Int32 → Prop) (bk47 : hp → Nat → Int32 → Int32 → Int32 → Int32 → Int32 → Int32 → Prop) (Q : Int32 → hp → Prop) (S : hp) (l0 : Nat) (l1 : Int32) (l2 : Int32) (l3 : Int32) (l4 : Int32) (l5 : Int32) (l6 : Int32) : Prop :=
  ((l6 < 0 → ∃ n : Nat, wl_X12_layTwins_87 bk32 Q n S l0 l1 l2 l3 l4 (0 : Int32) (0 : Int32) (1 : Int32) (0 : Int32)) ∧ (¬ l6 < 0 → hK S l0 = 11 ∧ ∃ r62 : Nat, hR S l0 22 = some r62 ∧ hK S r62 = 12 ∧ vp_in l6 (hN S r62) ∧ ∀ S65 : hp, S65 = setI S r62 (l6).toNatClampNeg (l5 - l5 / (5 : Int32) * (5 : Int32)) → ∀ v70 : Int32, v70 = (l5 / (5 : Int32)) → ∀ v71 : Int32, v71 = l6 + (-1 : Int32) → bk47 S65 l0 l1 l2 l3 l4 v70 v71))
def wl_X12_layTwins_47 (bk32 : hp → Nat → Int32 → Int32 → Int32 → Int32 → Prop) (Q : Int32 → hp → Prop) : Nat → hp → Nat → Int32 → Int32 → Int32 → Int32 → Int32 → Int32 → Prop
  | 0 => fun _ _ _ _ _ _ _ _ => False
  | n + 1 => wB_X12_layTwins_47 bk32 (wl_X12_layTwins_47 bk32 Q n) Q
def wB_X12_layTwins_32 (bk32 : hp → Nat → Int32 → Int32 → Int32 → Int32 → Prop) (Q : Int32 → hp → Prop) (S : hp) (l0 : Nat) (l1 : Int32) (l2 : Int32) (l3 : Int32) (l4 : Int32) : Prop :=
  ((l2 ≤ l4 → Q l3 S) ∧ (¬ l2 ≤ l4 → ∀ v8 : Int32, v8 = (l1 - (1 : Int32)) → ∃ n : Nat, wl_X12_layTwins_47 bk32 Q n S l0 l1 l2 l3 l4 l4 v8))
def wl_X12_layTwins_32 (Q : Int32 → hp → Prop) : Nat → hp → Nat → Int32 → Int32 → Int32 → Int32 → Prop
  | 0 => fun _ _ _ _ _ _ => False
  | n + 1 => wB_X12_layTwins_32 (wl_X12_layTwins_32 Q n) Q
def wB_X12_layTwins_11 (bk11 : hp → Nat → Int32 → Int32 → Int32 → Prop) (Q : Int32 → hp → Prop) (S : hp) (l0 : Nat) (l1 : Int32) (l2 : Int32) (l3 : Int32) : Prop :=
  ((l1 ≤ l3 → ∃ n : Nat, wl_X12_layTwins_32 Q n S l0 l1 l2 (-1000000 : Int32) (0 : Int32)) ∧ (¬ l1 ≤ l3 → ∀ v72 : Int32, v72 = (l2 * (5 : Int32)) → ∀ v73 : Int32, v73 = l3 + (1 : Int32) → bk11 S l0 l1 v72 v73))
def wl_X12_layTwins_11 (Q : Int32 → hp → Prop) : Nat → hp → Nat → Int32 → Int32 → Int32 → Prop
  | 0 => fun _ _ _ _ _ => False
  | n + 1 => wB_X12_layTwins_11 (wl_X12_layTwins_11 Q n) Q
def wp_X12_layTwins (Q : Int32 → hp → Prop) (S : hp) (a0 : Nat) : Prop :=
  hK S a0 = 11 ∧ ∃ r2 : Nat, hR S a0 5 = some r2 ∧ hK S r2 = 12 ∧ vp_in (2 : Int32) (hN S r2) ∧ ∀ v5 : Int32, v5 = (hI S r2 ((2 : Int32)).toNatClampNeg) → ∃ n : Nat, wl_X12_layTwins_11 Q n S a0 v5 (1 : Int32) (0 : Int32)
theorem k_X12_layTwins : Cond.code yX12_layTwins cX12_layTwins 11 (some .int) ∈ gtb := mg 1278 (by decide +kernel) (by decide +kernel)
theorem dn_X12_layTwins : yX12_layTwins.cls ≠ "java/lang/invoke/MethodHandle" ∧ yX12_layTwins.cls ≠ "java/lang/invoke/VarHandle" ∧ (parseMethodDescriptor yX12_layTwins.desc).map (fun d => d.parameters.length) = some 0 := by decide +kernel
set_option maxRecDepth 100000 in
set_option maxHeartbeats 4000000 in
theorem s_X12_layTwins (l : Launch) (b : Nat) (D : va_G) (cy : Nat → ClassId) {Q : Int32 → hp → Prop} {S : hp} {a0 : Nat} (h : wp_X12_layTwins Q S a0) : MT l yX12_layTwins cX12_layTwins 11 (some .int) 1 25 0 0 b D cy S [.ref a0] (pI Q) := by
  refine MT.of (by decide +kernel) (Nat.le_of_ble_eq_true rfl) ?_
  intro p e s m args below meth c X hr hlk hnm
  have j290 : ∀ (bk32 : hp → Nat → Int32 → Int32 → Int32 → Int32 → Prop) (hbk32 : ∀ (S : hp) (l0 : Nat) (l1 : Int32) (l2 : Int32) (l3 : Int32) (l4 : Int32), bk32 S l0 l1 l2 l3 l4 → VM l b D cy 11 1 25 0 0 (pI Q) p e s m args below meth c S 0 0 32 [(0, .ref l0), (1, .int l1), (2, .int l2), (3, .int l3), (4, .int l4)] []) (S : hp) (l0 : Nat) (l1 : Int32) (l2 : Int32) (l3 : Int32) (l4 : Int32), wB_X12_layTwins_290 bk32 Q S l0 l1 l2 l3 l4 → VM l b D cy 11 1 25 0 0 (pI Q) p e s m args below meth c S 0 0 290 [(0, .ref l0), (1, .int l1), (2, .int l2), (3, .int l3), (4, .int l4)] [] := by
    intro bk32 hbk32 S l0 l1 l2 l3 l4 h
    unfold wB_X12_layTwins_290 at h
    obtain ⟨v12, hv12⟩ : ∃ y : Int32, y = l4 + (1 : Int32) := ⟨_, rfl⟩
    replace h := h v12 hv12
    refine v_iinc X (j := 4) (v := v12) (lv' := [(4, .int v12), (0, .ref l0), (1, .int l1), (2, .int l2), (3, .int l3)]) dX12_layTwins_290 rfl (by rw [hv12] <;> rfl) (by decide) rfl ?_
    refine v_goto X (tgt := 32) dX12_layTwins_293 (by decide) ?_
    refine v_lv (lv' := [(0, .ref l0), (1, .int l1), (2, .int l2), (3, .int l3), (4, .int v12)]) [1, 2, 3, 4, 0] rfl ?_
    exact hbk32 _ _ _ _ _ _ h
  have j264 : ∀ (bk32 : hp → Nat → Int32 → Int32 → Int32 → Int32 → Prop) (hbk32 : ∀ (S : hp) (l0 : Nat) (l1 : Int32) (l2 : Int32) (l3 : Int32) (l4 : Int32), bk32 S l0 l1 l2 l3 l4 → VM l b D cy 11 1 25 0 0 (pI Q) p e s m args below meth c S 0 0 32 [(0, .ref l0), (1, .int l1), (2, .int l2), (3, .int l3), (4, .int l4)] []) (bk264 : hp → Nat → Int32 → Int32 → Int32 → Int32 → Int32 → Prop) (hbk264 : ∀ (S : hp) (l0 : Nat) (l1 : Int32) (l2 : Int32) (l3 : Int32) (l4 : Int32) (l9 : Int32), bk264 S l0 l1 l2 l3 l4 l9 → VM l b D cy 11 1 25 0 0 (pI Q) p e s m args below meth c S 0 0 264 [(0, .ref l0), (1, .int l1), (2, .int l2), (3, .int l3), (4, .int l4), (9, .int l9)] []) (S : hp) (l0 : Nat) (l1 : Int32) (l2 : Int32) (l3 : Int32) (l4 : Int32) (l9 : Int32), wB_X12_layTwins_264 bk32 bk264 Q S l0 l1 l2 l3 l4 l9 → VM l b D cy 11 1 25 0 0 (pI Q) p e s m args below meth c S 0 0 264 [(0, .ref l0), (1, .int l1), (2, .int l2), (3, .int l3), (4, .int l4), (9, .int l9)] [] := by
    intro bk32 hbk32 bk264 hbk264 S l0 l1 l2 l3 l4 l9 h
    unfold wB_X12_layTwins_264 at h
    refine v_iload X 5 dX12_layTwins_264 rfl ?_
    refine v_iload_n X 1 dX12_layTwins_266 rfl rfl ?_
    refine v_icmp_ge X (tgt := 290) dX12_layTwins_267 (by decide) (fun c15 => ?_) (fun c15 => ?_)
    · replace h := h.1 c15
      refine v_lv (lv' := [(0, .ref l0), (1, .int l1), (2, .int l2), (3, .int l3), (4, .int l4)]) [0, 1, 2, 3, 4] rfl ?_
      exact j290 bk32 hbk32 _ _ _ _ _ _ h
    · replace h := h.2 c15
      refine v_aload_n X 0 dX12_layTwins_270 rfl rfl ?_
      obtain ⟨hk16, h⟩ := h
      obtain ⟨r17, hr17, h⟩ := h
      refine v_getR X (T := TX12) (N := 26) (k := 23) hk16 (by decide) rfl (by decide) inX12 wd962 rfl dX12_layTwins_271 hr17 ?_
      refine v_iload X 5 dX12_layTwins_274 rfl ?_
      refine v_aload_n X 0 dX12_layTwins_276 rfl rfl ?_
      obtain ⟨r18, hr18, h⟩ := h
      refine v_getR X (T := TX12) (N := 26) (k := 22) hk16 (by decide) rfl (by decide) inX12 wd961 rfl dX12_layTwins_277 hr18 ?_
      refine v_iload X 5 dX12_layTwins_280 rfl ?_
      obtain ⟨hk19, h⟩ := h
      obtain ⟨hi20, h⟩ := h
      refine v_iald X hk19 hi20 dX12_layTwins_282 ?_
      obtain ⟨hk21, h⟩ := h
      obtain ⟨hi22, h⟩ := h
      refine v_iast X hk21 hi22 dX12_layTwins_283 ?_
      refine v_nmS (fun S23 eS23 => ?_)
      replace h := h S23 eS23
      have hk24 : hK S23 l0 = 11 := by rw [eS23]; exact hk16
      have hk25 : hK S23 r18 = 12 := by rw [eS23]; exact hk19
      have hk26 : hK S23 r17 = 12 := by rw [eS23]; exact hk21
      have hi27 : vp_in l9 (hN S23 r18) := by rw [eS23]; exact hi20
      have hi28 : vp_in l9 (hN S23 r17) := by rw [eS23]; exact hi22
      have hr29 : hR S23 l0 23 = some r17 := by rw [eS23]; exact hr17
      have hr30 : hR S23 l0 22 = some r18 := by rw [eS23]; exact hr18
      obtain ⟨v31, hv31⟩ : ∃ y : Int32, y = l9 + (1 : Int32) := ⟨_, rfl⟩
      replace h := h v31 hv31
      refine v_iinc X (j := 5) (v := v31) (lv' := [(9, .int v31), (0, .ref l0), (1, .int l1), (2, .int l2), (3, .int l3), (4, .int l4)]) dX12_layTwins_284 rfl (by rw [hv31] <;> rfl) (by decide) rfl ?_
      refine v_goto X (tgt := 264) dX12_layTwins_287 (by decide) ?_
      refine v_lv (lv' := [(0, .ref l0), (1, .int l1), (2, .int l2), (3, .int l3), (4, .int l4), (9, .int v31)]) [1, 2, 3, 4, 5, 0] rfl ?_
      exact hbk264 _ _ _ _ _ _ _ h
  have l264 : ∀ (bk32 : hp → Nat → Int32 → Int32 → Int32 → Int32 → Prop) (hbk32 : ∀ (S : hp) (l0 : Nat) (l1 : Int32) (l2 : Int32) (l3 : Int32) (l4 : Int32), bk32 S l0 l1 l2 l3 l4 → VM l b D cy 11 1 25 0 0 (pI Q) p e s m args below meth c S 0 0 32 [(0, .ref l0), (1, .int l1), (2, .int l2), (3, .int l3), (4, .int l4)] []) (n : Nat) (S : hp) (l0 : Nat) (l1 : Int32) (l2 : Int32) (l3 : Int32) (l4 : Int32) (l9 : Int32), wl_X12_layTwins_264 bk32 Q n S l0 l1 l2 l3 l4 l9 → VM l b D cy 11 1 25 0 0 (pI Q) p e s m args below meth c S 0 0 264 [(0, .ref l0), (1, .int l1), (2, .int l2), (3, .int l3), (4, .int l4), (9, .int l9)] [] := by
    intro bk32 hbk32 n
    induction n with
    | zero => intro S l0 l1 l2 l3 l4 l9 h; exact h.elim
    | succ n ih => intro S l0 l1 l2 l3 l4 l9 h; exact j264 bk32 hbk32 (wl_X12_layTwins_264 bk32 Q n) ih S l0 l1 l2 l3 l4 l9 h
  have j258 : ∀ (bk32 : hp → Nat → Int32 → Int32 → Int32 → Int32 → Prop) (hbk32 : ∀ (S : hp) (l0 : Nat) (l1 : Int32) (l2 : Int32) (l3 : Int32) (l4 : Int32), bk32 S l0 l1 l2 l3 l4 → VM l b D cy 11 1 25 0 0 (pI Q) p e s m args below meth c S 0 0 32 [(0, .ref l0), (1, .int l1), (2, .int l2), (3, .int l3), (4, .int l4)] []) (S : hp) (l0 : Nat) (l1 : Int32) (l2 : Int32) (l4 : Int32) (l6 : Int32), wB_X12_layTwins_258 bk32 Q S l0 l1 l2 l4 l6 → VM l b D cy 11 1 25 0 0 (pI Q) p e s m args below meth c S 0 0 258 [(0, .ref l0), (1, .int l1), (2, .int l2), (4, .int l4), (6, .int l6)] [] := by
    intro bk32 hbk32 S l0 l1 l2 l4 l6 h
    unfold wB_X12_layTwins_258 at h
    refine v_iload X 4 dX12_layTwins_258 rfl ?_
    refine v_istore_n X (lv' := [(3, .int l6), (0, .ref l0), (1, .int l1), (2, .int l2), (4, .int l4), (6, .int l6)]) dX12_layTwins_260 rfl (by decide) rfl ?_
    refine v_iconst X (v := 0) dX12_layTwins_261 (by decide) ?_
    refine v_istore X (lv' := [(9, .int (0 : Int32)), (3, .int l6), (0, .ref l0), (1, .int l1), (2, .int l2), (4, .int l4), (6, .int l6)]) dX12_layTwins_262 (by decide) rfl ?_
    refine v_lv (lv' := [(0, .ref l0), (1, .int l1), (2, .int l2), (3, .int l6), (4, .int l4), (9, .int (0 : Int32))]) [2, 3, 4, 1, 5, 0] rfl ?_
    obtain ⟨n, h⟩ := h
    exact l264 bk32 hbk32 n _ _ _ _ _ _ _ h
  have j224 : ∀ (bk32 : hp → Nat → Int32 → Int32 → Int32 → Int32 → Prop) (hbk32 : ∀ (S : hp) (l0 : Nat) (l1 : Int32) (l2 : Int32) (l3 : Int32) (l4 : Int32), bk32 S l0 l1 l2 l3 l4 → VM l b D cy 11 1 25 0 0 (pI Q) p e s m args below meth c S 0 0 32 [(0, .ref l0), (1, .int l1), (2, .int l2), (3, .int l3), (4, .int l4)] []) (bk87 : hp → Nat → Int32 → Int32 → Int32 → Int32 → Int32 → Int32 → Int32 → Int32 → Prop) (hbk87 : ∀ (S : hp) (l0 : Nat) (l1 : Int32) (l2 : Int32) (l3 : Int32) (l4 : Int32) (l6 : Int32) (l7 : Int32) (l8 : Int32) (l9 : Int32), bk87 S l0 l1 l2 l3 l4 l6 l7 l8 l9 → VM l b D cy 11 1 25 0 0 (pI Q) p e s m args below meth c S 0 0 87 [(0, .ref l0), (1, .int l1), (2, .int l2), (3, .int l3), (4, .int l4), (6, .int l6), (7, .int l7), (8, .int l8), (9, .int l9)] []) (S : hp) (l0 : Nat) (l1 : Int32) (l2 : Int32) (l3 : Int32) (l4 : Int32) (l7 : Int32) (l8 : Int32) (l9 : Int32) (k0 : Int32) (k1 : Int32), wB_X12_layTwins_224 bk32 bk87 Q S l0 l1 l2 l3 l4 l7 l8 l9 k0 k1 → VM l b D cy 11 1 25 0 0 (pI Q) p e s m args below meth c S 0 0 224 [(0, .ref l0), (1, .int l1), (2, .int l2), (3, .int l3), (4, .int l4), (7, .int l7), (8, .int l8), (9, .int l9)] [.int k0, .int k1] := by
    intro bk32 hbk32 bk87 hbk87 S l0 l1 l2 l3 l4 l7 l8 l9 k0 k1 h
    unfold wB_X12_layTwins_224 at h
    refine v_iadd X dX12_layTwins_224 ?_
    refine v_nm (fun v42 hv42 => ?_)
    replace h := h v42 hv42
    refine v_istore X (lv' := [(6, .int v42), (0, .ref l0), (1, .int l1), (2, .int l2), (3, .int l3), (4, .int l4), (7, .int l7), (8, .int l8), (9, .int l9)]) dX12_layTwins_225 (by decide) rfl ?_
    obtain ⟨v43, hv43⟩ : ∃ y : Int32, y = l9 + (1 : Int32) := ⟨_, rfl⟩
    replace h := h v43 hv43
    refine v_iinc X (j := 8) (v := v43) (lv' := [(9, .int v43), (6, .int v42), (0, .ref l0), (1, .int l1), (2, .int l2), (3, .int l3), (4, .int l4), (7, .int l7), (8, .int l8)]) dX12_layTwins_227 rfl (by rw [hv43] <;> rfl) (by decide) rfl ?_
    refine v_goto X (tgt := 87) dX12_layTwins_230 (by decide) ?_
    refine v_lv (lv' := [(0, .ref l0), (1, .int l1), (2, .int l2), (3, .int l3), (4, .int l4), (6, .int v42), (7, .int l7), (8, .int l8), (9, .int v43)]) [2, 3, 4, 5, 6, 1, 7, 8, 0] rfl ?_
    exact hbk87 _ _ _ _ _ _ _ _ _ _ h
  have j223 : ∀ (bk32 : hp → Nat → Int32 → Int32 → Int32 → Int32 → Prop) (hbk32 : ∀ (S : hp) (l0 : Nat) (l1 : Int32) (l2 : Int32) (l3 : Int32) (l4 : Int32), bk32 S l0 l1 l2 l3 l4 → VM l b D cy 11 1 25 0 0 (pI Q) p e s m args below meth c S 0 0 32 [(0, .ref l0), (1, .int l1), (2, .int l2), (3, .int l3), (4, .int l4)] []) (bk87 : hp → Nat → Int32 → Int32 → Int32 → Int32 → Int32 → Int32 → Int32 → Int32 → Prop) (hbk87 : ∀ (S : hp) (l0 : Nat) (l1 : Int32) (l2 : Int32) (l3 : Int32) (l4 : Int32) (l6 : Int32) (l7 : Int32) (l8 : Int32) (l9 : Int32), bk87 S l0 l1 l2 l3 l4 l6 l7 l8 l9 → VM l b D cy 11 1 25 0 0 (pI Q) p e s m args below meth c S 0 0 87 [(0, .ref l0), (1, .int l1), (2, .int l2), (3, .int l3), (4, .int l4), (6, .int l6), (7, .int l7), (8, .int l8), (9, .int l9)] []) (S : hp) (l0 : Nat) (l1 : Int32) (l2 : Int32) (l3 : Int32) (l4 : Int32) (l7 : Int32) (l8 : Int32) (l9 : Int32) (k0 : Int32), wB_X12_layTwins_223 bk32 bk87 Q S l0 l1 l2 l3 l4 l7 l8 l9 k0 → VM l b D cy 11 1 25 0 0 (pI Q) p e s m args below meth c S 0 0 223 [(0, .ref l0), (1, .int l1), (2, .int l2), (3, .int l3), (4, .int l4), (7, .int l7), (8, .int l8), (9, .int l9)] [.int k0] := by
    intro bk32 hbk32 bk87 hbk87 S l0 l1 l2 l3 l4 l7 l8 l9 k0 h
    unfold wB_X12_layTwins_223 at h
    refine v_iconst X (v := 0) dX12_layTwins_223 (by decide) ?_
    exact j224 bk32 hbk32 bk87 hbk87 _ _ _ _ _ _ _ _ _ _ _ h
  have j181 : ∀ (bk32 : hp → Nat → Int32 → Int32 → Int32 → Int32 → Prop) (hbk32 : ∀ (S : hp) (l0 : Nat) (l1 : Int32) (l2 : Int32) (l3 : Int32) (l4 : Int32), bk32 S l0 l1 l2 l3 l4 → VM l b D cy 11 1 25 0 0 (pI Q) p e s m args below meth c S 0 0 32 [(0, .ref l0), (1, .int l1), (2, .int l2), (3, .int l3), (4, .int l4)] []) (bk87 : hp → Nat → Int32 → Int32 → Int32 → Int32 → Int32 → Int32 → Int32 → Int32 → Prop) (hbk87 : ∀ (S : hp) (l0 : Nat) (l1 : Int32) (l2 : Int32) (l3 : Int32) (l4 : Int32) (l6 : Int32) (l7 : Int32) (l8 : Int32) (l9 : Int32), bk87 S l0 l1 l2 l3 l4 l6 l7 l8 l9 → VM l b D cy 11 1 25 0 0 (pI Q) p e s m args below meth c S 0 0 87 [(0, .ref l0), (1, .int l1), (2, .int l2), (3, .int l3), (4, .int l4), (6, .int l6), (7, .int l7), (8, .int l8), (9, .int l9)] []) (S : hp) (l0 : Nat) (l1 : Int32) (l2 : Int32) (l3 : Int32) (l4 : Int32) (l6 : Int32) (l7 : Int32) (l9 : Int32) (l10 : Int32) (k0 : Int32), wB_X12_layTwins_181 bk32 bk87 Q S l0 l1 l2 l3 l4 l6 l7 l9 l10 k0 → VM l b D cy 11 1 25 0 0 (pI Q) p e s m args below meth c S 0 0 181 [(0, .ref l0), (1, .int l1), (2, .int l2), (3, .int l3), (4, .int l4), (6, .int l6), (7, .int l7), (9, .int l9), (10, .int l10)] [.int k0] := by
    intro bk32 hbk32 bk87 hbk87 S l0 l1 l2 l3 l4 l6 l7 l9 l10 k0 h
    unfold wB_X12_layTwins_181 at h
    refine v_istore X (lv' := [(8, .int k0), (0, .ref l0), (1, .int l1), (2, .int l2), (3, .int l3), (4, .int l4), (6, .int l6), (7, .int l7), (9, .int l9), (10, .int l10)]) dX12_layTwins_181 (by decide) rfl ?_
    refine v_iload X 6 dX12_layTwins_183 rfl ?_
    refine v_iload X 0 dX12_layTwins_185 rfl ?_
    refine v_if_eq X (tgt := 223) dX12_layTwins_187 (by decide) (fun c41 => ?_) (fun c41 => ?_)
    · replace h := h.1 c41
      refine v_lv (lv' := [(0, .ref l0), (1, .int l1), (2, .int l2), (3, .int l3), (4, .int l4), (7, .int l7), (8, .int k0), (9, .int l9)]) [1, 2, 3, 4, 5, 7, 0, 8] rfl ?_
      exact j223 bk32 hbk32 bk87 hbk87 _ _ _ _ _ _ _ _ _ _ h
    · replace h := h.2 c41
      refine v_iload X 9 dX12_layTwins_190 rfl ?_
      refine v_if_ne X (tgt := 223) dX12_layTwins_192 (by decide) (fun c44 => ?_) (fun c44 => ?_)
      · replace h := h.1 c44
        refine v_lv (lv' := [(0, .ref l0), (1, .int l1), (2, .int l2), (3, .int l3), (4, .int l4), (7, .int l7), (8, .int k0), (9, .int l9)]) [1, 2, 3, 4, 5, 7, 0, 8] rfl ?_
        exact j223 bk32 hbk32 bk87 hbk87 _ _ _ _ _ _ _ _ _ _ h
      · replace h := h.2 c44
        refine v_aload_n X 1 dX12_layTwins_195 rfl rfl ?_
        obtain ⟨hk45, h⟩ := h
        obtain ⟨r46, hr46, h⟩ := h
        refine v_getR X (T := TX12) (N := 26) (k := 22) hk45 (by decide) rfl (by decide) inX12 wd961 rfl dX12_layTwins_196 hr46 ?_
        refine v_iload X 8 dX12_layTwins_199 rfl ?_
        obtain ⟨hk47, h⟩ := h
        obtain ⟨hi48, h⟩ := h
        refine v_iald X hk47 hi48 dX12_layTwins_201 ?_
        refine v_iload X 8 dX12_layTwins_202 rfl ?_
        refine v_icmp_le X (tgt := 223) dX12_layTwins_204 (by decide) (fun c49 => ?_) (fun c49 => ?_)
        · replace h := h.1 c49
          refine v_lv (lv' := [(0, .ref l0), (1, .int l1), (2, .int l2), (3, .int l3), (4, .int l4), (7, .int l7), (8, .int k0), (9, .int l9)]) [1, 2, 3, 4, 5, 7, 0, 8] rfl ?_
          exact j223 bk32 hbk32 bk87 hbk87 _ _ _ _ _ _ _ _ _ _ h
        · replace h := h.2 c49
          refine v_aload_n X 1 dX12_layTwins_207 rfl rfl ?_
          refine v_iload X 8 dX12_layTwins_208 rfl ?_
          refine v_aload_n X 1 dX12_layTwins_210 rfl rfl ?_
          refine v_getR X (T := TX12) (N := 26) (k := 22) hk45 (by decide) rfl (by decide) inX12 wd961 rfl dX12_layTwins_211 hr46 ?_
          refine v_iload X 8 dX12_layTwins_214 rfl ?_
          refine v_iald X hk47 hi48 dX12_layTwins_216 ?_
          refine v_callV X (av := [.int l9, .int (hI S r46 (l9).toNatClampNeg)]) (T := TX12) (N := 26) (s_X12_unlike l b D cy h) hk45 (by decide) rfl wd1279 wd1281 wd49 wd62 k_X12_unlike dn_X12_unlike rfl ⟨Nat.le_of_ble_eq_true rfl, Nat.le_of_ble_eq_true rfl⟩ (Nat.le_of_ble_eq_true rfl) ⟨Nat.le_of_ble_eq_true rfl, Nat.le_of_ble_eq_true rfl⟩ dX12_layTwins_217 rfl (kI (fun r51 S50 h => ?_))
          refine v_goto X (tgt := 224) dX12_layTwins_220 (by decide) ?_
          refine v_lv (lv' := [(0, .ref l0), (1, .int l1), (2, .int l2), (3, .int l3), (4, .int l4), (7, .int l7), (8, .int k0), (9, .int l9)]) [1, 2, 3, 4, 5, 7, 0, 8] rfl ?_
          exact j224 bk32 hbk32 bk87 hbk87 _ _ _ _ _ _ _ _ _ _ _ h
  have j180 : ∀ (bk32 : hp → Nat → Int32 → Int32 → Int32 → Int32 → Prop) (hbk32 : ∀ (S : hp) (l0 : Nat) (l1 : Int32) (l2 : Int32) (l3 : Int32) (l4 : Int32), bk32 S l0 l1 l2 l3 l4 → VM l b D cy 11 1 25 0 0 (pI Q) p e s m args below meth c S 0 0 32 [(0, .ref l0), (1, .int l1), (2, .int l2), (3, .int l3), (4, .int l4)] []) (bk87 : hp → Nat → Int32 → Int32 → Int32 → Int32 → Int32 → Int32 → Int32 → Int32 → Prop) (hbk87 : ∀ (S : hp) (l0 : Nat) (l1 : Int32) (l2 : Int32) (l3 : Int32) (l4 : Int32) (l6 : Int32) (l7 : Int32) (l8 : Int32) (l9 : Int32), bk87 S l0 l1 l2 l3 l4 l6 l7 l8 l9 → VM l b D cy 11 1 25 0 0 (pI Q) p e s m args below meth c S 0 0 87 [(0, .ref l0), (1, .int l1), (2, .int l2), (3, .int l3), (4, .int l4), (6, .int l6), (7, .int l7), (8, .int l8), (9, .int l9)] []) (S : hp) (l0 : Nat) (l1 : Int32) (l2 : Int32) (l3 : Int32) (l4 : Int32) (l6 : Int32) (l7 : Int32) (l9 : Int32) (l10 : Int32), wB_X12_layTwins_180 bk32 bk87 Q S l0 l1 l2 l3 l4 l6 l7 l9 l10 → VM l b D cy 11 1 25 0 0 (pI Q) p e s m args below meth c S 0 0 180 [(0, .ref l0), (1, .int l1), (2, .int l2), (3, .int l3), (4, .int l4), (6, .int l6), (7, .int l7), (9, .int l9), (10, .int l10)] [] := by
    intro bk32 hbk32 bk87 hbk87 S l0 l1 l2 l3 l4 l6 l7 l9 l10 h
    unfold wB_X12_layTwins_180 at h
    refine v_iconst X (v := 0) dX12_layTwins_180 (by decide) ?_
    exact j181 bk32 hbk32 bk87 hbk87 _ _ _ _ _ _ _ _ _ _ _ h
  have j176 : ∀ (bk32 : hp → Nat → Int32 → Int32 → Int32 → Int32 → Prop) (hbk32 : ∀ (S : hp) (l0 : Nat) (l1 : Int32) (l2 : Int32) (l3 : Int32) (l4 : Int32), bk32 S l0 l1 l2 l3 l4 → VM l b D cy 11 1 25 0 0 (pI Q) p e s m args below meth c S 0 0 32 [(0, .ref l0), (1, .int l1), (2, .int l2), (3, .int l3), (4, .int l4)] []) (bk87 : hp → Nat → Int32 → Int32 → Int32 → Int32 → Int32 → Int32 → Int32 → Int32 → Prop) (hbk87 : ∀ (S : hp) (l0 : Nat) (l1 : Int32) (l2 : Int32) (l3 : Int32) (l4 : Int32) (l6 : Int32) (l7 : Int32) (l8 : Int32) (l9 : Int32), bk87 S l0 l1 l2 l3 l4 l6 l7 l8 l9 → VM l b D cy 11 1 25 0 0 (pI Q) p e s m args below meth c S 0 0 87 [(0, .ref l0), (1, .int l1), (2, .int l2), (3, .int l3), (4, .int l4), (6, .int l6), (7, .int l7), (8, .int l8), (9, .int l9)] []) (S : hp) (l0 : Nat) (l1 : Int32) (l2 : Int32) (l3 : Int32) (l4 : Int32) (l6 : Int32) (l7 : Int32) (l9 : Int32) (l10 : Int32), wB_X12_layTwins_176 bk32 bk87 Q S l0 l1 l2 l3 l4 l6 l7 l9 l10 → VM l b D cy 11 1 25 0 0 (pI Q) p e s m args below meth c S 0 0 176 [(0, .ref l0), (1, .int l1), (2, .int l2), (3, .int l3), (4, .int l4), (6, .int l6), (7, .int l7), (9, .int l9), (10, .int l10)] [] := by
    intro bk32 hbk32 bk87 hbk87 S l0 l1 l2 l3 l4 l6 l7 l9 l10 h
    unfold wB_X12_layTwins_176 at h
    refine v_iconst X (v := 1) dX12_layTwins_176 (by decide) ?_
    refine v_goto X (tgt := 181) dX12_layTwins_177 (by decide) ?_
    exact j181 bk32 hbk32 bk87 hbk87 _ _ _ _ _ _ _ _ _ _ _ h
  have j123 : ∀ (bk32 : hp → Nat → Int32 → Int32 → Int32 → Int32 → Prop) (hbk32 : ∀ (S : hp) (l0 : Nat) (l1 : Int32) (l2 : Int32) (l3 : Int32) (l4 : Int32), bk32 S l0 l1 l2 l3 l4 → VM l b D cy 11 1 25 0 0 (pI Q) p e s m args below meth c S 0 0 32 [(0, .ref l0), (1, .int l1), (2, .int l2), (3, .int l3), (4, .int l4)] []) (bk87 : hp → Nat → Int32 → Int32 → Int32 → Int32 → Int32 → Int32 → Int32 → Int32 → Prop) (hbk87 : ∀ (S : hp) (l0 : Nat) (l1 : Int32) (l2 : Int32) (l3 : Int32) (l4 : Int32) (l6 : Int32) (l7 : Int32) (l8 : Int32) (l9 : Int32), bk87 S l0 l1 l2 l3 l4 l6 l7 l8 l9 → VM l b D cy 11 1 25 0 0 (pI Q) p e s m args below meth c S 0 0 87 [(0, .ref l0), (1, .int l1), (2, .int l2), (3, .int l3), (4, .int l4), (6, .int l6), (7, .int l7), (8, .int l8), (9, .int l9)] []) (S : hp) (l0 : Nat) (l1 : Int32) (l2 : Int32) (l3 : Int32) (l4 : Int32) (l6 : Int32) (l8 : Int32) (l9 : Int32) (l10 : Int32) (k0 : Int32) (k1 : Int32), wB_X12_layTwins_123 bk32 bk87 Q S l0 l1 l2 l3 l4 l6 l8 l9 l10 k0 k1 → VM l b D cy 11 1 25 0 0 (pI Q) p e s m args below meth c S 0 0 123 [(0, .ref l0), (1, .int l1), (2, .int l2), (3, .int l3), (4, .int l4), (6, .int l6), (8, .int l8), (9, .int l9), (10, .int l10)] [.int k0, .int k1] := by
    intro bk32 hbk32 bk87 hbk87 S l0 l1 l2 l3 l4 l6 l8 l9 l10 k0 k1 h
    unfold wB_X12_layTwins_123 at h
    refine v_iadd X dX12_layTwins_123 ?_
    refine v_nm (fun v39 hv39 => ?_)
    replace h := h v39 hv39
    refine v_istore X (lv' := [(7, .int v39), (0, .ref l0), (1, .int l1), (2, .int l2), (3, .int l3), (4, .int l4), (6, .int l6), (8, .int l8), (9, .int l9), (10, .int l10)]) dX12_layTwins_124 (by decide) rfl ?_
    refine v_iload X 7 dX12_layTwins_126 rfl ?_
    refine v_if_eq X (tgt := 180) dX12_layTwins_128 (by decide) (fun c40 => ?_) (fun c40 => ?_)
    · replace h := h.1 c40
      refine v_lv (lv' := [(0, .ref l0), (1, .int l1), (2, .int l2), (3, .int l3), (4, .int l4), (6, .int l6), (7, .int v39), (9, .int l9), (10, .int l10)]) [1, 2, 3, 4, 5, 6, 0, 8, 9] rfl ?_
      exact j180 bk32 hbk32 bk87 hbk87 _ _ _ _ _ _ _ _ _ _ h
    · replace h := h.2 c40
      refine v_iload X 9 dX12_layTwins_131 rfl ?_
      refine v_if_ne X (tgt := 176) dX12_layTwins_133 (by decide) (fun c52 => ?_) (fun c52 => ?_)
      · replace h := h.1 c52
        refine v_lv (lv' := [(0, .ref l0), (1, .int l1), (2, .int l2), (3, .int l3), (4, .int l4), (6, .int l6), (7, .int v39), (9, .int l9), (10, .int l10)]) [1, 2, 3, 4, 5, 6, 0, 8, 9] rfl ?_
        exact j176 bk32 hbk32 bk87 hbk87 _ _ _ _ _ _ _ _ _ _ h
      · replace h := h.2 c52
        refine v_aload_n X 1 dX12_layTwins_136 rfl rfl ?_
        obtain ⟨hk53, h⟩ := h
        obtain ⟨r54, hr54, h⟩ := h
        refine v_getR X (T := TX12) (N := 26) (k := 22) hk53 (by decide) rfl (by decide) inX12 wd961 rfl dX12_layTwins_137 hr54 ?_
        refine v_iload X 8 dX12_layTwins_140 rfl ?_
        obtain ⟨hk55, h⟩ := h
        obtain ⟨hi56, h⟩ := h
        refine v_iald X hk55 hi56 dX12_layTwins_142 ?_
        refine v_iload_n X 2 dX12_layTwins_143 rfl rfl ?_
        refine v_icmp_ge X (tgt := 180) dX12_layTwins_144 (by decide) (fun c57 => ?_) (fun c57 => ?_)
        · replace h := h.1 c57
          refine v_lv (lv' := [(0, .ref l0), (1, .int l1), (2, .int l2), (3, .int l3), (4, .int l4), (6, .int l6), (7, .int v39), (9, .int l9), (10, .int l10)]) [1, 2, 3, 4, 5, 6, 0, 8, 9] rfl ?_
          exact j180 bk32 hbk32 bk87 hbk87 _ _ _ _ _ _ _ _ _ _ h
        · replace h := h.2 c57
          refine v_aload_n X 1 dX12_layTwins_147 rfl rfl ?_
          refine v_getR X (T := TX12) (N := 26) (k := 22) hk53 (by decide) rfl (by decide) inX12 wd961 rfl dX12_layTwins_148 hr54 ?_
          refine v_iload X 8 dX12_layTwins_151 rfl ?_
          refine v_iald X hk55 hi56 dX12_layTwins_153 ?_
          refine v_iload X 8 dX12_layTwins_154 rfl ?_
          refine v_icmp_eq X (tgt := 180) dX12_layTwins_156 (by decide) (fun c58 => ?_) (fun c58 => ?_)
          · replace h := h.1 c58
            refine v_lv (lv' := [(0, .ref l0), (1, .int l1), (2, .int l2), (3, .int l3), (4, .int l4), (6, .int l6), (7, .int v39), (9, .int l9), (10, .int l10)]) [1, 2, 3, 4, 5, 6, 0, 8, 9] rfl ?_
            exact j180 bk32 hbk32 bk87 hbk87 _ _ _ _ _ _ _ _ _ _ h
          · replace h := h.2 c58
            refine v_aload_n X 1 dX12_layTwins_159 rfl rfl ?_
            refine v_getR X (T := TX12) (N := 26) (k := 22) hk53 (by decide) rfl (by decide) inX12 wd961 rfl dX12_layTwins_160 hr54 ?_
            refine v_aload_n X 1 dX12_layTwins_163 rfl rfl ?_
            refine v_getR X (T := TX12) (N := 26) (k := 22) hk53 (by decide) rfl (by decide) inX12 wd961 rfl dX12_layTwins_164 hr54 ?_
            refine v_iload X 8 dX12_layTwins_167 rfl ?_
            refine v_iald X hk55 hi56 dX12_layTwins_169 ?_
            obtain ⟨hi59, h⟩ := h
            refine v_iald X hk55 hi59 dX12_layTwins_170 ?_
            refine v_iload X 8 dX12_layTwins_171 rfl ?_
            refine v_icmp_ne X (tgt := 180) dX12_layTwins_173 (by decide) (fun c60 => ?_) (fun c60 => ?_)
            · replace h := h.1 c60
              refine v_lv (lv' := [(0, .ref l0), (1, .int l1), (2, .int l2), (3, .int l3), (4, .int l4), (6, .int l6), (7, .int v39), (9, .int l9), (10, .int l10)]) [1, 2, 3, 4, 5, 6, 0, 8, 9] rfl ?_
              exact j180 bk32 hbk32 bk87 hbk87 _ _ _ _ _ _ _ _ _ _ h
            · replace h := h.2 c60
              refine v_lv (lv' := [(0, .ref l0), (1, .int l1), (2, .int l2), (3, .int l3), (4, .int l4), (6, .int l6), (7, .int v39), (9, .int l9), (10, .int l10)]) [1, 2, 3, 4, 5, 6, 0, 8, 9] rfl ?_
              exact j176 bk32 hbk32 bk87 hbk87 _ _ _ _ _ _ _ _ _ _ h
  have j109 : ∀ (bk32 : hp → Nat → Int32 → Int32 → Int32 → Int32 → Prop) (hbk32 : ∀ (S : hp) (l0 : Nat) (l1 : Int32) (l2 : Int32) (l3 : Int32) (l4 : Int32), bk32 S l0 l1 l2 l3 l4 → VM l b D cy 11 1 25 0 0 (pI Q) p e s m args below meth c S 0 0 32 [(0, .ref l0), (1, .int l1), (2, .int l2), (3, .int l3), (4, .int l4)] []) (bk87 : hp → Nat → Int32 → Int32 → Int32 → Int32 → Int32 → Int32 → Int32 → Int32 → Prop) (hbk87 : ∀ (S : hp) (l0 : Nat) (l1 : Int32) (l2 : Int32) (l3 : Int32) (l4 : Int32) (l6 : Int32) (l7 : Int32) (l8 : Int32) (l9 : Int32), bk87 S l0 l1 l2 l3 l4 l6 l7 l8 l9 → VM l b D cy 11 1 25 0 0 (pI Q) p e s m args below meth c S 0 0 87 [(0, .ref l0), (1, .int l1), (2, .int l2), (3, .int l3), (4, .int l4), (6, .int l6), (7, .int l7), (8, .int l8), (9, .int l9)] []) (S : hp) (l0 : Nat) (l1 : Int32) (l2 : Int32) (l3 : Int32) (l4 : Int32) (l6 : Int32) (l7 : Int32) (l8 : Int32) (l9 : Int32) (k0 : Int32), wB_X12_layTwins_109 bk32 bk87 Q S l0 l1 l2 l3 l4 l6 l7 l8 l9 k0 → VM l b D cy 11 1 25 0 0 (pI Q) p e s m args below meth c S 0 0 109 [(0, .ref l0), (1, .int l1), (2, .int l2), (3, .int l3), (4, .int l4), (6, .int l6), (7, .int l7), (8, .int l8), (9, .int l9)] [.int k0] := by
    intro bk32 hbk32 bk87 hbk87 S l0 l1 l2 l3 l4 l6 l7 l8 l9 k0 h
    unfold wB_X12_layTwins_109 at h
    refine v_istore X (lv' := [(10, .int k0), (0, .ref l0), (1, .int l1), (2, .int l2), (3, .int l3), (4, .int l4), (6, .int l6), (7, .int l7), (8, .int l8), (9, .int l9)]) dX12_layTwins_109 (by decide) rfl ?_
    refine v_iload X 7 dX12_layTwins_111 rfl ?_
    refine v_iload X 0 dX12_layTwins_113 rfl ?_
    refine v_if_eq X (tgt := 122) dX12_layTwins_115 (by decide) (fun c38 => ?_) (fun c38 => ?_)
    · replace h := h.1 c38
      refine v_iconst X (v := 0) dX12_layTwins_122 (by decide) ?_
      refine v_lv (lv' := [(0, .ref l0), (1, .int l1), (2, .int l2), (3, .int l3), (4, .int l4), (6, .int l6), (8, .int l8), (9, .int l9), (10, .int k0)]) [1, 2, 3, 4, 5, 6, 8, 9, 0] rfl ?_
      exact j123 bk32 hbk32 bk87 hbk87 _ _ _ _ _ _ _ _ _ _ _ _ h
    · replace h := h.2 c38
      refine v_iconst X (v := 1) dX12_layTwins_118 (by decide) ?_
      refine v_goto X (tgt := 123) dX12_layTwins_119 (by decide) ?_
      refine v_lv (lv' := [(0, .ref l0), (1, .int l1), (2, .int l2), (3, .int l3), (4, .int l4), (6, .int l6), (8, .int l8), (9, .int l9), (10, .int k0)]) [1, 2, 3, 4, 5, 6, 8, 9, 0] rfl ?_
      exact j123 bk32 hbk32 bk87 hbk87 _ _ _ _ _ _ _ _ _ _ _ _ h
  have j87 : ∀ (bk32 : hp → Nat → Int32 → Int32 → Int32 → Int32 → Prop) (hbk32 : ∀ (S : hp) (l0 : Nat) (l1 : Int32) (l2 : Int32) (l3 : Int32) (l4 : Int32), bk32 S l0 l1 l2 l3 l4 → VM l b D cy 11 1 25 0 0 (pI Q) p e s m args below meth c S 0 0 32 [(0, .ref l0), (1, .int l1), (2, .int l2), (3, .int l3), (4, .int l4)] []) (bk87 : hp → Nat → Int32 → Int32 → Int32 → Int32 → Int32 → Int32 → Int32 → Int32 → Prop) (hbk87 : ∀ (S : hp) (l0 : Nat) (l1 : Int32) (l2 : Int32) (l3 : Int32) (l4 : Int32) (l6 : Int32) (l7 : Int32) (l8 : Int32) (l9 : Int32), bk87 S l0 l1 l2 l3 l4 l6 l7 l8 l9 → VM l b D cy 11 1 25 0 0 (pI Q) p e s m args below meth c S 0 0 87 [(0, .ref l0), (1, .int l1), (2, .int l2), (3, .int l3), (4, .int l4), (6, .int l6), (7, .int l7), (8, .int l8), (9, .int l9)] []) (S : hp) (l0 : Nat) (l1 : Int32) (l2 : Int32) (l3 : Int32) (l4 : Int32) (l6 : Int32) (l7 : Int32) (l8 : Int32) (l9 : Int32), wB_X12_layTwins_87 bk32 bk87 Q S l0 l1 l2 l3 l4 l6 l7 l8 l9 → VM l b D cy 11 1 25 0 0 (pI Q) p e s m args below meth c S 0 0 87 [(0, .ref l0), (1, .int l1), (2, .int l2), (3, .int l3), (4, .int l4), (6, .int l6), (7, .int l7), (8, .int l8), (9, .int l9)] [] := by
    intro bk32 hbk32 bk87 hbk87 S l0 l1 l2 l3 l4 l6 l7 l8 l9 h
    unfold wB_X12_layTwins_87 at h
    refine v_iload X 8 dX12_layTwins_87 rfl ?_
    refine v_iload_n X 1 dX12_layTwins_89 rfl rfl ?_
    refine v_icmp_ge X (tgt := 233) dX12_layTwins_90 (by decide) (fun c10 => ?_) (fun c10 => ?_)
    · replace h := h.1 c10
      refine v_iload X 7 dX12_layTwins_233 rfl ?_
      refine v_if_eq X (tgt := 290) dX12_layTwins_235 (by decide) (fun c11 => ?_) (fun c11 => ?_)
      · replace h := h.1 c11
        refine v_lv (lv' := [(0, .ref l0), (1, .int l1), (2, .int l2), (3, .int l3), (4, .int l4)]) [0, 1, 2, 3, 4] rfl ?_
        exact j290 bk32 hbk32 _ _ _ _ _ _ h
      · replace h := h.2 c11
        refine v_iload X 6 dX12_layTwins_238 rfl ?_
        refine v_iload_n X 1 dX12_layTwins_240 rfl rfl ?_
        refine v_iconst X (v := 2) dX12_layTwins_241 (by decide) ?_
        refine v_irem X dX12_layTwins_242 (by decide) ?_
        refine v_icmp_ne X (tgt := 290) dX12_layTwins_243 (by decide) (fun c13 => ?_) (fun c13 => ?_)
        · replace h := h.1 c13
          refine v_lv (lv' := [(0, .ref l0), (1, .int l1), (2, .int l2), (3, .int l3), (4, .int l4)]) [0, 1, 2, 3, 4] rfl ?_
          exact j290 bk32 hbk32 _ _ _ _ _ _ h
        · replace h := h.2 c13
          refine v_iload_n X 3 dX12_layTwins_246 rfl rfl ?_
          refine v_ldc X wd1070 dX12_layTwins_247 ?_
          refine v_icmp_eq X (tgt := 258) dX12_layTwins_249 (by decide) (fun c14 => ?_) (fun c14 => ?_)
          · replace h := h.1 c14
            refine v_lv (lv' := [(0, .ref l0), (1, .int l1), (2, .int l2), (4, .int l4), (6, .int l6)]) [0, 1, 2, 4, 5] rfl ?_
            exact j258 bk32 hbk32 _ _ _ _ _ _ h
          · replace h := h.2 c14
            refine v_iload X 5 dX12_layTwins_252 rfl ?_
            refine v_iload_n X 3 dX12_layTwins_254 rfl rfl ?_
            refine v_icmp_ge X (tgt := 290) dX12_layTwins_255 (by decide) (fun c32 => ?_) (fun c32 => ?_)
            · replace h := h.1 c32
              refine v_lv (lv' := [(0, .ref l0), (1, .int l1), (2, .int l2), (3, .int l3), (4, .int l4)]) [0, 1, 2, 3, 4] rfl ?_
              exact j290 bk32 hbk32 _ _ _ _ _ _ h
            · replace h := h.2 c32
              refine v_lv (lv' := [(0, .ref l0), (1, .int l1), (2, .int l2), (4, .int l4), (6, .int l6)]) [0, 1, 2, 4, 5] rfl ?_
              exact j258 bk32 hbk32 _ _ _ _ _ _ h
    · replace h := h.2 c10
      refine v_aload_n X 0 dX12_layTwins_93 rfl rfl ?_
      obtain ⟨hk33, h⟩ := h
      obtain ⟨r34, hr34, h⟩ := h
      refine v_getR X (T := TX12) (N := 26) (k := 22) hk33 (by decide) rfl (by decide) inX12 wd961 rfl dX12_layTwins_94 hr34 ?_
      refine v_iload X 8 dX12_layTwins_97 rfl ?_
      obtain ⟨hk35, h⟩ := h
      obtain ⟨hi36, h⟩ := h
      refine v_iald X hk35 hi36 dX12_layTwins_99 ?_
      refine v_iconst X (v := 4) dX12_layTwins_100 (by decide) ?_
      refine v_icmp_ne X (tgt := 108) dX12_layTwins_101 (by decide) (fun c37 => ?_) (fun c37 => ?_)
      · replace h := h.1 c37
        refine v_iconst X (v := 0) dX12_layTwins_108 (by decide) ?_
        exact j109 bk32 hbk32 bk87 hbk87 _ _ _ _ _ _ _ _ _ _ _ h
      · replace h := h.2 c37
        refine v_iconst X (v := 1) dX12_layTwins_104 (by decide) ?_
        refine v_goto X (tgt := 109) dX12_layTwins_105 (by decide) ?_
        exact j109 bk32 hbk32 bk87 hbk87 _ _ _ _ _ _ _ _ _ _ _ h
  have l87 : ∀ (bk32 : hp → Nat → Int32 → Int32 → Int32 → Int32 → Prop) (hbk32 : ∀ (S : hp) (l0 : Nat) (l1 : Int32) (l2 : Int32) (l3 : Int32) (l4 : Int32), bk32 S l0 l1 l2 l3 l4 → VM l b D cy 11 1 25 0 0 (pI Q) p e s m args below meth c S 0 0 32 [(0, .ref l0), (1, .int l1), (2, .int l2), (3, .int l3), (4, .int l4)] []) (n : Nat) (S : hp) (l0 : Nat) (l1 : Int32) (l2 : Int32) (l3 : Int32) (l4 : Int32) (l6 : Int32) (l7 : Int32) (l8 : Int32) (l9 : Int32), wl_X12_layTwins_87 bk32 Q n S l0 l1 l2 l3 l4 l6 l7 l8 l9 → VM l b D cy 11 1 25 0 0 (pI Q) p e s m args below meth c S 0 0 87 [(0, .ref l0), (1, .int l1), (2, .int l2), (3, .int l3), (4, .int l4), (6, .int l6), (7, .int l7), (8, .int l8), (9, .int l9)] [] := by
    intro bk32 hbk32 n
    induction n with
    | zero => intro S l0 l1 l2 l3 l4 l6 l7 l8 l9 h; exact h.elim
    | succ n ih => intro S l0 l1 l2 l3 l4 l6 l7 l8 l9 h; exact j87 bk32 hbk32 (wl_X12_layTwins_87 bk32 Q n) ih S l0 l1 l2 l3 l4 l6 l7 l8 l9 h
  have j47 : ∀ (bk32 : hp → Nat → Int32 → Int32 → Int32 → Int32 → Prop) (hbk32 : ∀ (S : hp) (l0 : Nat) (l1 : Int32) (l2 : Int32) (l3 : Int32) (l4 : Int32), bk32 S l0 l1 l2 l3 l4 → VM l b D cy 11 1 25 0 0 (pI Q) p e s m args below meth c S 0 0 32 [(0, .ref l0), (1, .int l1), (2, .int l2), (3, .int l3), (4, .int l4)] []) (bk47 : hp → Nat → Int32 → Int32 → Int32 → Int32 → Int32 → Int32 → Prop) (hbk47 : ∀ (S : hp) (l0 : Nat) (l1 : Int32) (l2 : Int32) (l3 : Int32) (l4 : Int32) (l5 : Int32) (l6 : Int32), bk47 S l0 l1 l2 l3 l4 l5 l6 → VM l b D cy 11 1 25 0 0 (pI Q) p e s m args below meth c S 0 0 47 [(0, .ref l0), (1, .int l1), (2, .int l2), (3, .int l3), (4, .int l4), (5, .int l5), (6, .int l6)] []) (S : hp) (l0 : Nat) (l1 : Int32) (l2 : Int32) (l3 : Int32) (l4 : Int32) (l5 : Int32) (l6 : Int32), wB_X12_layTwins_47 bk32 bk47 Q S l0 l1 l2 l3 l4 l5 l6 → VM l b D cy 11 1 25 0 0 (pI Q) p e s m args below meth c S 0 0 47 [(0, .ref l0), (1, .int l1), (2, .int l2), (3, .int l3), (4, .int l4), (5, .int l5), (6, .int l6)] [] := by
    intro bk32 hbk32 bk47 hbk47 S l0 l1 l2 l3 l4 l5 l6 h
    unfold wB_X12_layTwins_47 at h
    refine v_iload X 6 dX12_layTwins_47 rfl ?_
    refine v_if_lt X (tgt := 75) dX12_layTwins_49 (by decide) (fun c9 => ?_) (fun c9 => ?_)
    · replace h := h.1 c9
      refine v_iconst X (v := 0) dX12_layTwins_75 (by decide) ?_
      refine v_istore X (lv' := [(6, .int (0 : Int32)), (0, .ref l0), (1, .int l1), (2, .int l2), (3, .int l3), (4, .int l4), (5, .int l5)]) dX12_layTwins_76 (by decide) rfl ?_
      refine v_iconst X (v := 0) dX12_layTwins_78 (by decide) ?_
      refine v_istore X (lv' := [(7, .int (0 : Int32)), (6, .int (0 : Int32)), (0, .ref l0), (1, .int l1), (2, .int l2), (3, .int l3), (4, .int l4), (5, .int l5)]) dX12_layTwins_79 (by decide) rfl ?_
      refine v_iconst X (v := 1) dX12_layTwins_81 (by decide) ?_
      refine v_istore X (lv' := [(8, .int (1 : Int32)), (7, .int (0 : Int32)), (6, .int (0 : Int32)), (0, .ref l0), (1, .int l1), (2, .int l2), (3, .int l3), (4, .int l4), (5, .int l5)]) dX12_layTwins_82 (by decide) rfl ?_
      refine v_iconst X (v := 0) dX12_layTwins_84 (by decide) ?_
      refine v_istore X (lv' := [(9, .int (0 : Int32)), (8, .int (1 : Int32)), (7, .int (0 : Int32)), (6, .int (0 : Int32)), (0, .ref l0), (1, .int l1), (2, .int l2), (3, .int l3), (4, .int l4), (5, .int l5)]) dX12_layTwins_85 (by decide) rfl ?_
      refine v_lv (lv' := [(0, .ref l0), (1, .int l1), (2, .int l2), (3, .int l3), (4, .int l4), (6, .int (0 : Int32)), (7, .int (0 : Int32)), (8, .int (1 : Int32)), (9, .int (0 : Int32))]) [4, 5, 6, 7, 8, 3, 2, 1, 0] rfl ?_
      obtain ⟨n, h⟩ := h
      exact l87 bk32 hbk32 n _ _ _ _ _ _ _ _ _ _ h
    · replace h := h.2 c9
      refine v_aload_n X 0 dX12_layTwins_52 rfl rfl ?_
      obtain ⟨hk61, h⟩ := h
      obtain ⟨r62, hr62, h⟩ := h
      refine v_getR X (T := TX12) (N := 26) (k := 22) hk61 (by decide) rfl (by decide) inX12 wd961 rfl dX12_layTwins_53 hr62 ?_
      refine v_iload X 6 dX12_layTwins_56 rfl ?_
      refine v_iload X 5 dX12_layTwins_58 rfl ?_
      refine v_iconst X (v := 5) dX12_layTwins_60 (by decide) ?_
      refine v_irem X dX12_layTwins_61 (by decide) ?_
      obtain ⟨hk63, h⟩ := h
      obtain ⟨hi64, h⟩ := h
      refine v_iast X hk63 hi64 dX12_layTwins_62 ?_
      refine v_nmS (fun S65 eS65 => ?_)
      replace h := h S65 eS65
      have hk66 : hK S65 l0 = 11 := by rw [eS65]; exact hk61
      have hk67 : hK S65 r62 = 12 := by rw [eS65]; exact hk63
      have hi68 : vp_in l6 (hN S65 r62) := by rw [eS65]; exact hi64
      have hr69 : hR S65 l0 22 = some r62 := by rw [eS65]; exact hr62
      refine v_iload X 5 dX12_layTwins_63 rfl ?_
      refine v_iconst X (v := 5) dX12_layTwins_65 (by decide) ?_
      refine v_idiv X dX12_layTwins_66 (by decide) ?_
      refine v_nm (fun v70 hv70 => ?_)
      replace h := h v70 hv70
      refine v_istore X (lv' := [(5, .int v70), (0, .ref l0), (1, .int l1), (2, .int l2), (3, .int l3), (4, .int l4), (6, .int l6)]) dX12_layTwins_67 (by decide) rfl ?_
      obtain ⟨v71, hv71⟩ : ∃ y : Int32, y = l6 + (-1 : Int32) := ⟨_, rfl⟩
      replace h := h v71 hv71
      refine v_iinc X (j := 6) (v := v71) (lv' := [(6, .int v71), (5, .int v70), (0, .ref l0), (1, .int l1), (2, .int l2), (3, .int l3), (4, .int l4)]) dX12_layTwins_69 rfl (by rw [hv71] <;> rfl) (by decide) rfl ?_
      refine v_goto X (tgt := 47) dX12_layTwins_72 (by decide) ?_
      refine v_lv (lv' := [(0, .ref l0), (1, .int l1), (2, .int l2), (3, .int l3), (4, .int l4), (5, .int v70), (6, .int v71)]) [2, 3, 4, 5, 6, 1, 0] rfl ?_
      exact hbk47 _ _ _ _ _ _ _ _ h
  have l47 : ∀ (bk32 : hp → Nat → Int32 → Int32 → Int32 → Int32 → Prop) (hbk32 : ∀ (S : hp) (l0 : Nat) (l1 : Int32) (l2 : Int32) (l3 : Int32) (l4 : Int32), bk32 S l0 l1 l2 l3 l4 → VM l b D cy 11 1 25 0 0 (pI Q) p e s m args below meth c S 0 0 32 [(0, .ref l0), (1, .int l1), (2, .int l2), (3, .int l3), (4, .int l4)] []) (n : Nat) (S : hp) (l0 : Nat) (l1 : Int32) (l2 : Int32) (l3 : Int32) (l4 : Int32) (l5 : Int32) (l6 : Int32), wl_X12_layTwins_47 bk32 Q n S l0 l1 l2 l3 l4 l5 l6 → VM l b D cy 11 1 25 0 0 (pI Q) p e s m args below meth c S 0 0 47 [(0, .ref l0), (1, .int l1), (2, .int l2), (3, .int l3), (4, .int l4), (5, .int l5), (6, .int l6)] [] := by
    intro bk32 hbk32 n
    induction n with
    | zero => intro S l0 l1 l2 l3 l4 l5 l6 h; exact h.elim
    | succ n ih => intro S l0 l1 l2 l3 l4 l5 l6 h; exact j47 bk32 hbk32 (wl_X12_layTwins_47 bk32 Q n) ih S l0 l1 l2 l3 l4 l5 l6 h
  have j32 : ∀ (bk32 : hp → Nat → Int32 → Int32 → Int32 → Int32 → Prop) (hbk32 : ∀ (S : hp) (l0 : Nat) (l1 : Int32) (l2 : Int32) (l3 : Int32) (l4 : Int32), bk32 S l0 l1 l2 l3 l4 → VM l b D cy 11 1 25 0 0 (pI Q) p e s m args below meth c S 0 0 32 [(0, .ref l0), (1, .int l1), (2, .int l2), (3, .int l3), (4, .int l4)] []) (S : hp) (l0 : Nat) (l1 : Int32) (l2 : Int32) (l3 : Int32) (l4 : Int32), wB_X12_layTwins_32 bk32 Q S l0 l1 l2 l3 l4 → VM l b D cy 11 1 25 0 0 (pI Q) p e s m args below meth c S 0 0 32 [(0, .ref l0), (1, .int l1), (2, .int l2), (3, .int l3), (4, .int l4)] [] := by
    intro bk32 hbk32 S l0 l1 l2 l3 l4 h
    unfold wB_X12_layTwins_32 at h
    refine v_iload X 4 dX12_layTwins_32 rfl ?_
    refine v_iload_n X 2 dX12_layTwins_34 rfl rfl ?_
    refine v_icmp_ge X (tgt := 296) dX12_layTwins_35 (by decide) (fun c7 => ?_) (fun c7 => ?_)
    · replace h := h.1 c7
      refine v_iload_n X 3 dX12_layTwins_296 rfl rfl ?_
      exact v_iret X hr hlk ⟨_, rfl, h⟩ dX12_layTwins_297
    · replace h := h.2 c7
      refine v_iload X 4 dX12_layTwins_38 rfl ?_
      refine v_istore X (lv' := [(5, .int l4), (0, .ref l0), (1, .int l1), (2, .int l2), (3, .int l3), (4, .int l4)]) dX12_layTwins_40 (by decide) rfl ?_
      refine v_iload_n X 2 dX12_layTwins_42 rfl rfl ?_
      refine v_iconst X (v := 1) dX12_layTwins_43 (by decide) ?_
      refine v_isub X dX12_layTwins_44 ?_
      refine v_nm (fun v8 hv8 => ?_)
      replace h := h v8 hv8
      refine v_istore X (lv' := [(6, .int v8), (5, .int l4), (0, .ref l0), (1, .int l1), (2, .int l2), (3, .int l3), (4, .int l4)]) dX12_layTwins_45 (by decide) rfl ?_
      refine v_lv (lv' := [(0, .ref l0), (1, .int l1), (2, .int l2), (3, .int l3), (4, .int l4), (5, .int l4), (6, .int v8)]) [2, 3, 4, 5, 6, 1, 0] rfl ?_
      obtain ⟨n, h⟩ := h
      exact l47 bk32 hbk32 n _ _ _ _ _ _ _ _ h
  have l32 : ∀  (n : Nat) (S : hp) (l0 : Nat) (l1 : Int32) (l2 : Int32) (l3 : Int32) (l4 : Int32), wl_X12_layTwins_32 Q n S l0 l1 l2 l3 l4 → VM l b D cy 11 1 25 0 0 (pI Q) p e s m args below meth c S 0 0 32 [(0, .ref l0), (1, .int l1), (2, .int l2), (3, .int l3), (4, .int l4)] [] := by
    intro  n
    induction n with
    | zero => intro S l0 l1 l2 l3 l4 h; exact h.elim
    | succ n ih => intro S l0 l1 l2 l3 l4 h; exact j32 (wl_X12_layTwins_32 Q n) ih S l0 l1 l2 l3 l4 h
  have j11 : ∀ (bk11 : hp → Nat → Int32 → Int32 → Int32 → Prop) (hbk11 : ∀ (S : hp) (l0 : Nat) (l1 : Int32) (l2 : Int32) (l3 : Int32), bk11 S l0 l1 l2 l3 → VM l b D cy 11 1 25 0 0 (pI Q) p e s m args below meth c S 0 0 11 [(0, .ref l0), (1, .int l1), (2, .int l2), (3, .int l3)] []) (S : hp) (l0 : Nat) (l1 : Int32) (l2 : Int32) (l3 : Int32), wB_X12_layTwins_11 bk11 Q S l0 l1 l2 l3 → VM l b D cy 11 1 25 0 0 (pI Q) p e s m args below meth c S 0 0 11 [(0, .ref l0), (1, .int l1), (2, .int l2), (3, .int l3)] [] := by
    intro bk11 hbk11 S l0 l1 l2 l3 h
    unfold wB_X12_layTwins_11 at h
    refine v_iload_n X 3 dX12_layTwins_11 rfl rfl ?_
    refine v_iload_n X 1 dX12_layTwins_12 rfl rfl ?_
    refine v_icmp_ge X (tgt := 26) dX12_layTwins_13 (by decide) (fun c6 => ?_) (fun c6 => ?_)
    · replace h := h.1 c6
      refine v_ldc X wd1070 dX12_layTwins_26 ?_
      refine v_istore_n X (lv' := [(3, .int (-1000000 : Int32)), (0, .ref l0), (1, .int l1), (2, .int l2)]) dX12_layTwins_28 rfl (by decide) rfl ?_
      refine v_iconst X (v := 0) dX12_layTwins_29 (by decide) ?_
      refine v_istore X (lv' := [(4, .int (0 : Int32)), (3, .int (-1000000 : Int32)), (0, .ref l0), (1, .int l1), (2, .int l2)]) dX12_layTwins_30 (by decide) rfl ?_
      refine v_lv (lv' := [(0, .ref l0), (1, .int l1), (2, .int l2), (3, .int (-1000000 : Int32)), (4, .int (0 : Int32))]) [2, 3, 4, 1, 0] rfl ?_
      obtain ⟨n, h⟩ := h
      exact l32 n _ _ _ _ _ _ h
    · replace h := h.2 c6
      refine v_iload_n X 2 dX12_layTwins_16 rfl rfl ?_
      refine v_iconst X (v := 5) dX12_layTwins_17 (by decide) ?_
      refine v_imul X dX12_layTwins_18 ?_
      refine v_nm (fun v72 hv72 => ?_)
      replace h := h v72 hv72
      refine v_istore_n X (lv' := [(2, .int v72), (0, .ref l0), (1, .int l1), (3, .int l3)]) dX12_layTwins_19 rfl (by decide) rfl ?_
      obtain ⟨v73, hv73⟩ : ∃ y : Int32, y = l3 + (1 : Int32) := ⟨_, rfl⟩
      replace h := h v73 hv73
      refine v_iinc X (j := 3) (v := v73) (lv' := [(3, .int v73), (2, .int v72), (0, .ref l0), (1, .int l1)]) dX12_layTwins_20 rfl (by rw [hv73] <;> rfl) (by decide) rfl ?_
      refine v_goto X (tgt := 11) dX12_layTwins_23 (by decide) ?_
      refine v_lv (lv' := [(0, .ref l0), (1, .int l1), (2, .int v72), (3, .int v73)]) [2, 3, 1, 0] rfl ?_
      exact hbk11 _ _ _ _ _ h
  have l11 : ∀  (n : Nat) (S : hp) (l0 : Nat) (l1 : Int32) (l2 : Int32) (l3 : Int32), wl_X12_layTwins_11 Q n S l0 l1 l2 l3 → VM l b D cy 11 1 25 0 0 (pI Q) p e s m args below meth c S 0 0 11 [(0, .ref l0), (1, .int l1), (2, .int l2), (3, .int l3)] [] := by
    intro  n
    induction n with
    | zero => intro S l0 l1 l2 l3 h; exact h.elim
    | succ n ih => intro S l0 l1 l2 l3 h; exact j11 (wl_X12_layTwins_11 Q n) ih S l0 l1 l2 l3 h
  unfold wp_X12_layTwins at h
  show VM l b D cy 11 1 25 0 0 (pI Q) p e s m args below meth c S 0 0 0 [(0, .ref a0)] []
  refine v_aload_n X 0 dX12_layTwins_0 rfl rfl ?_
  obtain ⟨hk1, h⟩ := h
  obtain ⟨r2, hr2, h⟩ := h
  refine v_getR X (T := TX12) (N := 26) (k := 5) hk1 (by decide) rfl (by decide) inX12 wd944 rfl dX12_layTwins_1 hr2 ?_
  refine v_iconst X (v := 2) dX12_layTwins_4 (by decide) ?_
  obtain ⟨hk3, h⟩ := h
  obtain ⟨hi4, h⟩ := h
  refine v_iald X hk3 hi4 dX12_layTwins_5 ?_
  refine v_nm (fun v5 hv5 => ?_)
  replace h := h v5 hv5
  refine v_istore_n X (lv' := [(1, .int v5), (0, .ref a0)]) dX12_layTwins_6 rfl (by decide) rfl ?_
  refine v_iconst X (v := 1) dX12_layTwins_7 (by decide) ?_
  refine v_istore_n X (lv' := [(2, .int (1 : Int32)), (1, .int v5), (0, .ref a0)]) dX12_layTwins_8 rfl (by decide) rfl ?_
  refine v_iconst X (v := 0) dX12_layTwins_9 (by decide) ?_
  refine v_istore_n X (lv' := [(3, .int (0 : Int32)), (2, .int (1 : Int32)), (1, .int v5), (0, .ref a0)]) dX12_layTwins_10 rfl (by decide) rfl ?_
  refine v_lv (lv' := [(0, .ref a0), (1, .int v5), (2, .int (1 : Int32)), (3, .int (0 : Int32))]) [3, 2, 1, 0] rfl ?_
  obtain ⟨n, h⟩ := h
  exact l11 n _ _ _ _ _ h
def wp_X12_twins (Q : Int32 → hp → Prop) (S : hp) (a0 : Nat) (x1 : Int32) : Prop :=
  hK S a0 = 11 ∧ ∀ S2 : hp, S2 = setI S a0 0 (0 : Int32) → wp_X12_isThere (fun r5 S4 => ((¬ r5 = 0 → hK S4 a0 = 11 ∧ ∃ r8 : Nat, hR S4 a0 5 = some r8 ∧ hK S4 r8 = 12 ∧ vp_in (2 : Int32) (hN S4 r8) ∧ wp_X12_in (fun r12 S11 => ((¬ r12 = 0 → hK S11 a0 = 11 ∧ wp_X12_layTwins (fun r16 S14 => ((0 ≤ x1 → hK S14 a0 = 11 ∧ ∃ r19 : Nat, hR S14 a0 23 = some r19 ∧ hK S14 r19 = 12 ∧ vp_in x1 (hN S14 r19) ∧ ((¬ (hI S14 r19 (x1).toNatClampNeg) = (4 : Int32) → Q (hI S14 r19 (x1).toNatClampNeg) S14) ∧ ((hI S14 r19 (x1).toNatClampNeg) = (4 : Int32) → Q (-1000000 : Int32) S14))) ∧ (¬ 0 ≤ x1 → Q r16 S14))) S11 a0) ∧ (r12 = 0 → Q (-1000001 : Int32) S11))) S4 ((x1).toInt64) ((-1 : Int64)) ((((hI S4 r8 ((2 : Int32)).toNatClampNeg) - (1 : Int32))).toInt64)) ∧ (r5 = 0 → Q (-1000002 : Int32) S4))) S2 a0
theorem k_X12_twins : Cond.code yX12_twins cX12_twins 3 (some .int) ∈ gtb := mg 1273 (by decide +kernel) (by decide +kernel)
theorem dn_X12_twins : yX12_twins.cls ≠ "java/lang/invoke/MethodHandle" ∧ yX12_twins.cls ≠ "java/lang/invoke/VarHandle" ∧ (parseMethodDescriptor yX12_twins.desc).map (fun d => d.parameters.length) = some 1 := by decide +kernel
set_option maxRecDepth 100000 in
set_option maxHeartbeats 4000000 in
theorem s_X12_twins (l : Launch) (b : Nat) (D : va_G) (cy : Nat → ClassId) {Q : Int32 → hp → Prop} {S : hp} {a0 : Nat} {x1 : Int32} (h : wp_X12_twins Q S a0 x1) : MT l yX12_twins cX12_twins 3 (some .int) 2 55 0 0 b D cy S [.ref a0, .int x1] (pI Q) := by
  refine MT.of (by decide +kernel) (Nat.le_of_ble_eq_true rfl) ?_
  intro p e s m args below meth c X hr hlk hnm
  unfold wp_X12_twins at h
  show VM l b D cy 3 2 55 0 0 (pI Q) p e s m args below meth c S 0 0 0 [(0, .ref a0), (1, .int x1)] []
  refine v_aload_n X 0 dX12_twins_0 rfl rfl ?_
  refine v_iconst X (v := 0) dX12_twins_1 (by decide) ?_
  obtain ⟨hk1, h⟩ := h
  refine v_putI X (T := TX12) (N := 26) (k := 0) hk1 (by decide) rfl (by decide) inX12 wd939 tyX12 tyX12_ok nmX12 rfl rfl rfl rfl dX12_twins_2 ?_
  refine v_nmS (fun S2 eS2 => ?_)
  replace h := h S2 eS2
  have hk3 : hK S2 a0 = 11 := by rw [eS2]; exact hk1
  refine v_aload_n X 0 dX12_twins_5 rfl rfl ?_
  refine v_callV X (av := []) (T := TX12) (N := 26) (s_X12_isThere l b D cy h) hk3 (by decide) rfl wd1150 wd1152 wd37 wd62 k_X12_isThere dn_X12_isThere rfl ⟨Nat.le_of_ble_eq_true rfl, Nat.le_of_ble_eq_true rfl⟩ (Nat.le_of_ble_eq_true rfl) ⟨Nat.le_of_ble_eq_true rfl, Nat.le_of_ble_eq_true rfl⟩ dX12_twins_6 rfl (kI (fun r5 S4 h => ?_))
  refine v_if_ne X (tgt := 15) dX12_twins_9 (by decide) (fun c6 => ?_) (fun c6 => ?_)
  · replace h := h.1 c6
    refine v_iload_n X 1 dX12_twins_15 rfl rfl ?_
    refine v_i2l X dX12_twins_16 ?_
    refine v_ldc2 X wd1274 dX12_twins_17 ?_
    refine v_aload_n X 0 dX12_twins_20 rfl rfl ?_
    obtain ⟨hk7, h⟩ := h
    obtain ⟨r8, hr8, h⟩ := h
    refine v_getR X (T := TX12) (N := 26) (k := 5) hk7 (by decide) rfl (by decide) inX12 wd944 rfl dX12_twins_21 hr8 ?_
    refine v_iconst X (v := 2) dX12_twins_24 (by decide) ?_
    obtain ⟨hk9, h⟩ := h
    obtain ⟨hi10, h⟩ := h
    refine v_iald X hk9 hi10 dX12_twins_25 ?_
    refine v_iconst X (v := 1) dX12_twins_26 (by decide) ?_
    refine v_isub X dX12_twins_27 ?_
    refine v_i2l X dX12_twins_28 ?_
    refine v_callS X (av := [.long (x1).toInt64, .long (-1 : Int64), .long (((hI S4 r8 ((2 : Int32)).toNatClampNeg) - (1 : Int32))).toInt64]) (s_X12_in l b D cy h) wd1026 wd1027 wd62 k_X12_in dn_X12_in rfl ⟨Nat.le_of_ble_eq_true rfl, Nat.le_of_ble_eq_true rfl⟩ (Nat.le_of_ble_eq_true rfl) ⟨Nat.le_of_ble_eq_true rfl, Nat.le_of_ble_eq_true rfl⟩ dX12_twins_29 rfl (kI (fun r12 S11 h => ?_))
    refine v_if_ne X (tgt := 38) dX12_twins_32 (by decide) (fun c13 => ?_) (fun c13 => ?_)
    · replace h := h.1 c13
      refine v_aload_n X 0 dX12_twins_38 rfl rfl ?_
      obtain ⟨hk15, h⟩ := h
      refine v_callV X (av := []) (T := TX12) (N := 26) (s_X12_layTwins l b D cy h) hk15 (by decide) rfl wd1275 wd1277 wd48 wd62 k_X12_layTwins dn_X12_layTwins rfl ⟨Nat.le_of_ble_eq_true rfl, Nat.le_of_ble_eq_true rfl⟩ (Nat.le_of_ble_eq_true rfl) ⟨Nat.le_of_ble_eq_true rfl, Nat.le_of_ble_eq_true rfl⟩ dX12_twins_39 rfl (kI (fun r16 S14 h => ?_))
      refine v_istore_n X (lv' := [(2, .int r16), (0, .ref a0), (1, .int x1)]) dX12_twins_42 rfl (by decide) rfl ?_
      refine v_iload_n X 2 dX12_twins_43 rfl rfl ?_
      refine v_if_ge X (tgt := 51) dX12_twins_44 (by decide) (fun c17 => ?_) (fun c17 => ?_)
      · replace h := h.1 c17
        refine v_aload_n X 1 dX12_twins_51 rfl rfl ?_
        obtain ⟨hk18, h⟩ := h
        obtain ⟨r19, hr19, h⟩ := h
        refine v_getR X (T := TX12) (N := 26) (k := 23) hk18 (by decide) rfl (by decide) inX12 wd962 rfl dX12_twins_52 hr19 ?_
        refine v_iload_n X 2 dX12_twins_55 rfl rfl ?_
        obtain ⟨hk20, h⟩ := h
        obtain ⟨hi21, h⟩ := h
        refine v_iald X hk20 hi21 dX12_twins_56 ?_
        refine v_iconst X (v := 4) dX12_twins_57 (by decide) ?_
        refine v_icmp_ne X (tgt := 66) dX12_twins_58 (by decide) (fun c22 => ?_) (fun c22 => ?_)
        · replace h := h.1 c22
          refine v_aload_n X 1 dX12_twins_66 rfl rfl ?_
          refine v_getR X (T := TX12) (N := 26) (k := 23) hk18 (by decide) rfl (by decide) inX12 wd962 rfl dX12_twins_67 hr19 ?_
          refine v_iload_n X 2 dX12_twins_70 rfl rfl ?_
          refine v_iald X hk20 hi21 dX12_twins_71 ?_
          exact v_iret X hr hlk ⟨_, rfl, h⟩ dX12_twins_72
        · replace h := h.2 c22
          refine v_ldc X wd1070 dX12_twins_61 ?_
          refine v_goto X (tgt := 72) dX12_twins_63 (by decide) ?_
          exact v_iret X hr hlk ⟨_, rfl, h⟩ dX12_twins_72
      · replace h := h.2 c17
        refine v_iload_n X 0 dX12_twins_47 rfl rfl ?_
        refine v_goto X (tgt := 72) dX12_twins_48 (by decide) ?_
        exact v_iret X hr hlk ⟨_, rfl, h⟩ dX12_twins_72
    · replace h := h.2 c13
      refine v_ldc X wd1030 dX12_twins_35 ?_
      exact v_iret X hr hlk ⟨_, rfl, h⟩ dX12_twins_37
  · replace h := h.2 c6
    refine v_ldc X wd1154 dX12_twins_12 ?_
    exact v_iret X hr hlk ⟨_, rfl, h⟩ dX12_twins_14
def wB_X12_image_30 (bk30 : hp → Nat → Int32 → Int32 → Prop) (Q : Int32 → hp → Prop) (S : hp) (l0 : Nat) (l1 : Int32) (l2 : Int32) : Prop :=
  (((147 : Int32) ≤ l2 → hK S l0 = 11 ∧ ∃ r13 : Nat, hR S l0 19 = some r13 ∧ hK S r13 = 13 ∧ vp_in l1 (hN S r13) ∧ ∀ S16 : hp, S16 = setI S r13 (l1).toNatClampNeg (vp_nar .boolean (1 : Int32)) → Q (1 : Int32) S16) ∧ (¬ (147 : Int32) ≤ l2 → hK S l0 = 11 ∧ ∃ r22 : Nat, hR S l0 20 = some r22 ∧ ∃ r23 : Nat, hR S l0 5 = some r23 ∧ hK S r23 = 12 ∧ vp_in l2 (hN S r23) ∧ hK S r22 = 12 ∧ vp_in (((147 : Int32) * l1) + l2) (hN S r22) ∧ ∀ S28 : hp, S28 = setI S r22 ((((147 : Int32) * l1) + l2)).toNatClampNeg (hI S r23 (l2).toNatClampNeg) → ∀ v36 : Int32, v36 = l2 + (1 : Int32) → bk30 S28 l0 l1 v36))
def wl_X12_image_30 (Q : Int32 → hp → Prop) : Nat → hp → Nat → Int32 → Int32 → Prop
  | 0 => fun _ _ _ _ => False
  | n + 1 => wB_X12_image_30 (wl_X12_image_30 Q n) Q
def wp_X12_image (Q : Int32 → hp → Prop) (S : hp) (a0 : Nat) (x1 : Int32) : Prop :=
  hK S a0 = 11 ∧ ∀ S2 : hp, S2 = setI S a0 0 (0 : Int32) → wp_X12_in (fun r5 S4 => ((¬ r5 = 0 → hK S4 a0 = 11 ∧ wp_X12_isThere (fun r9 S7 => ((¬ r9 = 0 → ∃ n : Nat, wl_X12_image_30 Q n S7 a0 x1 (0 : Int32)) ∧ (r9 = 0 → Q (-1000002 : Int32) S7))) S4 a0) ∧ (r5 = 0 → Q (-1000001 : Int32) S4))) S2 ((x1).toInt64) ((0 : Int64)) ((1 : Int64))
theorem k_X12_image : Cond.code yX12_image cX12_image 3 (some .int) ∈ gtb := mg 1286 (by decide +kernel) (by decide +kernel)
theorem dn_X12_image : yX12_image.cls ≠ "java/lang/invoke/MethodHandle" ∧ yX12_image.cls ≠ "java/lang/invoke/VarHandle" ∧ (parseMethodDescriptor yX12_image.desc).map (fun d => d.parameters.length) = some 1 := by decide +kernel
set_option maxRecDepth 100000 in
set_option maxHeartbeats 4000000 in
theorem s_X12_image (l : Launch) (b : Nat) (D : va_G) (cy : Nat → ClassId) {Q : Int32 → hp → Prop} {S : hp} {a0 : Nat} {x1 : Int32} (h : wp_X12_image Q S a0 x1) : MT l yX12_image cX12_image 3 (some .int) 1 25 0 0 b D cy S [.ref a0, .int x1] (pI Q) := by
  refine MT.of (by decide +kernel) (Nat.le_of_ble_eq_true rfl) ?_
  intro p e s m args below meth c X hr hlk hnm
  have j30 : ∀ (bk30 : hp → Nat → Int32 → Int32 → Prop) (hbk30 : ∀ (S : hp) (l0 : Nat) (l1 : Int32) (l2 : Int32), bk30 S l0 l1 l2 → VM l b D cy 3 1 25 0 0 (pI Q) p e s m args below meth c S 0 0 30 [(0, .ref l0), (1, .int l1), (2, .int l2)] []) (S : hp) (l0 : Nat) (l1 : Int32) (l2 : Int32), wB_X12_image_30 bk30 Q S l0 l1 l2 → VM l b D cy 3 1 25 0 0 (pI Q) p e s m args below meth c S 0 0 30 [(0, .ref l0), (1, .int l1), (2, .int l2)] [] := by
    intro bk30 hbk30 S l0 l1 l2 h
    unfold wB_X12_image_30 at h
    refine v_iload_n X 2 dX12_image_30 rfl rfl ?_
    refine v_sipush X (v := 147) dX12_image_31 (by decide) ?_
    refine v_icmp_ge X (tgt := 61) dX12_image_34 (by decide) (fun c11 => ?_) (fun c11 => ?_)
    · replace h := h.1 c11
      refine v_aload_n X 0 dX12_image_61 rfl rfl ?_
      obtain ⟨hk12, h⟩ := h
      obtain ⟨r13, hr13, h⟩ := h
      refine v_getR X (T := TX12) (N := 26) (k := 19) hk12 (by decide) rfl (by decide) inX12 wd958 rfl dX12_image_62 hr13 ?_
      refine v_iload_n X 1 dX12_image_65 rfl rfl ?_
      refine v_iconst X (v := 1) dX12_image_66 (by decide) ?_
      obtain ⟨hk14, h⟩ := h
      obtain ⟨hi15, h⟩ := h
      refine v_zast X hk14 hi15 dX12_image_67 ?_
      refine v_nmS (fun S16 eS16 => ?_)
      replace h := h S16 eS16
      have hk17 : hK S16 l0 = 11 := by rw [eS16]; exact hk12
      have hk18 : hK S16 r13 = 13 := by rw [eS16]; exact hk14
      have hi19 : vp_in l1 (hN S16 r13) := by rw [eS16]; exact hi15
      have hr20 : hR S16 l0 19 = some r13 := by rw [eS16]; exact hr13
      refine v_iconst X (v := 1) dX12_image_68 (by decide) ?_
      exact v_iret X hr hlk ⟨_, rfl, h⟩ dX12_image_69
    · replace h := h.2 c11
      refine v_aload_n X 0 dX12_image_37 rfl rfl ?_
      obtain ⟨hk21, h⟩ := h
      obtain ⟨r22, hr22, h⟩ := h
      refine v_getR X (T := TX12) (N := 26) (k := 20) hk21 (by decide) rfl (by decide) inX12 wd959 rfl dX12_image_38 hr22 ?_
      refine v_sipush X (v := 147) dX12_image_41 (by decide) ?_
      refine v_iload_n X 1 dX12_image_44 rfl rfl ?_
      refine v_imul X dX12_image_45 ?_
      refine v_iload_n X 2 dX12_image_46 rfl rfl ?_
      refine v_iadd X dX12_image_47 ?_
      refine v_aload_n X 0 dX12_image_48 rfl rfl ?_
      obtain ⟨r23, hr23, h⟩ := h
      refine v_getR X (T := TX12) (N := 26) (k := 5) hk21 (by decide) rfl (by decide) inX12 wd944 rfl dX12_image_49 hr23 ?_
      refine v_iload_n X 2 dX12_image_52 rfl rfl ?_
      obtain ⟨hk24, h⟩ := h
      obtain ⟨hi25, h⟩ := h
      refine v_iald X hk24 hi25 dX12_image_53 ?_
      obtain ⟨hk26, h⟩ := h
      obtain ⟨hi27, h⟩ := h
      refine v_iast X hk26 hi27 dX12_image_54 ?_
      refine v_nmS (fun S28 eS28 => ?_)
      replace h := h S28 eS28
      have hk29 : hK S28 l0 = 11 := by rw [eS28]; exact hk21
      have hk30 : hK S28 r23 = 12 := by rw [eS28]; exact hk24
      have hk31 : hK S28 r22 = 12 := by rw [eS28]; exact hk26
      have hi32 : vp_in l2 (hN S28 r23) := by rw [eS28]; exact hi25
      have hi33 : vp_in (((147 : Int32) * l1) + l2) (hN S28 r22) := by rw [eS28]; exact hi27
      have hr34 : hR S28 l0 20 = some r22 := by rw [eS28]; exact hr22
      have hr35 : hR S28 l0 5 = some r23 := by rw [eS28]; exact hr23
      obtain ⟨v36, hv36⟩ : ∃ y : Int32, y = l2 + (1 : Int32) := ⟨_, rfl⟩
      replace h := h v36 hv36
      refine v_iinc X (j := 2) (v := v36) (lv' := [(2, .int v36), (0, .ref l0), (1, .int l1)]) dX12_image_55 rfl (by rw [hv36] <;> rfl) (by decide) rfl ?_
      refine v_goto X (tgt := 30) dX12_image_58 (by decide) ?_
      refine v_lv (lv' := [(0, .ref l0), (1, .int l1), (2, .int v36)]) [1, 2, 0] rfl ?_
      exact hbk30 _ _ _ _ h
  have l30 : ∀  (n : Nat) (S : hp) (l0 : Nat) (l1 : Int32) (l2 : Int32), wl_X12_image_30 Q n S l0 l1 l2 → VM l b D cy 3 1 25 0 0 (pI Q) p e s m args below meth c S 0 0 30 [(0, .ref l0), (1, .int l1), (2, .int l2)] [] := by
    intro  n
    induction n with
    | zero => intro S l0 l1 l2 h; exact h.elim
    | succ n ih => intro S l0 l1 l2 h; exact j30 (wl_X12_image_30 Q n) ih S l0 l1 l2 h
  unfold wp_X12_image at h
  show VM l b D cy 3 1 25 0 0 (pI Q) p e s m args below meth c S 0 0 0 [(0, .ref a0), (1, .int x1)] []
  refine v_aload_n X 0 dX12_image_0 rfl rfl ?_
  refine v_iconst X (v := 0) dX12_image_1 (by decide) ?_
  obtain ⟨hk1, h⟩ := h
  refine v_putI X (T := TX12) (N := 26) (k := 0) hk1 (by decide) rfl (by decide) inX12 wd939 tyX12 tyX12_ok nmX12 rfl rfl rfl rfl dX12_image_2 ?_
  refine v_nmS (fun S2 eS2 => ?_)
  replace h := h S2 eS2
  have hk3 : hK S2 a0 = 11 := by rw [eS2]; exact hk1
  refine v_iload_n X 1 dX12_image_5 rfl rfl ?_
  refine v_i2l X dX12_image_6 ?_
  refine v_lconst X (v := 0) dX12_image_7 (by decide) ?_
  refine v_lconst X (v := 1) dX12_image_8 (by decide) ?_
  refine v_callS X (av := [.long (x1).toInt64, .long (0 : Int64), .long (1 : Int64)]) (s_X12_in l b D cy h) wd1026 wd1027 wd62 k_X12_in dn_X12_in rfl ⟨Nat.le_of_ble_eq_true rfl, Nat.le_of_ble_eq_true rfl⟩ (Nat.le_of_ble_eq_true rfl) ⟨Nat.le_of_ble_eq_true rfl, Nat.le_of_ble_eq_true rfl⟩ dX12_image_9 rfl (kI (fun r5 S4 h => ?_))
  refine v_if_ne X (tgt := 18) dX12_image_12 (by decide) (fun c6 => ?_) (fun c6 => ?_)
  · replace h := h.1 c6
    refine v_aload_n X 0 dX12_image_18 rfl rfl ?_
    obtain ⟨hk8, h⟩ := h
    refine v_callV X (av := []) (T := TX12) (N := 26) (s_X12_isThere l b D cy h) hk8 (by decide) rfl wd1150 wd1152 wd37 wd62 k_X12_isThere dn_X12_isThere rfl ⟨Nat.le_of_ble_eq_true rfl, Nat.le_of_ble_eq_true rfl⟩ (Nat.le_of_ble_eq_true rfl) ⟨Nat.le_of_ble_eq_true rfl, Nat.le_of_ble_eq_true rfl⟩ dX12_image_19 rfl (kI (fun r9 S7 h => ?_))
    refine v_if_ne X (tgt := 28) dX12_image_22 (by decide) (fun c10 => ?_) (fun c10 => ?_)
    · replace h := h.1 c10
      refine v_iconst X (v := 0) dX12_image_28 (by decide) ?_
      refine v_istore_n X (lv' := [(2, .int (0 : Int32)), (0, .ref a0), (1, .int x1)]) dX12_image_29 rfl (by decide) rfl ?_
      refine v_lv (lv' := [(0, .ref a0), (1, .int x1), (2, .int (0 : Int32))]) [1, 2, 0] rfl ?_
      obtain ⟨n, h⟩ := h
      exact l30 n _ _ _ _ h
    · replace h := h.2 c10
      refine v_ldc X wd1154 dX12_image_25 ?_
      exact v_iret X hr hlk ⟨_, rfl, h⟩ dX12_image_27
  · replace h := h.2 c6
    refine v_ldc X wd1030 dX12_image_15 ?_
    exact v_iret X hr hlk ⟨_, rfl, h⟩ dX12_image_17
def wB_X12_restore_32 (bk32 : hp → Nat → Int32 → Int32 → Prop) (Q : Int32 → hp → Prop) (S : hp) (l0 : Nat) (l1 : Int32) (l2 : Int32) : Prop :=
  (((147 : Int32) ≤ l2 → hK S l0 = 11 ∧ ∀ S14 : hp, S14 = setI S l0 8 (0 : Int32) → Q (1 : Int32) S14) ∧ (¬ (147 : Int32) ≤ l2 → hK S l0 = 11 ∧ ∃ r17 : Nat, hR S l0 5 = some r17 ∧ ∃ r18 : Nat, hR S l0 20 = some r18 ∧ hK S r18 = 12 ∧ vp_in (((147 : Int32) * l1) + l2) (hN S r18) ∧ hK S r17 = 12 ∧ vp_in l2 (hN S r17) ∧ ∀ S23 : hp, S23 = setI S r17 (l2).toNatClampNeg (hI S r18 ((((147 : Int32) * l1) + l2)).toNatClampNeg) → ∀ v31 : Int32, v31 = l2 + (1 : Int32) → bk32 S23 l0 l1 v31))
def wl_X12_restore_32 (Q : Int32 → hp → Prop) : Nat → hp → Nat → Int32 → Int32 → Prop
  | 0 => fun _ _ _ _ => False
  | n + 1 => wB_X12_restore_32 (wl_X12_restore_32 Q n) Q
def wp_X12_restore (Q : Int32 → hp → Prop) (S : hp) (a0 : Nat) (x1 : Int32) : Prop :=
  hK S a0 = 11 ∧ ∀ S2 : hp, S2 = setI S a0 0 (0 : Int32) → wp_X12_in (fun r5 S4 => ((¬ r5 = 0 → hK S4 a0 = 11 ∧ ∃ r8 : Nat, hR S4 a0 19 = some r8 ∧ hK S4 r8 = 13 ∧ vp_in x1 (hN S4 r8) ∧ ((¬ (hI S4 r8 (x1).toNatClampNeg) = 0 → ∃ n : Nat, wl_X12_restore_32 Q n S4 a0 x1 (0 : Int32)) ∧ ((hI S4 r8 (x1).toNatClampNeg) = 0 → Q (-1000002 : Int32) S4))) ∧ (r5 = 0 → Q (-1000001 : Int32) S4))) S2 ((x1).toInt64) ((0 : Int64)) ((1 : Int64))
theorem k_X12_restore : Cond.code yX12_restore cX12_restore 3 (some .int) ∈ gtb := mg 1290 (by decide +kernel) (by decide +kernel)
theorem dn_X12_restore : yX12_restore.cls ≠ "java/lang/invoke/MethodHandle" ∧ yX12_restore.cls ≠ "java/lang/invoke/VarHandle" ∧ (parseMethodDescriptor yX12_restore.desc).map (fun d => d.parameters.length) = some 1 := by decide +kernel
set_option maxRecDepth 100000 in
set_option maxHeartbeats 4000000 in
theorem s_X12_restore (l : Launch) (b : Nat) (D : va_G) (cy : Nat → ClassId) {Q : Int32 → hp → Prop} {S : hp} {a0 : Nat} {x1 : Int32} (h : wp_X12_restore Q S a0 x1) : MT l yX12_restore cX12_restore 3 (some .int) 1 25 0 0 b D cy S [.ref a0, .int x1] (pI Q) := by
  refine MT.of (by decide +kernel) (Nat.le_of_ble_eq_true rfl) ?_
  intro p e s m args below meth c X hr hlk hnm
  have j32 : ∀ (bk32 : hp → Nat → Int32 → Int32 → Prop) (hbk32 : ∀ (S : hp) (l0 : Nat) (l1 : Int32) (l2 : Int32), bk32 S l0 l1 l2 → VM l b D cy 3 1 25 0 0 (pI Q) p e s m args below meth c S 0 0 32 [(0, .ref l0), (1, .int l1), (2, .int l2)] []) (S : hp) (l0 : Nat) (l1 : Int32) (l2 : Int32), wB_X12_restore_32 bk32 Q S l0 l1 l2 → VM l b D cy 3 1 25 0 0 (pI Q) p e s m args below meth c S 0 0 32 [(0, .ref l0), (1, .int l1), (2, .int l2)] [] := by
    intro bk32 hbk32 S l0 l1 l2 h
    unfold wB_X12_restore_32 at h
    refine v_iload_n X 2 dX12_restore_32 rfl rfl ?_
    refine v_sipush X (v := 147) dX12_restore_33 (by decide) ?_
    refine v_icmp_ge X (tgt := 63) dX12_restore_36 (by decide) (fun c12 => ?_) (fun c12 => ?_)
    · replace h := h.1 c12
      refine v_aload_n X 0 dX12_restore_63 rfl rfl ?_
      refine v_iconst X (v := 0) dX12_restore_64 (by decide) ?_
      obtain ⟨hk13, h⟩ := h
      refine v_putI X (T := TX12) (N := 26) (k := 8) hk13 (by decide) rfl (by decide) inX12 wd947 tyX12 tyX12_ok nmX12 rfl rfl rfl rfl dX12_restore_65 ?_
      refine v_nmS (fun S14 eS14 => ?_)
      replace h := h S14 eS14
      have hk15 : hK S14 l0 = 11 := by rw [eS14]; exact hk13
      refine v_iconst X (v := 1) dX12_restore_68 (by decide) ?_
      exact v_iret X hr hlk ⟨_, rfl, h⟩ dX12_restore_69
    · replace h := h.2 c12
      refine v_aload_n X 0 dX12_restore_39 rfl rfl ?_
      obtain ⟨hk16, h⟩ := h
      obtain ⟨r17, hr17, h⟩ := h
      refine v_getR X (T := TX12) (N := 26) (k := 5) hk16 (by decide) rfl (by decide) inX12 wd944 rfl dX12_restore_40 hr17 ?_
      refine v_iload_n X 2 dX12_restore_43 rfl rfl ?_
      refine v_aload_n X 0 dX12_restore_44 rfl rfl ?_
      obtain ⟨r18, hr18, h⟩ := h
      refine v_getR X (T := TX12) (N := 26) (k := 20) hk16 (by decide) rfl (by decide) inX12 wd959 rfl dX12_restore_45 hr18 ?_
      refine v_sipush X (v := 147) dX12_restore_48 (by decide) ?_
      refine v_iload_n X 1 dX12_restore_51 rfl rfl ?_
      refine v_imul X dX12_restore_52 ?_
      refine v_iload_n X 2 dX12_restore_53 rfl rfl ?_
      refine v_iadd X dX12_restore_54 ?_
      obtain ⟨hk19, h⟩ := h
      obtain ⟨hi20, h⟩ := h
      refine v_iald X hk19 hi20 dX12_restore_55 ?_
      obtain ⟨hk21, h⟩ := h
      obtain ⟨hi22, h⟩ := h
      refine v_iast X hk21 hi22 dX12_restore_56 ?_
      refine v_nmS (fun S23 eS23 => ?_)
      replace h := h S23 eS23
      have hk24 : hK S23 l0 = 11 := by rw [eS23]; exact hk16
      have hk25 : hK S23 r18 = 12 := by rw [eS23]; exact hk19
      have hk26 : hK S23 r17 = 12 := by rw [eS23]; exact hk21
      have hi27 : vp_in (((147 : Int32) * l1) + l2) (hN S23 r18) := by rw [eS23]; exact hi20
      have hi28 : vp_in l2 (hN S23 r17) := by rw [eS23]; exact hi22
      have hr29 : hR S23 l0 5 = some r17 := by rw [eS23]; exact hr17
      have hr30 : hR S23 l0 20 = some r18 := by rw [eS23]; exact hr18
      obtain ⟨v31, hv31⟩ : ∃ y : Int32, y = l2 + (1 : Int32) := ⟨_, rfl⟩
      replace h := h v31 hv31
      refine v_iinc X (j := 2) (v := v31) (lv' := [(2, .int v31), (0, .ref l0), (1, .int l1)]) dX12_restore_57 rfl (by rw [hv31] <;> rfl) (by decide) rfl ?_
      refine v_goto X (tgt := 32) dX12_restore_60 (by decide) ?_
      refine v_lv (lv' := [(0, .ref l0), (1, .int l1), (2, .int v31)]) [1, 2, 0] rfl ?_
      exact hbk32 _ _ _ _ h
  have l32 : ∀  (n : Nat) (S : hp) (l0 : Nat) (l1 : Int32) (l2 : Int32), wl_X12_restore_32 Q n S l0 l1 l2 → VM l b D cy 3 1 25 0 0 (pI Q) p e s m args below meth c S 0 0 32 [(0, .ref l0), (1, .int l1), (2, .int l2)] [] := by
    intro  n
    induction n with
    | zero => intro S l0 l1 l2 h; exact h.elim
    | succ n ih => intro S l0 l1 l2 h; exact j32 (wl_X12_restore_32 Q n) ih S l0 l1 l2 h
  unfold wp_X12_restore at h
  show VM l b D cy 3 1 25 0 0 (pI Q) p e s m args below meth c S 0 0 0 [(0, .ref a0), (1, .int x1)] []
  refine v_aload_n X 0 dX12_restore_0 rfl rfl ?_
  refine v_iconst X (v := 0) dX12_restore_1 (by decide) ?_
  obtain ⟨hk1, h⟩ := h
  refine v_putI X (T := TX12) (N := 26) (k := 0) hk1 (by decide) rfl (by decide) inX12 wd939 tyX12 tyX12_ok nmX12 rfl rfl rfl rfl dX12_restore_2 ?_
  refine v_nmS (fun S2 eS2 => ?_)
  replace h := h S2 eS2
  have hk3 : hK S2 a0 = 11 := by rw [eS2]; exact hk1
  refine v_iload_n X 1 dX12_restore_5 rfl rfl ?_
  refine v_i2l X dX12_restore_6 ?_
  refine v_lconst X (v := 0) dX12_restore_7 (by decide) ?_
  refine v_lconst X (v := 1) dX12_restore_8 (by decide) ?_
  refine v_callS X (av := [.long (x1).toInt64, .long (0 : Int64), .long (1 : Int64)]) (s_X12_in l b D cy h) wd1026 wd1027 wd62 k_X12_in dn_X12_in rfl ⟨Nat.le_of_ble_eq_true rfl, Nat.le_of_ble_eq_true rfl⟩ (Nat.le_of_ble_eq_true rfl) ⟨Nat.le_of_ble_eq_true rfl, Nat.le_of_ble_eq_true rfl⟩ dX12_restore_9 rfl (kI (fun r5 S4 h => ?_))
  refine v_if_ne X (tgt := 18) dX12_restore_12 (by decide) (fun c6 => ?_) (fun c6 => ?_)
  · replace h := h.1 c6
    refine v_aload_n X 0 dX12_restore_18 rfl rfl ?_
    obtain ⟨hk7, h⟩ := h
    obtain ⟨r8, hr8, h⟩ := h
    refine v_getR X (T := TX12) (N := 26) (k := 19) hk7 (by decide) rfl (by decide) inX12 wd958 rfl dX12_restore_19 hr8 ?_
    refine v_iload_n X 1 dX12_restore_22 rfl rfl ?_
    obtain ⟨hk9, h⟩ := h
    obtain ⟨hi10, h⟩ := h
    refine v_zald X hk9 hi10 dX12_restore_23 ?_
    refine v_if_ne X (tgt := 30) dX12_restore_24 (by decide) (fun c11 => ?_) (fun c11 => ?_)
    · replace h := h.1 c11
      refine v_iconst X (v := 0) dX12_restore_30 (by decide) ?_
      refine v_istore_n X (lv' := [(2, .int (0 : Int32)), (0, .ref a0), (1, .int x1)]) dX12_restore_31 rfl (by decide) rfl ?_
      refine v_lv (lv' := [(0, .ref a0), (1, .int x1), (2, .int (0 : Int32))]) [1, 2, 0] rfl ?_
      obtain ⟨n, h⟩ := h
      exact l32 n _ _ _ _ h
    · replace h := h.2 c11
      refine v_ldc X wd1154 dX12_restore_27 ?_
      exact v_iret X hr hlk ⟨_, rfl, h⟩ dX12_restore_29
  · replace h := h.2 c6
    refine v_ldc X wd1030 dX12_restore_15 ?_
    exact v_iret X hr hlk ⟨_, rfl, h⟩ dX12_restore_17
def wB_X12_isOf_29 (Q : Int32 → hp → Prop) (S : hp)  : Prop :=
  Q (1 : Int32) S
def wB_X12_isOf_19 (Q : Int32 → hp → Prop) (S : hp) (l0 : Int32) (l1 : Int32) : Prop :=
  ((¬ l1 = (4 : Int32) → Q (0 : Int32) S) ∧ (l1 = (4 : Int32) → ((¬ l0 = (5 : Int32) → Q (0 : Int32) S) ∧ (l0 = (5 : Int32) → wB_X12_isOf_29 Q S))))
def wp_X12_isOf (Q : Int32 → hp → Prop) (S : hp) (x0 : Int32) (x1 : Int32) : Prop :=
  ((x1 = 0 → wB_X12_isOf_29 Q S) ∧ (¬ x1 = 0 → ((x0 = x1 → wB_X12_isOf_29 Q S) ∧ (¬ x0 = x1 → ((¬ x1 = (1 : Int32) → wB_X12_isOf_19 Q S x0 x1) ∧ (x1 = (1 : Int32) → ((x0 < (4 : Int32) → wB_X12_isOf_29 Q S) ∧ (¬ x0 < (4 : Int32) → wB_X12_isOf_19 Q S x0 x1))))))))
theorem k_X12_isOf : Cond.code yX12_isOf cX12_isOf 2 (some .boolean) ∈ gtb := mg 1301 (by decide +kernel) (by decide +kernel)
theorem dn_X12_isOf : yX12_isOf.cls ≠ "java/lang/invoke/MethodHandle" ∧ yX12_isOf.cls ≠ "java/lang/invoke/VarHandle" ∧ (parseMethodDescriptor yX12_isOf.desc).map (fun d => d.parameters.length) = some 2 := by decide +kernel
set_option maxRecDepth 100000 in
set_option maxHeartbeats 4000000 in
theorem s_X12_isOf (l : Launch) (b : Nat) (D : va_G) (cy : Nat → ClassId) {Q : Int32 → hp → Prop} {S : hp} {x0 : Int32} {x1 : Int32} (h : wp_X12_isOf Q S x0 x1) : MT l yX12_isOf cX12_isOf 2 (some .boolean) 0 0 0 0 b D cy S [.int x0, .int x1] (pI Q) := by
  refine MT.of (by decide +kernel) (Nat.le_of_ble_eq_true rfl) ?_
  intro p e s m args below meth c X hr hlk hnm
  have j29 : ∀  (S : hp) , wB_X12_isOf_29 Q S  → VM l b D cy 2 0 0 0 0 (pI Q) p e s m args below meth c S 0 0 29 [] [] := by
    intro  S  h
    unfold wB_X12_isOf_29 at h
    refine v_iconst X (v := 1) dX12_isOf_29 (by decide) ?_
    refine v_goto X (tgt := 34) dX12_isOf_30 (by decide) ?_
    exact v_zret X hr (by decide) hlk ⟨_, rfl, h⟩ dX12_isOf_34
  have j19 : ∀  (S : hp) (l0 : Int32) (l1 : Int32), wB_X12_isOf_19 Q S l0 l1 → VM l b D cy 2 0 0 0 0 (pI Q) p e s m args below meth c S 0 0 19 [(0, .int l0), (1, .int l1)] [] := by
    intro  S l0 l1 h
    unfold wB_X12_isOf_19 at h
    refine v_iload_n X 1 dX12_isOf_19 rfl rfl ?_
    refine v_iconst X (v := 4) dX12_isOf_20 (by decide) ?_
    refine v_icmp_ne X (tgt := 33) dX12_isOf_21 (by decide) (fun c4 => ?_) (fun c4 => ?_)
    · replace h := h.1 c4
      refine v_iconst X (v := 0) dX12_isOf_33 (by decide) ?_
      exact v_zret X hr (by decide) hlk ⟨_, rfl, h⟩ dX12_isOf_34
    · replace h := h.2 c4
      refine v_iload_n X 0 dX12_isOf_24 rfl rfl ?_
      refine v_iconst X (v := 5) dX12_isOf_25 (by decide) ?_
      refine v_icmp_ne X (tgt := 33) dX12_isOf_26 (by decide) (fun c5 => ?_) (fun c5 => ?_)
      · replace h := h.1 c5
        refine v_iconst X (v := 0) dX12_isOf_33 (by decide) ?_
        exact v_zret X hr (by decide) hlk ⟨_, rfl, h⟩ dX12_isOf_34
      · replace h := h.2 c5
        refine v_lv (lv' := []) [] rfl ?_
        exact j29 _ h
  unfold wp_X12_isOf at h
  show VM l b D cy 2 0 0 0 0 (pI Q) p e s m args below meth c S 0 0 0 [(0, .int x0), (1, .int x1)] []
  refine v_iload_n X 1 dX12_isOf_0 rfl rfl ?_
  refine v_if_eq X (tgt := 29) dX12_isOf_1 (by decide) (fun c1 => ?_) (fun c1 => ?_)
  · replace h := h.1 c1
    refine v_lv (lv' := []) [] rfl ?_
    exact j29 _ h
  · replace h := h.2 c1
    refine v_iload_n X 0 dX12_isOf_4 rfl rfl ?_
    refine v_iload_n X 1 dX12_isOf_5 rfl rfl ?_
    refine v_icmp_eq X (tgt := 29) dX12_isOf_6 (by decide) (fun c2 => ?_) (fun c2 => ?_)
    · replace h := h.1 c2
      refine v_lv (lv' := []) [] rfl ?_
      exact j29 _ h
    · replace h := h.2 c2
      refine v_iload_n X 1 dX12_isOf_9 rfl rfl ?_
      refine v_iconst X (v := 1) dX12_isOf_10 (by decide) ?_
      refine v_icmp_ne X (tgt := 19) dX12_isOf_11 (by decide) (fun c3 => ?_) (fun c3 => ?_)
      · replace h := h.1 c3
        exact j19 _ _ _ h
      · replace h := h.2 c3
        refine v_iload_n X 0 dX12_isOf_14 rfl rfl ?_
        refine v_iconst X (v := 4) dX12_isOf_15 (by decide) ?_
        refine v_icmp_lt X (tgt := 29) dX12_isOf_16 (by decide) (fun c6 => ?_) (fun c6 => ?_)
        · replace h := h.1 c6
          refine v_lv (lv' := []) [] rfl ?_
          exact j29 _ h
        · replace h := h.2 c6
          exact j19 _ _ _ h
def wp_X12_kind (Q : Int32 → hp → Prop) (S : hp) (a0 : Nat) (x1 : Int32) : Prop :=
  hK S a0 = 11 ∧ ∀ S2 : hp, S2 = setI S a0 0 (0 : Int32) → wp_X12_isMouth (fun r5 S4 => ((r5 = 0 → Q (-1000001 : Int32) S4) ∧ (¬ r5 = 0 → hK S4 a0 = 11 ∧ wp_X12_kindOf (fun r9 S7 => Q r9 S7) S4 a0 x1))) S2 a0 x1
theorem k_X12_kind : Cond.code yX12_kind cX12_kind 2 (some .int) ∈ gtb := mg 1294 (by decide +kernel) (by decide +kernel)
theorem dn_X12_kind : yX12_kind.cls ≠ "java/lang/invoke/MethodHandle" ∧ yX12_kind.cls ≠ "java/lang/invoke/VarHandle" ∧ (parseMethodDescriptor yX12_kind.desc).map (fun d => d.parameters.length) = some 1 := by decide +kernel
set_option maxRecDepth 100000 in
set_option maxHeartbeats 4000000 in
theorem s_X12_kind (l : Launch) (b : Nat) (D : va_G) (cy : Nat → ClassId) {Q : Int32 → hp → Prop} {S : hp} {a0 : Nat} {x1 : Int32} (h : wp_X12_kind Q S a0 x1) : MT l yX12_kind cX12_kind 2 (some .int) 2 46 0 0 b D cy S [.ref a0, .int x1] (pI Q) := by
  refine MT.of (by decide +kernel) (Nat.le_of_ble_eq_true rfl) ?_
  intro p e s m args below meth c X hr hlk hnm
  unfold wp_X12_kind at h
  show VM l b D cy 2 2 46 0 0 (pI Q) p e s m args below meth c S 0 0 0 [(0, .ref a0), (1, .int x1)] []
  refine v_aload_n X 0 dX12_kind_0 rfl rfl ?_
  refine v_iconst X (v := 0) dX12_kind_1 (by decide) ?_
  obtain ⟨hk1, h⟩ := h
  refine v_putI X (T := TX12) (N := 26) (k := 0) hk1 (by decide) rfl (by decide) inX12 wd939 tyX12 tyX12_ok nmX12 rfl rfl rfl rfl dX12_kind_2 ?_
  refine v_nmS (fun S2 eS2 => ?_)
  replace h := h S2 eS2
  have hk3 : hK S2 a0 = 11 := by rw [eS2]; exact hk1
  refine v_aload_n X 0 dX12_kind_5 rfl rfl ?_
  refine v_iload_n X 1 dX12_kind_6 rfl rfl ?_
  refine v_callV X (av := [.int x1]) (T := TX12) (N := 26) (s_X12_isMouth l b D cy h) hk3 (by decide) rfl wd1115 wd1117 wd31 wd62 k_X12_isMouth dn_X12_isMouth rfl ⟨Nat.le_of_ble_eq_true rfl, Nat.le_of_ble_eq_true rfl⟩ (Nat.le_of_ble_eq_true rfl) ⟨Nat.le_of_ble_eq_true rfl, Nat.le_of_ble_eq_true rfl⟩ dX12_kind_7 rfl (kI (fun r5 S4 h => ?_))
  refine v_if_eq X (tgt := 21) dX12_kind_10 (by decide) (fun c6 => ?_) (fun c6 => ?_)
  · replace h := h.1 c6
    refine v_ldc X wd1030 dX12_kind_21 ?_
    exact v_iret X hr hlk ⟨_, rfl, h⟩ dX12_kind_23
  · replace h := h.2 c6
    refine v_aload_n X 0 dX12_kind_13 rfl rfl ?_
    refine v_iload_n X 1 dX12_kind_14 rfl rfl ?_
    obtain ⟨hk8, h⟩ := h
    refine v_callV X (av := [.int x1]) (T := TX12) (N := 26) (s_X12_kindOf l b D cy h) hk8 (by decide) rfl wd1132 wd1134 wd34 wd62 k_X12_kindOf dn_X12_kindOf rfl ⟨Nat.le_of_ble_eq_true rfl, Nat.le_of_ble_eq_true rfl⟩ (Nat.le_of_ble_eq_true rfl) ⟨Nat.le_of_ble_eq_true rfl, Nat.le_of_ble_eq_true rfl⟩ dX12_kind_15 rfl (kI (fun r9 S7 h => ?_))
    refine v_goto X (tgt := 23) dX12_kind_18 (by decide) ?_
    exact v_iret X hr hlk ⟨_, rfl, h⟩ dX12_kind_23
def wp_X12_as (Q : Int32 → hp → Prop) (S : hp) (a0 : Nat) (x1 : Int32) (x2 : Int32) : Prop :=
  hK S a0 = 11 ∧ ∀ S2 : hp, S2 = setI S a0 0 (0 : Int32) → wp_X12_isMouth (fun r5 S4 => ((r5 = 0 → Q (-1000001 : Int32) S4) ∧ (¬ r5 = 0 → wp_X12_in (fun r8 S7 => ((¬ r8 = 0 → hK S7 a0 = 11 ∧ ∀ S11 : hp, S11 = setI S7 a0 1 (0 : Int32) → wp_X12_kindOf (fun r14 S13 => wp_X12_isOf (fun r16 S15 => ((r16 = 0 → hK S15 a0 = 11 ∧ wp_X12_finding (fun r20 S18 => Q r20 S18) S15 a0 (3 : Int32)) ∧ (¬ r16 = 0 → Q x1 S15))) S13 r14 x2) S11 a0 x1) ∧ (r8 = 0 → Q (-1000001 : Int32) S7))) S4 ((x2).toInt64) ((0 : Int64)) ((5 : Int64))))) S2 a0 x1
theorem k_X12_as : Cond.code yX12_as cX12_as 3 (some .int) ∈ gtb := mg 1298 (by decide +kernel) (by decide +kernel)
theorem dn_X12_as : yX12_as.cls ≠ "java/lang/invoke/MethodHandle" ∧ yX12_as.cls ≠ "java/lang/invoke/VarHandle" ∧ (parseMethodDescriptor yX12_as.desc).map (fun d => d.parameters.length) = some 2 := by decide +kernel
set_option maxRecDepth 100000 in
set_option maxHeartbeats 4000000 in
theorem s_X12_as (l : Launch) (b : Nat) (D : va_G) (cy : Nat → ClassId) {Q : Int32 → hp → Prop} {S : hp} {a0 : Nat} {x1 : Int32} {x2 : Int32} (h : wp_X12_as Q S a0 x1 x2) : MT l yX12_as cX12_as 3 (some .int) 2 46 0 0 b D cy S [.ref a0, .int x1, .int x2] (pI Q) := by
  refine MT.of (by decide +kernel) (Nat.le_of_ble_eq_true rfl) ?_
  intro p e s m args below meth c X hr hlk hnm
  unfold wp_X12_as at h
  show VM l b D cy 3 2 46 0 0 (pI Q) p e s m args below meth c S 0 0 0 [(0, .ref a0), (1, .int x1), (2, .int x2)] []
  refine v_aload_n X 0 dX12_as_0 rfl rfl ?_
  refine v_iconst X (v := 0) dX12_as_1 (by decide) ?_
  obtain ⟨hk1, h⟩ := h
  refine v_putI X (T := TX12) (N := 26) (k := 0) hk1 (by decide) rfl (by decide) inX12 wd939 tyX12 tyX12_ok nmX12 rfl rfl rfl rfl dX12_as_2 ?_
  refine v_nmS (fun S2 eS2 => ?_)
  replace h := h S2 eS2
  have hk3 : hK S2 a0 = 11 := by rw [eS2]; exact hk1
  refine v_aload_n X 0 dX12_as_5 rfl rfl ?_
  refine v_iload_n X 1 dX12_as_6 rfl rfl ?_
  refine v_callV X (av := [.int x1]) (T := TX12) (N := 26) (s_X12_isMouth l b D cy h) hk3 (by decide) rfl wd1115 wd1117 wd31 wd62 k_X12_isMouth dn_X12_isMouth rfl ⟨Nat.le_of_ble_eq_true rfl, Nat.le_of_ble_eq_true rfl⟩ (Nat.le_of_ble_eq_true rfl) ⟨Nat.le_of_ble_eq_true rfl, Nat.le_of_ble_eq_true rfl⟩ dX12_as_7 rfl (kI (fun r5 S4 h => ?_))
  refine v_if_eq X (tgt := 25) dX12_as_10 (by decide) (fun c6 => ?_) (fun c6 => ?_)
  · replace h := h.1 c6
    refine v_ldc X wd1030 dX12_as_25 ?_
    exact v_iret X hr hlk ⟨_, rfl, h⟩ dX12_as_27
  · replace h := h.2 c6
    refine v_iload_n X 2 dX12_as_13 rfl rfl ?_
    refine v_i2l X dX12_as_14 ?_
    refine v_lconst X (v := 0) dX12_as_15 (by decide) ?_
    refine v_ldc2 X wd1183 dX12_as_16 ?_
    refine v_callS X (av := [.long (x2).toInt64, .long (0 : Int64), .long (5 : Int64)]) (s_X12_in l b D cy h) wd1026 wd1027 wd62 k_X12_in dn_X12_in rfl ⟨Nat.le_of_ble_eq_true rfl, Nat.le_of_ble_eq_true rfl⟩ (Nat.le_of_ble_eq_true rfl) ⟨Nat.le_of_ble_eq_true rfl, Nat.le_of_ble_eq_true rfl⟩ dX12_as_19 rfl (kI (fun r8 S7 h => ?_))
    refine v_if_ne X (tgt := 28) dX12_as_22 (by decide) (fun c9 => ?_) (fun c9 => ?_)
    · replace h := h.1 c9
      refine v_aload_n X 0 dX12_as_28 rfl rfl ?_
      refine v_iconst X (v := 0) dX12_as_29 (by decide) ?_
      obtain ⟨hk10, h⟩ := h
      refine v_putI X (T := TX12) (N := 26) (k := 1) hk10 (by decide) rfl (by decide) inX12 wd940 tyX12 tyX12_ok nmX12 rfl rfl rfl rfl dX12_as_30 ?_
      refine v_nmS (fun S11 eS11 => ?_)
      replace h := h S11 eS11
      have hk12 : hK S11 a0 = 11 := by rw [eS11]; exact hk10
      refine v_aload_n X 0 dX12_as_33 rfl rfl ?_
      refine v_iload_n X 1 dX12_as_34 rfl rfl ?_
      refine v_callV X (av := [.int x1]) (T := TX12) (N := 26) (s_X12_kindOf l b D cy h) hk12 (by decide) rfl wd1132 wd1134 wd34 wd62 k_X12_kindOf dn_X12_kindOf rfl ⟨Nat.le_of_ble_eq_true rfl, Nat.le_of_ble_eq_true rfl⟩ (Nat.le_of_ble_eq_true rfl) ⟨Nat.le_of_ble_eq_true rfl, Nat.le_of_ble_eq_true rfl⟩ dX12_as_35 rfl (kI (fun r14 S13 h => ?_))
      refine v_iload_n X 2 dX12_as_38 rfl rfl ?_
      refine v_callS X (av := [.int r14, .int x2]) (s_X12_isOf l b D cy h) wd1299 wd1300 wd62 k_X12_isOf dn_X12_isOf rfl ⟨Nat.le_of_ble_eq_true rfl, Nat.le_of_ble_eq_true rfl⟩ (Nat.le_of_ble_eq_true rfl) ⟨Nat.le_of_ble_eq_true rfl, Nat.le_of_ble_eq_true rfl⟩ dX12_as_39 rfl (kI (fun r16 S15 h => ?_))
      refine v_if_eq X (tgt := 49) dX12_as_42 (by decide) (fun c17 => ?_) (fun c17 => ?_)
      · replace h := h.1 c17
        refine v_aload_n X 0 dX12_as_49 rfl rfl ?_
        refine v_iconst X (v := 3) dX12_as_50 (by decide) ?_
        obtain ⟨hk19, h⟩ := h
        refine v_callV X (av := [.int (3 : Int32)]) (T := TX12) (N := 26) (s_X12_finding l b D cy h) hk19 (by decide) rfl wd1031 wd1033 wd20 wd62 k_X12_finding dn_X12_finding rfl ⟨Nat.le_of_ble_eq_true rfl, Nat.le_of_ble_eq_true rfl⟩ (Nat.le_of_ble_eq_true rfl) ⟨Nat.le_of_ble_eq_true rfl, Nat.le_of_ble_eq_true rfl⟩ dX12_as_51 rfl (kI (fun r20 S18 h => ?_))
        exact v_iret X hr hlk ⟨_, rfl, h⟩ dX12_as_54
      · replace h := h.2 c17
        refine v_iload_n X 1 dX12_as_45 rfl rfl ?_
        refine v_goto X (tgt := 54) dX12_as_46 (by decide) ?_
        exact v_iret X hr hlk ⟨_, rfl, h⟩ dX12_as_54
    · replace h := h.2 c9
      refine v_ldc X wd1030 dX12_as_25 ?_
      exact v_iret X hr hlk ⟨_, rfl, h⟩ dX12_as_27
def wp_X12_began (Q : hp → Prop) (S : hp) (a0 : Nat) (x1 : Int32) : Prop :=
  hK S a0 = 11 ∧ (((16 : Int32) ≤ (hI S a0 25) → Q S) ∧ (¬ (16 : Int32) ≤ (hI S a0 25) → ∃ r3 : Nat, hR S a0 24 = some r3 ∧ hK S r3 = 12 ∧ vp_in (hI S a0 25) (hN S r3) ∧ ∀ S6 : hp, S6 = setI S r3 ((hI S a0 25)).toNatClampNeg x1 → ∀ S11 : hp, S11 = setI S6 a0 25 ((hI S6 a0 25) + (1 : Int32)) → Q S11))
theorem k_X12_began : Cond.code yX12_began cX12_began 2 none ∈ gtb := mg 1317 (by decide +kernel) (by decide +kernel)
theorem dn_X12_began : yX12_began.cls ≠ "java/lang/invoke/MethodHandle" ∧ yX12_began.cls ≠ "java/lang/invoke/VarHandle" ∧ (parseMethodDescriptor yX12_began.desc).map (fun d => d.parameters.length) = some 1 := by decide +kernel
set_option maxRecDepth 100000 in
set_option maxHeartbeats 4000000 in
theorem s_X12_began (l : Launch) (b : Nat) (D : va_G) (cy : Nat → ClassId) {Q : hp → Prop} {S : hp} {a0 : Nat} {x1 : Int32} (h : wp_X12_began Q S a0 x1) : MT l yX12_began cX12_began 2 none 0 0 0 0 b D cy S [.ref a0, .int x1] (pV Q) := by
  refine MT.of (by decide +kernel) (Nat.le_of_ble_eq_true rfl) ?_
  intro p e s m args below meth c X hr hlk hnm
  unfold wp_X12_began at h
  show VM l b D cy 2 0 0 0 0 (pV Q) p e s m args below meth c S 0 0 0 [(0, .ref a0), (1, .int x1)] []
  refine v_aload_n X 0 dX12_began_0 rfl rfl ?_
  obtain ⟨hk1, h⟩ := h
  refine v_getI X (T := TX12) (N := 26) (k := 25) hk1 (by decide) rfl (by decide) inX12 wd964 rfl dX12_began_1 ?_
  refine v_bipush X (v := 16) dX12_began_4 (by decide) ?_
  refine v_icmp_ge X (tgt := 29) dX12_began_6 (by decide) (fun c2 => ?_) (fun c2 => ?_)
  · replace h := h.1 c2
    exact v_vret X hr hlk ⟨rfl, h⟩ dX12_began_29
  · replace h := h.2 c2
    refine v_aload_n X 0 dX12_began_9 rfl rfl ?_
    obtain ⟨r3, hr3, h⟩ := h
    refine v_getR X (T := TX12) (N := 26) (k := 24) hk1 (by decide) rfl (by decide) inX12 wd963 rfl dX12_began_10 hr3 ?_
    refine v_aload_n X 0 dX12_began_13 rfl rfl ?_
    refine v_getI X (T := TX12) (N := 26) (k := 25) hk1 (by decide) rfl (by decide) inX12 wd964 rfl dX12_began_14 ?_
    refine v_iload_n X 1 dX12_began_17 rfl rfl ?_
    obtain ⟨hk4, h⟩ := h
    obtain ⟨hi5, h⟩ := h
    refine v_iast X hk4 hi5 dX12_began_18 ?_
    refine v_nmS (fun S6 eS6 => ?_)
    replace h := h S6 eS6
    have hk7 : hK S6 a0 = 11 := by rw [eS6]; exact hk1
    have hk8 : hK S6 r3 = 12 := by rw [eS6]; exact hk4
    have hi9 : vp_in (hI S a0 25) (hN S6 r3) := by rw [eS6]; exact hi5
    have hr10 : hR S6 a0 24 = some r3 := by rw [eS6]; exact hr3
    refine v_aload_n X 0 dX12_began_19 rfl rfl ?_
    refine v_dup X dX12_began_20 rfl ?_
    refine v_getI X (T := TX12) (N := 26) (k := 25) hk7 (by decide) rfl (by decide) inX12 wd964 rfl dX12_began_21 ?_
    refine v_iconst X (v := 1) dX12_began_24 (by decide) ?_
    refine v_iadd X dX12_began_25 ?_
    refine v_putI X (T := TX12) (N := 26) (k := 25) hk7 (by decide) rfl (by decide) inX12 wd964 tyX12 tyX12_ok nmX12 rfl rfl rfl rfl dX12_began_26 ?_
    refine v_nmS (fun S11 eS11 => ?_)
    replace h := h S11 eS11
    have hk12 : hK S11 a0 = 11 := by rw [eS11]; exact hk7
    have hk13 : hK S11 r3 = 12 := by rw [eS11]; exact hk8
    have hi14 : vp_in (hI S a0 25) (hN S11 r3) := by rw [eS11]; exact hi9
    have hr15 : hR S11 a0 24 = some r3 := by rw [eS11]; exact hr10
    exact v_vret X hr hlk ⟨rfl, h⟩ dX12_began_29
def wp_X12_plainSize (Q : Int32 → hp → Prop) (S : hp) (a0 : Nat) (x1 : Int32) : Prop :=
  hK S a0 = 11 ∧ wp_X12_began (fun S1 => hK S1 a0 = 11 ∧ wp_X12_bribeOf (fun r5 S3 => Q r5 S3) S1 a0 x1) S a0 (10 : Int32)
theorem k_X12_plainSize : Cond.code yX12_plainSize cX12_plainSize 2 (some .int) ∈ gtb := mg 1321 (by decide +kernel) (by decide +kernel)
theorem dn_X12_plainSize : yX12_plainSize.cls ≠ "java/lang/invoke/MethodHandle" ∧ yX12_plainSize.cls ≠ "java/lang/invoke/VarHandle" ∧ (parseMethodDescriptor yX12_plainSize.desc).map (fun d => d.parameters.length) = some 1 := by decide +kernel
set_option maxRecDepth 100000 in
set_option maxHeartbeats 4000000 in
theorem s_X12_plainSize (l : Launch) (b : Nat) (D : va_G) (cy : Nat → ClassId) {Q : Int32 → hp → Prop} {S : hp} {a0 : Nat} {x1 : Int32} (h : wp_X12_plainSize Q S a0 x1) : MT l yX12_plainSize cX12_plainSize 2 (some .int) 1 21 0 0 b D cy S [.ref a0, .int x1] (pI Q) := by
  refine MT.of (by decide +kernel) (Nat.le_of_ble_eq_true rfl) ?_
  intro p e s m args below meth c X hr hlk hnm
  unfold wp_X12_plainSize at h
  show VM l b D cy 2 1 21 0 0 (pI Q) p e s m args below meth c S 0 0 0 [(0, .ref a0), (1, .int x1)] []
  refine v_aload_n X 0 dX12_plainSize_0 rfl rfl ?_
  refine v_bipush X (v := 10) dX12_plainSize_1 (by decide) ?_
  obtain ⟨hk2, h⟩ := h
  refine v_callV X (av := [.int (10 : Int32)]) (T := TX12) (N := 26) (s_X12_began l b D cy h) hk2 (by decide) rfl wd1314 wd1316 wd52 wd62 k_X12_began dn_X12_began rfl ⟨Nat.le_of_ble_eq_true rfl, Nat.le_of_ble_eq_true rfl⟩ (Nat.le_of_ble_eq_true rfl) ⟨Nat.le_of_ble_eq_true rfl, Nat.le_of_ble_eq_true rfl⟩ dX12_plainSize_3 rfl (kV (fun S1 h => ?_))
  refine v_aload_n X 0 dX12_plainSize_6 rfl rfl ?_
  refine v_iload_n X 1 dX12_plainSize_7 rfl rfl ?_
  obtain ⟨hk4, h⟩ := h
  refine v_callV X (av := [.int x1]) (T := TX12) (N := 26) (s_X12_bribeOf l b D cy h) hk4 (by decide) rfl wd1235 wd1237 wd46 wd62 k_X12_bribeOf dn_X12_bribeOf rfl ⟨Nat.le_of_ble_eq_true rfl, Nat.le_of_ble_eq_true rfl⟩ (Nat.le_of_ble_eq_true rfl) ⟨Nat.le_of_ble_eq_true rfl, Nat.le_of_ble_eq_true rfl⟩ dX12_plainSize_8 rfl (kI (fun r5 S3 h => ?_))
  exact v_iret X hr hlk ⟨_, rfl, h⟩ dX12_plainSize_11
def wB_X12_gossipSize_15 (Q : Int32 → hp → Prop) (S : hp) (l0 : Nat) (l1 : Int32) : Prop :=
  hK S l0 = 11 ∧ wp_X12_began (fun S5 => hK S5 l0 = 11 ∧ wp_X12_plainSize (fun r9 S7 => ∀ v10 : Int32, v10 = (r9 - (100 : Int32)) → hK S7 l0 = 11 ∧ wp_X12_kindOf (fun r13 S11 => ((¬ r13 = (5 : Int32) → Q v10 S11) ∧ (r13 = (5 : Int32) → Q ((2 : Int32) * v10) S11))) S7 l0 l1) S5 l0 l1) S l0 (13 : Int32)
def wp_X12_gossipSize (Q : Int32 → hp → Prop) (S : hp) (a0 : Nat) (x1 : Int32) : Prop :=
  hK S a0 = 11 ∧ wp_X12_kindOf (fun r3 S1 => ((¬ r3 = (5 : Int32) → wB_X12_gossipSize_15 Q S1 a0 x1) ∧ (r3 = (5 : Int32) → hK S1 a0 = 11 ∧ wp_X12_began (fun S15 => wB_X12_gossipSize_15 Q S15 a0 x1) S1 a0 (14 : Int32)))) S a0 x1
theorem k_X12_gossipSize : Cond.code yX12_gossipSize cX12_gossipSize 3 (some .int) ∈ gtb := mg 1313 (by decide +kernel) (by decide +kernel)
theorem dn_X12_gossipSize : yX12_gossipSize.cls ≠ "java/lang/invoke/MethodHandle" ∧ yX12_gossipSize.cls ≠ "java/lang/invoke/VarHandle" ∧ (parseMethodDescriptor yX12_gossipSize.desc).map (fun d => d.parameters.length) = some 1 := by decide +kernel
set_option maxRecDepth 100000 in
set_option maxHeartbeats 4000000 in
theorem s_X12_gossipSize (l : Launch) (b : Nat) (D : va_G) (cy : Nat → ClassId) {Q : Int32 → hp → Prop} {S : hp} {a0 : Nat} {x1 : Int32} (h : wp_X12_gossipSize Q S a0 x1) : MT l yX12_gossipSize cX12_gossipSize 3 (some .int) 2 42 0 0 b D cy S [.ref a0, .int x1] (pI Q) := by
  refine MT.of (by decide +kernel) (Nat.le_of_ble_eq_true rfl) ?_
  intro p e s m args below meth c X hr hlk hnm
  have j15 : ∀  (S : hp) (l0 : Nat) (l1 : Int32), wB_X12_gossipSize_15 Q S l0 l1 → VM l b D cy 3 2 42 0 0 (pI Q) p e s m args below meth c S 0 0 15 [(0, .ref l0), (1, .int l1)] [] := by
    intro  S l0 l1 h
    unfold wB_X12_gossipSize_15 at h
    refine v_aload_n X 0 dX12_gossipSize_15 rfl rfl ?_
    refine v_bipush X (v := 13) dX12_gossipSize_16 (by decide) ?_
    obtain ⟨hk6, h⟩ := h
    refine v_callV X (av := [.int (13 : Int32)]) (T := TX12) (N := 26) (s_X12_began l b D cy h) hk6 (by decide) rfl wd1314 wd1316 wd52 wd62 k_X12_began dn_X12_began rfl ⟨Nat.le_of_ble_eq_true rfl, Nat.le_of_ble_eq_true rfl⟩ (Nat.le_of_ble_eq_true rfl) ⟨Nat.le_of_ble_eq_true rfl, Nat.le_of_ble_eq_true rfl⟩ dX12_gossipSize_18 rfl (kV (fun S5 h => ?_))
    refine v_aload_n X 0 dX12_gossipSize_21 rfl rfl ?_
    refine v_iload_n X 1 dX12_gossipSize_22 rfl rfl ?_
    obtain ⟨hk8, h⟩ := h
    refine v_callV X (av := [.int l1]) (T := TX12) (N := 26) (s_X12_plainSize l b D cy h) hk8 (by decide) rfl wd1318 wd1320 wd53 wd62 k_X12_plainSize dn_X12_plainSize rfl ⟨Nat.le_of_ble_eq_true rfl, Nat.le_of_ble_eq_true rfl⟩ (Nat.le_of_ble_eq_true rfl) ⟨Nat.le_of_ble_eq_true rfl, Nat.le_of_ble_eq_true rfl⟩ dX12_gossipSize_23 rfl (kI (fun r9 S7 h => ?_))
    refine v_bipush X (v := 100) dX12_gossipSize_26 (by decide) ?_
    refine v_isub X dX12_gossipSize_28 ?_
    refine v_nm (fun v10 hv10 => ?_)
    replace h := h v10 hv10
    refine v_istore_n X (lv' := [(2, .int v10), (0, .ref l0), (1, .int l1)]) dX12_gossipSize_29 rfl (by decide) rfl ?_
    refine v_aload_n X 1 dX12_gossipSize_30 rfl rfl ?_
    refine v_iload_n X 2 dX12_gossipSize_31 rfl rfl ?_
    obtain ⟨hk12, h⟩ := h
    refine v_callV X (av := [.int l1]) (T := TX12) (N := 26) (s_X12_kindOf l b D cy h) hk12 (by decide) rfl wd1132 wd1134 wd34 wd62 k_X12_kindOf dn_X12_kindOf rfl ⟨Nat.le_of_ble_eq_true rfl, Nat.le_of_ble_eq_true rfl⟩ (Nat.le_of_ble_eq_true rfl) ⟨Nat.le_of_ble_eq_true rfl, Nat.le_of_ble_eq_true rfl⟩ dX12_gossipSize_32 rfl (kI (fun r13 S11 h => ?_))
    refine v_iconst X (v := 5) dX12_gossipSize_35 (by decide) ?_
    refine v_icmp_ne X (tgt := 45) dX12_gossipSize_36 (by decide) (fun c14 => ?_) (fun c14 => ?_)
    · replace h := h.1 c14
      refine v_iload_n X 0 dX12_gossipSize_45 rfl rfl ?_
      exact v_iret X hr hlk ⟨_, rfl, h⟩ dX12_gossipSize_46
    · replace h := h.2 c14
      refine v_iconst X (v := 2) dX12_gossipSize_39 (by decide) ?_
      refine v_iload_n X 0 dX12_gossipSize_40 rfl rfl ?_
      refine v_imul X dX12_gossipSize_41 ?_
      refine v_goto X (tgt := 46) dX12_gossipSize_42 (by decide) ?_
      exact v_iret X hr hlk ⟨_, rfl, h⟩ dX12_gossipSize_46
  unfold wp_X12_gossipSize at h
  show VM l b D cy 3 2 42 0 0 (pI Q) p e s m args below meth c S 0 0 0 [(0, .ref a0), (1, .int x1)] []
  refine v_aload_n X 0 dX12_gossipSize_0 rfl rfl ?_
  refine v_iload_n X 1 dX12_gossipSize_1 rfl rfl ?_
  obtain ⟨hk2, h⟩ := h
  refine v_callV X (av := [.int x1]) (T := TX12) (N := 26) (s_X12_kindOf l b D cy h) hk2 (by decide) rfl wd1132 wd1134 wd34 wd62 k_X12_kindOf dn_X12_kindOf rfl ⟨Nat.le_of_ble_eq_true rfl, Nat.le_of_ble_eq_true rfl⟩ (Nat.le_of_ble_eq_true rfl) ⟨Nat.le_of_ble_eq_true rfl, Nat.le_of_ble_eq_true rfl⟩ dX12_gossipSize_2 rfl (kI (fun r3 S1 h => ?_))
  refine v_iconst X (v := 5) dX12_gossipSize_5 (by decide) ?_
  refine v_icmp_ne X (tgt := 15) dX12_gossipSize_6 (by decide) (fun c4 => ?_) (fun c4 => ?_)
  · replace h := h.1 c4
    exact j15 _ _ _ h
  · replace h := h.2 c4
    refine v_aload_n X 0 dX12_gossipSize_9 rfl rfl ?_
    refine v_bipush X (v := 14) dX12_gossipSize_10 (by decide) ?_
    obtain ⟨hk16, h⟩ := h
    refine v_callV X (av := [.int (14 : Int32)]) (T := TX12) (N := 26) (s_X12_began l b D cy h) hk16 (by decide) rfl wd1314 wd1316 wd52 wd62 k_X12_began dn_X12_began rfl ⟨Nat.le_of_ble_eq_true rfl, Nat.le_of_ble_eq_true rfl⟩ (Nat.le_of_ble_eq_true rfl) ⟨Nat.le_of_ble_eq_true rfl, Nat.le_of_ble_eq_true rfl⟩ dX12_gossipSize_12 rfl (kV (fun S15 h => ?_))
    exact j15 _ _ _ h
