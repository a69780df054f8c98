def wB_X12_was_261 (bk75 : hp → Nat → Int32 → Int32 → Int32 → Int32 → Prop) (Q : Int32 → hp → Prop) (S : hp) (l0 : Nat) (l1 : Int32) (l2 : Int32) (l3 : Int32) (l4 : Int32) : Prop :=
  ∀ v29 : Int32, v29 = l4 + (1 : Int32) → bk75 S l0 l1 l2 l3 v29
def wB_X12_was_189 (bk75 : hp → Nat → Int32 → Int32 → Int32 → Int32 → Prop) (bk189 : hp → Nat → Int32 → Int32 → Int32 → Int32 → Int32 → Prop) (Q : Int32 → hp → Prop) (S : hp) (l0 : Nat) (l1 : Int32) (l2 : Int32) (l3 : Int32) (l4 : Int32) (l6 : Int32) : Prop :=
  (((3 : Int32) ≤ l6 → wB_X12_was_261 bk75 Q S l0 l1 l2 l3 l4) ∧ (¬ (3 : Int32) ≤ l6 → hK S l0 = 11 ∧ wp_X12_lineOf (fun r32 S30 => ∀ v33 : Int32, v33 = (((3 : Int32) * r32) + l6) → hK S30 l0 = 11 ∧ wp_X12_lineOf (fun r36 S34 => ∀ v37 : Int32, v37 = (((3 : Int32) * r36) + l6) → hK S34 l0 = 11 ∧ ∃ r39 : Nat, hR S34 l0 18 = some r39 ∧ hK S34 r39 = 12 ∧ vp_in v33 (hN S34 r39) ∧ ∀ v42 : Int32, v42 = (hI S34 r39 (v33).toNatClampNeg) → vp_in v37 (hN S34 r39) ∧ ∀ S44 : hp, S44 = setI S34 r39 (v33).toNatClampNeg (hI S34 r39 (v37).toNatClampNeg) → ∀ S50 : hp, S50 = setI S44 r39 (v37).toNatClampNeg v42 → ∀ v56 : Int32, v56 = l6 + (1 : Int32) → bk189 S50 l0 l1 l2 l3 l4 v56) S30 l0 l4 (2 : Int32)) S l0 l4 (1 : Int32)))
def wl_X12_was_189 (bk75 : hp → Nat → Int32 → Int32 → Int32 → Int32 → Prop) (Q : Int32 → hp → Prop) : Nat → hp → Nat → Int32 → Int32 → Int32 → Int32 → Int32 → Prop
  | 0 => fun _ _ _ _ _ _ _ => False
  | n + 1 => wB_X12_was_189 bk75 (wl_X12_was_189 bk75 Q n) Q
def wB_X12_was_139 (bk75 : hp → Nat → Int32 → Int32 → Int32 → Int32 → Prop) (bk139 : hp → Nat → Int32 → Int32 → Int32 → Int32 → Int32 → Prop) (Q : Int32 → hp → Prop) (S : hp) (l0 : Nat) (l1 : Int32) (l2 : Int32) (l3 : Int32) (l4 : Int32) (l6 : Int32) : Prop :=
  (((12 : Int32) ≤ l6 → wB_X12_was_261 bk75 Q S l0 l1 l2 l3 l4) ∧ (¬ (12 : Int32) ≤ l6 → hK S l0 = 11 ∧ ∃ r59 : Nat, hR S l0 18 = some r59 ∧ hK S r59 = 12 ∧ vp_in l6 (hN S r59) ∧ ∃ r62 : Nat, hR S l0 5 = some r62 ∧ hK S r62 = 12 ∧ vp_in ((17 : Int32) + l6) (hN S r62) ∧ wp_X12_lessOf (fun r66 S65 => hK S65 r59 = 12 ∧ vp_in l6 (hN S65 r59) ∧ ∀ S69 : hp, S69 = setI S65 r59 (l6).toNatClampNeg ((hI S r59 (l6).toNatClampNeg) - r66) → ∀ v72 : Int32, v72 = l6 + (1 : Int32) → bk139 S69 l0 l1 l2 l3 l4 v72) S l0 ((hI S r59 (l6).toNatClampNeg)) ((hI S r62 (((17 : Int32) + l6)).toNatClampNeg))))
def wl_X12_was_139 (bk75 : hp → Nat → Int32 → Int32 → Int32 → Int32 → Prop) (Q : Int32 → hp → Prop) : Nat → hp → Nat → Int32 → Int32 → Int32 → Int32 → Int32 → Prop
  | 0 => fun _ _ _ _ _ _ _ => False
  | n + 1 => wB_X12_was_139 bk75 (wl_X12_was_139 bk75 Q n) Q
def wB_X12_was_75 (bk75 : hp → Nat → Int32 → Int32 → Int32 → Int32 → Prop) (Q : Int32 → hp → Prop) (S : hp) (l0 : Nat) (l1 : Int32) (l2 : Int32) (l3 : Int32) (l4 : Int32) : Prop :=
  ((l1 ≤ l4 → hK S l0 = 11 ∧ ∃ r20 : Nat, hR S l0 18 = some r20 ∧ hK S r20 = 12 ∧ vp_in (((3 : Int32) * l2) + l3) (hN S r20) ∧ Q (hI S r20 ((((3 : Int32) * l2) + l3)).toNatClampNeg) S) ∧ (¬ l1 ≤ l4 → hK S l0 = 11 ∧ wp_X12_lineOf (fun r25 S23 => ((¬ r25 = 0 → ((¬ r25 = (1 : Int32) → ∃ n : Nat, wl_X12_was_189 bk75 Q n S23 l0 l1 l2 l3 l4 (0 : Int32)) ∧ (r25 = (1 : Int32) → ∃ n : Nat, wl_X12_was_139 bk75 Q n S23 l0 l1 l2 l3 l4 (0 : Int32)))) ∧ (r25 = 0 → hK S23 l0 = 11 ∧ ∃ r74 : Nat, hR S23 l0 18 = some r74 ∧ wp_X12_lineOf (fun r76 S75 => hK S75 l0 = 11 ∧ wp_X12_lineOf (fun r79 S77 => hK S77 r74 = 12 ∧ vp_in (((3 : Int32) * r76) + r79) (hN S77 r74) ∧ hK S77 l0 = 11 ∧ wp_X12_lineOf (fun r84 S82 => hK S82 r74 = 12 ∧ vp_in (((3 : Int32) * r76) + r79) (hN S82 r74) ∧ ∀ S87 : hp, S87 = setI S82 r74 ((((3 : Int32) * r76) + r79)).toNatClampNeg ((hI S77 r74 ((((3 : Int32) * r76) + r79)).toNatClampNeg) + r84) → wB_X12_was_261 bk75 Q S87 l0 l1 l2 l3 l4) S77 l0 l4 (5 : Int32)) S75 l0 l4 (3 : Int32)) S23 l0 l4 (2 : Int32)))) S l0 l4 (0 : Int32)))
def wl_X12_was_75 (Q : Int32 → hp → Prop) : Nat → hp → Nat → Int32 → Int32 → Int32 → Int32 → Prop
  | 0 => fun _ _ _ _ _ _ => False
  | n + 1 => wB_X12_was_75 (wl_X12_was_75 Q n) Q
def wB_X12_was_42 (bk42 : hp → Nat → Int32 → Int32 → Int32 → Int32 → Prop) (Q : Int32 → hp → Prop) (S : hp) (l0 : Nat) (l1 : Int32) (l2 : Int32) (l3 : Int32) (l4 : Int32) : Prop :=
  (((12 : Int32) ≤ l4 → ∃ n : Nat, wl_X12_was_75 Q n S l0 l1 l2 l3 (0 : Int32)) ∧ (¬ (12 : Int32) ≤ l4 → hK S l0 = 11 ∧ ∃ r91 : Nat, hR S l0 18 = some r91 ∧ ∃ r92 : Nat, hR S l0 5 = some r92 ∧ hK S r92 = 12 ∧ vp_in ((17 : Int32) + l4) (hN S r92) ∧ hK S r91 = 12 ∧ vp_in l4 (hN S r91) ∧ ∀ S97 : hp, S97 = setI S r91 (l4).toNatClampNeg (hI S r92 (((17 : Int32) + l4)).toNatClampNeg) → ∀ v105 : Int32, v105 = l4 + (1 : Int32) → bk42 S97 l0 l1 l2 l3 v105))
def wl_X12_was_42 (Q : Int32 → hp → Prop) : Nat → hp → Nat → Int32 → Int32 → Int32 → Int32 → Prop
  | 0 => fun _ _ _ _ _ _ => False
  | n + 1 => wB_X12_was_42 (wl_X12_was_42 Q n) Q
def wp_X12_was (Q : Int32 → hp → Prop) (S : hp) (a0 : Nat) (x1 : Int32) (x2 : Int32) (x3 : Int32) : Prop :=
  hK S a0 = 11 ∧ ∀ S2 : hp, S2 = setI S a0 0 (0 : Int32) → ∃ r4 : Nat, hR S2 a0 5 = some r4 ∧ hK S2 r4 = 12 ∧ vp_in (4 : Int32) (hN S2 r4) ∧ wp_X12_in (fun r8 S7 => ((r8 = 0 → Q (-1000001 : Int32) S7) ∧ (¬ r8 = 0 → hK S7 a0 = 11 ∧ wp_X12_isDummy (fun r12 S10 => ((r12 = 0 → Q (-1000001 : Int32) S10) ∧ (¬ r12 = 0 → wp_X12_isPlace (fun r15 S14 => ((¬ r15 = 0 → ∃ n : Nat, wl_X12_was_42 Q n S14 a0 x1 x2 x3 (0 : Int32)) ∧ (r15 = 0 → Q (-1000001 : Int32) S14))) S10 x3))) S7 a0 x2))) S2 ((x1).toInt64) ((0 : Int64)) (((hI S2 r4 ((4 : Int32)).toNatClampNeg)).toInt64)
theorem k_X12_was : Cond.code yX12_was cX12_was 10 (some .int) ∈ gtb := mg 1195 (by decide +kernel) (by decide +kernel)
theorem dn_X12_was : yX12_was.cls ≠ "java/lang/invoke/MethodHandle" ∧ yX12_was.cls ≠ "java/lang/invoke/VarHandle" ∧ (parseMethodDescriptor yX12_was.desc).map (fun d => d.parameters.length) = some 3 := by decide +kernel
set_option maxRecDepth 100000 in
set_option maxHeartbeats 4000000 in
theorem s_X12_was (l : Launch) (b : Nat) (D : va_G) (cy : Nat → ClassId) {Q : Int32 → hp → Prop} {S : hp} {a0 : Nat} {x1 : Int32} {x2 : Int32} {x3 : Int32} (h : wp_X12_was Q S a0 x1 x2 x3) : MT l yX12_was cX12_was 10 (some .int) 2 46 0 0 b D cy S [.ref a0, .int x1, .int x2, .int x3] (pI Q) := by
  refine MT.of (by decide +kernel) (Nat.le_of_ble_eq_true rfl) ?_
  intro p e s m args below meth c X hr hlk hnm
  have j261 : ∀ (bk75 : hp → Nat → Int32 → Int32 → Int32 → Int32 → Prop) (hbk75 : ∀ (S : hp) (l0 : Nat) (l1 : Int32) (l2 : Int32) (l3 : Int32) (l4 : Int32), bk75 S l0 l1 l2 l3 l4 → VM l b D cy 10 2 46 0 0 (pI Q) p e s m args below meth c S 0 0 75 [(0, .ref l0), (1, .int l1), (2, .int l2), (3, .int l3), (4, .int l4)] []) (S : hp) (l0 : Nat) (l1 : Int32) (l2 : Int32) (l3 : Int32) (l4 : Int32), wB_X12_was_261 bk75 Q S l0 l1 l2 l3 l4 → VM l b D cy 10 2 46 0 0 (pI Q) p e s m args below meth c S 0 0 261 [(0, .ref l0), (1, .int l1), (2, .int l2), (3, .int l3), (4, .int l4)] [] := by
    intro bk75 hbk75 S l0 l1 l2 l3 l4 h
    unfold wB_X12_was_261 at h
    obtain ⟨v29, hv29⟩ : ∃ y : Int32, y = l4 + (1 : Int32) := ⟨_, rfl⟩
    replace h := h v29 hv29
    refine v_iinc X (j := 4) (v := v29) (lv' := [(4, .int v29), (0, .ref l0), (1, .int l1), (2, .int l2), (3, .int l3)]) dX12_was_261 rfl (by rw [hv29] <;> rfl) (by decide) rfl ?_
    refine v_goto X (tgt := 75) dX12_was_264 (by decide) ?_
    refine v_lv (lv' := [(0, .ref l0), (1, .int l1), (2, .int l2), (3, .int l3), (4, .int v29)]) [1, 2, 3, 4, 0] rfl ?_
    exact hbk75 _ _ _ _ _ _ h
  have j189 : ∀ (bk75 : hp → Nat → Int32 → Int32 → Int32 → Int32 → Prop) (hbk75 : ∀ (S : hp) (l0 : Nat) (l1 : Int32) (l2 : Int32) (l3 : Int32) (l4 : Int32), bk75 S l0 l1 l2 l3 l4 → VM l b D cy 10 2 46 0 0 (pI Q) p e s m args below meth c S 0 0 75 [(0, .ref l0), (1, .int l1), (2, .int l2), (3, .int l3), (4, .int l4)] []) (bk189 : hp → Nat → Int32 → Int32 → Int32 → Int32 → Int32 → Prop) (hbk189 : ∀ (S : hp) (l0 : Nat) (l1 : Int32) (l2 : Int32) (l3 : Int32) (l4 : Int32) (l6 : Int32), bk189 S l0 l1 l2 l3 l4 l6 → VM l b D cy 10 2 46 0 0 (pI Q) p e s m args below meth c S 0 0 189 [(0, .ref l0), (1, .int l1), (2, .int l2), (3, .int l3), (4, .int l4), (6, .int l6)] []) (S : hp) (l0 : Nat) (l1 : Int32) (l2 : Int32) (l3 : Int32) (l4 : Int32) (l6 : Int32), wB_X12_was_189 bk75 bk189 Q S l0 l1 l2 l3 l4 l6 → VM l b D cy 10 2 46 0 0 (pI Q) p e s m args below meth c S 0 0 189 [(0, .ref l0), (1, .int l1), (2, .int l2), (3, .int l3), (4, .int l4), (6, .int l6)] [] := by
    intro bk75 hbk75 bk189 hbk189 S l0 l1 l2 l3 l4 l6 h
    unfold wB_X12_was_189 at h
    refine v_iload X 5 dX12_was_189 rfl ?_
    refine v_iconst X (v := 3) dX12_was_191 (by decide) ?_
    refine v_icmp_ge X (tgt := 261) dX12_was_192 (by decide) (fun c28 => ?_) (fun c28 => ?_)
    · replace h := h.1 c28
      refine v_lv (lv' := [(0, .ref l0), (1, .int l1), (2, .int l2), (3, .int l3), (4, .int l4)]) [0, 1, 2, 3, 4] rfl ?_
      exact j261 bk75 hbk75 _ _ _ _ _ _ h
    · replace h := h.2 c28
      refine v_iconst X (v := 3) dX12_was_195 (by decide) ?_
      refine v_aload_n X 0 dX12_was_196 rfl rfl ?_
      refine v_iload X 4 dX12_was_197 rfl ?_
      refine v_iconst X (v := 1) dX12_was_199 (by decide) ?_
      obtain ⟨hk31, h⟩ := h
      refine v_callV X (av := [.int l4, .int (1 : Int32)]) (T := TX12) (N := 26) (s_X12_lineOf l b D cy h) hk31 (by decide) rfl wd1184 wd1186 wd40 wd62 k_X12_lineOf dn_X12_lineOf rfl ⟨Nat.le_of_ble_eq_true rfl, Nat.le_of_ble_eq_true rfl⟩ (Nat.le_of_ble_eq_true rfl) ⟨Nat.le_of_ble_eq_true rfl, Nat.le_of_ble_eq_true rfl⟩ dX12_was_200 rfl (kI (fun r32 S30 h => ?_))
      refine v_imul X dX12_was_203 ?_
      refine v_iload X 5 dX12_was_204 rfl ?_
      refine v_iadd X dX12_was_206 ?_
      refine v_nm (fun v33 hv33 => ?_)
      replace h := h v33 hv33
      refine v_istore X (lv' := [(7, .int v33), (0, .ref l0), (1, .int l1), (2, .int l2), (3, .int l3), (4, .int l4), (6, .int l6)]) dX12_was_207 (by decide) rfl ?_
      refine v_iconst X (v := 3) dX12_was_209 (by decide) ?_
      refine v_aload_n X 1 dX12_was_210 rfl rfl ?_
      refine v_iload X 5 dX12_was_211 rfl ?_
      refine v_iconst X (v := 2) dX12_was_213 (by decide) ?_
      obtain ⟨hk35, h⟩ := h
      refine v_callV X (av := [.int l4, .int (2 : Int32)]) (T := TX12) (N := 26) (s_X12_lineOf l b D cy h) hk35 (by decide) rfl wd1184 wd1186 wd40 wd62 k_X12_lineOf dn_X12_lineOf rfl ⟨Nat.le_of_ble_eq_true rfl, Nat.le_of_ble_eq_true rfl⟩ (Nat.le_of_ble_eq_true rfl) ⟨Nat.le_of_ble_eq_true rfl, Nat.le_of_ble_eq_true rfl⟩ dX12_was_214 rfl (kI (fun r36 S34 h => ?_))
      refine v_imul X dX12_was_217 ?_
      refine v_iload X 6 dX12_was_218 rfl ?_
      refine v_iadd X dX12_was_220 ?_
      refine v_nm (fun v37 hv37 => ?_)
      replace h := h v37 hv37
      refine v_istore X (lv' := [(8, .int v37), (7, .int v33), (0, .ref l0), (1, .int l1), (2, .int l2), (3, .int l3), (4, .int l4), (6, .int l6)]) dX12_was_221 (by decide) rfl ?_
      refine v_aload_n X 2 dX12_was_223 rfl rfl ?_
      obtain ⟨hk38, h⟩ := h
      obtain ⟨r39, hr39, h⟩ := h
      refine v_getR X (T := TX12) (N := 26) (k := 18) hk38 (by decide) rfl (by decide) inX12 wd957 rfl dX12_was_224 hr39 ?_
      refine v_iload X 1 dX12_was_227 rfl ?_
      obtain ⟨hk40, h⟩ := h
      obtain ⟨hi41, h⟩ := h
      refine v_iald X hk40 hi41 dX12_was_229 ?_
      refine v_nm (fun v42 hv42 => ?_)
      replace h := h v42 hv42
      refine v_istore X (lv' := [(9, .int v42), (8, .int v37), (7, .int v33), (0, .ref l0), (1, .int l1), (2, .int l2), (3, .int l3), (4, .int l4), (6, .int l6)]) dX12_was_230 (by decide) rfl ?_
      refine v_aload_n X 3 dX12_was_232 rfl rfl ?_
      refine v_getR X (T := TX12) (N := 26) (k := 18) hk38 (by decide) rfl (by decide) inX12 wd957 rfl dX12_was_233 hr39 ?_
      refine v_iload X 2 dX12_was_236 rfl ?_
      refine v_aload_n X 3 dX12_was_238 rfl rfl ?_
      refine v_getR X (T := TX12) (N := 26) (k := 18) hk38 (by decide) rfl (by decide) inX12 wd957 rfl dX12_was_239 hr39 ?_
      refine v_iload X 1 dX12_was_242 rfl ?_
      obtain ⟨hi43, h⟩ := h
      refine v_iald X hk40 hi43 dX12_was_244 ?_
      refine v_iast X hk40 hi41 dX12_was_245 ?_
      refine v_nmS (fun S44 eS44 => ?_)
      replace h := h S44 eS44
      have hk45 : hK S44 l0 = 11 := by rw [eS44]; exact hk38
      have hk46 : hK S44 r39 = 12 := by rw [eS44]; exact hk40
      have hi47 : vp_in v33 (hN S44 r39) := by rw [eS44]; exact hi41
      have hi48 : vp_in v37 (hN S44 r39) := by rw [eS44]; exact hi43
      have hr49 : hR S44 l0 18 = some r39 := by rw [eS44]; exact hr39
      refine v_aload_n X 3 dX12_was_246 rfl rfl ?_
      refine v_getR X (T := TX12) (N := 26) (k := 18) hk45 (by decide) rfl (by decide) inX12 wd957 rfl dX12_was_247 hr49 ?_
      refine v_iload X 1 dX12_was_250 rfl ?_
      refine v_iload X 0 dX12_was_252 rfl ?_
      refine v_iast X hk46 hi48 dX12_was_254 ?_
      refine v_nmS (fun S50 eS50 => ?_)
      replace h := h S50 eS50
      have hk51 : hK S50 l0 = 11 := by rw [eS50]; exact hk45
      have hk52 : hK S50 r39 = 12 := by rw [eS50]; exact hk46
      have hi53 : vp_in v33 (hN S50 r39) := by rw [eS50]; exact hi47
      have hi54 : vp_in v37 (hN S50 r39) := by rw [eS50]; exact hi48
      have hr55 : hR S50 l0 18 = some r39 := by rw [eS50]; exact hr49
      obtain ⟨v56, hv56⟩ : ∃ y : Int32, y = l6 + (1 : Int32) := ⟨_, rfl⟩
      replace h := h v56 hv56
      refine v_iinc X (j := 8) (v := v56) (lv' := [(6, .int v56), (9, .int v42), (8, .int v37), (7, .int v33), (0, .ref l0), (1, .int l1), (2, .int l2), (3, .int l3), (4, .int l4)]) dX12_was_255 rfl (by rw [hv56] <;> rfl) (by decide) rfl ?_
      refine v_goto X (tgt := 189) dX12_was_258 (by decide) ?_
      refine v_lv (lv' := [(0, .ref l0), (1, .int l1), (2, .int l2), (3, .int l3), (4, .int l4), (6, .int v56)]) [4, 5, 6, 7, 8, 0] rfl ?_
      exact hbk189 _ _ _ _ _ _ _ h
  have l189 : ∀ (bk75 : hp → Nat → Int32 → Int32 → Int32 → Int32 → Prop) (hbk75 : ∀ (S : hp) (l0 : Nat) (l1 : Int32) (l2 : Int32) (l3 : Int32) (l4 : Int32), bk75 S l0 l1 l2 l3 l4 → VM l b D cy 10 2 46 0 0 (pI Q) p e s m args below meth c S 0 0 75 [(0, .ref l0), (1, .int l1), (2, .int l2), (3, .int l3), (4, .int l4)] []) (n : Nat) (S : hp) (l0 : Nat) (l1 : Int32) (l2 : Int32) (l3 : Int32) (l4 : Int32) (l6 : Int32), wl_X12_was_189 bk75 Q n S l0 l1 l2 l3 l4 l6 → VM l b D cy 10 2 46 0 0 (pI Q) p e s m args below meth c S 0 0 189 [(0, .ref l0), (1, .int l1), (2, .int l2), (3, .int l3), (4, .int l4), (6, .int l6)] [] := by
    intro bk75 hbk75 n
    induction n with
    | zero => intro S l0 l1 l2 l3 l4 l6 h; exact h.elim
    | succ n ih => intro S l0 l1 l2 l3 l4 l6 h; exact j189 bk75 hbk75 (wl_X12_was_189 bk75 Q n) ih S l0 l1 l2 l3 l4 l6 h
  have j139 : ∀ (bk75 : hp → Nat → Int32 → Int32 → Int32 → Int32 → Prop) (hbk75 : ∀ (S : hp) (l0 : Nat) (l1 : Int32) (l2 : Int32) (l3 : Int32) (l4 : Int32), bk75 S l0 l1 l2 l3 l4 → VM l b D cy 10 2 46 0 0 (pI Q) p e s m args below meth c S 0 0 75 [(0, .ref l0), (1, .int l1), (2, .int l2), (3, .int l3), (4, .int l4)] []) (bk139 : hp → Nat → Int32 → Int32 → Int32 → Int32 → Int32 → Prop) (hbk139 : ∀ (S : hp) (l0 : Nat) (l1 : Int32) (l2 : Int32) (l3 : Int32) (l4 : Int32) (l6 : Int32), bk139 S l0 l1 l2 l3 l4 l6 → VM l b D cy 10 2 46 0 0 (pI Q) p e s m args below meth c S 0 0 139 [(0, .ref l0), (1, .int l1), (2, .int l2), (3, .int l3), (4, .int l4), (6, .int l6)] []) (S : hp) (l0 : Nat) (l1 : Int32) (l2 : Int32) (l3 : Int32) (l4 : Int32) (l6 : Int32), wB_X12_was_139 bk75 bk139 Q S l0 l1 l2 l3 l4 l6 → VM l b D cy 10 2 46 0 0 (pI Q) p e s m args below meth c S 0 0 139 [(0, .ref l0), (1, .int l1), (2, .int l2), (3, .int l3), (4, .int l4), (6, .int l6)] [] := by
    intro bk75 hbk75 bk139 hbk139 S l0 l1 l2 l3 l4 l6 h
    unfold wB_X12_was_139 at h
    refine v_iload X 5 dX12_was_139 rfl ?_
    refine v_bipush X (v := 12) dX12_was_141 (by decide) ?_
    refine v_icmp_ge X (tgt := 183) dX12_was_143 (by decide) (fun c57 => ?_) (fun c57 => ?_)
    · replace h := h.1 c57
      refine v_goto X (tgt := 261) dX12_was_183 (by decide) ?_
      refine v_lv (lv' := [(0, .ref l0), (1, .int l1), (2, .int l2), (3, .int l3), (4, .int l4)]) [0, 1, 2, 3, 4] rfl ?_
      exact j261 bk75 hbk75 _ _ _ _ _ _ h
    · replace h := h.2 c57
      refine v_aload_n X 0 dX12_was_146 rfl rfl ?_
      obtain ⟨hk58, h⟩ := h
      obtain ⟨r59, hr59, h⟩ := h
      refine v_getR X (T := TX12) (N := 26) (k := 18) hk58 (by decide) rfl (by decide) inX12 wd957 rfl dX12_was_147 hr59 ?_
      refine v_iload X 5 dX12_was_150 rfl ?_
      refine v_dup2 X dX12_was_152 rfl rfl ?_
      obtain ⟨hk60, h⟩ := h
      obtain ⟨hi61, h⟩ := h
      refine v_iald X hk60 hi61 dX12_was_153 ?_
      refine v_aload_n X 0 dX12_was_154 rfl rfl ?_
      refine v_aload_n X 0 dX12_was_155 rfl rfl ?_
      refine v_getR X (T := TX12) (N := 26) (k := 18) hk58 (by decide) rfl (by decide) inX12 wd957 rfl dX12_was_156 hr59 ?_
      refine v_iload X 5 dX12_was_159 rfl ?_
      refine v_iald X hk60 hi61 dX12_was_161 ?_
      refine v_aload_n X 0 dX12_was_162 rfl rfl ?_
      obtain ⟨r62, hr62, h⟩ := h
      refine v_getR X (T := TX12) (N := 26) (k := 5) hk58 (by decide) rfl (by decide) inX12 wd944 rfl dX12_was_163 hr62 ?_
      refine v_bipush X (v := 17) dX12_was_166 (by decide) ?_
      refine v_iload X 5 dX12_was_168 rfl ?_
      refine v_iadd X dX12_was_170 ?_
      obtain ⟨hk63, h⟩ := h
      obtain ⟨hi64, h⟩ := h
      refine v_iald X hk63 hi64 dX12_was_171 ?_
      refine v_callV X (av := [.int (hI S r59 (l6).toNatClampNeg), .int (hI S r62 (((17 : Int32) + l6)).toNatClampNeg)]) (T := TX12) (N := 26) (s_X12_lessOf l b D cy h) hk58 (by decide) rfl wd1155 wd1157 wd38 wd62 k_X12_lessOf dn_X12_lessOf rfl ⟨Nat.le_of_ble_eq_true rfl, Nat.le_of_ble_eq_true rfl⟩ (Nat.le_of_ble_eq_true rfl) ⟨Nat.le_of_ble_eq_true rfl, Nat.le_of_ble_eq_true rfl⟩ dX12_was_172 rfl (kI (fun r66 S65 h => ?_))
      refine v_isub X dX12_was_175 ?_
      obtain ⟨hk67, h⟩ := h
      obtain ⟨hi68, h⟩ := h
      refine v_iast X hk67 hi68 dX12_was_176 ?_
      refine v_nmS (fun S69 eS69 => ?_)
      replace h := h S69 eS69
      have hk70 : hK S69 r59 = 12 := by rw [eS69]; exact hk67
      have hi71 : vp_in l6 (hN S69 r59) := by rw [eS69]; exact hi68
      obtain ⟨v72, hv72⟩ : ∃ y : Int32, y = l6 + (1 : Int32) := ⟨_, rfl⟩
      replace h := h v72 hv72
      refine v_iinc X (j := 5) (v := v72) (lv' := [(6, .int v72), (0, .ref l0), (1, .int l1), (2, .int l2), (3, .int l3), (4, .int l4)]) dX12_was_177 rfl (by rw [hv72] <;> rfl) (by decide) rfl ?_
      refine v_goto X (tgt := 139) dX12_was_180 (by decide) ?_
      refine v_lv (lv' := [(0, .ref l0), (1, .int l1), (2, .int l2), (3, .int l3), (4, .int l4), (6, .int v72)]) [1, 2, 3, 4, 5, 0] rfl ?_
      exact hbk139 _ _ _ _ _ _ _ h
  have l139 : ∀ (bk75 : hp → Nat → Int32 → Int32 → Int32 → Int32 → Prop) (hbk75 : ∀ (S : hp) (l0 : Nat) (l1 : Int32) (l2 : Int32) (l3 : Int32) (l4 : Int32), bk75 S l0 l1 l2 l3 l4 → VM l b D cy 10 2 46 0 0 (pI Q) p e s m args below meth c S 0 0 75 [(0, .ref l0), (1, .int l1), (2, .int l2), (3, .int l3), (4, .int l4)] []) (n : Nat) (S : hp) (l0 : Nat) (l1 : Int32) (l2 : Int32) (l3 : Int32) (l4 : Int32) (l6 : Int32), wl_X12_was_139 bk75 Q n S l0 l1 l2 l3 l4 l6 → VM l b D cy 10 2 46 0 0 (pI Q) p e s m args below meth c S 0 0 139 [(0, .ref l0), (1, .int l1), (2, .int l2), (3, .int l3), (4, .int l4), (6, .int l6)] [] := by
    intro bk75 hbk75 n
    induction n with
    | zero => intro S l0 l1 l2 l3 l4 l6 h; exact h.elim
    | succ n ih => intro S l0 l1 l2 l3 l4 l6 h; exact j139 bk75 hbk75 (wl_X12_was_139 bk75 Q n) ih S l0 l1 l2 l3 l4 l6 h
  have j75 : ∀ (bk75 : hp → Nat → Int32 → Int32 → Int32 → Int32 → Prop) (hbk75 : ∀ (S : hp) (l0 : Nat) (l1 : Int32) (l2 : Int32) (l3 : Int32) (l4 : Int32), bk75 S l0 l1 l2 l3 l4 → VM l b D cy 10 2 46 0 0 (pI Q) p e s m args below meth c S 0 0 75 [(0, .ref l0), (1, .int l1), (2, .int l2), (3, .int l3), (4, .int l4)] []) (S : hp) (l0 : Nat) (l1 : Int32) (l2 : Int32) (l3 : Int32) (l4 : Int32), wB_X12_was_75 bk75 Q S l0 l1 l2 l3 l4 → VM l b D cy 10 2 46 0 0 (pI Q) p e s m args below meth c S 0 0 75 [(0, .ref l0), (1, .int l1), (2, .int l2), (3, .int l3), (4, .int l4)] [] := by
    intro bk75 hbk75 S l0 l1 l2 l3 l4 h
    unfold wB_X12_was_75 at h
    refine v_iload X 4 dX12_was_75 rfl ?_
    refine v_iload_n X 1 dX12_was_77 rfl rfl ?_
    refine v_icmp_ge X (tgt := 267) dX12_was_78 (by decide) (fun c18 => ?_) (fun c18 => ?_)
    · replace h := h.1 c18
      refine v_aload_n X 0 dX12_was_267 rfl rfl ?_
      obtain ⟨hk19, h⟩ := h
      obtain ⟨r20, hr20, h⟩ := h
      refine v_getR X (T := TX12) (N := 26) (k := 18) hk19 (by decide) rfl (by decide) inX12 wd957 rfl dX12_was_268 hr20 ?_
      refine v_iconst X (v := 3) dX12_was_271 (by decide) ?_
      refine v_iload_n X 2 dX12_was_272 rfl rfl ?_
      refine v_imul X dX12_was_273 ?_
      refine v_iload_n X 3 dX12_was_274 rfl rfl ?_
      refine v_iadd X dX12_was_275 ?_
      obtain ⟨hk21, h⟩ := h
      obtain ⟨hi22, h⟩ := h
      refine v_iald X hk21 hi22 dX12_was_276 ?_
      exact v_iret X hr hlk ⟨_, rfl, h⟩ dX12_was_277
    · replace h := h.2 c18
      refine v_aload_n X 0 dX12_was_81 rfl rfl ?_
      refine v_iload X 4 dX12_was_82 rfl ?_
      refine v_iconst X (v := 0) dX12_was_84 (by decide) ?_
      obtain ⟨hk24, h⟩ := h
      refine v_callV X (av := [.int l4, .int (0 : Int32)]) (T := TX12) (N := 26) (s_X12_lineOf l b D cy h) hk24 (by decide) rfl wd1184 wd1186 wd40 wd62 k_X12_lineOf dn_X12_lineOf rfl ⟨Nat.le_of_ble_eq_true rfl, Nat.le_of_ble_eq_true rfl⟩ (Nat.le_of_ble_eq_true rfl) ⟨Nat.le_of_ble_eq_true rfl, Nat.le_of_ble_eq_true rfl⟩ dX12_was_85 rfl (kI (fun r25 S23 h => ?_))
      refine v_istore X (lv' := [(5, .int r25), (0, .ref l0), (1, .int l1), (2, .int l2), (3, .int l3), (4, .int l4)]) dX12_was_88 (by decide) rfl ?_
      refine v_iload X 0 dX12_was_90 rfl ?_
      refine v_if_ne X (tgt := 130) dX12_was_92 (by decide) (fun c26 => ?_) (fun c26 => ?_)
      · replace h := h.1 c26
        refine v_iload X 0 dX12_was_130 rfl ?_
        refine v_iconst X (v := 1) dX12_was_132 (by decide) ?_
        refine v_icmp_ne X (tgt := 186) dX12_was_133 (by decide) (fun c27 => ?_) (fun c27 => ?_)
        · replace h := h.1 c27
          refine v_iconst X (v := 0) dX12_was_186 (by decide) ?_
          refine v_istore X (lv' := [(6, .int (0 : Int32)), (5, .int r25), (0, .ref l0), (1, .int l1), (2, .int l2), (3, .int l3), (4, .int l4)]) dX12_was_187 (by decide) rfl ?_
          refine v_lv (lv' := [(0, .ref l0), (1, .int l1), (2, .int l2), (3, .int l3), (4, .int l4), (6, .int (0 : Int32))]) [2, 3, 4, 5, 6, 0] rfl ?_
          obtain ⟨n, h⟩ := h
          exact l189 bk75 hbk75 n _ _ _ _ _ _ _ h
        · replace h := h.2 c27
          refine v_iconst X (v := 0) dX12_was_136 (by decide) ?_
          refine v_istore X (lv' := [(6, .int (0 : Int32)), (5, .int r25), (0, .ref l0), (1, .int l1), (2, .int l2), (3, .int l3), (4, .int l4)]) dX12_was_137 (by decide) rfl ?_
          refine v_lv (lv' := [(0, .ref l0), (1, .int l1), (2, .int l2), (3, .int l3), (4, .int l4), (6, .int (0 : Int32))]) [2, 3, 4, 5, 6, 0] rfl ?_
          obtain ⟨n, h⟩ := h
          exact l139 bk75 hbk75 n _ _ _ _ _ _ _ h
      · replace h := h.2 c26
        refine v_aload_n X 1 dX12_was_95 rfl rfl ?_
        obtain ⟨hk73, h⟩ := h
        obtain ⟨r74, hr74, h⟩ := h
        refine v_getR X (T := TX12) (N := 26) (k := 18) hk73 (by decide) rfl (by decide) inX12 wd957 rfl dX12_was_96 hr74 ?_
        refine v_iconst X (v := 3) dX12_was_99 (by decide) ?_
        refine v_aload_n X 1 dX12_was_100 rfl rfl ?_
        refine v_iload X 5 dX12_was_101 rfl ?_
        refine v_iconst X (v := 2) dX12_was_103 (by decide) ?_
        refine v_callV X (av := [.int l4, .int (2 : Int32)]) (T := TX12) (N := 26) (s_X12_lineOf l b D cy h) hk73 (by decide) rfl wd1184 wd1186 wd40 wd62 k_X12_lineOf dn_X12_lineOf rfl ⟨Nat.le_of_ble_eq_true rfl, Nat.le_of_ble_eq_true rfl⟩ (Nat.le_of_ble_eq_true rfl) ⟨Nat.le_of_ble_eq_true rfl, Nat.le_of_ble_eq_true rfl⟩ dX12_was_104 rfl (kI (fun r76 S75 h => ?_))
        refine v_imul X dX12_was_107 ?_
        refine v_aload_n X 1 dX12_was_108 rfl rfl ?_
        refine v_iload X 5 dX12_was_109 rfl ?_
        refine v_iconst X (v := 3) dX12_was_111 (by decide) ?_
        obtain ⟨hk78, h⟩ := h
        refine v_callV X (av := [.int l4, .int (3 : Int32)]) (T := TX12) (N := 26) (s_X12_lineOf l b D cy h) hk78 (by decide) rfl wd1184 wd1186 wd40 wd62 k_X12_lineOf dn_X12_lineOf rfl ⟨Nat.le_of_ble_eq_true rfl, Nat.le_of_ble_eq_true rfl⟩ (Nat.le_of_ble_eq_true rfl) ⟨Nat.le_of_ble_eq_true rfl, Nat.le_of_ble_eq_true rfl⟩ dX12_was_112 rfl (kI (fun r79 S77 h => ?_))
        refine v_iadd X dX12_was_115 ?_
        refine v_dup2 X dX12_was_116 rfl rfl ?_
        obtain ⟨hk80, h⟩ := h
        obtain ⟨hi81, h⟩ := h
        refine v_iald X hk80 hi81 dX12_was_117 ?_
        refine v_aload_n X 1 dX12_was_118 rfl rfl ?_
        refine v_iload X 5 dX12_was_119 rfl ?_
        refine v_iconst X (v := 5) dX12_was_121 (by decide) ?_
        obtain ⟨hk83, h⟩ := h
        refine v_callV X (av := [.int l4, .int (5 : Int32)]) (T := TX12) (N := 26) (s_X12_lineOf l b D cy h) hk83 (by decide) rfl wd1184 wd1186 wd40 wd62 k_X12_lineOf dn_X12_lineOf rfl ⟨Nat.le_of_ble_eq_true rfl, Nat.le_of_ble_eq_true rfl⟩ (Nat.le_of_ble_eq_true rfl) ⟨Nat.le_of_ble_eq_true rfl, Nat.le_of_ble_eq_true rfl⟩ dX12_was_122 rfl (kI (fun r84 S82 h => ?_))
        refine v_iadd X dX12_was_125 ?_
        obtain ⟨hk85, h⟩ := h
        obtain ⟨hi86, h⟩ := h
        refine v_iast X hk85 hi86 dX12_was_126 ?_
        refine v_nmS (fun S87 eS87 => ?_)
        replace h := h S87 eS87
        have hk88 : hK S87 r74 = 12 := by rw [eS87]; exact hk85
        have hi89 : vp_in (((3 : Int32) * r76) + r79) (hN S87 r74) := by rw [eS87]; exact hi86
        refine v_goto X (tgt := 261) dX12_was_127 (by decide) ?_
        refine v_lv (lv' := [(0, .ref l0), (1, .int l1), (2, .int l2), (3, .int l3), (4, .int l4)]) [1, 2, 3, 4, 5] rfl ?_
        exact j261 bk75 hbk75 _ _ _ _ _ _ h
  have l75 : ∀  (n : Nat) (S : hp) (l0 : Nat) (l1 : Int32) (l2 : Int32) (l3 : Int32) (l4 : Int32), wl_X12_was_75 Q n S l0 l1 l2 l3 l4 → VM l b D cy 10 2 46 0 0 (pI Q) p e s m args below meth c S 0 0 75 [(0, .ref l0), (1, .int l1), (2, .int l2), (3, .int l3), (4, .int l4)] [] := by
    intro  n
    induction n with
    | zero => intro S l0 l1 l2 l3 l4 h; exact h.elim
    | succ n ih => intro S l0 l1 l2 l3 l4 h; exact j75 (wl_X12_was_75 Q n) ih S l0 l1 l2 l3 l4 h
  have j42 : ∀ (bk42 : hp → Nat → Int32 → Int32 → Int32 → Int32 → Prop) (hbk42 : ∀ (S : hp) (l0 : Nat) (l1 : Int32) (l2 : Int32) (l3 : Int32) (l4 : Int32), bk42 S l0 l1 l2 l3 l4 → VM l b D cy 10 2 46 0 0 (pI Q) p e s m args below meth c S 0 0 42 [(0, .ref l0), (1, .int l1), (2, .int l2), (3, .int l3), (4, .int l4)] []) (S : hp) (l0 : Nat) (l1 : Int32) (l2 : Int32) (l3 : Int32) (l4 : Int32), wB_X12_was_42 bk42 Q S l0 l1 l2 l3 l4 → VM l b D cy 10 2 46 0 0 (pI Q) p e s m args below meth c S 0 0 42 [(0, .ref l0), (1, .int l1), (2, .int l2), (3, .int l3), (4, .int l4)] [] := by
    intro bk42 hbk42 S l0 l1 l2 l3 l4 h
    unfold wB_X12_was_42 at h
    refine v_iload X 4 dX12_was_42 rfl ?_
    refine v_bipush X (v := 12) dX12_was_44 (by decide) ?_
    refine v_icmp_ge X (tgt := 72) dX12_was_46 (by decide) (fun c17 => ?_) (fun c17 => ?_)
    · replace h := h.1 c17
      refine v_iconst X (v := 0) dX12_was_72 (by decide) ?_
      refine v_istore X (lv' := [(4, .int (0 : Int32)), (0, .ref l0), (1, .int l1), (2, .int l2), (3, .int l3)]) dX12_was_73 (by decide) rfl ?_
      refine v_lv (lv' := [(0, .ref l0), (1, .int l1), (2, .int l2), (3, .int l3), (4, .int (0 : Int32))]) [1, 2, 3, 4, 0] rfl ?_
      obtain ⟨n, h⟩ := h
      exact l75 n _ _ _ _ _ _ h
    · replace h := h.2 c17
      refine v_aload_n X 0 dX12_was_49 rfl rfl ?_
      obtain ⟨hk90, h⟩ := h
      obtain ⟨r91, hr91, h⟩ := h
      refine v_getR X (T := TX12) (N := 26) (k := 18) hk90 (by decide) rfl (by decide) inX12 wd957 rfl dX12_was_50 hr91 ?_
      refine v_iload X 4 dX12_was_53 rfl ?_
      refine v_aload_n X 0 dX12_was_55 rfl rfl ?_
      obtain ⟨r92, hr92, h⟩ := h
      refine v_getR X (T := TX12) (N := 26) (k := 5) hk90 (by decide) rfl (by decide) inX12 wd944 rfl dX12_was_56 hr92 ?_
      refine v_bipush X (v := 17) dX12_was_59 (by decide) ?_
      refine v_iload X 4 dX12_was_61 rfl ?_
      refine v_iadd X dX12_was_63 ?_
      obtain ⟨hk93, h⟩ := h
      obtain ⟨hi94, h⟩ := h
      refine v_iald X hk93 hi94 dX12_was_64 ?_
      obtain ⟨hk95, h⟩ := h
      obtain ⟨hi96, h⟩ := h
      refine v_iast X hk95 hi96 dX12_was_65 ?_
      refine v_nmS (fun S97 eS97 => ?_)
      replace h := h S97 eS97
      have hk98 : hK S97 l0 = 11 := by rw [eS97]; exact hk90
      have hk99 : hK S97 r92 = 12 := by rw [eS97]; exact hk93
      have hk100 : hK S97 r91 = 12 := by rw [eS97]; exact hk95
      have hi101 : vp_in ((17 : Int32) + l4) (hN S97 r92) := by rw [eS97]; exact hi94
      have hi102 : vp_in l4 (hN S97 r91) := by rw [eS97]; exact hi96
      have hr103 : hR S97 l0 18 = some r91 := by rw [eS97]; exact hr91
      have hr104 : hR S97 l0 5 = some r92 := by rw [eS97]; exact hr92
      obtain ⟨v105, hv105⟩ : ∃ y : Int32, y = l4 + (1 : Int32) := ⟨_, rfl⟩
      replace h := h v105 hv105
      refine v_iinc X (j := 4) (v := v105) (lv' := [(4, .int v105), (0, .ref l0), (1, .int l1), (2, .int l2), (3, .int l3)]) dX12_was_66 rfl (by rw [hv105] <;> rfl) (by decide) rfl ?_
      refine v_goto X (tgt := 42) dX12_was_69 (by decide) ?_
      refine v_lv (lv' := [(0, .ref l0), (1, .int l1), (2, .int l2), (3, .int l3), (4, .int v105)]) [1, 2, 3, 4, 0] rfl ?_
      exact hbk42 _ _ _ _ _ _ h
  have l42 : ∀  (n : Nat) (S : hp) (l0 : Nat) (l1 : Int32) (l2 : Int32) (l3 : Int32) (l4 : Int32), wl_X12_was_42 Q n S l0 l1 l2 l3 l4 → VM l b D cy 10 2 46 0 0 (pI Q) p e s m args below meth c S 0 0 42 [(0, .ref l0), (1, .int l1), (2, .int l2), (3, .int l3), (4, .int l4)] [] := by
    intro  n
    induction n with
    | zero => intro S l0 l1 l2 l3 l4 h; exact h.elim
    | succ n ih => intro S l0 l1 l2 l3 l4 h; exact j42 (wl_X12_was_42 Q n) ih S l0 l1 l2 l3 l4 h
  unfold wp_X12_was at h
  show VM l b D cy 10 2 46 0 0 (pI Q) p e s m args below meth c S 0 0 0 [(0, .ref a0), (1, .int x1), (2, .int x2), (3, .int x3)] []
  refine v_aload_n X 0 dX12_was_0 rfl rfl ?_
  refine v_iconst X (v := 0) dX12_was_1 (by decide) ?_
  obtain ⟨hk1, h⟩ := h
  refine v_putI X (T := TX12) (N := 26) (k := 0) hk1 (by decide) rfl (by decide) inX12 wd939 tyX12 tyX12_ok nmX12 rfl rfl rfl rfl dX12_was_2 ?_
  refine v_nmS (fun S2 eS2 => ?_)
  replace h := h S2 eS2
  have hk3 : hK S2 a0 = 11 := by rw [eS2]; exact hk1
  refine v_iload_n X 1 dX12_was_5 rfl rfl ?_
  refine v_i2l X dX12_was_6 ?_
  refine v_lconst X (v := 0) dX12_was_7 (by decide) ?_
  refine v_aload_n X 0 dX12_was_8 rfl rfl ?_
  obtain ⟨r4, hr4, h⟩ := h
  refine v_getR X (T := TX12) (N := 26) (k := 5) hk3 (by decide) rfl (by decide) inX12 wd944 rfl dX12_was_9 hr4 ?_
  refine v_iconst X (v := 4) dX12_was_12 (by decide) ?_
  obtain ⟨hk5, h⟩ := h
  obtain ⟨hi6, h⟩ := h
  refine v_iald X hk5 hi6 dX12_was_13 ?_
  refine v_i2l X dX12_was_14 ?_
  refine v_callS X (av := [.long (x1).toInt64, .long (0 : Int64), .long ((hI S2 r4 ((4 : Int32)).toNatClampNeg)).toInt64]) (s_X12_in l b D cy h) wd1026 wd1027 wd62 k_X12_in dn_X12_in rfl ⟨Nat.le_of_ble_eq_true rfl, Nat.le_of_ble_eq_true rfl⟩ (Nat.le_of_ble_eq_true rfl) ⟨Nat.le_of_ble_eq_true rfl, Nat.le_of_ble_eq_true rfl⟩ dX12_was_15 rfl (kI (fun r8 S7 h => ?_))
  refine v_if_eq X (tgt := 36) dX12_was_18 (by decide) (fun c9 => ?_) (fun c9 => ?_)
  · replace h := h.1 c9
    refine v_ldc X wd1030 dX12_was_36 ?_
    exact v_iret X hr hlk ⟨_, rfl, h⟩ dX12_was_38
  · replace h := h.2 c9
    refine v_aload_n X 0 dX12_was_21 rfl rfl ?_
    refine v_iload_n X 2 dX12_was_22 rfl rfl ?_
    obtain ⟨hk11, h⟩ := h
    refine v_callV X (av := [.int x2]) (T := TX12) (N := 26) (s_X12_isDummy l b D cy h) hk11 (by decide) rfl wd1119 wd1121 wd32 wd62 k_X12_isDummy dn_X12_isDummy rfl ⟨Nat.le_of_ble_eq_true rfl, Nat.le_of_ble_eq_true rfl⟩ (Nat.le_of_ble_eq_true rfl) ⟨Nat.le_of_ble_eq_true rfl, Nat.le_of_ble_eq_true rfl⟩ dX12_was_23 rfl (kI (fun r12 S10 h => ?_))
    refine v_if_eq X (tgt := 36) dX12_was_26 (by decide) (fun c13 => ?_) (fun c13 => ?_)
    · replace h := h.1 c13
      refine v_ldc X wd1030 dX12_was_36 ?_
      exact v_iret X hr hlk ⟨_, rfl, h⟩ dX12_was_38
    · replace h := h.2 c13
      refine v_iload_n X 3 dX12_was_29 rfl rfl ?_
      refine v_callS X (av := [.int x3]) (s_X12_isPlace l b D cy h) wd1123 wd1124 wd62 k_X12_isPlace dn_X12_isPlace rfl ⟨Nat.le_of_ble_eq_true rfl, Nat.le_of_ble_eq_true rfl⟩ (Nat.le_of_ble_eq_true rfl) ⟨Nat.le_of_ble_eq_true rfl, Nat.le_of_ble_eq_true rfl⟩ dX12_was_30 rfl (kI (fun r15 S14 h => ?_))
      refine v_if_ne X (tgt := 39) dX12_was_33 (by decide) (fun c16 => ?_) (fun c16 => ?_)
      · replace h := h.1 c16
        refine v_iconst X (v := 0) dX12_was_39 (by decide) ?_
        refine v_istore X (lv' := [(4, .int (0 : Int32)), (0, .ref a0), (1, .int x1), (2, .int x2), (3, .int x3)]) dX12_was_40 (by decide) rfl ?_
        refine v_lv (lv' := [(0, .ref a0), (1, .int x1), (2, .int x2), (3, .int x3), (4, .int (0 : Int32))]) [1, 2, 3, 4, 0] rfl ?_
        obtain ⟨n, h⟩ := h
        exact l42 n _ _ _ _ _ _ h
      · replace h := h.2 c16
        refine v_ldc X wd1030 dX12_was_36 ?_
        exact v_iret X hr hlk ⟨_, rfl, h⟩ dX12_was_38
def wB_X12_bits_4 (bk4 : hp → Int32 → Int32 → Int32 → Prop) (Q : Int32 → hp → Prop) (S : hp) (l0 : Int32) (l1 : Int32) (l2 : Int32) : Prop :=
  (((12 : Int32) ≤ l2 → Q l1 S) ∧ (¬ (12 : Int32) ≤ l2 → ∀ v2 : Int32, v2 = (l1 + ((l0 >>> (l2 &&& 31)) &&& (1 : Int32))) → ∀ v3 : Int32, v3 = l2 + (1 : Int32) → bk4 S l0 v2 v3))
def wl_X12_bits_4 (Q : Int32 → hp → Prop) : Nat → hp → Int32 → Int32 → Int32 → Prop
  | 0 => fun _ _ _ _ => False
  | n + 1 => wB_X12_bits_4 (wl_X12_bits_4 Q n) Q
def wp_X12_bits (Q : Int32 → hp → Prop) (S : hp) (x0 : Int32) : Prop :=
  ∃ n : Nat, wl_X12_bits_4 Q n S x0 (0 : Int32) (0 : Int32)
theorem k_X12_bits : Cond.code yX12_bits cX12_bits 3 (some .int) ∈ gtb := mg 1214 (by decide +kernel) (by decide +kernel)
theorem dn_X12_bits : yX12_bits.cls ≠ "java/lang/invoke/MethodHandle" ∧ yX12_bits.cls ≠ "java/lang/invoke/VarHandle" ∧ (parseMethodDescriptor yX12_bits.desc).map (fun d => d.parameters.length) = some 1 := by decide +kernel
set_option maxRecDepth 100000 in
set_option maxHeartbeats 4000000 in
theorem s_X12_bits (l : Launch) (b : Nat) (D : va_G) (cy : Nat → ClassId) {Q : Int32 → hp → Prop} {S : hp} {x0 : Int32} (h : wp_X12_bits Q S x0) : MT l yX12_bits cX12_bits 3 (some .int) 0 0 0 0 b D cy S [.int x0] (pI Q) := by
  refine MT.of (by decide +kernel) (Nat.le_of_ble_eq_true rfl) ?_
  intro p e s m args below meth c X hr hlk hnm
  have j4 : ∀ (bk4 : hp → Int32 → Int32 → Int32 → Prop) (hbk4 : ∀ (S : hp) (l0 : Int32) (l1 : Int32) (l2 : Int32), bk4 S l0 l1 l2 → VM l b D cy 3 0 0 0 0 (pI Q) p e s m args below meth c S 0 0 4 [(0, .int l0), (1, .int l1), (2, .int l2)] []) (S : hp) (l0 : Int32) (l1 : Int32) (l2 : Int32), wB_X12_bits_4 bk4 Q S l0 l1 l2 → VM l b D cy 3 0 0 0 0 (pI Q) p e s m args below meth c S 0 0 4 [(0, .int l0), (1, .int l1), (2, .int l2)] [] := by
    intro bk4 hbk4 S l0 l1 l2 h
    unfold wB_X12_bits_4 at h
    refine v_iload_n X 2 dX12_bits_4 rfl rfl ?_
    refine v_bipush X (v := 12) dX12_bits_5 (by decide) ?_
    refine v_icmp_ge X (tgt := 24) dX12_bits_7 (by decide) (fun c1 => ?_) (fun c1 => ?_)
    · replace h := h.1 c1
      refine v_iload_n X 1 dX12_bits_24 rfl rfl ?_
      exact v_iret X hr hlk ⟨_, rfl, h⟩ dX12_bits_25
    · replace h := h.2 c1
      refine v_iload_n X 1 dX12_bits_10 rfl rfl ?_
      refine v_iload_n X 0 dX12_bits_11 rfl rfl ?_
      refine v_iload_n X 2 dX12_bits_12 rfl rfl ?_
      refine v_ishr X dX12_bits_13 ?_
      refine v_iconst X (v := 1) dX12_bits_14 (by decide) ?_
      refine v_iand X dX12_bits_15 ?_
      refine v_iadd X dX12_bits_16 ?_
      refine v_nm (fun v2 hv2 => ?_)
      replace h := h v2 hv2
      refine v_istore_n X (lv' := [(1, .int v2), (0, .int l0), (2, .int l2)]) dX12_bits_17 rfl (by decide) rfl ?_
      obtain ⟨v3, hv3⟩ : ∃ y : Int32, y = l2 + (1 : Int32) := ⟨_, rfl⟩
      replace h := h v3 hv3
      refine v_iinc X (j := 2) (v := v3) (lv' := [(2, .int v3), (1, .int v2), (0, .int l0)]) dX12_bits_18 rfl (by rw [hv3] <;> rfl) (by decide) rfl ?_
      refine v_goto X (tgt := 4) dX12_bits_21 (by decide) ?_
      refine v_lv (lv' := [(0, .int l0), (1, .int v2), (2, .int v3)]) [2, 1, 0] rfl ?_
      exact hbk4 _ _ _ _ h
  have l4 : ∀  (n : Nat) (S : hp) (l0 : Int32) (l1 : Int32) (l2 : Int32), wl_X12_bits_4 Q n S l0 l1 l2 → VM l b D cy 3 0 0 0 0 (pI Q) p e s m args below meth c S 0 0 4 [(0, .int l0), (1, .int l1), (2, .int l2)] [] := by
    intro  n
    induction n with
    | zero => intro S l0 l1 l2 h; exact h.elim
    | succ n ih => intro S l0 l1 l2 h; exact j4 (wl_X12_bits_4 Q n) ih S l0 l1 l2 h
  unfold wp_X12_bits at h
  show VM l b D cy 3 0 0 0 0 (pI Q) p e s m args below meth c S 0 0 0 [(0, .int x0)] []
  refine v_iconst X (v := 0) dX12_bits_0 (by decide) ?_
  refine v_istore_n X (lv' := [(1, .int (0 : Int32)), (0, .int x0)]) dX12_bits_1 rfl (by decide) rfl ?_
  refine v_iconst X (v := 0) dX12_bits_2 (by decide) ?_
  refine v_istore_n X (lv' := [(2, .int (0 : Int32)), (1, .int (0 : Int32)), (0, .int x0)]) dX12_bits_3 rfl (by decide) rfl ?_
  refine v_lv (lv' := [(0, .int x0), (1, .int (0 : Int32)), (2, .int (0 : Int32))]) [2, 1, 0] rfl ?_
  obtain ⟨n, h⟩ := h
  exact l4 n _ _ _ _ h
def wB_X12_isBy_143 (bk6 : hp → Nat → Int32 → Int32 → Int32 → Int32 → Int32 → Prop) (Q : Int32 → hp → Prop) (S : hp) (l0 : Nat) (l1 : Int32) (l2 : Int32) (l3 : Int32) (l5 : Int32) (k0 : Int32) : Prop :=
  ∀ v9 : Int32, v9 = l5 + (1 : Int32) → bk6 S l0 l1 l2 l3 k0 v9
def wB_X12_isBy_142 (bk6 : hp → Nat → Int32 → Int32 → Int32 → Int32 → Int32 → Prop) (Q : Int32 → hp → Prop) (S : hp) (l0 : Nat) (l1 : Int32) (l2 : Int32) (l3 : Int32) (l5 : Int32) : Prop :=
  wB_X12_isBy_143 bk6 Q S l0 l1 l2 l3 l5 (0 : Int32)
def wB_X12_isBy_110 (bk6 : hp → Nat → Int32 → Int32 → Int32 → Int32 → Int32 → Prop) (bk18 : hp → Nat → Int32 → Int32 → Int32 → Int32 → Int32 → Int32 → Int32 → Prop) (Q : Int32 → hp → Prop) (S : hp) (l0 : Nat) (l1 : Int32) (l2 : Int32) (l3 : Int32) (l4 : Int32) (l5 : Int32) (l7 : Int32) (k0 : Int32) (k1 : Int32) : Prop :=
  ∀ v18 : Int32, v18 = (k1 + k0) → ∀ v19 : Int32, v19 = l7 + (1 : Int32) → bk18 S l0 l1 l2 l3 l4 l5 v18 v19
def wB_X12_isBy_82 (bk6 : hp → Nat → Int32 → Int32 → Int32 → Int32 → Int32 → Prop) (bk18 : hp → Nat → Int32 → Int32 → Int32 → Int32 → Int32 → Int32 → Int32 → Prop) (Q : Int32 → hp → Prop) (S : hp) (l0 : Nat) (l1 : Int32) (l2 : Int32) (l3 : Int32) (l4 : Int32) (l5 : Int32) (l6 : Int32) (l7 : Int32) (k0 : Int32) : Prop :=
  ((k0 = 0 → wB_X12_isBy_110 bk6 bk18 Q S l0 l1 l2 l3 l4 l5 l7 (0 : Int32) l6) ∧ (¬ k0 = 0 → hK S l0 = 11 ∧ wp_X12_lineOf (fun r22 S20 => hK S20 l0 = 11 ∧ wp_X12_lineOf (fun r25 S23 => wB_X12_isBy_110 bk6 bk18 Q S23 l0 l1 l2 l3 l4 l5 l7 ((r22 - r25)) l6) S20 l0 l7 (5 : Int32)) S l0 l7 (4 : Int32)))
def wB_X12_isBy_81 (bk6 : hp → Nat → Int32 → Int32 → Int32 → Int32 → Int32 → Prop) (bk18 : hp → Nat → Int32 → Int32 → Int32 → Int32 → Int32 → Int32 → Int32 → Prop) (Q : Int32 → hp → Prop) (S : hp) (l0 : Nat) (l1 : Int32) (l2 : Int32) (l3 : Int32) (l4 : Int32) (l5 : Int32) (l6 : Int32) (l7 : Int32) : Prop :=
  wB_X12_isBy_82 bk6 bk18 Q S l0 l1 l2 l3 l4 l5 l6 l7 (0 : Int32)
def wB_X12_isBy_18 (bk6 : hp → Nat → Int32 → Int32 → Int32 → Int32 → Int32 → Prop) (bk18 : hp → Nat → Int32 → Int32 → Int32 → Int32 → Int32 → Int32 → Int32 → Prop) (Q : Int32 → hp → Prop) (S : hp) (l0 : Nat) (l1 : Int32) (l2 : Int32) (l3 : Int32) (l4 : Int32) (l5 : Int32) (l6 : Int32) (l7 : Int32) : Prop :=
  hK S l0 = 11 ∧ ∃ r4 : Nat, hR S l0 5 = some r4 ∧ hK S r4 = 12 ∧ vp_in (4 : Int32) (hN S r4) ∧ (((hI S r4 ((4 : Int32)).toNatClampNeg) ≤ l7 → ((l4 = 0 → wB_X12_isBy_142 bk6 Q S l0 l1 l2 l3 l5) ∧ (¬ l4 = 0 → ∃ r10 : Nat, hR S l0 4 = some r10 ∧ hK S r10 = 12 ∧ vp_in (l2 + l5) (hN S r10) ∧ ((¬ l6 = (hI S r10 ((l2 + l5)).toNatClampNeg) → wB_X12_isBy_142 bk6 Q S l0 l1 l2 l3 l5) ∧ (l6 = (hI S r10 ((l2 + l5)).toNatClampNeg) → wB_X12_isBy_143 bk6 Q S l0 l1 l2 l3 l5 (1 : Int32)))))) ∧ (¬ (hI S r4 ((4 : Int32)).toNatClampNeg) ≤ l7 → wp_X12_lineOf (fun r15 S14 => ((¬ r15 = 0 → wB_X12_isBy_81 bk6 bk18 Q S14 l0 l1 l2 l3 l4 l5 l6 l7) ∧ (r15 = 0 → hK S14 l0 = 11 ∧ wp_X12_lineOf (fun r28 S26 => ((¬ r28 = l1 → wB_X12_isBy_81 bk6 bk18 Q S26 l0 l1 l2 l3 l4 l5 l6 l7) ∧ (r28 = l1 → hK S26 l0 = 11 ∧ wp_X12_lineOf (fun r32 S30 => ((¬ r32 = l5 → wB_X12_isBy_81 bk6 bk18 Q S30 l0 l1 l2 l3 l4 l5 l6 l7) ∧ (r32 = l5 → hK S30 l0 = 11 ∧ wp_X12_lineOf (fun r36 S34 => ((¬ ((l3 >>> (r36 &&& 31)) &&& (1 : Int32)) = (1 : Int32) → wB_X12_isBy_81 bk6 bk18 Q S34 l0 l1 l2 l3 l4 l5 l6 l7) ∧ (((l3 >>> (r36 &&& 31)) &&& (1 : Int32)) = (1 : Int32) → wB_X12_isBy_82 bk6 bk18 Q S34 l0 l1 l2 l3 l4 l5 l6 l7 (1 : Int32)))) S30 l0 l7 (1 : Int32)))) S26 l0 l7 (3 : Int32)))) S14 l0 l7 (2 : Int32)))) S l0 l7 (0 : Int32)))
def wl_X12_isBy_18 (bk6 : hp → Nat → Int32 → Int32 → Int32 → Int32 → Int32 → Prop) (Q : Int32 → hp → Prop) : Nat → hp → Nat → Int32 → Int32 → Int32 → Int32 → Int32 → Int32 → Int32 → Prop
  | 0 => fun _ _ _ _ _ _ _ _ _ => False
  | n + 1 => wB_X12_isBy_18 bk6 (wl_X12_isBy_18 bk6 Q n) Q
def wB_X12_isBy_6 (bk6 : hp → Nat → Int32 → Int32 → Int32 → Int32 → Int32 → Prop) (Q : Int32 → hp → Prop) (S : hp) (l0 : Nat) (l1 : Int32) (l2 : Int32) (l3 : Int32) (l4 : Int32) (l5 : Int32) : Prop :=
  (((3 : Int32) ≤ l5 → isZ l4 ∧ Q l4 S) ∧ (¬ (3 : Int32) ≤ l5 → ∃ n : Nat, wl_X12_isBy_18 bk6 Q n S l0 l1 l2 l3 l4 l5 (0 : Int32) (0 : Int32)))
def wl_X12_isBy_6 (Q : Int32 → hp → Prop) : Nat → hp → Nat → Int32 → Int32 → Int32 → Int32 → Int32 → Prop
  | 0 => fun _ _ _ _ _ _ _ => False
  | n + 1 => wB_X12_isBy_6 (wl_X12_isBy_6 Q n) Q
def wp_X12_isBy (Q : Int32 → hp → Prop) (S : hp) (a0 : Nat) (x1 : Int32) (x2 : Int32) (x3 : Int32) : Prop :=
  ∃ n : Nat, wl_X12_isBy_6 Q n S a0 x1 x2 x3 (1 : Int32) (0 : Int32)
theorem k_X12_isBy : Cond.code yX12_isBy cX12_isBy 9 (some .boolean) ∈ gtb := mg 1211 (by decide +kernel) (by decide +kernel)
theorem dn_X12_isBy : yX12_isBy.cls ≠ "java/lang/invoke/MethodHandle" ∧ yX12_isBy.cls ≠ "java/lang/invoke/VarHandle" ∧ (parseMethodDescriptor yX12_isBy.desc).map (fun d => d.parameters.length) = some 3 := by decide +kernel
set_option maxRecDepth 100000 in
set_option maxHeartbeats 4000000 in
theorem s_X12_isBy (l : Launch) (b : Nat) (D : va_G) (cy : Nat → ClassId) {Q : Int32 → hp → Prop} {S : hp} {a0 : Nat} {x1 : Int32} {x2 : Int32} {x3 : Int32} (h : wp_X12_isBy Q S a0 x1 x2 x3) : MT l yX12_isBy cX12_isBy 9 (some .boolean) 1 22 0 0 b D cy S [.ref a0, .int x1, .int x2, .int x3] (pI Q) := by
  refine MT.of (by decide +kernel) (Nat.le_of_ble_eq_true rfl) ?_
  intro p e s m args below meth c X hr hlk hnm
  have j143 : ∀ (bk6 : hp → Nat → Int32 → Int32 → Int32 → Int32 → Int32 → Prop) (hbk6 : ∀ (S : hp) (l0 : Nat) (l1 : Int32) (l2 : Int32) (l3 : Int32) (l4 : Int32) (l5 : Int32), bk6 S l0 l1 l2 l3 l4 l5 → VM l b D cy 9 1 22 0 0 (pI Q) p e s m args below meth c S 0 0 6 [(0, .ref l0), (1, .int l1), (2, .int l2), (3, .int l3), (4, .int l4), (5, .int l5)] []) (S : hp) (l0 : Nat) (l1 : Int32) (l2 : Int32) (l3 : Int32) (l5 : Int32) (k0 : Int32), wB_X12_isBy_143 bk6 Q S l0 l1 l2 l3 l5 k0 → VM l b D cy 9 1 22 0 0 (pI Q) p e s m args below meth c S 0 0 143 [(0, .ref l0), (1, .int l1), (2, .int l2), (3, .int l3), (5, .int l5)] [.int k0] := by
    intro bk6 hbk6 S l0 l1 l2 l3 l5 k0 h
    unfold wB_X12_isBy_143 at h
    refine v_istore X (lv' := [(4, .int k0), (0, .ref l0), (1, .int l1), (2, .int l2), (3, .int l3), (5, .int l5)]) dX12_isBy_143 (by decide) rfl ?_
    obtain ⟨v9, hv9⟩ : ∃ y : Int32, y = l5 + (1 : Int32) := ⟨_, rfl⟩
    replace h := h v9 hv9
    refine v_iinc X (j := 5) (v := v9) (lv' := [(5, .int v9), (4, .int k0), (0, .ref l0), (1, .int l1), (2, .int l2), (3, .int l3)]) dX12_isBy_145 rfl (by rw [hv9] <;> rfl) (by decide) rfl ?_
    refine v_goto X (tgt := 6) dX12_isBy_148 (by decide) ?_
    refine v_lv (lv' := [(0, .ref l0), (1, .int l1), (2, .int l2), (3, .int l3), (4, .int k0), (5, .int v9)]) [2, 3, 4, 5, 1, 0] rfl ?_
    exact hbk6 _ _ _ _ _ _ _ h
  have j142 : ∀ (bk6 : hp → Nat → Int32 → Int32 → Int32 → Int32 → Int32 → Prop) (hbk6 : ∀ (S : hp) (l0 : Nat) (l1 : Int32) (l2 : Int32) (l3 : Int32) (l4 : Int32) (l5 : Int32), bk6 S l0 l1 l2 l3 l4 l5 → VM l b D cy 9 1 22 0 0 (pI Q) p e s m args below meth c S 0 0 6 [(0, .ref l0), (1, .int l1), (2, .int l2), (3, .int l3), (4, .int l4), (5, .int l5)] []) (S : hp) (l0 : Nat) (l1 : Int32) (l2 : Int32) (l3 : Int32) (l5 : Int32), wB_X12_isBy_142 bk6 Q S l0 l1 l2 l3 l5 → VM l b D cy 9 1 22 0 0 (pI Q) p e s m args below meth c S 0 0 142 [(0, .ref l0), (1, .int l1), (2, .int l2), (3, .int l3), (5, .int l5)] [] := by
    intro bk6 hbk6 S l0 l1 l2 l3 l5 h
    unfold wB_X12_isBy_142 at h
    refine v_iconst X (v := 0) dX12_isBy_142 (by decide) ?_
    exact j143 bk6 hbk6 _ _ _ _ _ _ _ h
  have j110 : ∀ (bk6 : hp → Nat → Int32 → Int32 → Int32 → Int32 → Int32 → Prop) (hbk6 : ∀ (S : hp) (l0 : Nat) (l1 : Int32) (l2 : Int32) (l3 : Int32) (l4 : Int32) (l5 : Int32), bk6 S l0 l1 l2 l3 l4 l5 → VM l b D cy 9 1 22 0 0 (pI Q) p e s m args below meth c S 0 0 6 [(0, .ref l0), (1, .int l1), (2, .int l2), (3, .int l3), (4, .int l4), (5, .int l5)] []) (bk18 : hp → Nat → Int32 → Int32 → Int32 → Int32 → Int32 → Int32 → Int32 → Prop) (hbk18 : ∀ (S : hp) (l0 : Nat) (l1 : Int32) (l2 : Int32) (l3 : Int32) (l4 : Int32) (l5 : Int32) (l6 : Int32) (l7 : Int32), bk18 S l0 l1 l2 l3 l4 l5 l6 l7 → VM l b D cy 9 1 22 0 0 (pI Q) p e s m args below meth c S 0 0 18 [(0, .ref l0), (1, .int l1), (2, .int l2), (3, .int l3), (4, .int l4), (5, .int l5), (6, .int l6), (7, .int l7)] []) (S : hp) (l0 : Nat) (l1 : Int32) (l2 : Int32) (l3 : Int32) (l4 : Int32) (l5 : Int32) (l7 : Int32) (k0 : Int32) (k1 : Int32), wB_X12_isBy_110 bk6 bk18 Q S l0 l1 l2 l3 l4 l5 l7 k0 k1 → VM l b D cy 9 1 22 0 0 (pI Q) p e s m args below meth c S 0 0 110 [(0, .ref l0), (1, .int l1), (2, .int l2), (3, .int l3), (4, .int l4), (5, .int l5), (7, .int l7)] [.int k0, .int k1] := by
    intro bk6 hbk6 bk18 hbk18 S l0 l1 l2 l3 l4 l5 l7 k0 k1 h
    unfold wB_X12_isBy_110 at h
    refine v_iadd X dX12_isBy_110 ?_
    refine v_nm (fun v18 hv18 => ?_)
    replace h := h v18 hv18
    refine v_istore X (lv' := [(6, .int v18), (0, .ref l0), (1, .int l1), (2, .int l2), (3, .int l3), (4, .int l4), (5, .int l5), (7, .int l7)]) dX12_isBy_111 (by decide) rfl ?_
    obtain ⟨v19, hv19⟩ : ∃ y : Int32, y = l7 + (1 : Int32) := ⟨_, rfl⟩
    replace h := h v19 hv19
    refine v_iinc X (j := 7) (v := v19) (lv' := [(7, .int v19), (6, .int v18), (0, .ref l0), (1, .int l1), (2, .int l2), (3, .int l3), (4, .int l4), (5, .int l5)]) dX12_isBy_113 rfl (by rw [hv19] <;> rfl) (by decide) rfl ?_
    refine v_goto X (tgt := 18) dX12_isBy_116 (by decide) ?_
    refine v_lv (lv' := [(0, .ref l0), (1, .int l1), (2, .int l2), (3, .int l3), (4, .int l4), (5, .int l5), (6, .int v18), (7, .int v19)]) [2, 3, 4, 5, 6, 7, 1, 0] rfl ?_
    exact hbk18 _ _ _ _ _ _ _ _ _ h
  have j82 : ∀ (bk6 : hp → Nat → Int32 → Int32 → Int32 → Int32 → Int32 → Prop) (hbk6 : ∀ (S : hp) (l0 : Nat) (l1 : Int32) (l2 : Int32) (l3 : Int32) (l4 : Int32) (l5 : Int32), bk6 S l0 l1 l2 l3 l4 l5 → VM l b D cy 9 1 22 0 0 (pI Q) p e s m args below meth c S 0 0 6 [(0, .ref l0), (1, .int l1), (2, .int l2), (3, .int l3), (4, .int l4), (5, .int l5)] []) (bk18 : hp → Nat → Int32 → Int32 → Int32 → Int32 → Int32 → Int32 → Int32 → Prop) (hbk18 : ∀ (S : hp) (l0 : Nat) (l1 : Int32) (l2 : Int32) (l3 : Int32) (l4 : Int32) (l5 : Int32) (l6 : Int32) (l7 : Int32), bk18 S l0 l1 l2 l3 l4 l5 l6 l7 → VM l b D cy 9 1 22 0 0 (pI Q) p e s m args below meth c S 0 0 18 [(0, .ref l0), (1, .int l1), (2, .int l2), (3, .int l3), (4, .int l4), (5, .int l5), (6, .int l6), (7, .int l7)] []) (S : hp) (l0 : Nat) (l1 : Int32) (l2 : Int32) (l3 : Int32) (l4 : Int32) (l5 : Int32) (l6 : Int32) (l7 : Int32) (k0 : Int32), wB_X12_isBy_82 bk6 bk18 Q S l0 l1 l2 l3 l4 l5 l6 l7 k0 → VM l b D cy 9 1 22 0 0 (pI Q) p e s m args below meth c S 0 0 82 [(0, .ref l0), (1, .int l1), (2, .int l2), (3, .int l3), (4, .int l4), (5, .int l5), (6, .int l6), (7, .int l7)] [.int k0] := by
    intro bk6 hbk6 bk18 hbk18 S l0 l1 l2 l3 l4 l5 l6 l7 k0 h
    unfold wB_X12_isBy_82 at h
    refine v_istore X (lv' := [(8, .int k0), (0, .ref l0), (1, .int l1), (2, .int l2), (3, .int l3), (4, .int l4), (5, .int l5), (6, .int l6), (7, .int l7)]) dX12_isBy_82 (by decide) rfl ?_
    refine v_iload X 7 dX12_isBy_84 rfl ?_
    refine v_iload X 0 dX12_isBy_86 rfl ?_
    refine v_if_eq X (tgt := 109) dX12_isBy_88 (by decide) (fun c17 => ?_) (fun c17 => ?_)
    · replace h := h.1 c17
      refine v_iconst X (v := 0) dX12_isBy_109 (by decide) ?_
      refine v_lv (lv' := [(0, .ref l0), (1, .int l1), (2, .int l2), (3, .int l3), (4, .int l4), (5, .int l5), (7, .int l7)]) [1, 2, 3, 4, 5, 6, 8] rfl ?_
      exact j110 bk6 hbk6 bk18 hbk18 _ _ _ _ _ _ _ _ _ _ h
    · replace h := h.2 c17
      refine v_aload_n X 1 dX12_isBy_91 rfl rfl ?_
      refine v_iload X 8 dX12_isBy_92 rfl ?_
      refine v_iconst X (v := 4) dX12_isBy_94 (by decide) ?_
      obtain ⟨hk21, h⟩ := h
      refine v_callV X (av := [.int l7, .int (4 : Int32)]) (T := TX12) (N := 26) (s_X12_lineOf l b D cy h) hk21 (by decide) rfl wd1184 wd1186 wd40 wd62 k_X12_lineOf dn_X12_lineOf rfl ⟨Nat.le_of_ble_eq_true rfl, Nat.le_of_ble_eq_true rfl⟩ (Nat.le_of_ble_eq_true rfl) ⟨Nat.le_of_ble_eq_true rfl, Nat.le_of_ble_eq_true rfl⟩ dX12_isBy_95 rfl (kI (fun r22 S20 h => ?_))
      refine v_aload_n X 1 dX12_isBy_98 rfl rfl ?_
      refine v_iload X 8 dX12_isBy_99 rfl ?_
      refine v_iconst X (v := 5) dX12_isBy_101 (by decide) ?_
      obtain ⟨hk24, h⟩ := h
      refine v_callV X (av := [.int l7, .int (5 : Int32)]) (T := TX12) (N := 26) (s_X12_lineOf l b D cy h) hk24 (by decide) rfl wd1184 wd1186 wd40 wd62 k_X12_lineOf dn_X12_lineOf rfl ⟨Nat.le_of_ble_eq_true rfl, Nat.le_of_ble_eq_true rfl⟩ (Nat.le_of_ble_eq_true rfl) ⟨Nat.le_of_ble_eq_true rfl, Nat.le_of_ble_eq_true rfl⟩ dX12_isBy_102 rfl (kI (fun r25 S23 h => ?_))
      refine v_isub X dX12_isBy_105 ?_
      refine v_goto X (tgt := 110) dX12_isBy_106 (by decide) ?_
      refine v_lv (lv' := [(0, .ref l0), (1, .int l1), (2, .int l2), (3, .int l3), (4, .int l4), (5, .int l5), (7, .int l7)]) [1, 2, 3, 4, 5, 6, 8] rfl ?_
      exact j110 bk6 hbk6 bk18 hbk18 _ _ _ _ _ _ _ _ _ _ h
  have j81 : ∀ (bk6 : hp → Nat → Int32 → Int32 → Int32 → Int32 → Int32 → Prop) (hbk6 : ∀ (S : hp) (l0 : Nat) (l1 : Int32) (l2 : Int32) (l3 : Int32) (l4 : Int32) (l5 : Int32), bk6 S l0 l1 l2 l3 l4 l5 → VM l b D cy 9 1 22 0 0 (pI Q) p e s m args below meth c S 0 0 6 [(0, .ref l0), (1, .int l1), (2, .int l2), (3, .int l3), (4, .int l4), (5, .int l5)] []) (bk18 : hp → Nat → Int32 → Int32 → Int32 → Int32 → Int32 → Int32 → Int32 → Prop) (hbk18 : ∀ (S : hp) (l0 : Nat) (l1 : Int32) (l2 : Int32) (l3 : Int32) (l4 : Int32) (l5 : Int32) (l6 : Int32) (l7 : Int32), bk18 S l0 l1 l2 l3 l4 l5 l6 l7 → VM l b D cy 9 1 22 0 0 (pI Q) p e s m args below meth c S 0 0 18 [(0, .ref l0), (1, .int l1), (2, .int l2), (3, .int l3), (4, .int l4), (5, .int l5), (6, .int l6), (7, .int l7)] []) (S : hp) (l0 : Nat) (l1 : Int32) (l2 : Int32) (l3 : Int32) (l4 : Int32) (l5 : Int32) (l6 : Int32) (l7 : Int32), wB_X12_isBy_81 bk6 bk18 Q S l0 l1 l2 l3 l4 l5 l6 l7 → VM l b D cy 9 1 22 0 0 (pI Q) p e s m args below meth c S 0 0 81 [(0, .ref l0), (1, .int l1), (2, .int l2), (3, .int l3), (4, .int l4), (5, .int l5), (6, .int l6), (7, .int l7)] [] := by
    intro bk6 hbk6 bk18 hbk18 S l0 l1 l2 l3 l4 l5 l6 l7 h
    unfold wB_X12_isBy_81 at h
    refine v_iconst X (v := 0) dX12_isBy_81 (by decide) ?_
    exact j82 bk6 hbk6 bk18 hbk18 _ _ _ _ _ _ _ _ _ _ h
  have j18 : ∀ (bk6 : hp → Nat → Int32 → Int32 → Int32 → Int32 → Int32 → Prop) (hbk6 : ∀ (S : hp) (l0 : Nat) (l1 : Int32) (l2 : Int32) (l3 : Int32) (l4 : Int32) (l5 : Int32), bk6 S l0 l1 l2 l3 l4 l5 → VM l b D cy 9 1 22 0 0 (pI Q) p e s m args below meth c S 0 0 6 [(0, .ref l0), (1, .int l1), (2, .int l2), (3, .int l3), (4, .int l4), (5, .int l5)] []) (bk18 : hp → Nat → Int32 → Int32 → Int32 → Int32 → Int32 → Int32 → Int32 → Prop) (hbk18 : ∀ (S : hp) (l0 : Nat) (l1 : Int32) (l2 : Int32) (l3 : Int32) (l4 : Int32) (l5 : Int32) (l6 : Int32) (l7 : Int32), bk18 S l0 l1 l2 l3 l4 l5 l6 l7 → VM l b D cy 9 1 22 0 0 (pI Q) p e s m args below meth c S 0 0 18 [(0, .ref l0), (1, .int l1), (2, .int l2), (3, .int l3), (4, .int l4), (5, .int l5), (6, .int l6), (7, .int l7)] []) (S : hp) (l0 : Nat) (l1 : Int32) (l2 : Int32) (l3 : Int32) (l4 : Int32) (l5 : Int32) (l6 : Int32) (l7 : Int32), wB_X12_isBy_18 bk6 bk18 Q S l0 l1 l2 l3 l4 l5 l6 l7 → VM l b D cy 9 1 22 0 0 (pI Q) p e s m args below meth c S 0 0 18 [(0, .ref l0), (1, .int l1), (2, .int l2), (3, .int l3), (4, .int l4), (5, .int l5), (6, .int l6), (7, .int l7)] [] := by
    intro bk6 hbk6 bk18 hbk18 S l0 l1 l2 l3 l4 l5 l6 l7 h
    unfold wB_X12_isBy_18 at h
    refine v_iload X 7 dX12_isBy_18 rfl ?_
    refine v_aload_n X 0 dX12_isBy_20 rfl rfl ?_
    obtain ⟨hk3, h⟩ := h
    obtain ⟨r4, hr4, h⟩ := h
    refine v_getR X (T := TX12) (N := 26) (k := 5) hk3 (by decide) rfl (by decide) inX12 wd944 rfl dX12_isBy_21 hr4 ?_
    refine v_iconst X (v := 4) dX12_isBy_24 (by decide) ?_
    obtain ⟨hk5, h⟩ := h
    obtain ⟨hi6, h⟩ := h
    refine v_iald X hk5 hi6 dX12_isBy_25 ?_
    refine v_icmp_ge X (tgt := 119) dX12_isBy_26 (by decide) (fun c7 => ?_) (fun c7 => ?_)
    · replace h := h.1 c7
      refine v_iload X 4 dX12_isBy_119 rfl ?_
      refine v_if_eq X (tgt := 142) dX12_isBy_121 (by decide) (fun c8 => ?_) (fun c8 => ?_)
      · replace h := h.1 c8
        refine v_lv (lv' := [(0, .ref l0), (1, .int l1), (2, .int l2), (3, .int l3), (5, .int l5)]) [0, 1, 2, 3, 5] rfl ?_
        exact j142 bk6 hbk6 _ _ _ _ _ _ h
      · replace h := h.2 c8
        refine v_iload X 6 dX12_isBy_124 rfl ?_
        refine v_aload_n X 0 dX12_isBy_126 rfl rfl ?_
        obtain ⟨r10, hr10, h⟩ := h
        refine v_getR X (T := TX12) (N := 26) (k := 4) hk3 (by decide) rfl (by decide) inX12 wd943 rfl dX12_isBy_127 hr10 ?_
        refine v_iload_n X 2 dX12_isBy_130 rfl rfl ?_
        refine v_iload X 5 dX12_isBy_131 rfl ?_
        refine v_iadd X dX12_isBy_133 ?_
        obtain ⟨hk11, h⟩ := h
        obtain ⟨hi12, h⟩ := h
        refine v_iald X hk11 hi12 dX12_isBy_134 ?_
        refine v_icmp_ne X (tgt := 142) dX12_isBy_135 (by decide) (fun c13 => ?_) (fun c13 => ?_)
        · replace h := h.1 c13
          refine v_lv (lv' := [(0, .ref l0), (1, .int l1), (2, .int l2), (3, .int l3), (5, .int l5)]) [0, 1, 2, 3, 5] rfl ?_
          exact j142 bk6 hbk6 _ _ _ _ _ _ h
        · replace h := h.2 c13
          refine v_iconst X (v := 1) dX12_isBy_138 (by decide) ?_
          refine v_goto X (tgt := 143) dX12_isBy_139 (by decide) ?_
          refine v_lv (lv' := [(0, .ref l0), (1, .int l1), (2, .int l2), (3, .int l3), (5, .int l5)]) [0, 1, 2, 3, 5] rfl ?_
          exact j143 bk6 hbk6 _ _ _ _ _ _ _ h
    · replace h := h.2 c7
      refine v_aload_n X 0 dX12_isBy_29 rfl rfl ?_
      refine v_iload X 7 dX12_isBy_30 rfl ?_
      refine v_iconst X (v := 0) dX12_isBy_32 (by decide) ?_
      refine v_callV X (av := [.int l7, .int (0 : Int32)]) (T := TX12) (N := 26) (s_X12_lineOf l b D cy h) hk3 (by decide) rfl wd1184 wd1186 wd40 wd62 k_X12_lineOf dn_X12_lineOf rfl ⟨Nat.le_of_ble_eq_true rfl, Nat.le_of_ble_eq_true rfl⟩ (Nat.le_of_ble_eq_true rfl) ⟨Nat.le_of_ble_eq_true rfl, Nat.le_of_ble_eq_true rfl⟩ dX12_isBy_33 rfl (kI (fun r15 S14 h => ?_))
      refine v_if_ne X (tgt := 81) dX12_isBy_36 (by decide) (fun c16 => ?_) (fun c16 => ?_)
      · replace h := h.1 c16
        exact j81 bk6 hbk6 bk18 hbk18 _ _ _ _ _ _ _ _ _ h
      · replace h := h.2 c16
        refine v_aload_n X 0 dX12_isBy_39 rfl rfl ?_
        refine v_iload X 7 dX12_isBy_40 rfl ?_
        refine v_iconst X (v := 2) dX12_isBy_42 (by decide) ?_
        obtain ⟨hk27, h⟩ := h
        refine v_callV X (av := [.int l7, .int (2 : Int32)]) (T := TX12) (N := 26) (s_X12_lineOf l b D cy h) hk27 (by decide) rfl wd1184 wd1186 wd40 wd62 k_X12_lineOf dn_X12_lineOf rfl ⟨Nat.le_of_ble_eq_true rfl, Nat.le_of_ble_eq_true rfl⟩ (Nat.le_of_ble_eq_true rfl) ⟨Nat.le_of_ble_eq_true rfl, Nat.le_of_ble_eq_true rfl⟩ dX12_isBy_43 rfl (kI (fun r28 S26 h => ?_))
        refine v_iload_n X 1 dX12_isBy_46 rfl rfl ?_
        refine v_icmp_ne X (tgt := 81) dX12_isBy_47 (by decide) (fun c29 => ?_) (fun c29 => ?_)
        · replace h := h.1 c29
          exact j81 bk6 hbk6 bk18 hbk18 _ _ _ _ _ _ _ _ _ h
        · replace h := h.2 c29
          refine v_aload_n X 0 dX12_isBy_50 rfl rfl ?_
          refine v_iload X 7 dX12_isBy_51 rfl ?_
          refine v_iconst X (v := 3) dX12_isBy_53 (by decide) ?_
          obtain ⟨hk31, h⟩ := h
          refine v_callV X (av := [.int l7, .int (3 : Int32)]) (T := TX12) (N := 26) (s_X12_lineOf l b D cy h) hk31 (by decide) rfl wd1184 wd1186 wd40 wd62 k_X12_lineOf dn_X12_lineOf rfl ⟨Nat.le_of_ble_eq_true rfl, Nat.le_of_ble_eq_true rfl⟩ (Nat.le_of_ble_eq_true rfl) ⟨Nat.le_of_ble_eq_true rfl, Nat.le_of_ble_eq_true rfl⟩ dX12_isBy_54 rfl (kI (fun r32 S30 h => ?_))
          refine v_iload X 5 dX12_isBy_57 rfl ?_
          refine v_icmp_ne X (tgt := 81) dX12_isBy_59 (by decide) (fun c33 => ?_) (fun c33 => ?_)
          · replace h := h.1 c33
            exact j81 bk6 hbk6 bk18 hbk18 _ _ _ _ _ _ _ _ _ h
          · replace h := h.2 c33
            refine v_iload_n X 3 dX12_isBy_62 rfl rfl ?_
            refine v_aload_n X 0 dX12_isBy_63 rfl rfl ?_
            refine v_iload X 7 dX12_isBy_64 rfl ?_
            refine v_iconst X (v := 1) dX12_isBy_66 (by decide) ?_
            obtain ⟨hk35, h⟩ := h
            refine v_callV X (av := [.int l7, .int (1 : Int32)]) (T := TX12) (N := 26) (s_X12_lineOf l b D cy h) hk35 (by decide) rfl wd1184 wd1186 wd40 wd62 k_X12_lineOf dn_X12_lineOf rfl ⟨Nat.le_of_ble_eq_true rfl, Nat.le_of_ble_eq_true rfl⟩ (Nat.le_of_ble_eq_true rfl) ⟨Nat.le_of_ble_eq_true rfl, Nat.le_of_ble_eq_true rfl⟩ dX12_isBy_67 rfl (kI (fun r36 S34 h => ?_))
            refine v_ishr X dX12_isBy_70 ?_
            refine v_iconst X (v := 1) dX12_isBy_71 (by decide) ?_
            refine v_iand X dX12_isBy_72 ?_
            refine v_iconst X (v := 1) dX12_isBy_73 (by decide) ?_
            refine v_icmp_ne X (tgt := 81) dX12_isBy_74 (by decide) (fun c37 => ?_) (fun c37 => ?_)
            · replace h := h.1 c37
              exact j81 bk6 hbk6 bk18 hbk18 _ _ _ _ _ _ _ _ _ h
            · replace h := h.2 c37
              refine v_iconst X (v := 1) dX12_isBy_77 (by decide) ?_
              refine v_goto X (tgt := 82) dX12_isBy_78 (by decide) ?_
              exact j82 bk6 hbk6 bk18 hbk18 _ _ _ _ _ _ _ _ _ _ h
  have l18 : ∀ (bk6 : hp → Nat → Int32 → Int32 → Int32 → Int32 → Int32 → Prop) (hbk6 : ∀ (S : hp) (l0 : Nat) (l1 : Int32) (l2 : Int32) (l3 : Int32) (l4 : Int32) (l5 : Int32), bk6 S l0 l1 l2 l3 l4 l5 → VM l b D cy 9 1 22 0 0 (pI Q) p e s m args below meth c S 0 0 6 [(0, .ref l0), (1, .int l1), (2, .int l2), (3, .int l3), (4, .int l4), (5, .int l5)] []) (n : Nat) (S : hp) (l0 : Nat) (l1 : Int32) (l2 : Int32) (l3 : Int32) (l4 : Int32) (l5 : Int32) (l6 : Int32) (l7 : Int32), wl_X12_isBy_18 bk6 Q n S l0 l1 l2 l3 l4 l5 l6 l7 → VM l b D cy 9 1 22 0 0 (pI Q) p e s m args below meth c S 0 0 18 [(0, .ref l0), (1, .int l1), (2, .int l2), (3, .int l3), (4, .int l4), (5, .int l5), (6, .int l6), (7, .int l7)] [] := by
    intro bk6 hbk6 n
    induction n with
    | zero => intro S l0 l1 l2 l3 l4 l5 l6 l7 h; exact h.elim
    | succ n ih => intro S l0 l1 l2 l3 l4 l5 l6 l7 h; exact j18 bk6 hbk6 (wl_X12_isBy_18 bk6 Q n) ih S l0 l1 l2 l3 l4 l5 l6 l7 h
  have j6 : ∀ (bk6 : hp → Nat → Int32 → Int32 → Int32 → Int32 → Int32 → Prop) (hbk6 : ∀ (S : hp) (l0 : Nat) (l1 : Int32) (l2 : Int32) (l3 : Int32) (l4 : Int32) (l5 : Int32), bk6 S l0 l1 l2 l3 l4 l5 → VM l b D cy 9 1 22 0 0 (pI Q) p e s m args below meth c S 0 0 6 [(0, .ref l0), (1, .int l1), (2, .int l2), (3, .int l3), (4, .int l4), (5, .int l5)] []) (S : hp) (l0 : Nat) (l1 : Int32) (l2 : Int32) (l3 : Int32) (l4 : Int32) (l5 : Int32), wB_X12_isBy_6 bk6 Q S l0 l1 l2 l3 l4 l5 → VM l b D cy 9 1 22 0 0 (pI Q) p e s m args below meth c S 0 0 6 [(0, .ref l0), (1, .int l1), (2, .int l2), (3, .int l3), (4, .int l4), (5, .int l5)] [] := by
    intro bk6 hbk6 S l0 l1 l2 l3 l4 l5 h
    unfold wB_X12_isBy_6 at h
    refine v_iload X 5 dX12_isBy_6 rfl ?_
    refine v_iconst X (v := 3) dX12_isBy_8 (by decide) ?_
    refine v_icmp_ge X (tgt := 151) dX12_isBy_9 (by decide) (fun c1 => ?_) (fun c1 => ?_)
    · replace h := h.1 c1
      refine v_iload X 4 dX12_isBy_151 rfl ?_
      obtain ⟨hz2, h⟩ := h
      exact v_zret X hr hz2 hlk ⟨_, rfl, h⟩ dX12_isBy_153
    · replace h := h.2 c1
      refine v_iconst X (v := 0) dX12_isBy_12 (by decide) ?_
      refine v_istore X (lv' := [(6, .int (0 : Int32)), (0, .ref l0), (1, .int l1), (2, .int l2), (3, .int l3), (4, .int l4), (5, .int l5)]) dX12_isBy_13 (by decide) rfl ?_
      refine v_iconst X (v := 0) dX12_isBy_15 (by decide) ?_
      refine v_istore X (lv' := [(7, .int (0 : Int32)), (6, .int (0 : Int32)), (0, .ref l0), (1, .int l1), (2, .int l2), (3, .int l3), (4, .int l4), (5, .int l5)]) dX12_isBy_16 (by decide) rfl ?_
      refine v_lv (lv' := [(0, .ref l0), (1, .int l1), (2, .int l2), (3, .int l3), (4, .int l4), (5, .int l5), (6, .int (0 : Int32)), (7, .int (0 : Int32))]) [2, 3, 4, 5, 6, 7, 1, 0] rfl ?_
      obtain ⟨n, h⟩ := h
      exact l18 bk6 hbk6 n _ _ _ _ _ _ _ _ _ h
  have l6 : ∀  (n : Nat) (S : hp) (l0 : Nat) (l1 : Int32) (l2 : Int32) (l3 : Int32) (l4 : Int32) (l5 : Int32), wl_X12_isBy_6 Q n S l0 l1 l2 l3 l4 l5 → VM l b D cy 9 1 22 0 0 (pI Q) p e s m args below meth c S 0 0 6 [(0, .ref l0), (1, .int l1), (2, .int l2), (3, .int l3), (4, .int l4), (5, .int l5)] [] := by
    intro  n
    induction n with
    | zero => intro S l0 l1 l2 l3 l4 l5 h; exact h.elim
    | succ n ih => intro S l0 l1 l2 l3 l4 l5 h; exact j6 (wl_X12_isBy_6 Q n) ih S l0 l1 l2 l3 l4 l5 h
  unfold wp_X12_isBy at h
  show VM l b D cy 9 1 22 0 0 (pI Q) p e s m args below meth c S 0 0 0 [(0, .ref a0), (1, .int x1), (2, .int x2), (3, .int x3)] []
  refine v_iconst X (v := 1) dX12_isBy_0 (by decide) ?_
  refine v_istore X (lv' := [(4, .int (1 : Int32)), (0, .ref a0), (1, .int x1), (2, .int x2), (3, .int x3)]) dX12_isBy_1 (by decide) rfl ?_
  refine v_iconst X (v := 0) dX12_isBy_3 (by decide) ?_
  refine v_istore X (lv' := [(5, .int (0 : Int32)), (4, .int (1 : Int32)), (0, .ref a0), (1, .int x1), (2, .int x2), (3, .int x3)]) dX12_isBy_4 (by decide) rfl ?_
  refine v_lv (lv' := [(0, .ref a0), (1, .int x1), (2, .int x2), (3, .int x3), (4, .int (1 : Int32)), (5, .int (0 : Int32))]) [2, 3, 4, 5, 1, 0] rfl ?_
  obtain ⟨n, h⟩ := h
  exact l6 n _ _ _ _ _ _ _ h
def wB_X12_setsOf_53 (bk6 : hp → Nat → Int32 → Int32 → Int32 → Int32 → Int32 → Prop) (Q : Int32 → hp → Prop) (S : hp) (l0 : Nat) (l1 : Int32) (l2 : Int32) (l3 : Int32) (l5 : Int32) (k0 : Int32) (k1 : Int32) : Prop :=
  ∀ v11 : Int32, v11 = (k1 + k0) → ∀ v12 : Int32, v12 = l5 + (1 : Int32) → bk6 S l0 l1 l2 l3 v11 v12
def wB_X12_setsOf_52 (bk6 : hp → Nat → Int32 → Int32 → Int32 → Int32 → Int32 → Prop) (Q : Int32 → hp → Prop) (S : hp) (l0 : Nat) (l1 : Int32) (l2 : Int32) (l3 : Int32) (l5 : Int32) (k0 : Int32) : Prop :=
  wB_X12_setsOf_53 bk6 Q S l0 l1 l2 l3 l5 (0 : Int32) k0
def wB_X12_setsOf_37 (bk6 : hp → Nat → Int32 → Int32 → Int32 → Int32 → Int32 → Prop) (Q : Int32 → hp → Prop) (S : hp) (l0 : Nat) (l1 : Int32) (l2 : Int32) (l3 : Int32) (l5 : Int32) (k0 : Int32) : Prop :=
  hK S l0 = 11 ∧ wp_X12_isBy (fun r9 S7 => ((r9 = 0 → wB_X12_setsOf_52 bk6 Q S7 l0 l1 l2 l3 l5 k0) ∧ (¬ r9 = 0 → wB_X12_setsOf_53 bk6 Q S7 l0 l1 l2 l3 l5 (1 : Int32) k0))) S l0 l1 l2 l5
def wB_X12_setsOf_6 (bk6 : hp → Nat → Int32 → Int32 → Int32 → Int32 → Int32 → Prop) (Q : Int32 → hp → Prop) (S : hp) (l0 : Nat) (l1 : Int32) (l2 : Int32) (l3 : Int32) (l4 : Int32) (l5 : Int32) : Prop :=
  hK S l0 = 11 ∧ ∃ r2 : Nat, hR S l0 5 = some r2 ∧ hK S r2 = 12 ∧ vp_in (3 : Int32) (hN S r2) ∧ ((((1 : Int32) <<< ((hI S r2 ((3 : Int32)).toNatClampNeg) &&& 31)) ≤ l5 → Q l4 S) ∧ (¬ ((1 : Int32) <<< ((hI S r2 ((3 : Int32)).toNatClampNeg) &&& 31)) ≤ l5 → ((l3 = (-1000000 : Int32) → wB_X12_setsOf_37 bk6 Q S l0 l1 l2 l3 l5 l4) ∧ (¬ l3 = (-1000000 : Int32) → ((¬ ((l5 >>> (l3 &&& 31)) &&& (1 : Int32)) = (1 : Int32) → wB_X12_setsOf_52 bk6 Q S l0 l1 l2 l3 l5 l4) ∧ (((l5 >>> (l3 &&& 31)) &&& (1 : Int32)) = (1 : Int32) → wB_X12_setsOf_37 bk6 Q S l0 l1 l2 l3 l5 l4))))))
def wl_X12_setsOf_6 (Q : Int32 → hp → Prop) : Nat → hp → Nat → Int32 → Int32 → Int32 → Int32 → Int32 → Prop
  | 0 => fun _ _ _ _ _ _ _ => False
  | n + 1 => wB_X12_setsOf_6 (wl_X12_setsOf_6 Q n) Q
def wp_X12_setsOf (Q : Int32 → hp → Prop) (S : hp) (a0 : Nat) (x1 : Int32) (x2 : Int32) (x3 : Int32) : Prop :=
  ∃ n : Nat, wl_X12_setsOf_6 Q n S a0 x1 x2 x3 (0 : Int32) (0 : Int32)
theorem k_X12_setsOf : Cond.code yX12_setsOf cX12_setsOf 6 (some .int) ∈ gtb := mg 1207 (by decide +kernel) (by decide +kernel)
theorem dn_X12_setsOf : yX12_setsOf.cls ≠ "java/lang/invoke/MethodHandle" ∧ yX12_setsOf.cls ≠ "java/lang/invoke/VarHandle" ∧ (parseMethodDescriptor yX12_setsOf.desc).map (fun d => d.parameters.length) = some 3 := by decide +kernel
set_option maxRecDepth 100000 in
set_option maxHeartbeats 4000000 in
theorem s_X12_setsOf (l : Launch) (b : Nat) (D : va_G) (cy : Nat → ClassId) {Q : Int32 → hp → Prop} {S : hp} {a0 : Nat} {x1 : Int32} {x2 : Int32} {x3 : Int32} (h : wp_X12_setsOf Q S a0 x1 x2 x3) : MT l yX12_setsOf cX12_setsOf 6 (some .int) 2 50 0 0 b D cy S [.ref a0, .int x1, .int x2, .int x3] (pI Q) := by
  refine MT.of (by decide +kernel) (Nat.le_of_ble_eq_true rfl) ?_
  intro p e s m args below meth c X hr hlk hnm
  have j53 : ∀ (bk6 : hp → Nat → Int32 → Int32 → Int32 → Int32 → Int32 → Prop) (hbk6 : ∀ (S : hp) (l0 : Nat) (l1 : Int32) (l2 : Int32) (l3 : Int32) (l4 : Int32) (l5 : Int32), bk6 S l0 l1 l2 l3 l4 l5 → VM l b D cy 6 2 50 0 0 (pI Q) p e s m args below meth c S 0 0 6 [(0, .ref l0), (1, .int l1), (2, .int l2), (3, .int l3), (4, .int l4), (5, .int l5)] []) (S : hp) (l0 : Nat) (l1 : Int32) (l2 : Int32) (l3 : Int32) (l5 : Int32) (k0 : Int32) (k1 : Int32), wB_X12_setsOf_53 bk6 Q S l0 l1 l2 l3 l5 k0 k1 → VM l b D cy 6 2 50 0 0 (pI Q) p e s m args below meth c S 0 0 53 [(0, .ref l0), (1, .int l1), (2, .int l2), (3, .int l3), (5, .int l5)] [.int k0, .int k1] := by
    intro bk6 hbk6 S l0 l1 l2 l3 l5 k0 k1 h
    unfold wB_X12_setsOf_53 at h
    refine v_iadd X dX12_setsOf_53 ?_
    refine v_nm (fun v11 hv11 => ?_)
    replace h := h v11 hv11
    refine v_istore X (lv' := [(4, .int v11), (0, .ref l0), (1, .int l1), (2, .int l2), (3, .int l3), (5, .int l5)]) dX12_setsOf_54 (by decide) rfl ?_
    obtain ⟨v12, hv12⟩ : ∃ y : Int32, y = l5 + (1 : Int32) := ⟨_, rfl⟩
    replace h := h v12 hv12
    refine v_iinc X (j := 5) (v := v12) (lv' := [(5, .int v12), (4, .int v11), (0, .ref l0), (1, .int l1), (2, .int l2), (3, .int l3)]) dX12_setsOf_56 rfl (by rw [hv12] <;> rfl) (by decide) rfl ?_
    refine v_goto X (tgt := 6) dX12_setsOf_59 (by decide) ?_
    refine v_lv (lv' := [(0, .ref l0), (1, .int l1), (2, .int l2), (3, .int l3), (4, .int v11), (5, .int v12)]) [2, 3, 4, 5, 1, 0] rfl ?_
    exact hbk6 _ _ _ _ _ _ _ h
  have j52 : ∀ (bk6 : hp → Nat → Int32 → Int32 → Int32 → Int32 → Int32 → Prop) (hbk6 : ∀ (S : hp) (l0 : Nat) (l1 : Int32) (l2 : Int32) (l3 : Int32) (l4 : Int32) (l5 : Int32), bk6 S l0 l1 l2 l3 l4 l5 → VM l b D cy 6 2 50 0 0 (pI Q) p e s m args below meth c S 0 0 6 [(0, .ref l0), (1, .int l1), (2, .int l2), (3, .int l3), (4, .int l4), (5, .int l5)] []) (S : hp) (l0 : Nat) (l1 : Int32) (l2 : Int32) (l3 : Int32) (l5 : Int32) (k0 : Int32), wB_X12_setsOf_52 bk6 Q S l0 l1 l2 l3 l5 k0 → VM l b D cy 6 2 50 0 0 (pI Q) p e s m args below meth c S 0 0 52 [(0, .ref l0), (1, .int l1), (2, .int l2), (3, .int l3), (5, .int l5)] [.int k0] := by
    intro bk6 hbk6 S l0 l1 l2 l3 l5 k0 h
    unfold wB_X12_setsOf_52 at h
    refine v_iconst X (v := 0) dX12_setsOf_52 (by decide) ?_
    exact j53 bk6 hbk6 _ _ _ _ _ _ _ _ h
  have j37 : ∀ (bk6 : hp → Nat → Int32 → Int32 → Int32 → Int32 → Int32 → Prop) (hbk6 : ∀ (S : hp) (l0 : Nat) (l1 : Int32) (l2 : Int32) (l3 : Int32) (l4 : Int32) (l5 : Int32), bk6 S l0 l1 l2 l3 l4 l5 → VM l b D cy 6 2 50 0 0 (pI Q) p e s m args below meth c S 0 0 6 [(0, .ref l0), (1, .int l1), (2, .int l2), (3, .int l3), (4, .int l4), (5, .int l5)] []) (S : hp) (l0 : Nat) (l1 : Int32) (l2 : Int32) (l3 : Int32) (l5 : Int32) (k0 : Int32), wB_X12_setsOf_37 bk6 Q S l0 l1 l2 l3 l5 k0 → VM l b D cy 6 2 50 0 0 (pI Q) p e s m args below meth c S 0 0 37 [(0, .ref l0), (1, .int l1), (2, .int l2), (3, .int l3), (5, .int l5)] [.int k0] := by
    intro bk6 hbk6 S l0 l1 l2 l3 l5 k0 h
    unfold wB_X12_setsOf_37 at h
    refine v_aload_n X 0 dX12_setsOf_37 rfl rfl ?_
    refine v_iload_n X 1 dX12_setsOf_38 rfl rfl ?_
    refine v_iload_n X 2 dX12_setsOf_39 rfl rfl ?_
    refine v_iload X 4 dX12_setsOf_40 rfl ?_
    obtain ⟨hk8, h⟩ := h
    refine v_callV X (av := [.int l1, .int l2, .int l5]) (T := TX12) (N := 26) (s_X12_isBy l b D cy h) hk8 (by decide) rfl wd1208 wd1210 wd43 wd62 k_X12_isBy dn_X12_isBy rfl ⟨Nat.le_of_ble_eq_true rfl, Nat.le_of_ble_eq_true rfl⟩ (Nat.le_of_ble_eq_true rfl) ⟨Nat.le_of_ble_eq_true rfl, Nat.le_of_ble_eq_true rfl⟩ dX12_setsOf_42 rfl (kI (fun r9 S7 h => ?_))
    refine v_if_eq X (tgt := 52) dX12_setsOf_45 (by decide) (fun c10 => ?_) (fun c10 => ?_)
    · replace h := h.1 c10
      exact j52 bk6 hbk6 _ _ _ _ _ _ _ h
    · replace h := h.2 c10
      refine v_iconst X (v := 1) dX12_setsOf_48 (by decide) ?_
      refine v_goto X (tgt := 53) dX12_setsOf_49 (by decide) ?_
      exact j53 bk6 hbk6 _ _ _ _ _ _ _ _ h
  have j6 : ∀ (bk6 : hp → Nat → Int32 → Int32 → Int32 → Int32 → Int32 → Prop) (hbk6 : ∀ (S : hp) (l0 : Nat) (l1 : Int32) (l2 : Int32) (l3 : Int32) (l4 : Int32) (l5 : Int32), bk6 S l0 l1 l2 l3 l4 l5 → VM l b D cy 6 2 50 0 0 (pI Q) p e s m args below meth c S 0 0 6 [(0, .ref l0), (1, .int l1), (2, .int l2), (3, .int l3), (4, .int l4), (5, .int l5)] []) (S : hp) (l0 : Nat) (l1 : Int32) (l2 : Int32) (l3 : Int32) (l4 : Int32) (l5 : Int32), wB_X12_setsOf_6 bk6 Q S l0 l1 l2 l3 l4 l5 → VM l b D cy 6 2 50 0 0 (pI Q) p e s m args below meth c S 0 0 6 [(0, .ref l0), (1, .int l1), (2, .int l2), (3, .int l3), (4, .int l4), (5, .int l5)] [] := by
    intro bk6 hbk6 S l0 l1 l2 l3 l4 l5 h
    unfold wB_X12_setsOf_6 at h
    refine v_iload X 5 dX12_setsOf_6 rfl ?_
    refine v_iconst X (v := 1) dX12_setsOf_8 (by decide) ?_
    refine v_aload_n X 0 dX12_setsOf_9 rfl rfl ?_
    obtain ⟨hk1, h⟩ := h
    obtain ⟨r2, hr2, h⟩ := h
    refine v_getR X (T := TX12) (N := 26) (k := 5) hk1 (by decide) rfl (by decide) inX12 wd944 rfl dX12_setsOf_10 hr2 ?_
    refine v_iconst X (v := 3) dX12_setsOf_13 (by decide) ?_
    obtain ⟨hk3, h⟩ := h
    obtain ⟨hi4, h⟩ := h
    refine v_iald X hk3 hi4 dX12_setsOf_14 ?_
    refine v_ishl X dX12_setsOf_15 ?_
    refine v_icmp_ge X (tgt := 62) dX12_setsOf_16 (by decide) (fun c5 => ?_) (fun c5 => ?_)
    · replace h := h.1 c5
      refine v_iload X 4 dX12_setsOf_62 rfl ?_
      exact v_iret X hr hlk ⟨_, rfl, h⟩ dX12_setsOf_64
    · replace h := h.2 c5
      refine v_iload X 4 dX12_setsOf_19 rfl ?_
      refine v_iload_n X 3 dX12_setsOf_21 rfl rfl ?_
      refine v_ldc X wd1070 dX12_setsOf_22 ?_
      refine v_icmp_eq X (tgt := 37) dX12_setsOf_24 (by decide) (fun c6 => ?_) (fun c6 => ?_)
      · replace h := h.1 c6
        refine v_lv (lv' := [(0, .ref l0), (1, .int l1), (2, .int l2), (3, .int l3), (5, .int l5)]) [0, 1, 2, 3, 5] rfl ?_
        exact j37 bk6 hbk6 _ _ _ _ _ _ _ h
      · replace h := h.2 c6
        refine v_iload X 5 dX12_setsOf_27 rfl ?_
        refine v_iload_n X 3 dX12_setsOf_29 rfl rfl ?_
        refine v_ishr X dX12_setsOf_30 ?_
        refine v_iconst X (v := 1) dX12_setsOf_31 (by decide) ?_
        refine v_iand X dX12_setsOf_32 ?_
        refine v_iconst X (v := 1) dX12_setsOf_33 (by decide) ?_
        refine v_icmp_ne X (tgt := 52) dX12_setsOf_34 (by decide) (fun c13 => ?_) (fun c13 => ?_)
        · replace h := h.1 c13
          refine v_lv (lv' := [(0, .ref l0), (1, .int l1), (2, .int l2), (3, .int l3), (5, .int l5)]) [0, 1, 2, 3, 5] rfl ?_
          exact j52 bk6 hbk6 _ _ _ _ _ _ _ h
        · replace h := h.2 c13
          refine v_lv (lv' := [(0, .ref l0), (1, .int l1), (2, .int l2), (3, .int l3), (5, .int l5)]) [0, 1, 2, 3, 5] rfl ?_
          exact j37 bk6 hbk6 _ _ _ _ _ _ _ h
  have l6 : ∀  (n : Nat) (S : hp) (l0 : Nat) (l1 : Int32) (l2 : Int32) (l3 : Int32) (l4 : Int32) (l5 : Int32), wl_X12_setsOf_6 Q n S l0 l1 l2 l3 l4 l5 → VM l b D cy 6 2 50 0 0 (pI Q) p e s m args below meth c S 0 0 6 [(0, .ref l0), (1, .int l1), (2, .int l2), (3, .int l3), (4, .int l4), (5, .int l5)] [] := by
    intro  n
    induction n with
    | zero => intro S l0 l1 l2 l3 l4 l5 h; exact h.elim
    | succ n ih => intro S l0 l1 l2 l3 l4 l5 h; exact j6 (wl_X12_setsOf_6 Q n) ih S l0 l1 l2 l3 l4 l5 h
  unfold wp_X12_setsOf at h
  show VM l b D cy 6 2 50 0 0 (pI Q) p e s m args below meth c S 0 0 0 [(0, .ref a0), (1, .int x1), (2, .int x2), (3, .int x3)] []
  refine v_iconst X (v := 0) dX12_setsOf_0 (by decide) ?_
  refine v_istore X (lv' := [(4, .int (0 : Int32)), (0, .ref a0), (1, .int x1), (2, .int x2), (3, .int x3)]) dX12_setsOf_1 (by decide) rfl ?_
  refine v_iconst X (v := 0) dX12_setsOf_3 (by decide) ?_
  refine v_istore X (lv' := [(5, .int (0 : Int32)), (4, .int (0 : Int32)), (0, .ref a0), (1, .int x1), (2, .int x2), (3, .int x3)]) dX12_setsOf_4 (by decide) rfl ?_
  refine v_lv (lv' := [(0, .ref a0), (1, .int x1), (2, .int x2), (3, .int x3), (4, .int (0 : Int32)), (5, .int (0 : Int32))]) [2, 3, 4, 5, 1, 0] rfl ?_
  obtain ⟨n, h⟩ := h
  exact l6 n _ _ _ _ _ _ _ h
def wB_X12_noRow_35 (Q : Int32 → hp → Prop) (S : hp) (l0 : Nat) : Prop :=
  hK S l0 = 11 ∧ wp_X12_finding (fun r9 S7 => Q r9 S7) S l0 (2 : Int32)
def wp_X12_noRow (Q : Int32 → hp → Prop) (S : hp) (a0 : Nat) (x1 : Int32) (x2 : Int32) (x3 : Int32) : Prop :=
  hK S a0 = 11 ∧ ∃ r2 : Nat, hR S a0 2 = some r2 ∧ hK S r2 = 12 ∧ vp_in x1 (hN S r2) ∧ ((0 ≤ (hI S r2 (x1).toNatClampNeg) → ((x2 < 0 → wB_X12_noRow_35 Q S a0) ∧ (¬ x2 < 0 → ∃ r10 : Nat, hR S a0 3 = some r10 ∧ hK S r10 = 12 ∧ vp_in x1 (hN S r10) ∧ (((lg_cmp ((x2).toInt64 + (x3).toInt64) ((hI S r10 (x1).toNatClampNeg)).toInt64) ≤ 0 → ∀ S14 : hp, S14 = setI S a0 1 (0 : Int32) → Q (0 : Int32) S14) ∧ (¬ (lg_cmp ((x2).toInt64 + (x3).toInt64) ((hI S r10 (x1).toNatClampNeg)).toInt64) ≤ 0 → wB_X12_noRow_35 Q S a0))))) ∧ (¬ 0 ≤ (hI S r2 (x1).toNatClampNeg) → wp_X12_finding (fun r23 S22 => Q r23 S22) S a0 (1 : Int32)))
theorem k_X12_noRow : Cond.code yX12_noRow cX12_noRow 4 (some .int) ∈ gtb := mg 1203 (by decide +kernel) (by decide +kernel)
theorem dn_X12_noRow : yX12_noRow.cls ≠ "java/lang/invoke/MethodHandle" ∧ yX12_noRow.cls ≠ "java/lang/invoke/VarHandle" ∧ (parseMethodDescriptor yX12_noRow.desc).map (fun d => d.parameters.length) = some 3 := by decide +kernel
set_option maxRecDepth 100000 in
set_option maxHeartbeats 4000000 in
theorem s_X12_noRow (l : Launch) (b : Nat) (D : va_G) (cy : Nat → ClassId) {Q : Int32 → hp → Prop} {S : hp} {a0 : Nat} {x1 : Int32} {x2 : Int32} {x3 : Int32} (h : wp_X12_noRow Q S a0 x1 x2 x3) : MT l yX12_noRow cX12_noRow 4 (some .int) 1 21 0 0 b D cy S [.ref a0, .int x1, .int x2, .int x3] (pI Q) := by
  refine MT.of (by decide +kernel) (Nat.le_of_ble_eq_true rfl) ?_
  intro p e s m args below meth c X hr hlk hnm
  have j35 : ∀  (S : hp) (l0 : Nat), wB_X12_noRow_35 Q S l0 → VM l b D cy 4 1 21 0 0 (pI Q) p e s m args below meth c S 0 0 35 [(0, .ref l0)] [] := by
    intro  S l0 h
    unfold wB_X12_noRow_35 at h
    refine v_aload_n X 0 dX12_noRow_35 rfl rfl ?_
    refine v_iconst X (v := 2) dX12_noRow_36 (by decide) ?_
    obtain ⟨hk8, h⟩ := h
    refine v_callV X (av := [.int (2 : Int32)]) (T := TX12) (N := 26) (s_X12_finding l b D cy h) hk8 (by decide) rfl wd1031 wd1033 wd20 wd62 k_X12_finding dn_X12_finding rfl ⟨Nat.le_of_ble_eq_true rfl, Nat.le_of_ble_eq_true rfl⟩ (Nat.le_of_ble_eq_true rfl) ⟨Nat.le_of_ble_eq_true rfl, Nat.le_of_ble_eq_true rfl⟩ dX12_noRow_37 rfl (kI (fun r9 S7 h => ?_))
    exact v_iret X hr hlk ⟨_, rfl, h⟩ dX12_noRow_40
  unfold wp_X12_noRow at h
  show VM l b D cy 4 1 21 0 0 (pI Q) p e s m args below meth c S 0 0 0 [(0, .ref a0), (1, .int x1), (2, .int x2), (3, .int x3)] []
  refine v_aload_n X 0 dX12_noRow_0 rfl rfl ?_
  obtain ⟨hk1, h⟩ := h
  obtain ⟨r2, hr2, h⟩ := h
  refine v_getR X (T := TX12) (N := 26) (k := 2) hk1 (by decide) rfl (by decide) inX12 wd941 rfl dX12_noRow_1 hr2 ?_
  refine v_iload_n X 1 dX12_noRow_4 rfl rfl ?_
  obtain ⟨hk3, h⟩ := h
  obtain ⟨hi4, h⟩ := h
  refine v_iald X hk3 hi4 dX12_noRow_5 ?_
  refine v_if_ge X (tgt := 15) dX12_noRow_6 (by decide) (fun c5 => ?_) (fun c5 => ?_)
  · replace h := h.1 c5
    refine v_iload_n X 2 dX12_noRow_15 rfl rfl ?_
    refine v_if_lt X (tgt := 35) dX12_noRow_16 (by decide) (fun c6 => ?_) (fun c6 => ?_)
    · replace h := h.1 c6
      refine v_lv (lv' := [(0, .ref a0)]) [0] rfl ?_
      exact j35 _ _ h
    · replace h := h.2 c6
      refine v_iload_n X 2 dX12_noRow_19 rfl rfl ?_
      refine v_i2l X dX12_noRow_20 ?_
      refine v_iload_n X 3 dX12_noRow_21 rfl rfl ?_
      refine v_i2l X dX12_noRow_22 ?_
      refine v_ladd X dX12_noRow_23 ?_
      refine v_aload_n X 0 dX12_noRow_24 rfl rfl ?_
      obtain ⟨r10, hr10, h⟩ := h
      refine v_getR X (T := TX12) (N := 26) (k := 3) hk1 (by decide) rfl (by decide) inX12 wd942 rfl dX12_noRow_25 hr10 ?_
      refine v_iload_n X 1 dX12_noRow_28 rfl rfl ?_
      obtain ⟨hk11, h⟩ := h
      obtain ⟨hi12, h⟩ := h
      refine v_iald X hk11 hi12 dX12_noRow_29 ?_
      refine v_i2l X dX12_noRow_30 ?_
      refine v_lcmp X dX12_noRow_31 ?_
      refine v_if_le X (tgt := 41) dX12_noRow_32 (by decide) (fun c13 => ?_) (fun c13 => ?_)
      · replace h := h.1 c13
        refine v_aload_n X 0 dX12_noRow_41 rfl rfl ?_
        refine v_iconst X (v := 0) dX12_noRow_42 (by decide) ?_
        refine v_putI X (T := TX12) (N := 26) (k := 1) hk1 (by decide) rfl (by decide) inX12 wd940 tyX12 tyX12_ok nmX12 rfl rfl rfl rfl dX12_noRow_43 ?_
        refine v_nmS (fun S14 eS14 => ?_)
        replace h := h S14 eS14
        have hk15 : hK S14 a0 = 11 := by rw [eS14]; exact hk1
        have hk16 : hK S14 r2 = 12 := by rw [eS14]; exact hk3
        have hk17 : hK S14 r10 = 12 := by rw [eS14]; exact hk11
        have hi18 : vp_in x1 (hN S14 r2) := by rw [eS14]; exact hi4
        have hi19 : vp_in x1 (hN S14 r10) := by rw [eS14]; exact hi12
        have hr20 : hR S14 a0 2 = some r2 := by rw [eS14]; exact hr2
        have hr21 : hR S14 a0 3 = some r10 := by rw [eS14]; exact hr10
        refine v_iconst X (v := 0) dX12_noRow_46 (by decide) ?_
        exact v_iret X hr hlk ⟨_, rfl, h⟩ dX12_noRow_47
      · replace h := h.2 c13
        refine v_lv (lv' := [(0, .ref a0)]) [0] rfl ?_
        exact j35 _ _ h
  · replace h := h.2 c5
    refine v_aload_n X 0 dX12_noRow_9 rfl rfl ?_
    refine v_iconst X (v := 1) dX12_noRow_10 (by decide) ?_
    refine v_callV X (av := [.int (1 : Int32)]) (T := TX12) (N := 26) (s_X12_finding l b D cy h) hk1 (by decide) rfl wd1031 wd1033 wd20 wd62 k_X12_finding dn_X12_finding rfl ⟨Nat.le_of_ble_eq_true rfl, Nat.le_of_ble_eq_true rfl⟩ (Nat.le_of_ble_eq_true rfl) ⟨Nat.le_of_ble_eq_true rfl, Nat.le_of_ble_eq_true rfl⟩ dX12_noRow_11 rfl (kI (fun r23 S22 h => ?_))
    exact v_iret X hr hlk ⟨_, rfl, h⟩ dX12_noRow_14
def wB_X12_liars_133 (bk81 : hp → Nat → Int32 → Int32 → Int32 → Int32 → Prop) (Q : Int32 → hp → Prop) (S : hp) (l0 : Nat) (l1 : Int32) (l6 : Int32) (l8 : Int32) (k0 : Int32) : Prop :=
  ∀ v27 : Int32, v27 = l8 + (1 : Int32) → bk81 S l0 l1 l6 k0 v27
def wB_X12_liars_131 (bk81 : hp → Nat → Int32 → Int32 → Int32 → Int32 → Prop) (Q : Int32 → hp → Prop) (S : hp) (l0 : Nat) (l1 : Int32) (l6 : Int32) (l7 : Int32) (l8 : Int32) : Prop :=
  wB_X12_liars_133 bk81 Q S l0 l1 l6 l8 l7
def wB_X12_liars_126 (bk81 : hp → Nat → Int32 → Int32 → Int32 → Int32 → Prop) (Q : Int32 → hp → Prop) (S : hp) (l0 : Nat) (l1 : Int32) (l6 : Int32) (l8 : Int32) : Prop :=
  wB_X12_liars_133 bk81 Q S l0 l1 l6 l8 l8
def wB_X12_liars_81 (bk81 : hp → Nat → Int32 → Int32 → Int32 → Int32 → Prop) (Q : Int32 → hp → Prop) (S : hp) (l0 : Nat) (l1 : Int32) (l6 : Int32) (l7 : Int32) (l8 : Int32) : Prop :=
  hK S l0 = 11 ∧ ∃ r20 : Nat, hR S l0 5 = some r20 ∧ hK S r20 = 12 ∧ vp_in (3 : Int32) (hN S r20) ∧ ((((1 : Int32) <<< ((hI S r20 ((3 : Int32)).toNatClampNeg) &&& 31)) ≤ l8 → Q l7 S) ∧ (¬ ((1 : Int32) <<< ((hI S r20 ((3 : Int32)).toNatClampNeg) &&& 31)) ≤ l8 → wp_X12_isBy (fun r25 S24 => ((r25 = 0 → wB_X12_liars_131 bk81 Q S24 l0 l1 l6 l7 l8) ∧ (¬ r25 = 0 → ((l7 = (-1000000 : Int32) → wB_X12_liars_126 bk81 Q S24 l0 l1 l6 l8) ∧ (¬ l7 = (-1000000 : Int32) → wp_X12_bits (fun r30 S29 => wp_X12_bits (fun r32 S31 => ((r32 ≤ r30 → wB_X12_liars_131 bk81 Q S31 l0 l1 l6 l7 l8) ∧ (¬ r32 ≤ r30 → wB_X12_liars_126 bk81 Q S31 l0 l1 l6 l8))) S29 l7) S24 l8))))) S l0 l1 l6 l8))
def wl_X12_liars_81 (Q : Int32 → hp → Prop) : Nat → hp → Nat → Int32 → Int32 → Int32 → Int32 → Prop
  | 0 => fun _ _ _ _ _ _ => False
  | n + 1 => wB_X12_liars_81 (wl_X12_liars_81 Q n) Q
def wp_X12_liars (Q : Int32 → hp → Prop) (S : hp) (a0 : Nat) (x1 : Int32) (x2 : Int32) (x3 : Int32) (x4 : Int32) : Prop :=
  hK S a0 = 11 ∧ ∀ S2 : hp, S2 = setI S a0 0 (0 : Int32) → wp_X12_isDummy (fun r5 S4 => ((r5 = 0 → Q (-1000001 : Int32) S4) ∧ (¬ r5 = 0 → wp_X12_isRow (fun r8 S7 => ((r8 = 0 → Q (-1000001 : Int32) S7) ∧ (¬ r8 = 0 → wp_X12_in (fun r11 S10 => ((¬ r11 = 0 → hK S10 a0 = 11 ∧ wp_X12_noRow (fun r15 S13 => ((0 ≤ r15 → ∀ v17 : Int32, v17 = (((40 : Int32) * x2) + x3) → ((¬ x4 = 0 → ∃ n : Nat, wl_X12_liars_81 Q n S13 a0 x1 v17 (-1000000 : Int32) (0 : Int32)) ∧ (x4 = 0 → hK S13 a0 = 11 ∧ wp_X12_setsOf (fun r36 S34 => Q r36 S34) S13 a0 x1 v17 (-1000000 : Int32)))) ∧ (¬ 0 ≤ r15 → Q r15 S13))) S10 a0 x2 x3 (3 : Int32)) ∧ (r11 = 0 → Q (-1000001 : Int32) S10))) S7 ((x4).toInt64) ((0 : Int64)) ((1 : Int64))))) S4 x2))) S2 a0 x1
theorem k_X12_liars : Cond.code yX12_liars cX12_liars 9 (some .int) ∈ gtb := mg 1199 (by decide +kernel) (by decide +kernel)
theorem dn_X12_liars : yX12_liars.cls ≠ "java/lang/invoke/MethodHandle" ∧ yX12_liars.cls ≠ "java/lang/invoke/VarHandle" ∧ (parseMethodDescriptor yX12_liars.desc).map (fun d => d.parameters.length) = some 4 := by decide +kernel
set_option maxRecDepth 100000 in
set_option maxHeartbeats 4000000 in
theorem s_X12_liars (l : Launch) (b : Nat) (D : va_G) (cy : Nat → ClassId) {Q : Int32 → hp → Prop} {S : hp} {a0 : Nat} {x1 : Int32} {x2 : Int32} {x3 : Int32} {x4 : Int32} (h : wp_X12_liars Q S a0 x1 x2 x3 x4) : MT l yX12_liars cX12_liars 9 (some .int) 3 75 0 0 b D cy S [.ref a0, .int x1, .int x2, .int x3, .int x4] (pI Q) := by
  refine MT.of (by decide +kernel) (Nat.le_of_ble_eq_true rfl) ?_
  intro p e s m args below meth c X hr hlk hnm
  have j133 : ∀ (bk81 : hp → Nat → Int32 → Int32 → Int32 → Int32 → Prop) (hbk81 : ∀ (S : hp) (l0 : Nat) (l1 : Int32) (l6 : Int32) (l7 : Int32) (l8 : Int32), bk81 S l0 l1 l6 l7 l8 → VM l b D cy 9 3 75 0 0 (pI Q) p e s m args below meth c S 0 0 81 [(0, .ref l0), (1, .int l1), (6, .int l6), (7, .int l7), (8, .int l8)] []) (S : hp) (l0 : Nat) (l1 : Int32) (l6 : Int32) (l8 : Int32) (k0 : Int32), wB_X12_liars_133 bk81 Q S l0 l1 l6 l8 k0 → VM l b D cy 9 3 75 0 0 (pI Q) p e s m args below meth c S 0 0 133 [(0, .ref l0), (1, .int l1), (6, .int l6), (8, .int l8)] [.int k0] := by
    intro bk81 hbk81 S l0 l1 l6 l8 k0 h
    unfold wB_X12_liars_133 at h
    refine v_istore X (lv' := [(7, .int k0), (0, .ref l0), (1, .int l1), (6, .int l6), (8, .int l8)]) dX12_liars_133 (by decide) rfl ?_
    obtain ⟨v27, hv27⟩ : ∃ y : Int32, y = l8 + (1 : Int32) := ⟨_, rfl⟩
    replace h := h v27 hv27
    refine v_iinc X (j := 4) (v := v27) (lv' := [(8, .int v27), (7, .int k0), (0, .ref l0), (1, .int l1), (6, .int l6)]) dX12_liars_135 rfl (by rw [hv27] <;> rfl) (by decide) rfl ?_
    refine v_goto X (tgt := 81) dX12_liars_138 (by decide) ?_
    refine v_lv (lv' := [(0, .ref l0), (1, .int l1), (6, .int l6), (7, .int k0), (8, .int v27)]) [2, 3, 4, 1, 0] rfl ?_
    exact hbk81 _ _ _ _ _ _ h
  have j131 : ∀ (bk81 : hp → Nat → Int32 → Int32 → Int32 → Int32 → Prop) (hbk81 : ∀ (S : hp) (l0 : Nat) (l1 : Int32) (l6 : Int32) (l7 : Int32) (l8 : Int32), bk81 S l0 l1 l6 l7 l8 → VM l b D cy 9 3 75 0 0 (pI Q) p e s m args below meth c S 0 0 81 [(0, .ref l0), (1, .int l1), (6, .int l6), (7, .int l7), (8, .int l8)] []) (S : hp) (l0 : Nat) (l1 : Int32) (l6 : Int32) (l7 : Int32) (l8 : Int32), wB_X12_liars_131 bk81 Q S l0 l1 l6 l7 l8 → VM l b D cy 9 3 75 0 0 (pI Q) p e s m args below meth c S 0 0 131 [(0, .ref l0), (1, .int l1), (6, .int l6), (7, .int l7), (8, .int l8)] [] := by
    intro bk81 hbk81 S l0 l1 l6 l7 l8 h
    unfold wB_X12_liars_131 at h
    refine v_iload X 3 dX12_liars_131 rfl ?_
    refine v_lv (lv' := [(0, .ref l0), (1, .int l1), (6, .int l6), (8, .int l8)]) [0, 1, 2, 4] rfl ?_
    exact j133 bk81 hbk81 _ _ _ _ _ _ h
  have j126 : ∀ (bk81 : hp → Nat → Int32 → Int32 → Int32 → Int32 → Prop) (hbk81 : ∀ (S : hp) (l0 : Nat) (l1 : Int32) (l6 : Int32) (l7 : Int32) (l8 : Int32), bk81 S l0 l1 l6 l7 l8 → VM l b D cy 9 3 75 0 0 (pI Q) p e s m args below meth c S 0 0 81 [(0, .ref l0), (1, .int l1), (6, .int l6), (7, .int l7), (8, .int l8)] []) (S : hp) (l0 : Nat) (l1 : Int32) (l6 : Int32) (l8 : Int32), wB_X12_liars_126 bk81 Q S l0 l1 l6 l8 → VM l b D cy 9 3 75 0 0 (pI Q) p e s m args below meth c S 0 0 126 [(0, .ref l0), (1, .int l1), (6, .int l6), (8, .int l8)] [] := by
    intro bk81 hbk81 S l0 l1 l6 l8 h
    unfold wB_X12_liars_126 at h
    refine v_iload X 3 dX12_liars_126 rfl ?_
    refine v_goto X (tgt := 133) dX12_liars_128 (by decide) ?_
    exact j133 bk81 hbk81 _ _ _ _ _ _ h
  have j81 : ∀ (bk81 : hp → Nat → Int32 → Int32 → Int32 → Int32 → Prop) (hbk81 : ∀ (S : hp) (l0 : Nat) (l1 : Int32) (l6 : Int32) (l7 : Int32) (l8 : Int32), bk81 S l0 l1 l6 l7 l8 → VM l b D cy 9 3 75 0 0 (pI Q) p e s m args below meth c S 0 0 81 [(0, .ref l0), (1, .int l1), (6, .int l6), (7, .int l7), (8, .int l8)] []) (S : hp) (l0 : Nat) (l1 : Int32) (l6 : Int32) (l7 : Int32) (l8 : Int32), wB_X12_liars_81 bk81 Q S l0 l1 l6 l7 l8 → VM l b D cy 9 3 75 0 0 (pI Q) p e s m args below meth c S 0 0 81 [(0, .ref l0), (1, .int l1), (6, .int l6), (7, .int l7), (8, .int l8)] [] := by
    intro bk81 hbk81 S l0 l1 l6 l7 l8 h
    unfold wB_X12_liars_81 at h
    refine v_iload X 4 dX12_liars_81 rfl ?_
    refine v_iconst X (v := 1) dX12_liars_83 (by decide) ?_
    refine v_aload_n X 0 dX12_liars_84 rfl rfl ?_
    obtain ⟨hk19, h⟩ := h
    obtain ⟨r20, hr20, h⟩ := h
    refine v_getR X (T := TX12) (N := 26) (k := 5) hk19 (by decide) rfl (by decide) inX12 wd944 rfl dX12_liars_85 hr20 ?_
    refine v_iconst X (v := 3) dX12_liars_88 (by decide) ?_
    obtain ⟨hk21, h⟩ := h
    obtain ⟨hi22, h⟩ := h
    refine v_iald X hk21 hi22 dX12_liars_89 ?_
    refine v_ishl X dX12_liars_90 ?_
    refine v_icmp_ge X (tgt := 141) dX12_liars_91 (by decide) (fun c23 => ?_) (fun c23 => ?_)
    · replace h := h.1 c23
      refine v_iload X 3 dX12_liars_141 rfl ?_
      exact v_iret X hr hlk ⟨_, rfl, h⟩ dX12_liars_143
    · replace h := h.2 c23
      refine v_aload_n X 0 dX12_liars_94 rfl rfl ?_
      refine v_iload_n X 1 dX12_liars_95 rfl rfl ?_
      refine v_iload X 2 dX12_liars_96 rfl ?_
      refine v_iload X 4 dX12_liars_98 rfl ?_
      refine v_callV X (av := [.int l1, .int l6, .int l8]) (T := TX12) (N := 26) (s_X12_isBy l b D cy h) hk19 (by decide) rfl wd1208 wd1210 wd43 wd62 k_X12_isBy dn_X12_isBy rfl ⟨Nat.le_of_ble_eq_true rfl, Nat.le_of_ble_eq_true rfl⟩ (Nat.le_of_ble_eq_true rfl) ⟨Nat.le_of_ble_eq_true rfl, Nat.le_of_ble_eq_true rfl⟩ dX12_liars_100 rfl (kI (fun r25 S24 h => ?_))
      refine v_if_eq X (tgt := 131) dX12_liars_103 (by decide) (fun c26 => ?_) (fun c26 => ?_)
      · replace h := h.1 c26
        exact j131 bk81 hbk81 _ _ _ _ _ _ h
      · replace h := h.2 c26
        refine v_iload X 3 dX12_liars_106 rfl ?_
        refine v_ldc X wd1070 dX12_liars_108 ?_
        refine v_icmp_eq X (tgt := 126) dX12_liars_110 (by decide) (fun c28 => ?_) (fun c28 => ?_)
        · replace h := h.1 c28
          refine v_lv (lv' := [(0, .ref l0), (1, .int l1), (6, .int l6), (8, .int l8)]) [0, 1, 2, 4] rfl ?_
          exact j126 bk81 hbk81 _ _ _ _ _ h
        · replace h := h.2 c28
          refine v_iload X 4 dX12_liars_113 rfl ?_
          refine v_callS X (av := [.int l8]) (s_X12_bits l b D cy h) wd1212 wd1213 wd62 k_X12_bits dn_X12_bits rfl ⟨Nat.le_of_ble_eq_true rfl, Nat.le_of_ble_eq_true rfl⟩ (Nat.le_of_ble_eq_true rfl) ⟨Nat.le_of_ble_eq_true rfl, Nat.le_of_ble_eq_true rfl⟩ dX12_liars_115 rfl (kI (fun r30 S29 h => ?_))
          refine v_iload X 3 dX12_liars_118 rfl ?_
          refine v_callS X (av := [.int l7]) (s_X12_bits l b D cy h) wd1212 wd1213 wd62 k_X12_bits dn_X12_bits rfl ⟨Nat.le_of_ble_eq_true rfl, Nat.le_of_ble_eq_true rfl⟩ (Nat.le_of_ble_eq_true rfl) ⟨Nat.le_of_ble_eq_true rfl, Nat.le_of_ble_eq_true rfl⟩ dX12_liars_120 rfl (kI (fun r32 S31 h => ?_))
          refine v_icmp_ge X (tgt := 131) dX12_liars_123 (by decide) (fun c33 => ?_) (fun c33 => ?_)
          · replace h := h.1 c33
            exact j131 bk81 hbk81 _ _ _ _ _ _ h
          · replace h := h.2 c33
            refine v_lv (lv' := [(0, .ref l0), (1, .int l1), (6, .int l6), (8, .int l8)]) [0, 1, 2, 4] rfl ?_
            exact j126 bk81 hbk81 _ _ _ _ _ h
  have l81 : ∀  (n : Nat) (S : hp) (l0 : Nat) (l1 : Int32) (l6 : Int32) (l7 : Int32) (l8 : Int32), wl_X12_liars_81 Q n S l0 l1 l6 l7 l8 → VM l b D cy 9 3 75 0 0 (pI Q) p e s m args below meth c S 0 0 81 [(0, .ref l0), (1, .int l1), (6, .int l6), (7, .int l7), (8, .int l8)] [] := by
    intro  n
    induction n with
    | zero => intro S l0 l1 l6 l7 l8 h; exact h.elim
    | succ n ih => intro S l0 l1 l6 l7 l8 h; exact j81 (wl_X12_liars_81 Q n) ih S l0 l1 l6 l7 l8 h
  unfold wp_X12_liars at h
  show VM l b D cy 9 3 75 0 0 (pI Q) p e s m args below meth c S 0 0 0 [(0, .ref a0), (1, .int x1), (2, .int x2), (3, .int x3), (4, .int x4)] []
  refine v_aload_n X 0 dX12_liars_0 rfl rfl ?_
  refine v_iconst X (v := 0) dX12_liars_1 (by decide) ?_
  obtain ⟨hk1, h⟩ := h
  refine v_putI X (T := TX12) (N := 26) (k := 0) hk1 (by decide) rfl (by decide) inX12 wd939 tyX12 tyX12_ok nmX12 rfl rfl rfl rfl dX12_liars_2 ?_
  refine v_nmS (fun S2 eS2 => ?_)
  replace h := h S2 eS2
  have hk3 : hK S2 a0 = 11 := by rw [eS2]; exact hk1
  refine v_aload_n X 0 dX12_liars_5 rfl rfl ?_
  refine v_iload_n X 1 dX12_liars_6 rfl rfl ?_
  refine v_callV X (av := [.int x1]) (T := TX12) (N := 26) (s_X12_isDummy l b D cy h) hk3 (by decide) rfl wd1119 wd1121 wd32 wd62 k_X12_isDummy dn_X12_isDummy rfl ⟨Nat.le_of_ble_eq_true rfl, Nat.le_of_ble_eq_true rfl⟩ (Nat.le_of_ble_eq_true rfl) ⟨Nat.le_of_ble_eq_true rfl, Nat.le_of_ble_eq_true rfl⟩ dX12_liars_7 rfl (kI (fun r5 S4 h => ?_))
  refine v_if_eq X (tgt := 31) dX12_liars_10 (by decide) (fun c6 => ?_) (fun c6 => ?_)
  · replace h := h.1 c6
    refine v_ldc X wd1030 dX12_liars_31 ?_
    exact v_iret X hr hlk ⟨_, rfl, h⟩ dX12_liars_33
  · replace h := h.2 c6
    refine v_iload_n X 2 dX12_liars_13 rfl rfl ?_
    refine v_callS X (av := [.int x2]) (s_X12_isRow l b D cy h) wd1022 wd1023 wd62 k_X12_isRow dn_X12_isRow rfl ⟨Nat.le_of_ble_eq_true rfl, Nat.le_of_ble_eq_true rfl⟩ (Nat.le_of_ble_eq_true rfl) ⟨Nat.le_of_ble_eq_true rfl, Nat.le_of_ble_eq_true rfl⟩ dX12_liars_14 rfl (kI (fun r8 S7 h => ?_))
    refine v_if_eq X (tgt := 31) dX12_liars_17 (by decide) (fun c9 => ?_) (fun c9 => ?_)
    · replace h := h.1 c9
      refine v_ldc X wd1030 dX12_liars_31 ?_
      exact v_iret X hr hlk ⟨_, rfl, h⟩ dX12_liars_33
    · replace h := h.2 c9
      refine v_iload X 4 dX12_liars_20 rfl ?_
      refine v_i2l X dX12_liars_22 ?_
      refine v_lconst X (v := 0) dX12_liars_23 (by decide) ?_
      refine v_lconst X (v := 1) dX12_liars_24 (by decide) ?_
      refine v_callS X (av := [.long (x4).toInt64, .long (0 : Int64), .long (1 : Int64)]) (s_X12_in l b D cy h) wd1026 wd1027 wd62 k_X12_in dn_X12_in rfl ⟨Nat.le_of_ble_eq_true rfl, Nat.le_of_ble_eq_true rfl⟩ (Nat.le_of_ble_eq_true rfl) ⟨Nat.le_of_ble_eq_true rfl, Nat.le_of_ble_eq_true rfl⟩ dX12_liars_25 rfl (kI (fun r11 S10 h => ?_))
      refine v_if_ne X (tgt := 34) dX12_liars_28 (by decide) (fun c12 => ?_) (fun c12 => ?_)
      · replace h := h.1 c12
        refine v_aload_n X 0 dX12_liars_34 rfl rfl ?_
        refine v_iload_n X 2 dX12_liars_35 rfl rfl ?_
        refine v_iload_n X 3 dX12_liars_36 rfl rfl ?_
        refine v_iconst X (v := 3) dX12_liars_37 (by decide) ?_
        obtain ⟨hk14, h⟩ := h
        refine v_callV X (av := [.int x2, .int x3, .int (3 : Int32)]) (T := TX12) (N := 26) (s_X12_noRow l b D cy h) hk14 (by decide) rfl wd1200 wd1202 wd41 wd62 k_X12_noRow dn_X12_noRow rfl ⟨Nat.le_of_ble_eq_true rfl, Nat.le_of_ble_eq_true rfl⟩ (Nat.le_of_ble_eq_true rfl) ⟨Nat.le_of_ble_eq_true rfl, Nat.le_of_ble_eq_true rfl⟩ dX12_liars_38 rfl (kI (fun r15 S13 h => ?_))
        refine v_istore X (lv' := [(5, .int r15), (0, .ref a0), (1, .int x1), (2, .int x2), (3, .int x3), (4, .int x4)]) dX12_liars_41 (by decide) rfl ?_
        refine v_iload X 0 dX12_liars_43 rfl ?_
        refine v_if_ge X (tgt := 51) dX12_liars_45 (by decide) (fun c16 => ?_) (fun c16 => ?_)
        · replace h := h.1 c16
          refine v_bipush X (v := 40) dX12_liars_51 (by decide) ?_
          refine v_iload_n X 3 dX12_liars_53 rfl rfl ?_
          refine v_imul X dX12_liars_54 ?_
          refine v_iload_n X 4 dX12_liars_55 rfl rfl ?_
          refine v_iadd X dX12_liars_56 ?_
          refine v_nm (fun v17 hv17 => ?_)
          replace h := h v17 hv17
          refine v_istore X (lv' := [(6, .int v17), (5, .int r15), (0, .ref a0), (1, .int x1), (2, .int x2), (3, .int x3), (4, .int x4)]) dX12_liars_57 (by decide) rfl ?_
          refine v_iload X 6 dX12_liars_59 rfl ?_
          refine v_if_ne X (tgt := 74) dX12_liars_61 (by decide) (fun c18 => ?_) (fun c18 => ?_)
          · replace h := h.1 c18
            refine v_ldc X wd1070 dX12_liars_74 ?_
            refine v_istore X (lv' := [(7, .int (-1000000 : Int32)), (6, .int v17), (5, .int r15), (0, .ref a0), (1, .int x1), (2, .int x2), (3, .int x3), (4, .int x4)]) dX12_liars_76 (by decide) rfl ?_
            refine v_iconst X (v := 0) dX12_liars_78 (by decide) ?_
            refine v_istore X (lv' := [(8, .int (0 : Int32)), (7, .int (-1000000 : Int32)), (6, .int v17), (5, .int r15), (0, .ref a0), (1, .int x1), (2, .int x2), (3, .int x3), (4, .int x4)]) dX12_liars_79 (by decide) rfl ?_
            refine v_lv (lv' := [(0, .ref a0), (1, .int x1), (6, .int v17), (7, .int (-1000000 : Int32)), (8, .int (0 : Int32))]) [4, 5, 2, 1, 0] rfl ?_
            obtain ⟨n, h⟩ := h
            exact l81 n _ _ _ _ _ _ h
          · replace h := h.2 c18
            refine v_aload_n X 2 dX12_liars_64 rfl rfl ?_
            refine v_iload_n X 3 dX12_liars_65 rfl rfl ?_
            refine v_iload X 0 dX12_liars_66 rfl ?_
            refine v_ldc X wd1070 dX12_liars_68 ?_
            obtain ⟨hk35, h⟩ := h
            refine v_callV X (av := [.int x1, .int v17, .int (-1000000 : Int32)]) (T := TX12) (N := 26) (s_X12_setsOf l b D cy h) hk35 (by decide) rfl wd1204 wd1206 wd42 wd62 k_X12_setsOf dn_X12_setsOf rfl ⟨Nat.le_of_ble_eq_true rfl, Nat.le_of_ble_eq_true rfl⟩ (Nat.le_of_ble_eq_true rfl) ⟨Nat.le_of_ble_eq_true rfl, Nat.le_of_ble_eq_true rfl⟩ dX12_liars_70 rfl (kI (fun r36 S34 h => ?_))
            exact v_iret X hr hlk ⟨_, rfl, h⟩ dX12_liars_73
        · replace h := h.2 c16
          refine v_iload X 0 dX12_liars_48 rfl ?_
          exact v_iret X hr hlk ⟨_, rfl, h⟩ dX12_liars_50
      · replace h := h.2 c12
        refine v_ldc X wd1030 dX12_liars_31 ?_
        exact v_iret X hr hlk ⟨_, rfl, h⟩ dX12_liars_33
def wB_X12_common_4 (bk4 : hp → Int32 → Int32 → Prop) (Q : Int32 → hp → Prop) (S : hp) (l2 : Int32) (l3 : Int32) : Prop :=
  ((l3 = 0 → Q l2 S) ∧ (¬ l3 = 0 → ¬ l3 = 0 ∧ ∀ v3 : Int32, v3 = (l2 - l2 / l3 * l3) → bk4 S l3 v3))
def wl_X12_common_4 (Q : Int32 → hp → Prop) : Nat → hp → Int32 → Int32 → Prop
  | 0 => fun _ _ _ => False
  | n + 1 => wB_X12_common_4 (wl_X12_common_4 Q n) Q
def wp_X12_common (Q : Int32 → hp → Prop) (S : hp) (x0 : Int32) (x1 : Int32) : Prop :=
  ∃ n : Nat, wl_X12_common_4 Q n S x0 x1
theorem k_X12_common : Cond.code yX12_common cX12_common 5 (some .int) ∈ gtb := mg 1221 (by decide +kernel) (by decide +kernel)
theorem dn_X12_common : yX12_common.cls ≠ "java/lang/invoke/MethodHandle" ∧ yX12_common.cls ≠ "java/lang/invoke/VarHandle" ∧ (parseMethodDescriptor yX12_common.desc).map (fun d => d.parameters.length) = some 2 := by decide +kernel
set_option maxRecDepth 100000 in
set_option maxHeartbeats 4000000 in
theorem s_X12_common (l : Launch) (b : Nat) (D : va_G) (cy : Nat → ClassId) {Q : Int32 → hp → Prop} {S : hp} {x0 : Int32} {x1 : Int32} (h : wp_X12_common Q S x0 x1) : MT l yX12_common cX12_common 5 (some .int) 0 0 0 0 b D cy S [.int x0, .int x1] (pI Q) := by
  refine MT.of (by decide +kernel) (Nat.le_of_ble_eq_true rfl) ?_
  intro p e s m args below meth c X hr hlk hnm
  have j4 : ∀ (bk4 : hp → Int32 → Int32 → Prop) (hbk4 : ∀ (S : hp) (l2 : Int32) (l3 : Int32), bk4 S l2 l3 → VM l b D cy 5 0 0 0 0 (pI Q) p e s m args below meth c S 0 0 4 [(2, .int l2), (3, .int l3)] []) (S : hp) (l2 : Int32) (l3 : Int32), wB_X12_common_4 bk4 Q S l2 l3 → VM l b D cy 5 0 0 0 0 (pI Q) p e s m args below meth c S 0 0 4 [(2, .int l2), (3, .int l3)] [] := by
    intro bk4 hbk4 S l2 l3 h
    unfold wB_X12_common_4 at h
    refine v_iload_n X 1 dX12_common_4 rfl rfl ?_
    refine v_if_eq X (tgt := 21) dX12_common_5 (by decide) (fun c1 => ?_) (fun c1 => ?_)
    · replace h := h.1 c1
      refine v_iload_n X 0 dX12_common_21 rfl rfl ?_
      exact v_iret X hr hlk ⟨_, rfl, h⟩ dX12_common_22
    · replace h := h.2 c1
      refine v_iload_n X 0 dX12_common_8 rfl rfl ?_
      refine v_iload_n X 1 dX12_common_9 rfl rfl ?_
      obtain ⟨hz2, h⟩ := h
      refine v_irem X dX12_common_10 hz2 ?_
      refine v_nm (fun v3 hv3 => ?_)
      replace h := h v3 hv3
      refine v_istore X (lv' := [(4, .int v3), (2, .int l2), (3, .int l3)]) dX12_common_11 (by decide) rfl ?_
      refine v_iload_n X 2 dX12_common_13 rfl rfl ?_
      refine v_istore_n X (lv' := [(2, .int l3), (4, .int v3), (3, .int l3)]) dX12_common_14 rfl (by decide) rfl ?_
      refine v_iload X 1 dX12_common_15 rfl ?_
      refine v_istore_n X (lv' := [(3, .int v3), (2, .int l3), (4, .int v3)]) dX12_common_17 rfl (by decide) rfl ?_
      refine v_goto X (tgt := 4) dX12_common_18 (by decide) ?_
      refine v_lv (lv' := [(2, .int l3), (3, .int v3)]) [1, 0] rfl ?_
      exact hbk4 _ _ _ h
  have l4 : ∀  (n : Nat) (S : hp) (l2 : Int32) (l3 : Int32), wl_X12_common_4 Q n S l2 l3 → VM l b D cy 5 0 0 0 0 (pI Q) p e s m args below meth c S 0 0 4 [(2, .int l2), (3, .int l3)] [] := by
    intro  n
    induction n with
    | zero => intro S l2 l3 h; exact h.elim
    | succ n ih => intro S l2 l3 h; exact j4 (wl_X12_common_4 Q n) ih S l2 l3 h
  unfold wp_X12_common at h
  show VM l b D cy 5 0 0 0 0 (pI Q) p e s m args below meth c S 0 0 0 [(0, .int x0), (1, .int x1)] []
  refine v_iload_n X 0 dX12_common_0 rfl rfl ?_
  refine v_istore_n X (lv' := [(2, .int x0), (0, .int x0), (1, .int x1)]) dX12_common_1 rfl (by decide) rfl ?_
  refine v_iload_n X 2 dX12_common_2 rfl rfl ?_
  refine v_istore_n X (lv' := [(3, .int x1), (2, .int x0), (0, .int x0), (1, .int x1)]) dX12_common_3 rfl (by decide) rfl ?_
  refine v_lv (lv' := [(2, .int x0), (3, .int x1)]) [1, 0] rfl ?_
  obtain ⟨n, h⟩ := h
  exact l4 n _ _ _ h
