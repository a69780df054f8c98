theorem in_p {ws : List Cond} (ps : List Nat) (h : ws.map some = ps.map (fun i => lw_tbl[i]?)) (hg : ws.all goodWord = true) : ∀ w ∈ ws, w ∈ gtb := fun w hw => by
  have h1 : some w ∈ ws.map some := List.mem_map.mpr ⟨w, hw, rfl⟩
  rw [h] at h1
  obtain ⟨i, -, hi⟩ := List.mem_map.mp h1
  exact mg i hi (List.all_eq_true.mp hg w hw)
theorem inX0 : ∀ w ∈ u_ws RX0 TX0 3, w ∈ gtb := in_p [207, 209, 211] (by decide +kernel) (by decide +kernel)
theorem dfX0 : ∀ k, k < 3 → defaultValue (tyX0 k) = if rfb 0 k = true then .null else .int 0 := by decide +kernel
theorem inX1 : ∀ w ∈ u_ws RX1 TX1 2, w ∈ gtb := in_p [422, 424] (by decide +kernel) (by decide +kernel)
theorem dfX1 : ∀ k, k < 2 → defaultValue (tyX1 k) = if rfb 1 k = true then .null else .int 0 := by decide +kernel
theorem inX2 : ∀ w ∈ u_ws RX2 TX2 2, w ∈ gtb := in_p [192, 194] (by decide +kernel) (by decide +kernel)
theorem dfX2 : ∀ k, k < 2 → defaultValue (tyX2 k) = if rfb 2 k = true then .null else .int 0 := by decide +kernel
theorem inX3 : ∀ w ∈ u_ws RX3 TX3 2, w ∈ gtb := in_p [442, 443] (by decide +kernel) (by decide +kernel)
theorem dfX3 : ∀ k, k < 2 → defaultValue (tyX3 k) = if rfb 3 k = true then .null else .int 0 := by decide +kernel
theorem inX5 : ∀ w ∈ u_ws RX5 TX5 2, w ∈ gtb := in_p [433, 434] (by decide +kernel) (by decide +kernel)
theorem dfX5 : ∀ k, k < 2 → defaultValue (tyX5 k) = if rfb 4 k = true then .null else .int 0 := by decide +kernel
theorem inX6 : ∀ w ∈ u_ws RX6 TX6 4, w ∈ gtb := in_p [93, 95, 97, 99] (by decide +kernel) (by decide +kernel)
theorem dfX6 : ∀ k, k < 4 → defaultValue (tyX6 k) = if rfb 5 k = true then .null else .int 0 := by decide +kernel
theorem inX7 : ∀ w ∈ u_ws RX7 TX7 2, w ∈ gtb := in_p [451, 452] (by decide +kernel) (by decide +kernel)
theorem dfX7 : ∀ k, k < 2 → defaultValue (tyX7 k) = if rfb 6 k = true then .null else .int 0 := by decide +kernel
theorem inX8 : ∀ w ∈ u_ws RX8 TX8 10, w ∈ gtb := in_p [163, 165, 167, 169, 171, 173, 175, 177, 179, 181] (by decide +kernel) (by decide +kernel)
theorem dfX8 : ∀ k, k < 10 → defaultValue (tyX8 k) = if rfb 7 k = true then .null else .int 0 := by decide +kernel
theorem inX9 : ∀ w ∈ u_ws RX9 TX9 6, w ∈ gtb := in_p [119, 121, 123, 125, 127, 129] (by decide +kernel) (by decide +kernel)
theorem dfX9 : ∀ k, k < 6 → defaultValue (tyX9 k) = if rfb 8 k = true then .null else .int 0 := by decide +kernel
theorem inX10 : ∀ w ∈ u_ws RX10 TX10 2, w ∈ gtb := in_p [457, 458] (by decide +kernel) (by decide +kernel)
theorem dfX10 : ∀ k, k < 2 → defaultValue (tyX10 k) = if rfb 9 k = true then .null else .int 0 := by decide +kernel
theorem inX11 : ∀ w ∈ u_ws RX11 TX11 12, w ∈ gtb := in_p [227, 229, 231, 233, 235, 237, 239, 241, 243, 245, 247, 249] (by decide +kernel) (by decide +kernel)
theorem dfX11 : ∀ k, k < 12 → defaultValue (tyX11 k) = if rfb 10 k = true then .null else .int 0 := by decide +kernel
theorem inX12 : ∀ w ∈ u_ws RX12 TX12 26, w ∈ gtb := in_p [965, 967, 969, 971, 973, 975, 977, 979, 981, 983, 985, 987, 989, 991, 993, 995, 997, 999, 1001, 1003, 1005, 1007, 1009, 1011, 1013, 1015] (by decide +kernel) (by decide +kernel)
theorem dfX12 : ∀ k, k < 26 → defaultValue (tyX12 k) = if rfb 11 k = true then .null else .int 0 := by decide +kernel
theorem wdaI : Cond.arrayClass .int ∈ gtb := mg 102 (by decide +kernel) (by decide +kernel)
theorem wdaZ : Cond.arrayClass .boolean ∈ gtb := mg 103 (by decide +kernel) (by decide +kernel)
def isCook (k : Nat) : Int32 := if k = 1 then 1 else 0
def isGossip (k : Nat) : Int32 := if k = 3 ∨ k = 6 then 1 else 0
def isRival (k : Nat) : Int32 := if k = 4 then 1 else 0
def isSpy (k : Nat) : Int32 := if k = 6 then 1 else 0
def isValet (k : Nat) : Int32 := if k = 9 ∨ k = 1 ∨ k = 4 then 1 else 0
def mfn (k : Nat) : String := match k with
  | 0 => "number"
  | _ => "bribe"
theorem hC_newG (S : hp) (n k : Nat) : hC (newG S n k) = hC S + (1 + n) := rfl
theorem hK_newG (S : hp) (n k b : Nat) : hK (newG S n k) b = if b = hC S then 16 else if hC S < b ∧ b ≤ hC S + n then 12 else hK S b := rfl
theorem hN_newG (S : hp) (n k b : Nat) : hN (newG S n k) b = if b = hC S then n else if hC S < b ∧ b ≤ hC S + n then k else hN S b := rfl
theorem hI_newG (S : hp) (n k b j : Nat) : hI (newG S n k) b j = if hC S ≤ b ∧ b ≤ hC S + n then 0 else hI S b j := rfl
theorem hR_newG (S : hp) (n k b j : Nat) : hR (newG S n k) b j = if b = hC S then (if j < n then some (hC S + 1 + j) else none) else if hC S < b ∧ b ≤ hC S + n then none else hR S b j := rfl
section V7
variable {p : Program} {l : Launch} {e : Env} {R : Room} {s : State} {m : MethodId} {args : Array Value} {below : List Frame} {meth : Method} {c : Code} {b : Nat} {D : va_G} {cy : Nat → ClassId} {nL : Nat} {Qf : State → Prop} {S : hp} {cells slots pc : Nat} {lv : List (Nat × Value)} {st : List Value} {cc : ByteArray} {own : String}
theorem v_getM (X : CX p s m args c cc nL own D cy) {a k idx : Nat} (hk : isM (hK S a)) (hkN : k < 2) (hlink : Cond.fieldLink own idx "DummyInches$Mouth" (mfn k) "I" ∈ gtb) (hd : decode cc pc = .ok (.getfield idx, 3)) (kk : V p l e R s m args below meth c b D cy nL Qf S cells slots (pc + 3) lv (.int (hI S a k) :: st)) : V p l e R s m args below meth c b D cy nL Qf S cells slots pc lv (.ref a :: st) := by
  match k, hkN with
  | 0, hkN =>
    rcases hk with hk | hk | hk | hk | hk
    · exact v_getI X (T := TX1) (N := 2) (k := 0) hk (by decide) rfl (by decide) inX1 hlink rfl hd kk
    · exact v_getI X (T := TX3) (N := 2) (k := 0) hk (by decide) rfl (by decide) inX3 hlink rfl hd kk
    · exact v_getI X (T := TX5) (N := 2) (k := 0) hk (by decide) rfl (by decide) inX5 hlink rfl hd kk
    · exact v_getI X (T := TX7) (N := 2) (k := 0) hk (by decide) rfl (by decide) inX7 hlink rfl hd kk
    · exact v_getI X (T := TX10) (N := 2) (k := 0) hk (by decide) rfl (by decide) inX10 hlink rfl hd kk
  | 1, hkN =>
    rcases hk with hk | hk | hk | hk | hk
    · exact v_getI X (T := TX1) (N := 2) (k := 1) hk (by decide) rfl (by decide) inX1 hlink rfl hd kk
    · exact v_getI X (T := TX3) (N := 2) (k := 1) hk (by decide) rfl (by decide) inX3 hlink rfl hd kk
    · exact v_getI X (T := TX5) (N := 2) (k := 1) hk (by decide) rfl (by decide) inX5 hlink rfl hd kk
    · exact v_getI X (T := TX7) (N := 2) (k := 1) hk (by decide) rfl (by decide) inX7 hlink rfl hd kk
    · exact v_getI X (T := TX10) (N := 2) (k := 1) hk (by decide) rfl (by decide) inX10 hlink rfl hd kk
theorem v_putM (X : CX p s m args c cc nL own D cy) {a k idx : Nat} {v : Int32} (hk : isM (hK S a)) (hkN : k < 2) (hin2 : meth.name = "<init>") (hown : "DummyInches$Mouth" = own) (hlink : Cond.fieldLink own idx "DummyInches$Mouth" (mfn k) "I" ∈ gtb) (hd : decode cc pc = .ok (.putfield idx, 3)) (kk : V p l e R s m args below meth c b D cy nL Qf (setI S a k v) cells slots (pc + 3) lv st) : V p l e R s m args below meth c b D cy nL Qf S cells slots pc lv (.int v :: .ref a :: st) := by
  match k, hkN with
  | 0, hkN =>
    rcases hk with hk | hk | hk | hk | hk
    · exact v_putFI X (T := TX1) (N := 2) (k := 0) hk (by decide) rfl (by decide) inX1 hlink tyX1 tyX1_ok nmX1 rfl hin2 hown rfl rfl rfl hd kk
    · exact v_putFI X (T := TX3) (N := 2) (k := 0) hk (by decide) rfl (by decide) inX3 hlink tyX3 tyX3_ok nmX3 rfl hin2 hown rfl rfl rfl hd kk
    · exact v_putFI X (T := TX5) (N := 2) (k := 0) hk (by decide) rfl (by decide) inX5 hlink tyX5 tyX5_ok nmX5 rfl hin2 hown rfl rfl rfl hd kk
    · exact v_putFI X (T := TX7) (N := 2) (k := 0) hk (by decide) rfl (by decide) inX7 hlink tyX7 tyX7_ok nmX7 rfl hin2 hown rfl rfl rfl hd kk
    · exact v_putFI X (T := TX10) (N := 2) (k := 0) hk (by decide) rfl (by decide) inX10 hlink tyX10 tyX10_ok nmX10 rfl hin2 hown rfl rfl rfl hd kk
  | 1, hkN =>
    rcases hk with hk | hk | hk | hk | hk
    · exact v_putFI X (T := TX1) (N := 2) (k := 1) hk (by decide) rfl (by decide) inX1 hlink tyX1 tyX1_ok nmX1 rfl hin2 hown rfl rfl rfl hd kk
    · exact v_putFI X (T := TX3) (N := 2) (k := 1) hk (by decide) rfl (by decide) inX3 hlink tyX3 tyX3_ok nmX3 rfl hin2 hown rfl rfl rfl hd kk
    · exact v_putFI X (T := TX5) (N := 2) (k := 1) hk (by decide) rfl (by decide) inX5 hlink tyX5 tyX5_ok nmX5 rfl hin2 hown rfl rfl rfl hd kk
    · exact v_putFI X (T := TX7) (N := 2) (k := 1) hk (by decide) rfl (by decide) inX7 hlink tyX7 tyX7_ok nmX7 rfl hin2 hown rfl rfl rfl hd kk
    · exact v_putFI X (T := TX10) (N := 2) (k := 1) hk (by decide) rfl (by decide) inX10 hlink tyX10 tyX10_ok nmX10 rfl hin2 hown rfl rfl rfl hd kk
theorem v_inCook (X : CX p s m args c cc nL own D cy) {a idx : Nat} (hk : isM (hK S a)) (hlink : Cond.classLink own idx RX1 ∈ gtb) (hd : decode cc pc = .ok (.instanceof idx, 3)) (kk : V p l e R s m args below meth c b D cy nL Qf S cells slots (pc + 3) lv (.int (isCook (hK S a)) :: st)) : V p l e R s m args below meth c b D cy nL Qf S cells slots pc lv (.ref a :: st) := by
  rcases hk with hk | hk | hk | hk | hk
  · exact v_inS X (C := RX1) (T := TX1) (N := 2) hk (by decide) rfl hlink hd (by rw [hk] at kk; exact kk)
  · exact v_inN X (C := RX3) (T := TX3) (N := 2) hk (by decide) rfl hlink (List.mem_of_getElem? (i := 4) rfl) hd (by rw [hk] at kk; exact kk)
  · exact v_inN X (C := RX5) (T := TX5) (N := 2) hk (by decide) rfl hlink (List.mem_of_getElem? (i := 7) rfl) hd (by rw [hk] at kk; exact kk)
  · exact v_inN X (C := RX7) (T := TX7) (N := 2) hk (by decide) rfl hlink (List.mem_of_getElem? (i := 11) rfl) hd (by rw [hk] at kk; exact kk)
  · exact v_inN X (C := RX10) (T := TX10) (N := 2) hk (by decide) rfl hlink (List.mem_of_getElem? (i := 13) rfl) hd (by rw [hk] at kk; exact kk)
theorem v_inGossip (X : CX p s m args c cc nL own D cy) {a idx : Nat} (hk : isM (hK S a)) (hlink : Cond.classLink own idx RX3 ∈ gtb) (hd : decode cc pc = .ok (.instanceof idx, 3)) (kk : V p l e R s m args below meth c b D cy nL Qf S cells slots (pc + 3) lv (.int (isGossip (hK S a)) :: st)) : V p l e R s m args below meth c b D cy nL Qf S cells slots pc lv (.ref a :: st) := by
  rcases hk with hk | hk | hk | hk | hk
  · exact v_inN X (C := RX1) (T := TX1) (N := 2) hk (by decide) rfl hlink (List.mem_of_getElem? (i := 1) rfl) hd (by rw [hk] at kk; exact kk)
  · exact v_inS X (C := RX3) (T := TX3) (N := 2) hk (by decide) rfl hlink hd (by rw [hk] at kk; exact kk)
  · exact v_inN X (C := RX5) (T := TX5) (N := 2) hk (by decide) rfl hlink (List.mem_of_getElem? (i := 8) rfl) hd (by rw [hk] at kk; exact kk)
  · exact v_inY X (C := RX7) (T := TX7) (N := 2) hk (by decide) rfl hlink (List.mem_of_getElem? (i := 2) rfl) hd (by rw [hk] at kk; exact kk)
  · exact v_inN X (C := RX10) (T := TX10) (N := 2) hk (by decide) rfl hlink (List.mem_of_getElem? (i := 15) rfl) hd (by rw [hk] at kk; exact kk)
theorem v_inRival (X : CX p s m args c cc nL own D cy) {a idx : Nat} (hk : isM (hK S a)) (hlink : Cond.classLink own idx RX5 ∈ gtb) (hd : decode cc pc = .ok (.instanceof idx, 3)) (kk : V p l e R s m args below meth c b D cy nL Qf S cells slots (pc + 3) lv (.int (isRival (hK S a)) :: st)) : V p l e R s m args below meth c b D cy nL Qf S cells slots pc lv (.ref a :: st) := by
  rcases hk with hk | hk | hk | hk | hk
  · exact v_inN X (C := RX1) (T := TX1) (N := 2) hk (by decide) rfl hlink (List.mem_of_getElem? (i := 0) rfl) hd (by rw [hk] at kk; exact kk)
  · exact v_inN X (C := RX3) (T := TX3) (N := 2) hk (by decide) rfl hlink (List.mem_of_getElem? (i := 5) rfl) hd (by rw [hk] at kk; exact kk)
  · exact v_inS X (C := RX5) (T := TX5) (N := 2) hk (by decide) rfl hlink hd (by rw [hk] at kk; exact kk)
  · exact v_inN X (C := RX7) (T := TX7) (N := 2) hk (by decide) rfl hlink (List.mem_of_getElem? (i := 12) rfl) hd (by rw [hk] at kk; exact kk)
  · exact v_inN X (C := RX10) (T := TX10) (N := 2) hk (by decide) rfl hlink (List.mem_of_getElem? (i := 14) rfl) hd (by rw [hk] at kk; exact kk)
theorem v_inSpy (X : CX p s m args c cc nL own D cy) {a idx : Nat} (hk : isM (hK S a)) (hlink : Cond.classLink own idx RX7 ∈ gtb) (hd : decode cc pc = .ok (.instanceof idx, 3)) (kk : V p l e R s m args below meth c b D cy nL Qf S cells slots (pc + 3) lv (.int (isSpy (hK S a)) :: st)) : V p l e R s m args below meth c b D cy nL Qf S cells slots pc lv (.ref a :: st) := by
  rcases hk with hk | hk | hk | hk | hk
  · exact v_inN X (C := RX1) (T := TX1) (N := 2) hk (by decide) rfl hlink (List.mem_of_getElem? (i := 2) rfl) hd (by rw [hk] at kk; exact kk)
  · exact v_inN X (C := RX3) (T := TX3) (N := 2) hk (by decide) rfl hlink (List.mem_of_getElem? (i := 6) rfl) hd (by rw [hk] at kk; exact kk)
  · exact v_inN X (C := RX5) (T := TX5) (N := 2) hk (by decide) rfl hlink (List.mem_of_getElem? (i := 9) rfl) hd (by rw [hk] at kk; exact kk)
  · exact v_inS X (C := RX7) (T := TX7) (N := 2) hk (by decide) rfl hlink hd (by rw [hk] at kk; exact kk)
  · exact v_inN X (C := RX10) (T := TX10) (N := 2) hk (by decide) rfl hlink (List.mem_of_getElem? (i := 16) rfl) hd (by rw [hk] at kk; exact kk)
theorem v_inValet (X : CX p s m args c cc nL own D cy) {a idx : Nat} (hk : isM (hK S a)) (hlink : Cond.classLink own idx RX10 ∈ gtb) (hd : decode cc pc = .ok (.instanceof idx, 3)) (kk : V p l e R s m args below meth c b D cy nL Qf S cells slots (pc + 3) lv (.int (isValet (hK S a)) :: st)) : V p l e R s m args below meth c b D cy nL Qf S cells slots pc lv (.ref a :: st) := by
  rcases hk with hk | hk | hk | hk | hk
  · exact v_inY X (C := RX1) (T := TX1) (N := 2) hk (by decide) rfl hlink (List.mem_of_getElem? (i := 0) rfl) hd (by rw [hk] at kk; exact kk)
  · exact v_inN X (C := RX3) (T := TX3) (N := 2) hk (by decide) rfl hlink (List.mem_of_getElem? (i := 3) rfl) hd (by rw [hk] at kk; exact kk)
  · exact v_inY X (C := RX5) (T := TX5) (N := 2) hk (by decide) rfl hlink (List.mem_of_getElem? (i := 1) rfl) hd (by rw [hk] at kk; exact kk)
  · exact v_inN X (C := RX7) (T := TX7) (N := 2) hk (by decide) rfl hlink (List.mem_of_getElem? (i := 10) rfl) hd (by rw [hk] at kk; exact kk)
  · exact v_inS X (C := RX10) (T := TX10) (N := 2) hk (by decide) rfl hlink hd (by rw [hk] at kk; exact kk)
theorem HW.growG {H H' : Heap} (hH : HW b D cy S H) {n k : Nat} (z : H'.size = b + hC S + (1 + n)) (o : ∀ q : Nat, q < b + hC S → H'[q]? = H[q]?) (h0 : H'[b + hC S]? = some (arrV (cy 16) n (fun j => .ref (b + hC S + 1 + j)))) (hi : ∀ j, j < n → H'[b + hC S + 1 + j]? = some (arrV (cy 12) k (fun _ => .int 0))) : HW b D cy (newG S n k) H' := by
  refine ⟨by rw [z, hC_newG]; omega, fun j hj => ?_, fun j hj => ?_⟩
  · rw [hC_newG]
    rw [hK_newG] at hj
    by_cases h : j = hC S
    · omega
    · rw [if_neg h] at hj
      by_cases h2 : hC S < j ∧ j ≤ hC S + n
      · omega
      · rw [if_neg h2] at hj
        have := hH.2.1 j hj
        omega
  · by_cases h : j = hC S
    · subst h
      refine Or.inr ⟨by rw [hK_newG, if_pos rfl]; omega, ?_⟩
      rw [hK_newG, if_pos rfl, hN_newG, if_pos rfl, h0]
      congr 1
      unfold arrV
      congr 2
      funext q
      have hq := q.isLt
      have e9 : hR (newG S n k) (hC S) q.val = some (hC S + 1 + q.val) := by rw [hR_newG, if_pos rfl, if_pos hq]
      have e8 : hK (newG S n k) (hC S) = 16 := by rw [hK_newG, if_pos rfl]
      rw [sv_R e8 rfl, e9]
      exact congrArg Value.ref (show (b + hC S + 1 + q.val : Nat) = b + (hC S + 1 + q.val) by omega)
    · by_cases h2 : hC S < j ∧ j ≤ hC S + n
      · refine Or.inr ⟨by rw [hK_newG, if_neg h, if_pos h2]; omega, ?_⟩
        rw [hK_newG, if_neg h, if_pos h2, hN_newG, if_neg h, if_pos h2]
        have e := hi (j - hC S - 1) (by omega)
        have e2 : b + hC S + 1 + (j - hC S - 1) = b + j := by omega
        rw [e2] at e
        rw [e]
        congr 2
        funext q
        simp [sv, hK_newG, hI_newG, rfb, h, h2]
        omega
      · have hK' : hK (newG S n k) j = hK S j := by rw [hK_newG, if_neg h, if_neg h2]
        have hN' : hN (newG S n k) j = hN S j := by rw [hN_newG, if_neg h, if_neg h2]
        have h3 : ¬ (hC S ≤ j ∧ j ≤ hC S + n) := by omega
        have hv : sv b (newG S n k) j = sv b S j := by funext q; simp [sv, hK', hI_newG, hR_newG, h, h2, h3]
        rw [hK'] at hj
        have hl := hH.2.1 j hj
        have hq := o (b + j) (by omega)
        rcases hH.2.2 j hj with ⟨g1, r, g2, g3⟩ | ⟨g1, g2⟩
        · exact Or.inl ⟨by rw [hK']; exact g1, r, by rw [hK']; exact g2, by rw [hK', hv]; exact g3.kept hq⟩
        · exact Or.inr ⟨by rw [hK']; exact g1, by rw [hK', hN', hv, hq]; exact g2⟩
theorem outerC_arr (cA : ClassId) (N h0 : Nat) : ∀ i, Jvm.Free.Multi.outerC cA N h0 i = arrV cA N (fun j => if j < i then .ref (h0 + 1 + j) else .null)
  | 0 => by
    show ({ cls := cA, slots := Array.replicate N .null, vm := .none } : Cell) = _
    rw [arrV_new]
    congr 1
  | i + 1 => by
    show (Jvm.Free.Multi.outerC cA N h0 i).setSlot i (.ref (h0 + 1 + i)) = _
    rw [outerC_arr cA N h0 i, arrV_store]
    congr 1
    funext j
    unfold updV
    by_cases h : j = i
    · simp [h]
    · have : (j < i + 1) = (j < i) := by apply propext; omega
      simp [h, this]
theorem v_mna (X : CX p s m args c cc nL own D cy) {idx N K : Nat} {n k : Int32} (hcl : Cond.classLink own idx "[[I" ∈ gtb) (harr : Cond.arrayClass .int ∈ gtb) (hn : ¬ n < 0) (hk : ¬ k < 0) (hN : n.toNatClampNeg = N) (hM : k.toNatClampNeg = K) (hb1 : N ≤ 1000) (hb2 : K ≤ 1000) (hcells : cells + (1 + N) ≤ R.cells) (hslots : slots + (N + N * K) ≤ R.slots) (hd : decode cc pc = .ok (.multianewarray idx 2, 4)) (kk : V p l e R s m args below meth c b D cy nL Qf (newG S N K) (cells + 1 + N) (slots + N + N * K) (pc + 4) lv (.ref (hC S) :: st)) : V p l e R s m args below meth c b D cy nL Qf S cells slots pc lv (.int k :: .int n :: st) := by
  intro H locs ls hH hF hl T hT Z
  subst hN
  subst hM
  have hts := X.2.2.2.2.1
  have hov : (Cond.arrayOver (.array .int)).before #[] s = true := X.2.2.2.2.2.2.2.2.2.2 _ (List.mem_of_getElem? (i := 2) rfl)
  have hov2 : (Cond.arrayOver (.array .int)).before args s = true := hov
  obtain ⟨vm₁, cA, comp, -, fA, fC, -, -, Z', step⟩ := Z.multianewarray2F (ty := .int) X.1 X.2.2.2.1 (hts _ hcl) hov2 (hts _ harr) (g := F0 m pc ls (.int k :: .int n :: st.map (cv b))) rfl (by rw [X.2.1]; exact hd) rfl hn hk (by omega) (by show k.toNatClampNeg * 4 ≤ _; omega) (by omega) rfl rfl hcells hslots
  have hcA : cA = cy 16 := by
    have h9 := (X.2.2.2.2.2.1.2 4 _ rfl).2
    exact Option.some.inj (fA.symm.trans h9)
  have hcI : comp = cy 12 := Option.some.inj (fC.symm.trans (X.2.2.2.2.2.1.2 0 _ rfl).2)
  subst hcA
  subst hcI
  obtain ⟨f1, f2, f3, f4⟩ := Jvm.Free.Multi.fill_facts (T.setVm vm₁) (cy 16) (cy 12) n.toNatClampNeg k.toNatClampNeg (defaultValue .int) n.toNatClampNeg
  have fo := fun (a : Nat) (ha : a < T.heap.size) => Jvm.Free.Multi.fill_old (T.setVm vm₁) (cy 16) (cy 12) n.toNatClampNeg k.toNatClampNeg (defaultValue .int) (a := a) ha n.toNatClampNeg
  have fi := fun (j : Nat) (hj : j < n.toNatClampNeg) => Jvm.Free.Multi.fill_inner (T.setVm vm₁) (cy 16) (cy 12) n.toNatClampNeg k.toNatClampNeg (defaultValue .int) n.toNatClampNeg j hj
  have hsz : T.heap.size = b + hC S := by rw [hT]; exact hH.1
  generalize hFF : Jvm.Free.Multi.fill (T.setVm vm₁) (cy 16) (cy 12) n.toNatClampNeg k.toNatClampNeg (defaultValue .int) n.toNatClampNeg = F at Z' step f1 f2 fo fi
  have hTs : (T.setVm vm₁).heap.size = T.heap.size := rfl
  have e0 : Jvm.Free.Multi.outerC (cy 16) n.toNatClampNeg T.heap.size n.toNatClampNeg = arrV (cy 16) n.toNatClampNeg (fun j => .ref (b + hC S + 1 + j)) := by
    rw [outerC_arr, hsz]
    unfold arrV
    congr 2
    funext j
    exact if_pos j.isLt
  have hW : HW b D cy (newG S n.toNatClampNeg k.toNatClampNeg) F.heap := by
    refine hH.growG (by rw [f1, hTs, hsz]; omega) (fun q hq => ?_) ?_ (fun j hj => ?_)
    · rw [fo q (by omega)]
      show T.heap[q]? = _
      rw [hT]
    · rw [hTs, hsz] at f2
      rw [f2, ← e0, hsz]
    · have := fi j hj
      rw [hTs, hsz] at this
      rw [this]
      exact congrArg some (arrV_new _ _ _)
  obtain ⟨t, a1, b1⟩ := kk F.heap locs ls hW ⟨fun q hq => by rw [fo q (by omega)]; show T.heap[q]? = _; rw [hT]; exact hF.1 q hq, hF.2⟩ hl F rfl Z'
  refine ⟨t, step t ?_, b1⟩
  have e9 : T.heap.size = b + hC S := hsz
  rw [e9]
  exact a1
end V7
