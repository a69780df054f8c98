theorem KN.same {D : va_G} {cy : Nat → ClassId} {s U : State} (e : s.vm = U.vm) (h : KN D cy s) : KN D cy U := by
  have ha : s.vm.Alike U.vm := by rw [← e]; exact Vm.Alike.refl _
  refine ⟨h.1.moved ha, fun q hq => (h.2.1 q hq).moved ha, fun q hq => (h.2.2.1 q hq).same rfl e, fun q hq => (h.2.2.2.1 q hq).same rfl e, fun q hq => (h.2.2.2.2.1 q hq).same rfl e, fun q hq => ?_⟩
  have h9 : (Cond.arrayOver q).before #[] (s.setVm U.vm) = true := by rw [Cond.arrayOver_setVmC ha]; exact h.2.2.2.2.2 q hq
  exact h9
theorem HW.grow {b : Nat} {D : va_G} {cy : Nat → ClassId} {S : hp} {H H' : Heap} (hH : HW b D cy S H) {kd n : Nat} (hkd : kd < 17) (z : H'.size = b + hC S + 1) (o : ∀ q : Nat, q < b + hC S → H'[q]? = H[q]?) (hi : cellAt b D cy (newC S kd n) (hC S) H') : HW b D cy (newC S kd n) H' := by
  refine ⟨z, fun j hj => ?_, fun j hj => ?_⟩
  · rw [hC_newC]
    rw [hK_newC] at hj
    by_cases h : j = hC S
    · omega
    · rw [if_neg h] at hj
      have := hH.2.1 j hj
      omega
  · by_cases h : j = hC S
    · subst h; exact hi
    · have hK' : hK (newC S kd n) j = hK S j := by rw [hK_newC, if_neg h]
      have hN' : hN (newC S kd n) j = hN S j := by rw [hN_newC, if_neg h]
      have hv : sv b (newC S kd n) j = sv b S j := by funext k; simp [sv, hK', hI_newC, hR_newC, h]
      rw [hK'] at hj
      have hl := hH.2.1 j hj
      have hq := o (b + j) (by omega)
      rcases hH.2.2 j hj with ⟨g1, r, g2, g3⟩ | ⟨g1, g2⟩
      · exact Or.inl ⟨by rw [hK']; exact g1, r, by rw [hK']; exact g2, by rw [hK', hv]; exact g3.kept hq⟩
      · exact Or.inr ⟨by rw [hK']; exact g1, by rw [hK', hN', hv, hq]; exact g2⟩
theorem HF.grow {b n : Nat} {s : State} {H H' : Heap} {locs : List Loc} (h : HF b s H locs) (o : ∀ q : Nat, q < b + n → H'[q]? = H[q]?) : HF b s H' locs := ⟨fun q hq => by rw [o q (by omega)]; exact h.1 q hq, h.2⟩
theorem sv_new (b : Nat) (S : hp) (kd n k : Nat) : sv b (newC S kd n) (hC S) k = if rfb kd k = true then .null else .int 0 := by
  simp [sv, hK_newC, hI_newC, hR_newC]
  by_cases h : rfb kd k = true <;> simp [h, va_rf, cv]
def CQ (b : Nat) (D : va_G) (cy : Nat → ClassId) (post : Option Value → hp → Prop) : Array Value → State → Outcome → State → Prop := fun _ st o t => ∃ (v : Option Value) (S' : hp), o = .returned (v.map (cv b)) ∧ post v S' ∧ HW b D cy S' t.heap ∧ ∀ q : Nat, q < b → t.heap[q]? = st.heap[q]?
abbrev PC (b : Nat) (D : va_G) (cy : Nat → ClassId) (S : hp) (av : List Value) : Array Value → State → Prop := va_Pc (av.map (cv b)) (fun U => HW b D cy S U.heap ∧ KN D cy U)
/-- a method's contract over the pure heap -/
def MT (l : Launch) (y : MethodName) (cc : ByteArray) (maxL : Nat) (ret : Option FieldType) (fr lo mc ms : Nat) (b : Nat) (D : va_G) (cy : Nat → ClassId) (S : hp) (av : List Value) (post : Option Value → hp → Prop) : Prop :=
  Met l y (Cond.code y cc maxL ret :: gtb) { frames := fr, cells := mc, slots := ms, locals := lo } (PC b D cy S av) (CQ b D cy post) mc ms (fun q => b ≤ q)
theorem PC_blind (b : Nat) (D : va_G) (cy : Nat → ClassId) (S : hp) (av : List Value) : FrameBlind (PC b D cy S av) := fun a U g mk h => ⟨h.1, h.2.1, KN.same (s := U) (U := U.calling g mk a) rfl h.2.2⟩
theorem lv_args_cv (b : Nat) : ∀ (av : List Value) (n : Nat), (lv_args n av).map (cvp b) = lv_args n (av.map (cv b))
  | [], n => rfl
  | v :: av, n => by
    simp only [lv_args, List.map_cons, cv_cat]
    rw [lv_args_cv b av]
section VC
variable {p : Program} {l : Launch} {e : Env} {R : Room} {s : State} {m : MethodId} {args : Array Value} {below : List Frame} {meth : Method} {c : Code} {b : Nat} {D : va_G} {cy : Nat → ClassId} {nL : Nat} {Qf : State → Prop} {S : hp} {cells slots pc : Nat} {lv : List (Nat × Value)} {st : List Value} {cc : ByteArray} {own : String}
theorem HW.size_lt {H : Heap} (hH : HW b D cy S H) : H.size = b + hC S := hH.1
theorem v_new (X : CX p s m args c cc nL own D cy) {idx N ci : Nat} {C : String} {T : u_T} (hc : vwCl[ci]? = some (C, T, N)) (hlt : ci < 12) (hin : ∀ w ∈ u_ws C T N, w ∈ gtb) (ty : Nat → FieldType) (hty : ∀ k, k < N → parseFieldDescriptor (T k).2.2.1 = some (ty k)) (hcl : Cond.classLink own idx C ∈ gtb) (hinst : Cond.instantiable C N ∈ gtb) (hini : Cond.initialized C ∈ gtb) (hdef : ∀ k, k < N → defaultValue (ty k) = if rfb ci k = true then .null else .int 0) (hcells : cells + 1 ≤ R.cells) (hslots : slots + N ≤ R.slots) (hd : decode cc pc = .ok (.new idx, 3)) (kk : V p l e R s m args below meth c b D cy nL Qf (newC S ci 0) (cells + 1) (slots + N) (pc + 3) lv (.ref (hC S) :: st)) : V p l e R s m args below meth c b D cy nL Qf S cells slots pc lv st := by
  intro H locs ls hH hF hl
  have hts := X.2.2.2.2.1
  have hKn := X.2.2.2.2.2.1.1 ci _ hc
  refine W.newcK X.1 X.2.1 X.2.2.2.1 (hts _ hcl) (hts _ hinst) (hts _ hini) rfl hd hcells hslots hKn.2.1 hH.1 fun H1 kC hkC e1 z1 o1 => ?_
  refine kk H1 locs ls (hH.grow (by omega) z1 o1 (Or.inl ⟨by rw [hK_newC, if_pos rfl]; exact hlt, _, by rw [hK_newC, if_pos rfl]; exact hc, ?_⟩)) (hF.grow o1) hl
  rw [hK_newC, if_pos rfl]
  exact (u_born ty hts hin hKn hkC e1 hty).to (fun k hk => by rw [sv_new]; exact hdef k hk)
theorem v_newI (X : CX p s m args c cc nL own D cy) {n : Int32} {N : Nat} (harr : Cond.arrayClass .int ∈ gtb) (hn : ¬ n < 0) (hN : n.toNatClampNeg = N) (hbytes : N * componentBytes .int ≤ 536870912) (hcells : cells + 1 ≤ R.cells) (hslots : slots + N ≤ R.slots) (hd : decode cc pc = .ok (.newarray .int, 2)) (kk : V p l e R s m args below meth c b D cy nL Qf (newC S 12 N) (cells + 1) (slots + N) (pc + 2) lv (.ref (hC S) :: st)) : V p l e R s m args below meth c b D cy nL Qf S cells slots pc lv (.int n :: st) := by
  intro H locs ls hH hF hl
  refine va_newaK (atype := .int) X.1 X.2.1 (X.2.2.2.2.1 _ harr) rfl hd rfl hn hN hbytes hcells hslots hH.1 fun H1 cA e1 z1 o1 hAr hNm => ?_
  have hcA : cA = cy 12 := Option.some.inj (hNm.symm.trans (X.2.2.2.2.2.1.2 0 _ rfl).2)
  refine kk H1 locs ls (hH.grow (by omega) z1 o1 (Or.inr ⟨by rw [hK_newC, if_pos rfl]; omega, ?_⟩)) (hF.grow o1) hl
  rw [hK_newC, if_pos rfl, hN_newC, if_pos rfl, e1, hcA]
  congr 2
  funext k
  rw [sv_new]
  rfl
theorem v_newZ (X : CX p s m args c cc nL own D cy) {n : Int32} {N : Nat} (harr : Cond.arrayClass .boolean ∈ gtb) (hn : ¬ n < 0) (hN : n.toNatClampNeg = N) (hbytes : N * componentBytes .boolean ≤ 536870912) (hcells : cells + 1 ≤ R.cells) (hslots : slots + N ≤ R.slots) (hd : decode cc pc = .ok (.newarray .boolean, 2)) (kk : V p l e R s m args below meth c b D cy nL Qf (newC S 13 N) (cells + 1) (slots + N) (pc + 2) lv (.ref (hC S) :: st)) : V p l e R s m args below meth c b D cy nL Qf S cells slots pc lv (.int n :: st) := by
  intro H locs ls hH hF hl
  refine va_newaK (atype := .boolean) X.1 X.2.1 (X.2.2.2.2.1 _ harr) rfl hd rfl hn hN hbytes hcells hslots hH.1 fun H1 cA e1 z1 o1 hAr hNm => ?_
  have hcA : cA = cy 13 := Option.some.inj (hNm.symm.trans (X.2.2.2.2.2.1.2 1 _ rfl).2)
  refine kk H1 locs ls (hH.grow (by omega) z1 o1 (Or.inr ⟨by rw [hK_newC, if_pos rfl]; omega, ?_⟩)) (hF.grow o1) hl
  rw [hK_newC, if_pos rfl, hN_newC, if_pos rfl, e1, hcA]
  congr 2
  funext k
  rw [sv_new]
  rfl
theorem v_newM (X : CX p s m args c cc nL own D cy) {idx : Nat} {n : Int32} {N : Nat} (hcl : Cond.classLink own idx RX4 ∈ gtb) (hn : ¬ n < 0) (hN : n.toNatClampNeg = N) (hbytes : N * 4 ≤ 536870912) (hcells : cells + 1 ≤ R.cells) (hslots : slots + N ≤ R.slots) (hd : decode cc pc = .ok (.anewarray idx, 3)) (kk : V p l e R s m args below meth c b D cy nL Qf (newC S 14 N) (cells + 1) (slots + N) (pc + 3) lv (.ref (hC S) :: st)) : V p l e R s m args below meth c b D cy nL Qf S cells slots pc lv (.int n :: st) := by
  intro H locs ls hH hF hl
  subst hN
  have hov : (Cond.arrayOver (.object RX4)).before #[] s = true := X.2.2.2.2.2.2.2.2.2.2 _ (List.mem_of_getElem? (i := 0) rfl)
  have hsz := hH.1
  have hgo := W.anew (e := e) (l := l) (R := R) (below := below) (meth := meth) (locs := locs) (Q := Qf) (H := H) (cells := cells) (slots := slots) X.1 X.2.1 X.2.2.2.1 (X.2.2.2.2.1 _ hcl) (va_AO.use (C := RX4) (A := args) (U := s) hov) (g := F0 m pc ls (.int n :: st.map (cv b))) rfl hd rfl hn hbytes hcells hslots
  refine hgo fun cA kA comp h1 h2 h3 h4 => ?_
  obtain ⟨kA', comp', -, -, -, h9⟩ := (X.2.2.2.2.2.1.2 2 _ rfl).2
  have hcA : cA = cy 14 := Option.some.inj (h1.symm.trans h9)
  rw [arrV_new]
  generalize hH1 : H.push (arrV cA n.toNatClampNeg (fun _ => .null)) = H1
  have z1 : H1.size = b + hC S + 1 := by rw [← hH1, Array.size_push, hsz]
  have o1 : ∀ q : Nat, q < b + hC S → H1[q]? = H[q]? := fun q hq => by
    rw [← hH1, Array.getElem?_push, if_neg (by omega)]
  have e1 : H1[b + hC S]? = some (arrV cA n.toNatClampNeg (fun _ => .null)) := by
    rw [← hH1, Array.getElem?_push, if_pos hsz.symm]
  have hk := kk H1 locs ls (hH.grow (by omega) z1 o1 (Or.inr ⟨by rw [hK_newC, if_pos rfl]; omega, by
    rw [hK_newC, if_pos rfl, hN_newC, if_pos rfl, e1, hcA]
    congr 2
    funext k
    rw [sv_new]
    rfl⟩)) (hF.grow o1) hl
  rw [hsz]
  exact hk
theorem v_newS (X : CX p s m args c cc nL own D cy) {idx : Nat} {n : Int32} {N : Nat} (hcl : Cond.classLink own idx RX8 ∈ gtb) (hn : ¬ n < 0) (hN : n.toNatClampNeg = N) (hbytes : N * 4 ≤ 536870912) (hcells : cells + 1 ≤ R.cells) (hslots : slots + N ≤ R.slots) (hd : decode cc pc = .ok (.anewarray idx, 3)) (kk : V p l e R s m args below meth c b D cy nL Qf (newC S 15 N) (cells + 1) (slots + N) (pc + 3) lv (.ref (hC S) :: st)) : V p l e R s m args below meth c b D cy nL Qf S cells slots pc lv (.int n :: st) := by
  intro H locs ls hH hF hl
  subst hN
  have hov : (Cond.arrayOver (.object RX8)).before #[] s = true := X.2.2.2.2.2.2.2.2.2.2 _ (List.mem_of_getElem? (i := 1) rfl)
  have hsz := hH.1
  have hgo := W.anew (e := e) (l := l) (R := R) (below := below) (meth := meth) (locs := locs) (Q := Qf) (H := H) (cells := cells) (slots := slots) X.1 X.2.1 X.2.2.2.1 (X.2.2.2.2.1 _ hcl) (va_AO.use (C := RX8) (A := args) (U := s) hov) (g := F0 m pc ls (.int n :: st.map (cv b))) rfl hd rfl hn hbytes hcells hslots
  refine hgo fun cA kA comp h1 h2 h3 h4 => ?_
  obtain ⟨kA', comp', -, -, -, h9⟩ := (X.2.2.2.2.2.1.2 3 _ rfl).2
  have hcA : cA = cy 15 := Option.some.inj (h1.symm.trans h9)
  rw [arrV_new]
  generalize hH1 : H.push (arrV cA n.toNatClampNeg (fun _ => .null)) = H1
  have z1 : H1.size = b + hC S + 1 := by rw [← hH1, Array.size_push, hsz]
  have o1 : ∀ q : Nat, q < b + hC S → H1[q]? = H[q]? := fun q hq => by
    rw [← hH1, Array.getElem?_push, if_neg (by omega)]
  have e1 : H1[b + hC S]? = some (arrV cA n.toNatClampNeg (fun _ => .null)) := by
    rw [← hH1, Array.getElem?_push, if_pos hsz.symm]
  have hk := kk H1 locs ls (hH.grow (by omega) z1 o1 (Or.inr ⟨by rw [hK_newC, if_pos rfl]; omega, by
    rw [hK_newC, if_pos rfl, hN_newC, if_pos rfl, e1, hcA]
    congr 2
    funext k
    rw [sv_new]
    rfl⟩)) (hF.grow o1) hl
  rw [hsz]
  exact hk
theorem v_aastM (X : CX p s m args c cc nL own D cy) {a v ci : Nat} {i : Int32} (hk : hK S a = 14) (hv : hK S v = ci) (hci : ci = 1 ∨ ci = 3 ∨ ci = 4 ∨ ci = 6 ∨ ci = 9) (hi : vp_in i (hN S a)) (hd : decode cc pc = .ok (.aastore, 1)) (kk : V p l e R s m args below meth c b D cy nL Qf (setR S a i.toNatClampNeg (some v)) cells slots (pc + 1) lv st) : V p l e R s m args below meth c b D cy nL Qf S cells slots pc lv (.ref v :: .int i :: .ref a :: st) := by
  intro H locs ls hH hF hl
  have hlt : i.toNatClampNeg < hN S a := Nat.not_le.mp fun q => hi (Or.inr q)
  have h0 : ¬ i < 0 := fun q => hi (Or.inl q)
  have hany : va_Any "DummyInches$Mouth" s H (b + v) := by
    rcases hci with rfl | rfl | rfl | rfl | rfl
    · obtain ⟨cell, g1, g2, g3⟩ := va_recv (q0 := 0) (q := (RX1, TX1, 2)) X.2.2.2.2.2.1 (hH.va1 hv (by omega) rfl) rfl rfl
      obtain ⟨kC, hkC, -⟩ := Vm.findClass_spec g3
      obtain ⟨c0, t0, f1, f2, f3⟩ := Cond.castable_spec (va_Nw.use (A := args) rfl (X.2.2.2.2.2.2.2.1 (RX1, RX4) (List.mem_of_getElem? (i := 3) rfl)))
      exact ⟨cell, g1, g2, ⟨kC, hkC⟩, fun comp h => by rw [← Option.some.inj (f1.symm.trans g3), ← Option.some.inj (f2.symm.trans h)]; exact f3⟩
    · obtain ⟨cell, g1, g2, g3⟩ := va_recv (q0 := 0) (q := (RX3, TX3, 2)) X.2.2.2.2.2.1 (hH.va1 hv (by omega) rfl) rfl rfl
      obtain ⟨kC, hkC, -⟩ := Vm.findClass_spec g3
      obtain ⟨c0, t0, f1, f2, f3⟩ := Cond.castable_spec (va_Nw.use (A := args) rfl (X.2.2.2.2.2.2.2.1 (RX3, RX4) (List.mem_of_getElem? (i := 5) rfl)))
      exact ⟨cell, g1, g2, ⟨kC, hkC⟩, fun comp h => by rw [← Option.some.inj (f1.symm.trans g3), ← Option.some.inj (f2.symm.trans h)]; exact f3⟩
    · obtain ⟨cell, g1, g2, g3⟩ := va_recv (q0 := 0) (q := (RX5, TX5, 2)) X.2.2.2.2.2.1 (hH.va1 hv (by omega) rfl) rfl rfl
      obtain ⟨kC, hkC, -⟩ := Vm.findClass_spec g3
      obtain ⟨c0, t0, f1, f2, f3⟩ := Cond.castable_spec (va_Nw.use (A := args) rfl (X.2.2.2.2.2.2.2.1 (RX5, RX4) (List.mem_of_getElem? (i := 4) rfl)))
      exact ⟨cell, g1, g2, ⟨kC, hkC⟩, fun comp h => by rw [← Option.some.inj (f1.symm.trans g3), ← Option.some.inj (f2.symm.trans h)]; exact f3⟩
    · obtain ⟨cell, g1, g2, g3⟩ := va_recv (q0 := 0) (q := (RX7, TX7, 2)) X.2.2.2.2.2.1 (hH.va1 hv (by omega) rfl) rfl rfl
      obtain ⟨kC, hkC, -⟩ := Vm.findClass_spec g3
      obtain ⟨c0, t0, f1, f2, f3⟩ := Cond.castable_spec (va_Nw.use (A := args) rfl (X.2.2.2.2.2.2.2.1 (RX7, RX4) (List.mem_of_getElem? (i := 6) rfl)))
      exact ⟨cell, g1, g2, ⟨kC, hkC⟩, fun comp h => by rw [← Option.some.inj (f1.symm.trans g3), ← Option.some.inj (f2.symm.trans h)]; exact f3⟩
    · obtain ⟨cell, g1, g2, g3⟩ := va_recv (q0 := 0) (q := (RX10, TX10, 2)) X.2.2.2.2.2.1 (hH.va1 hv (by omega) rfl) rfl rfl
      obtain ⟨kC, hkC, -⟩ := Vm.findClass_spec g3
      obtain ⟨c0, t0, f1, f2, f3⟩ := Cond.castable_spec (va_Nw.use (A := args) rfl (X.2.2.2.2.2.2.2.1 (RX10, RX4) (List.mem_of_getElem? (i := 7) rfl)))
      exact ⟨cell, g1, g2, ⟨kC, hkC⟩, fun comp h => by rw [← Option.some.inj (f1.symm.trans g3), ← Option.some.inj (f2.symm.trans h)]; exact f3⟩
  obtain ⟨cellV, g1, g3, ⟨kC, hkC⟩, hasg⟩ := hany
  obtain ⟨kA, comp, k1, k2, k3, -⟩ := (X.2.2.2.2.2.1.2 2 _ rfl).2
  obtain ⟨kE, hkE, -⟩ := Vm.findClass_spec k3
  refine W.aast X.1 X.2.1 (hH.ar hk (by omega) (by omega)) (fun q h => by cases h) (fun h => by cases h) k1 k2 rfl hkE ⟨h0, by rw [arrV_size]; exact hlt⟩ g1 (fun q h => by rw [h] at g3; cases g3) hkC (hasg _ k3) rfl rfl hd fun H1 g1 g2 g3 => ?_
  refine kk H1 _ ls (hH.upd a rfl rfl rfl (fun j hj n => by rw [sv_setR j n (by rw [hk]; rfl), if_neg (fun h => hj h.1)]) g2 g3 (Or.inr ⟨by show 12 ≤ hK S a; omega, ?_⟩)) (hF.put g3) hl
  rw [g1, arrV_store]
  show some (arrV _ _ _) = some (arrV (cy (hK S a)) (hN S a) _)
  rw [hk]
  congr 2
  funext q
  rw [sv_setR a q (by rw [hk]; rfl)]
  by_cases hq : q = i.toNatClampNeg
  · simp [updV, hq]
    try rfl
  · simp [updV, hq]
theorem v_aastMN (X : CX p s m args c cc nL own D cy) {a : Nat} {i : Int32} (hk : hK S a = 14) (hi : vp_in i (hN S a)) (hd : decode cc pc = .ok (.aastore, 1)) (kk : V p l e R s m args below meth c b D cy nL Qf (setR S a i.toNatClampNeg none) cells slots (pc + 1) lv st) : V p l e R s m args below meth c b D cy nL Qf S cells slots pc lv (.null :: .int i :: .ref a :: st) := by
  intro H locs ls hH hF hl
  refine va_WaastN (C := "DummyInches$Mouth") X.1 X.2.1 (hH.ar hk (by omega) (by omega)) ((X.2.2.2.2.2.1.2 2 _ rfl).1 _ _) (fun q => by cases q) (arrV_inb hi) rfl rfl hd fun H1 g1 g2 g3 => ?_
  refine kk H1 _ ls (hH.upd a rfl rfl rfl (fun j hj n => by rw [sv_setR j n (by rw [hk]; rfl), if_neg (fun h => hj h.1)]) g2 g3 (Or.inr ⟨by show 12 ≤ hK S a; omega, ?_⟩)) (hF.put g3) hl
  rw [g1, arrV_store]
  show some (arrV _ _ _) = some (arrV (cy (hK S a)) (hN S a) _)
  rw [hk]
  congr 2
  funext q
  rw [sv_setR a q (by rw [hk]; rfl)]
  by_cases hq : q = i.toNatClampNeg
  · simp [updV, hq, va_rf]
    try rfl
  · simp [updV, hq]
theorem v_aastS (X : CX p s m args c cc nL own D cy) {a v ci : Nat} {i : Int32} (hk : hK S a = 15) (hv : hK S v = ci) (hci : ci = 7) (hi : vp_in i (hN S a)) (hd : decode cc pc = .ok (.aastore, 1)) (kk : V p l e R s m args below meth c b D cy nL Qf (setR S a i.toNatClampNeg (some v)) cells slots (pc + 1) lv st) : V p l e R s m args below meth c b D cy nL Qf S cells slots pc lv (.ref v :: .int i :: .ref a :: st) := by
  intro H locs ls hH hF hl
  have hlt : i.toNatClampNeg < hN S a := Nat.not_le.mp fun q => hi (Or.inr q)
  have h0 : ¬ i < 0 := fun q => hi (Or.inl q)
  have hany : va_Any "DummyInches$Street" s H (b + v) := by
    subst hci
    obtain ⟨cell, g1, g2, g3⟩ := va_recv (q0 := 0) (q := (RX8, TX8, 10)) X.2.2.2.2.2.1 (hH.va1 hv (by omega) rfl) rfl rfl
    obtain ⟨kC, hkC, -⟩ := Vm.findClass_spec g3
    exact ⟨cell, g1, g2, ⟨kC, hkC⟩, fun comp h => by
      have hcls := (X.2.2.2.2.2.1.1 7 (RX8, TX8, 10) rfl).2
      rw [Option.some.inj (g3.symm.trans hcls.1), Option.some.inj (h.symm.trans hcls.1)]
      exact va_assign hcls⟩
  obtain ⟨cellV, g1, g3, ⟨kC, hkC⟩, hasg⟩ := hany
  obtain ⟨kA, comp, k1, k2, k3, -⟩ := (X.2.2.2.2.2.1.2 3 _ rfl).2
  obtain ⟨kE, hkE, -⟩ := Vm.findClass_spec k3
  refine W.aast X.1 X.2.1 (hH.ar hk (by omega) (by omega)) (fun q h => by cases h) (fun h => by cases h) k1 k2 rfl hkE ⟨h0, by rw [arrV_size]; exact hlt⟩ g1 (fun q h => by rw [h] at g3; cases g3) hkC (hasg _ k3) rfl rfl hd fun H1 g1 g2 g3 => ?_
  refine kk H1 _ ls (hH.upd a rfl rfl rfl (fun j hj n => by rw [sv_setR j n (by rw [hk]; rfl), if_neg (fun h => hj h.1)]) g2 g3 (Or.inr ⟨by show 12 ≤ hK S a; omega, ?_⟩)) (hF.put g3) hl
  rw [g1, arrV_store]
  show some (arrV _ _ _) = some (arrV (cy (hK S a)) (hN S a) _)
  rw [hk]
  congr 2
  funext q
  rw [sv_setR a q (by rw [hk]; rfl)]
  by_cases hq : q = i.toNatClampNeg
  · simp [updV, hq]
    try rfl
  · simp [updV, hq]
theorem v_aastSN (X : CX p s m args c cc nL own D cy) {a : Nat} {i : Int32} (hk : hK S a = 15) (hi : vp_in i (hN S a)) (hd : decode cc pc = .ok (.aastore, 1)) (kk : V p l e R s m args below meth c b D cy nL Qf (setR S a i.toNatClampNeg none) cells slots (pc + 1) lv st) : V p l e R s m args below meth c b D cy nL Qf S cells slots pc lv (.null :: .int i :: .ref a :: st) := by
  intro H locs ls hH hF hl
  refine va_WaastN (C := "DummyInches$Street") X.1 X.2.1 (hH.ar hk (by omega) (by omega)) ((X.2.2.2.2.2.1.2 3 _ rfl).1 _ _) (fun q => by cases q) (arrV_inb hi) rfl rfl hd fun H1 g1 g2 g3 => ?_
  refine kk H1 _ ls (hH.upd a rfl rfl rfl (fun j hj n => by rw [sv_setR j n (by rw [hk]; rfl), if_neg (fun h => hj h.1)]) g2 g3 (Or.inr ⟨by show 12 ≤ hK S a; omega, ?_⟩)) (hF.put g3) hl
  rw [g1, arrV_store]
  show some (arrV _ _ _) = some (arrV (cy (hK S a)) (hN S a) _)
  rw [hk]
  congr 2
  funext q
  rw [sv_setR a q (by rw [hk]; rfl)]
  by_cases hq : q = i.toNatClampNeg
  · simp [updV, hq, va_rf]
    try rfl
  · simp [updV, hq]
theorem v_objInit (X : CX p s m args c cc nL own D cy) {idx a : Nat} (hlink : Cond.methodLink own idx objectInit ∈ gtb) (hinst : Cond.instanceMethod objectInit ∈ gtb) (hcode : Cond.code objectInit ⟨#[0xb1]⟩ 1 none ∈ gtb) (hd : decode cc pc = .ok (.invokespecial idx, 3)) (hframes : 1 ≤ R.frames) (hlocals : ((st.map (cv b)).map fun v => v.category).sum + 12 ≤ R.locals) (kk : V p l e R s m args below meth c b D cy nL Qf S cells slots (pc + 3) lv st) : V p l e R s m args below meth c b D cy nL Qf S cells slots pc lv (.ref a :: st) := fun H locs ls hH hF hl =>
  W.objInit X.1 X.2.1 X.2.2.2.1 (X.2.2.2.2.1 _ hlink) (X.2.2.2.2.1 _ hinst) (X.2.2.2.2.1 _ hcode) rfl (by rw [X.2.2.1]; exact hl.1) rfl hd hframes (by show 2 * 0 + _ + _ ≤ _; omega) (kk H locs ls hH hF hl)
theorem v_mmax (X : CX p s m args c cc nL own D cy) {idx : Nat} {x y : Int32} (hlink : Cond.methodLink own idx Lib.Math.max.name ∈ gtb) (hstat : Cond.static Lib.Math.max.name ∈ gtb) (hini : Cond.initialized "java/lang/Math" ∈ gtb) (hcode : Cond.code Lib.Math.max.name Lib.Math.max.code 2 (some .int) ∈ gtb) (hframes : 1 ≤ R.frames) (hlocals : ((st.map (cv b)).map fun v => v.category).sum + 13 ≤ R.locals) (hc : cells ≤ R.cells) (hs : slots ≤ R.slots) (hd : decode cc pc = .ok (.invokestatic idx, 3)) (kk : V p l e R s m args below meth c b D cy nL Qf S cells slots (pc + 3) lv (.int (if x < y then y else x) :: st)) : V p l e R s m args below meth c b D cy nL Qf S cells slots pc lv (.int y :: .int x :: st) := fun H locs ls hH hF hl =>
  va_mmax X.1 X.2.1 (by rw [X.2.2.1]; exact hl.1.symm) X.2.2.2.1 (X.2.2.2.2.1 _ hlink) (X.2.2.2.2.1 _ hstat) (X.2.2.2.2.1 _ hini) (X.2.2.2.2.1 _ hcode) hframes hlocals hc hs hd (kk H locs ls hH hF hl)
theorem v_mmin (X : CX p s m args c cc nL own D cy) {idx : Nat} {x y : Int32} (hlink : Cond.methodLink own idx Lib.Math.min.name ∈ gtb) (hstat : Cond.static Lib.Math.min.name ∈ gtb) (hini : Cond.initialized "java/lang/Math" ∈ gtb) (hcode : Cond.code Lib.Math.min.name Lib.Math.min.code 2 (some .int) ∈ gtb) (hframes : 1 ≤ R.frames) (hlocals : ((st.map (cv b)).map fun v => v.category).sum + 13 ≤ R.locals) (hc : cells ≤ R.cells) (hs : slots ≤ R.slots) (hd : decode cc pc = .ok (.invokestatic idx, 3)) (kk : V p l e R s m args below meth c b D cy nL Qf S cells slots (pc + 3) lv (.int (if y < x then y else x) :: st)) : V p l e R s m args below meth c b D cy nL Qf S cells slots pc lv (.int y :: .int x :: st) := fun H locs ls hH hF hl =>
  va_mmin X.1 X.2.1 (by rw [X.2.2.1]; exact hl.1.symm) X.2.2.2.1 (X.2.2.2.2.1 _ hlink) (X.2.2.2.2.1 _ hstat) (X.2.2.2.2.1 _ hini) (X.2.2.2.2.1 _ hcode) hframes hlocals hc hs hd (kk H locs ls hH hF hl)
theorem v_mabs (X : CX p s m args c cc nL own D cy) {idx : Nat} {x : Int32} (hlink : Cond.methodLink own idx Lib.Math.abs.name ∈ gtb) (hstat : Cond.static Lib.Math.abs.name ∈ gtb) (hini : Cond.initialized "java/lang/Math" ∈ gtb) (hcode : Cond.code Lib.Math.abs.name Lib.Math.abs.code 1 (some .int) ∈ gtb) (hframes : 1 ≤ R.frames) (hlocals : ((st.map (cv b)).map fun v => v.category).sum + 13 ≤ R.locals) (hc : cells ≤ R.cells) (hs : slots ≤ R.slots) (hd : decode cc pc = .ok (.invokestatic idx, 3)) (kk : V p l e R s m args below meth c b D cy nL Qf S cells slots (pc + 3) lv (.int (if 0 ≤ x then x else 0 - x) :: st)) : V p l e R s m args below meth c b D cy nL Qf S cells slots pc lv (.int x :: st) := fun H locs ls hH hF hl =>
  va_mabs X.1 X.2.1 (by rw [X.2.2.1]; exact hl.1.symm) X.2.2.2.1 (X.2.2.2.2.1 _ hlink) (X.2.2.2.2.1 _ hstat) (X.2.2.2.2.1 _ hini) (X.2.2.2.2.1 _ hcode) hframes hlocals hc hs hd (kk H locs ls hH hF hl)
theorem v_ifnullN (X : CX p s m args c cc nL own D cy) {off : Int} {tgt : Nat} (hd : decode cc pc = .ok (.ifnull off, 3)) (ht : (pc : Int) + off = (tgt : Int)) (k : V p l e R s m args below meth c b D cy nL Qf S cells slots tgt lv st) : V p l e R s m args below meth c b D cy nL Qf S cells slots pc lv (.null :: st) := fun H locs ls hH hF hl => lv_ifnullN X.1 X.2.1 hd ht (k H locs ls hH hF hl)
theorem v_ifnonnullN (X : CX p s m args c cc nL own D cy) {off : Int} (hd : decode cc pc = .ok (.ifnonnull off, 3)) (k : V p l e R s m args below meth c b D cy nL Qf S cells slots (pc + 3) lv st) : V p l e R s m args below meth c b D cy nL Qf S cells slots pc lv (.null :: st) := fun H locs ls hH hF hl => lv_ifnonnullN X.1 X.2.1 hd (k H locs ls hH hF hl)
theorem v_inY (X : CX p s m args c cc nL own D cy) {C nm : String} {T : u_T} {N idx a ci : Nat} (hk : hK S a = ci) (hlt : ci < 12) (hc : vwCl[ci]? = some (C, T, N)) (hlink : Cond.classLink own idx nm ∈ gtb) (hm : (C, nm) ∈ ycl) (hd : decode cc pc = .ok (.instanceof idx, 3)) (k : V p l e R s m args below meth c b D cy nL Qf S cells slots (pc + 3) lv (.int 1 :: st)) : V p l e R s m args below meth c b D cy nL Qf S cells slots pc lv (.ref a :: st) := fun H locs ls hH hF hl => va_instY X.1 X.2.1 X.2.2.2.1 (X.2.2.2.2.1 _ hlink) (X.2.2.2.2.2.2.2.1 _ hm) (va_recv (q0 := 0) X.2.2.2.2.2.1 (hH.va1 hk hlt hc) hc rfl) hd (k H locs ls hH hF hl)
theorem v_inS (X : CX p s m args c cc nL own D cy) {C : String} {T : u_T} {N idx a ci : Nat} (hk : hK S a = ci) (hlt : ci < 12) (hc : vwCl[ci]? = some (C, T, N)) (hlink : Cond.classLink own idx C ∈ gtb) (hd : decode cc pc = .ok (.instanceof idx, 3)) (k : V p l e R s m args below meth c b D cy nL Qf S cells slots (pc + 3) lv (.int 1 :: st)) : V p l e R s m args below meth c b D cy nL Qf S cells slots pc lv (.ref a :: st) := fun H locs ls hH hF hl => va_instS X.1 X.2.1 X.2.2.2.1 (X.2.2.2.2.1 _ hlink) (X.2.2.2.2.2.1.1 ci _ hc).2 (va_recv (q0 := 0) X.2.2.2.2.2.1 (hH.va1 hk hlt hc) hc rfl) hd (k H locs ls hH hF hl)
theorem v_inN (X : CX p s m args c cc nL own D cy) {C nm : String} {T : u_T} {N idx a ci : Nat} (hk : hK S a = ci) (hlt : ci < 12) (hc : vwCl[ci]? = some (C, T, N)) (hlink : Cond.classLink own idx nm ∈ gtb) (hm : (C, nm) ∈ ncl) (hd : decode cc pc = .ok (.instanceof idx, 3)) (k : V p l e R s m args below meth c b D cy nL Qf S cells slots (pc + 3) lv (.int 0 :: st)) : V p l e R s m args below meth c b D cy nL Qf S cells slots pc lv (.ref a :: st) := fun H locs ls hH hF hl => va_instNo X.1 X.2.1 X.2.2.2.1 (X.2.2.2.2.1 _ hlink) (X.2.2.2.2.2.2.1 _ hm) (va_recv (q0 := 0) X.2.2.2.2.2.1 (hH.va1 hk hlt hc) hc rfl) hd (k H locs ls hH hF hl)
theorem v_call {mc ms : Nat} {st0 rest : List Value} {post : Option Value → hp → Prop} {av : Array Value} (hr : ∀ (H : Heap) (locs : List Loc) (ls : Array Slot), HW b D cy S H → lv_has ls nL (lv.map (cvp b)) → va_Run p l e R s m args below meth c H locs cells slots mc ms (F0 m pc ls (st0.map (cv b))) (rest.map (cv b)) (CQ b D cy post av) (fun q => b ≤ q)) (kk : ∀ (v : Option Value) (S1 : hp), post v S1 → V p l e R s m args below meth c b D cy nL Qf S1 (cells + mc) (slots + ms) (pc + 3) lv (v.toList ++ rest)) : V p l e R s m args below meth c b D cy nL Qf S cells slots pc lv st0 := by
  intro H locs ls hH hF hl T hT X
  obtain ⟨v, st₀, t, T', L, h0, X', hL, e1, e2, ⟨w, S1, ew, hp, hH1, hfr⟩, st⟩ := hr H locs ls hH hl T hT X
  cases ew
  obtain ⟨t2, a1, b1⟩ := kk w S1 hp T'.heap (locs ++ L) ls (by rw [e1]; exact hH1) ⟨fun q hq => by rw [e1, hfr q hq, h0]; exact hF.1 q hq, fun q hq => by
    rcases List.mem_append.mp hq with h | h
    · exact hF.2 q h
    · exact hL q h⟩ hl T' rfl X'
  refine ⟨t2, st t2 ?_, b1⟩
  have e9 : (w.toList ++ rest).map (cv b) = (w.map (cv b)).toList ++ rest.map (cv b) := by cases w <;> simp
  rw [e9] at a1
  exact a1
theorem gd_code {y : MethodName} {cc : ByteArray} {n : Nat} {r : Option FieldType} (h : Cond.code y cc n r ∈ gtb) : ∀ w ∈ Cond.code y cc n r :: gtb, w ∈ gtb := fun w hw => (List.mem_cons.mp hw).elim (fun e => e ▸ h) id
theorem cv_rev (b : Nat) (av : List Value) (rest : List Value) : (av.reverse ++ rest).map (cv b) = (av.map (cv b)).reverse ++ rest.map (cv b) := by rw [List.map_append, List.map_reverse]

theorem v_callS (X : CX p s m args c cc nL own D cy) {fr lo mc ms n : Nat} {y : MethodName} {bc : ByteArray} {maxL : Nat} {ret : Option FieldType} {av rest : List Value} {post : Option Value → hp → Prop} {idx : Nat} (hM : MT l y bc maxL ret fr lo mc ms b D cy S av post) (hlink : Cond.methodLink own idx y ∈ gtb) (hst : Cond.static y ∈ gtb) (hini : Cond.initialized y.cls ∈ gtb) (hcode : Cond.code y bc maxL ret ∈ gtb) (hdn : y.cls ≠ "java/lang/invoke/MethodHandle" ∧ y.cls ≠ "java/lang/invoke/VarHandle" ∧ (parseMethodDescriptor y.desc).map (fun d => d.parameters.length) = some n) (hn : av.length = n) (hR : fr + 1 ≤ R.frames ∧ 8 + (maxL + 11) + lo ≤ R.locals) (hW : ((rest.map (cv b)).map fun v => v.category).sum ≤ 8) (hf : cells + mc ≤ R.cells ∧ slots + ms ≤ R.slots) (hd : decode cc pc = .ok (.invokestatic idx, 3)) {st0 : List Value} (hst0 : st0 = av.reverse ++ rest) (kk : ∀ (v : Option Value) (S1 : hp), post v S1 → V p l e R s m args below meth c b D cy nL Qf S1 (cells + mc) (slots + ms) (pc + 3) lv (v.toList ++ rest)) : V p l e R s m args below meth c b D cy nL Qf S cells slots pc lv st0 := by
  refine v_call (av := (av.map (cv b)).toArray) (fun H locs ls hH hl => ?_) kk
  refine va_runS ⟨X.1, X.2.1, X.2.2.1, X.2.2.2.1, X.2.2.2.2.1⟩ hM (va_cwS n X.2.2.2.2.1 (gd_all (fun w hw => ?_)) rfl rfl rfl hdn hR) ⟨PC_blind b D cy S av, fun U hU hWm => ⟨rfl, by rw [hU]; exact hH, X.2.2.2.2.2.warm hWm⟩⟩ rfl (by rw [List.length_map]; exact hn) hl.1 (by rw [hst0]; exact cv_rev b av rest) (by show 2 * 0 + _ ≤ 8; omega) hd hf
  unfold va_wsS at hw
  rcases List.mem_append.mp hw with h | h
  · simp only [List.mem_cons, List.not_mem_nil, or_false] at h
    rcases h with rfl | rfl | rfl
    · exact hlink
    · exact hst
    · exact hini
  · exact gd_code hcode w h
theorem v_callI (X : CX p s m args c cc nL own D cy) {fr lo mc ms n : Nat} {y : MethodName} {bc : ByteArray} {maxL : Nat} {ret : Option FieldType} {av rest : List Value} {post : Option Value → hp → Prop} {idx a : Nat} (hM : MT l y bc maxL none fr lo mc ms b D cy S (.ref a :: av) post) (hlink : Cond.methodLink own idx y ∈ gtb) (hin : Cond.instanceMethod y ∈ gtb) (hini : Cond.initialized y.cls ∈ gtb) (hcode : Cond.code y bc maxL none ∈ gtb) (hy1 : y.name = "<init>") (hdn : y.cls ≠ "java/lang/invoke/MethodHandle" ∧ y.cls ≠ "java/lang/invoke/VarHandle" ∧ (parseMethodDescriptor y.desc).map (fun d => d.parameters.length) = some n) (hn : av.length = n) (hR : fr + 1 ≤ R.frames ∧ 8 + (maxL + 11) + lo ≤ R.locals) (hW : ((rest.map (cv b)).map fun v => v.category).sum ≤ 8) (hf : cells + mc ≤ R.cells ∧ slots + ms ≤ R.slots) (hd : decode cc pc = .ok (.invokespecial idx, 3)) {st0 : List Value} (hst0 : st0 = av.reverse ++ .ref a :: rest) (kk : ∀ (v : Option Value) (S1 : hp), post v S1 → V p l e R s m args below meth c b D cy nL Qf S1 (cells + mc) (slots + ms) (pc + 3) lv (v.toList ++ rest)) : V p l e R s m args below meth c b D cy nL Qf S cells slots pc lv st0 := by
  have hts := X.2.2.2.2.1
  refine v_call (av := (Value.ref (b + a) :: av.map (cv b)).toArray) (fun H locs ls hH hl => ?_) kk
  exact va_runI (As := av.map (cv b)) (b := b + a) (rest := rest.map (cv b)) ⟨X.1, X.2.1, X.2.2.1, X.2.2.2.1, hts⟩ hM (cwI n hts (gd_all (gd_code hcode)) rfl rfl rfl (hts _ hini) (hts _ hlink) (hts _ hin) hy1 hdn hR) ⟨PC_blind b D cy S (.ref a :: av), fun U hU hWm => ⟨rfl, by rw [hU]; exact hH, X.2.2.2.2.2.warm hWm⟩⟩ rfl (by rw [List.length_map]; exact hn) hl.1 (by rw [hst0]; exact cv_rev b av (.ref a :: rest)) (by show 2 * 0 + _ ≤ 8; omega) hd hf
theorem v_callIN (X : CX p s m args c cc nL own D cy) {fr lo mc ms n : Nat} {y : MethodName} {bc : ByteArray} {maxL : Nat} {ret : Option FieldType} {av rest : List Value} {post : Option Value → hp → Prop} {idx a : Nat} (hM : MT l y bc maxL none fr lo mc ms b D cy S (.ref a :: av) post) (hown : own = RX11) (hlink : (idx, y) ∈ nsl) (hin : Cond.instanceMethod y ∈ gtb) (hini : Cond.initialized y.cls ∈ gtb) (hcode : Cond.code y bc maxL none ∈ gtb) (hy1 : y.name = "<init>") (hdn : y.cls ≠ "java/lang/invoke/MethodHandle" ∧ y.cls ≠ "java/lang/invoke/VarHandle" ∧ (parseMethodDescriptor y.desc).map (fun d => d.parameters.length) = some n) (hn : av.length = n) (hR : fr + 1 ≤ R.frames ∧ 8 + (maxL + 11) + lo ≤ R.locals) (hW : ((rest.map (cv b)).map fun v => v.category).sum ≤ 8) (hf : cells + mc ≤ R.cells ∧ slots + ms ≤ R.slots) (hd : decode cc pc = .ok (.invokespecial idx, 3)) {st0 : List Value} (hst0 : st0 = av.reverse ++ .ref a :: rest) (kk : ∀ (v : Option Value) (S1 : hp), post v S1 → V p l e R s m args below meth c b D cy nL Qf S1 (cells + mc) (slots + ms) (pc + 3) lv (v.toList ++ rest)) : V p l e R s m args below meth c b D cy nL Qf S cells slots pc lv st0 := by
  have hts := X.2.2.2.2.1
  subst hown
  refine v_call (av := (Value.ref (b + a) :: av.map (cv b)).toArray) (fun H locs ls hH hl => ?_) kk
  exact va_runIN (As := av.map (cv b)) (b := b + a) (rest := rest.map (cv b)) ⟨X.1, X.2.1, X.2.2.1, X.2.2.2.1, hts⟩ hM ⟨va_cnB n hts (gd_all (gd_code hcode)) rfl rfl rfl (X.2.2.2.2.2.2.2.2.1 _ hlink) (hts _ hini) hdn hR, hy1, hts _ hin⟩ ⟨PC_blind b D cy S (.ref a :: av), fun U hU hWm => ⟨rfl, by rw [hU]; exact hH, X.2.2.2.2.2.warm hWm⟩⟩ rfl (by rw [List.length_map]; exact hn) hl.1 (by rw [hst0]; exact cv_rev b av (.ref a :: rest)) (by show 2 * 0 + _ ≤ 8; omega) hd hf
theorem HW.recv {H : Heap} (hH : HW b D cy S H) (hKN : KN D cy s) {i ci N : Nat} {C : String} {T : u_T} (hk : hK S i = ci) (hlt : ci < 12) (hc : vwCl[ci]? = some (C, T, N)) : ∃ cell : Cell, H[b + i]? = some cell ∧ cell.vm.isStatics = false ∧ s.vm.findClass C = some cell.cls := va_recv (q0 := 0) hKN.1 (hH.va1 hk hlt hc) hc rfl
theorem v_callV (X : CX p s m args c cc nL own D cy) {fr lo mc ms n : Nat} {y : MethodName} {bc : ByteArray} {maxL : Nat} {ret : Option FieldType} {av rest : List Value} {post : Option Value → hp → Prop} {idx a ci N : Nat} {T : u_T} (hM : MT l y bc maxL ret fr lo mc ms b D cy S (.ref a :: av) post) (hk : hK S a = ci) (hlt : ci < 12) (hc : vwCl[ci]? = some (y.cls, T, N)) (hlink : Cond.methodLink own idx y ∈ gtb) (hin : Cond.instanceMethod y ∈ gtb) (hse : Cond.selects y.cls y y ∈ gtb) (hini : Cond.initialized y.cls ∈ gtb) (hcode : Cond.code y bc maxL ret ∈ gtb) (hdn : y.cls ≠ "java/lang/invoke/MethodHandle" ∧ y.cls ≠ "java/lang/invoke/VarHandle" ∧ (parseMethodDescriptor y.desc).map (fun d => d.parameters.length) = some n) (hn : av.length = n) (hR : fr + 1 ≤ R.frames ∧ 8 + (maxL + 11) + lo ≤ R.locals) (hW : ((rest.map (cv b)).map fun v => v.category).sum ≤ 8) (hf : cells + mc ≤ R.cells ∧ slots + ms ≤ R.slots) (hd : decode cc pc = .ok (.invokevirtual idx, 3)) {st0 : List Value} (hst0 : st0 = av.reverse ++ .ref a :: rest) (kk : ∀ (v : Option Value) (S1 : hp), post v S1 → V p l e R s m args below meth c b D cy nL Qf S1 (cells + mc) (slots + ms) (pc + 3) lv (v.toList ++ rest)) : V p l e R s m args below meth c b D cy nL Qf S cells slots pc lv st0 := by
  have hts := X.2.2.2.2.1
  refine v_call (av := (Value.ref (b + a) :: av.map (cv b)).toArray) (fun H locs ls hH hl => ?_) kk
  refine va_runV (C := y.cls) (As := av.map (cv b)) (b := b + a) (rest := rest.map (cv b)) ⟨X.1, X.2.1, X.2.2.1, X.2.2.2.1, hts⟩ hM (cwV n hts (gd_all (fun w hw => ?_)) rfl rfl rfl ⟨rfl, hdn⟩ hR) ⟨PC_blind b D cy S (.ref a :: av), hH.recv X.2.2.2.2.2 hk hlt hc, fun U hU hWm => ⟨rfl, by rw [hU]; exact hH, X.2.2.2.2.2.warm hWm⟩⟩ rfl (by rw [List.length_map]; exact hn) hl.1 (by rw [hst0]; exact cv_rev b av (.ref a :: rest)) (by show 2 * 0 + _ ≤ 8; omega) hd hf
  unfold wsV at hw
  rcases List.mem_append.mp hw with h | h
  · simp only [List.mem_cons, List.not_mem_nil, or_false] at h
    rcases h with rfl | rfl | rfl | rfl
    · exact hlink
    · exact hin
    · exact hse
    · exact hini
  · exact gd_code hcode w h
theorem v_callA (X : CX p s m args c cc nL own D cy) {fr lo mc ms n : Nat} {y : MethodName} {bc : ByteArray} {maxL : Nat} {ret : Option FieldType} {av rest : List Value} {post : Option Value → hp → Prop} {idx a ci N : Nat} {C owner : String} {x : MethodName} {T : u_T} (hM : MT l y bc maxL ret fr lo mc ms b D cy S (.ref a :: av) post) (hk : hK S a = ci) (hlt : ci < 12) (hc : vwCl[ci]? = some (C, T, N)) (hdecl : va_Decl s ⟨owner, x.name, x.desc⟩) (hlink : Cond.methodLink own idx x ∈ gtb) (hsm : Cond.sameMethod x.cls owner x.name x.desc ∈ gtb) (hse : Cond.selects C x y ∈ gtb) (hin : Cond.instanceMethod y ∈ gtb) (hini : Cond.initialized y.cls ∈ gtb) (hcode : Cond.code y bc maxL ret ∈ gtb) (hdn : owner ≠ "java/lang/invoke/MethodHandle" ∧ owner ≠ "java/lang/invoke/VarHandle" ∧ (parseMethodDescriptor x.desc).map (fun d => d.parameters.length) = some n) (hn : av.length = n) (hR : fr + 1 ≤ R.frames ∧ 8 + (maxL + 11) + lo ≤ R.locals) (hW : ((rest.map (cv b)).map fun v => v.category).sum ≤ 8) (hf : cells + mc ≤ R.cells ∧ slots + ms ≤ R.slots) (hd : decode cc pc = .ok (.invokevirtual idx, 3)) {st0 : List Value} (hst0 : st0 = av.reverse ++ .ref a :: rest) (kk : ∀ (v : Option Value) (S1 : hp), post v S1 → V p l e R s m args below meth c b D cy nL Qf S1 (cells + mc) (slots + ms) (pc + 3) lv (v.toList ++ rest)) : V p l e R s m args below meth c b D cy nL Qf S cells slots pc lv st0 := by
  have hts := X.2.2.2.2.1
  refine v_call (av := (Value.ref (b + a) :: av.map (cv b)).toArray) (fun H locs ls hH hl => ?_) kk
  refine va_runU (n := n) (C := C) (owner := owner) (x := x) (As := av.map (cv b)) (b := b + a) (rest := rest.map (cv b)) ⟨X.1, X.2.1, X.2.2.1, X.2.2.2.1, hts⟩ hM ⟨⟨rfl, rfl, hR.1, hR.2, pay_in hts (gd_all (gd_code hcode)), List.mem_cons_self⟩, hts _ hcode, hts _ hini, ⟨hdn.1, hdn.2.1⟩, fun sig h => ?_, hts _ hlink, hts _ hsm, hdecl, hts _ hse, hts _ hin⟩ ⟨PC_blind b D cy S (.ref a :: av), hH.recv X.2.2.2.2.2 hk hlt hc, fun U hU hWm => ⟨rfl, by rw [hU]; exact hH, X.2.2.2.2.2.warm hWm⟩⟩ rfl (by rw [List.length_map]; exact hn) hl.1 (by rw [hst0]; exact cv_rev b av (.ref a :: rest)) (by show 2 * 0 + _ ≤ 8; omega) hd hf
  have h2 := hdn.2.2
  rw [h] at h2
  exact (Option.some.inj h2).symm
theorem v_callU (X : CX p s m args c cc nL own D cy) {fr lo mc ms n : Nat} {y : MethodName} {bc : ByteArray} {maxL : Nat} {ret : Option FieldType} {av rest : List Value} {post : Option Value → hp → Prop} {idx a ci N : Nat} {C : String} {T : u_T} (hM : MT l y bc maxL ret fr lo mc ms b D cy S (.ref a :: av) post) (hk : hK S a = ci) (hlt : ci < 12) (hc : vwCl[ci]? = some (C, T, N)) (hlink : Cond.methodLink own idx y ∈ gtb) (hsm : Cond.sameMethod y.cls y.cls y.name y.desc ∈ gtb) (hsu : Cond.superclass own y.cls ∈ gtb) (hin : Cond.instanceMethod y ∈ gtb) (hini : Cond.initialized y.cls ∈ gtb) (hcode : Cond.code y bc maxL ret ∈ gtb) (hdn : y.name ≠ "<init>" ∧ (parseMethodDescriptor y.desc).map (fun d => d.parameters.length) = some n) (hn : av.length = n) (hR : fr + 1 ≤ R.frames ∧ 8 + (maxL + 11) + lo ≤ R.locals) (hW : ((rest.map (cv b)).map fun v => v.category).sum ≤ 8) (hf : cells + mc ≤ R.cells ∧ slots + ms ≤ R.slots) (hd : decode cc pc = .ok (.invokespecial idx, 3)) {st0 : List Value} (hst0 : st0 = av.reverse ++ .ref a :: rest) (kk : ∀ (v : Option Value) (S1 : hp), post v S1 → V p l e R s m args below meth c b D cy nL Qf S1 (cells + mc) (slots + ms) (pc + 3) lv (v.toList ++ rest)) : V p l e R s m args below meth c b D cy nL Qf S cells slots pc lv st0 := by
  have hts := X.2.2.2.2.1
  refine v_call (av := (Value.ref (b + a) :: av.map (cv b)).toArray) (fun H locs ls hH hl => ?_) kk
  refine va_runSU (n := n) (C := C) (As := av.map (cv b)) (b := b + a) (rest := rest.map (cv b)) (X.2.2.2.2.2.1.1 ci _ hc).2 ⟨X.1, X.2.1, X.2.2.1, X.2.2.2.1, hts⟩ hM ⟨⟨rfl, rfl, hR.1, hR.2, pay_in hts (gd_all (gd_code hcode)), List.mem_cons_self⟩, hts _ hlink, hts _ hsm, hts _ hsu, hts _ hin, hts _ hini, hts _ hcode, hdn.1, fun sig h => ?_⟩ ⟨PC_blind b D cy S (.ref a :: av), hH.recv X.2.2.2.2.2 hk hlt hc, fun U hU hWm => ⟨rfl, by rw [hU]; exact hH, X.2.2.2.2.2.warm hWm⟩⟩ rfl (by rw [List.length_map]; exact hn) hl.1 (by rw [hst0]; exact cv_rev b av (.ref a :: rest)) (by show 2 * 0 + _ ≤ 8; omega) hd hf
  have h2 := hdn.2
  rw [h] at h2
  exact (Option.some.inj h2).symm
theorem v_iret (X : CX p s m args c cc nL own D cy) {v : Int32} (hr : meth.sig.returnType = some .int) {post : Option Value → hp → Prop} (hlk : meth.locks = false) (hp : post (some (.int v)) S) (hd : decode cc pc = .ok (.ireturn, 1)) : V p l e R s m args below meth c b D cy nL (MQ below (CQ b D cy post) args s cells slots (fun q => b ≤ q)) S cells slots pc lv [.int v] := fun H locs ls hH hF hl => W.iret X.1 X.2.1 hr (fun t ht hW => ⟨some (.int v), S, rfl, hp, by rw [ht]; exact hH, fun q hq => by rw [ht]; exact hF.1 q hq⟩) hF.2 hd hlk
theorem v_zret (X : CX p s m args c cc nL own D cy) {v : Int32} (hr : meth.sig.returnType = some .boolean) (hz : v = 0 ∨ v = 1) {post : Option Value → hp → Prop} (hlk : meth.locks = false) (hp : post (some (.int v)) S) (hd : decode cc pc = .ok (.ireturn, 1)) : V p l e R s m args below meth c b D cy nL (MQ below (CQ b D cy post) args s cells slots (fun q => b ≤ q)) S cells slots pc lv [.int v] := fun H locs ls hH hF hl => W.zret X.1 X.2.1 hr (by rcases hz with rfl | rfl <;> rfl) (fun t ht hW => ⟨some (.int v), S, rfl, hp, by rw [ht]; exact hH, fun q hq => by rw [ht]; exact hF.1 q hq⟩) hF.2 hd hlk
theorem v_aret (X : CX p s m args c cc nL own D cy) {v : Nat} {rt : String} (hr : meth.sig.returnType = some (.object rt)) {post : Option Value → hp → Prop} (hlk : meth.locks = false) (hp : post (some (.ref v)) S) (hd : decode cc pc = .ok (.areturn, 1)) : V p l e R s m args below meth c b D cy nL (MQ below (CQ b D cy post) args s cells slots (fun q => b ≤ q)) S cells slots pc lv [.ref v] := fun H locs ls hH hF hl => W.aret X.1 X.2.1 hr (Or.inl ⟨_, rfl⟩) (Or.inr ⟨_, rfl⟩) (fun t ht hW => ⟨some (.ref v), S, rfl, hp, by rw [ht]; exact hH, fun q hq => by rw [ht]; exact hF.1 q hq⟩) hF.2 hd hlk
theorem v_aretN (X : CX p s m args c cc nL own D cy)  {rt : String} (hr : meth.sig.returnType = some (.object rt)) {post : Option Value → hp → Prop} (hlk : meth.locks = false) (hp : post (some (.null)) S) (hd : decode cc pc = .ok (.areturn, 1)) : V p l e R s m args below meth c b D cy nL (MQ below (CQ b D cy post) args s cells slots (fun q => b ≤ q)) S cells slots pc lv [.null] := fun H locs ls hH hF hl => W.aret X.1 X.2.1 hr (Or.inl ⟨_, rfl⟩) (Or.inl rfl) (fun t ht hW => ⟨some (.null), S, rfl, hp, by rw [ht]; exact hH, fun q hq => by rw [ht]; exact hF.1 q hq⟩) hF.2 hd hlk
theorem v_vret (X : CX p s m args c cc nL own D cy) (hr : meth.sig.returnType = none) {post : Option Value → hp → Prop} (hlk : meth.locks = false) (hp : post none S) (hd : decode cc pc = .ok (.return_, 1)) : V p l e R s m args below meth c b D cy nL (MQ below (CQ b D cy post) args s cells slots (fun q => b ≤ q)) S cells slots pc lv [] := fun H locs ls hH hF hl => W.vret X.1 X.2.1 hr (fun t ht hW => ⟨none, S, rfl, hp, by rw [ht]; exact hH, fun q hq => by rw [ht]; exact hF.1 q hq⟩) hF.2 hd hlk
theorem MT.of {y : MethodName} {bc : ByteArray} {maxL : Nat} {ret : Option FieldType} {fr lo mc ms : Nat} {av : List Value} {post : Option Value → hp → Prop} (hy : plainName y.cls = true) (hlen : (lg_sl (av.map (cv b))).length ≤ maxL) (h : ∀ (p : Program) (e : Env) (s : State) (m : MethodId) (args : Array Value) (below : List Frame) (meth : Method) (c : Code), CX p s m args c bc maxL y.cls D cy → meth.sig.returnType = ret → meth.locks = false → meth.name = y.name → V p l e { frames := fr, cells := mc, slots := ms, locals := lo } s m args below meth c b D cy maxL (MQ below (CQ b D cy post) args s mc ms (fun q => b ≤ q)) S 0 0 0 (lv_args 0 av) []) : MT l y bc maxL ret fr lo mc ms b D cy S av post := by
  refine Met.ofW (cc := bc) (maxL := maxL) (ret := ret) hy rfl ?_
  intro p e s m args below meth c s₁ B hml hv
  obtain ⟨rfl, hH, hKN⟩ := hv
  have hts0 := atoms_spec (ws := Cond.code y bc maxL ret :: gtb) B.pre
  have hl := lv_entry (av.map (cv b)) (n := maxL) hlen
  rw [lg_entry_eq]
  rw [← lv_args_cv] at hl
  exact h p e s m _ below meth c ⟨B.exec, B.bytes, hml, findClass_of_methodNamed B.named, fun w hw => hts0 w (List.mem_cons_of_mem _ hw), hKN⟩ B.returns B.notSynchronized (name_of_methodNamed B.named B.method).1 s.heap [] _ hH ⟨fun _ _ => rfl, fun _ h => by cases h⟩ hl
end VC
