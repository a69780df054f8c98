theorem ne_ti {x : Int32} (k : Int32) (z : Int) (hz : k.toInt = z) (h : ¬ x = k) : ¬ x.toInt = z := fun e => h (Int32.toInt_inj.mp (e.trans hz.symm))
abbrev isZ (v : Int32) : Prop := v = 0 ∨ v = 1
theorem nz {v : Int32} (h : isZ v) : narrow .boolean (.int v) = .int v := by rcases h with rfl | rfl <;> rfl
theorem fz {v : Int32} (h : isZ v) : fits .boolean (.int v) = true := by rcases h with rfl | rfl <;> rfl
/-- one of the five kinds of mouths -/
abbrev isM (k : Nat) : Prop := k = 1 ∨ k = 3 ∨ k = 4 ∨ k = 6 ∨ k = 9
abbrev pI (Q : Int32 → hp → Prop) : Option Value → hp → Prop := fun v S => ∃ r : Int32, v = some (.int r) ∧ Q r S
abbrev pV (Q : hp → Prop) : Option Value → hp → Prop := fun v S => v = none ∧ Q S
abbrev pO (Q : Option Nat → hp → Prop) : Option Value → hp → Prop := fun v S => ∃ r : Option Nat, v = some (va_rf r) ∧ Q r S
abbrev pA (Q : Nat → hp → Prop) : Option Value → hp → Prop := fun v S => ∃ r : Nat, v = some (.ref r) ∧ Q r S
theorem vw_some {ci : Nat} (h : ci < 12) : ∃ (C : String) (T : u_T) (N : Nat), vwCl[ci]? = some (C, T, N) := by
  have : ∀ k, k < 12 → ∃ (C : String) (T : u_T) (N : Nat), vwCl[k]? = some (C, T, N) := by
    intro k hk
    match k, hk with
    | 0, _ => exact ⟨_, _, _, rfl⟩
    | 1, _ => exact ⟨_, _, _, rfl⟩
    | 2, _ => exact ⟨_, _, _, rfl⟩
    | 3, _ => exact ⟨_, _, _, rfl⟩
    | 4, _ => exact ⟨_, _, _, rfl⟩
    | 5, _ => exact ⟨_, _, _, rfl⟩
    | 6, _ => exact ⟨_, _, _, rfl⟩
    | 7, _ => exact ⟨_, _, _, rfl⟩
    | 8, _ => exact ⟨_, _, _, rfl⟩
    | 9, _ => exact ⟨_, _, _, rfl⟩
    | 10, _ => exact ⟨_, _, _, rfl⟩
    | 11, _ => exact ⟨_, _, _, rfl⟩
  exact this ci h
/-- the judgement of one method's body -/
abbrev VM (l : Launch) (b : Nat) (D : va_G) (cy : Nat → ClassId) (nL fr lo mc ms : Nat) (post : Option Value → hp → Prop) (p : Program) (e : Env) (s : State) (m : MethodId) (args : Array Value) (below : List Frame) (meth : Method) (c : Code) : hp → Nat → Nat → Nat → List (Nat × Value) → List Value → Prop :=
  V p l e { frames := fr, cells := mc, slots := ms, locals := lo } s m args below meth c b D cy nL (MQ below (CQ b D cy post) args s mc ms (fun q => b ≤ q))
section V6
variable {p : Program} {l : Launch} {e : Env} {R : Room} {s : State} {m : MethodId} {args : Array Value} {below : List Frame} {meth : Method} {c : Code} {b : Nat} {D : va_G} {cy : Nat → ClassId} {nL : Nat} {Qf : State → Prop} {S : hp} {cells slots pc : Nat} {lv : List (Nat × Value)} {st : List Value} {cc : ByteArray} {own : String}
theorem v_nmS (k : ∀ S1 : hp, S1 = S → V p l e R s m args below meth c b D cy nL Qf S1 cells slots pc lv st) : V p l e R s m args below meth c b D cy nL Qf S cells slots pc lv st := k S rfl
theorem kI {Q : Int32 → hp → Prop} (k : ∀ (r : Int32) (S1 : hp), Q r S1 → V p l e R s m args below meth c b D cy nL Qf S1 cells slots pc lv (.int r :: st)) : ∀ (v : Option Value) (S1 : hp), pI Q v S1 → V p l e R s m args below meth c b D cy nL Qf S1 cells slots pc lv (v.toList ++ st) := fun v S1 hq => by
  obtain ⟨r, rfl, h⟩ := hq
  exact k r S1 h
theorem kV {Q : hp → Prop} (k : ∀ S1 : hp, Q S1 → V p l e R s m args below meth c b D cy nL Qf S1 cells slots pc lv st) : ∀ (v : Option Value) (S1 : hp), pV Q v S1 → V p l e R s m args below meth c b D cy nL Qf S1 cells slots pc lv (v.toList ++ st) := fun v S1 hq => by
  obtain ⟨rfl, h⟩ := hq
  exact k S1 h
theorem kA {Q : Nat → hp → Prop} (k : ∀ (r : Nat) (S1 : hp), Q r S1 → V p l e R s m args below meth c b D cy nL Qf S1 cells slots pc lv (.ref r :: st)) : ∀ (v : Option Value) (S1 : hp), pA Q v S1 → V p l e R s m args below meth c b D cy nL Qf S1 cells slots pc lv (v.toList ++ st) := fun v S1 hq => by
  obtain ⟨r, rfl, h⟩ := hq
  exact k r S1 h
theorem kO {Q : Option Nat → hp → Prop} (kn : ∀ S1 : hp, Q none S1 → V p l e R s m args below meth c b D cy nL Qf S1 cells slots pc lv (.null :: st)) (ks : ∀ (r : Nat) (S1 : hp), Q (some r) S1 → V p l e R s m args below meth c b D cy nL Qf S1 cells slots pc lv (.ref r :: st)) : ∀ (v : Option Value) (S1 : hp), pO Q v S1 → V p l e R s m args below meth c b D cy nL Qf S1 cells slots pc lv (v.toList ++ st) := fun v S1 hq => by
  obtain ⟨r, rfl, h⟩ := hq
  cases r with
  | none => exact kn S1 h
  | some r => exact ks r S1 h
theorem v_tabIn (X : CX p s m args c cc nL own D cy) {dflt lo hi : Int} {offs : Array Int} {len : Nat} {x : Int32} {off : Int} {tgt : Nat} (k : Int32) (hx : x = k) (hd : decode cc pc = .ok (.tableswitch dflt lo hi offs, len)) (h1 : ¬ k.toInt < lo) (h2 : ¬ hi < k.toInt) (ho : offs[(k.toInt - lo).toNat]? = some off) (ht : (pc : Int) + off = (tgt : Int)) (kk : V p l e R s m args below meth c b D cy nL Qf S cells slots tgt lv st) : V p l e R s m args below meth c b D cy nL Qf S cells slots pc lv (.int x :: st) := fun H locs ls hH hF hl => by
  subst hx
  exact lv_tableIn X.1 X.2.1 hd h1 h2 ho ht (kk H locs ls hH hF hl)
theorem v_tabOut (X : CX p s m args c cc nL own D cy) {dflt lo hi : Int} {offs : Array Int} {len : Nat} {x : Int32} {tgt : Nat} (hd : decode cc pc = .ok (.tableswitch dflt lo hi offs, len)) (h : x.toInt < lo ∨ hi < x.toInt) (ht : (pc : Int) + dflt = (tgt : Int)) (kk : V p l e R s m args below meth c b D cy nL Qf S cells slots tgt lv st) : V p l e R s m args below meth c b D cy nL Qf S cells slots pc lv (.int x :: st) := fun H locs ls hH hF hl =>
  lv_tableOut X.1 X.2.1 hd h ht (kk H locs ls hH hF hl)
theorem v_look (X : CX p s m args c cc nL own D cy) {dflt : Int} {ps : Array (Int × Int)} {len : Nat} {x : Int32} {off : Int} {tgt : Nat} (hd : decode cc pc = .ok (.lookupswitch dflt ps, len)) (hp : (ps.toList.zip (ps.toList.drop 1)).all (fun (a, next) => a.1 < next.1) = true) (ho : Op.lookupswitch.offset ps.toList dflt x.toInt = off) (ht : (pc : Int) + off = (tgt : Int)) (kk : V p l e R s m args below meth c b D cy nL Qf S cells slots tgt lv st) : V p l e R s m args below meth c b D cy nL Qf S cells slots pc lv (.int x :: st) := fun H locs ls hH hF hl =>
  lv_lookup X.1 X.2.1 hd hp ho ht (kk H locs ls hH hF hl)
theorem v_callUL (X : CX p s m args c cc nL own D cy) {fr lo mc ms n : Nat} {y : MethodName} {bc : ByteArray} {maxL : Nat} {ret : Option FieldType} {av rest : List Value} {post : Option Value → hp → Prop} {idx a : Nat} (hM : MT l y bc maxL ret fr lo mc ms b D cy S (.ref a :: av) post) (hk : hK S a < 12) (hlink : Cond.methodLink own idx y ∈ gtb) (hsm : Cond.sameMethod y.cls y.cls y.name y.desc ∈ gtb) (hsu : Cond.superclass own y.cls ∈ gtb) (hin : Cond.instanceMethod y ∈ gtb) (hini : Cond.initialized y.cls ∈ gtb) (hcode : Cond.code y bc maxL ret ∈ gtb) (hdn : y.name ≠ "<init>" ∧ (parseMethodDescriptor y.desc).map (fun d => d.parameters.length) = some n) (hn : av.length = n) (hR : fr + 1 ≤ R.frames ∧ 8 + (maxL + 11) + lo ≤ R.locals) (hW : ((rest.map (cv b)).map fun v => v.category).sum ≤ 8) (hf : cells + mc ≤ R.cells ∧ slots + ms ≤ R.slots) (hd : decode cc pc = .ok (.invokespecial idx, 3)) {st0 : List Value} (hst0 : st0 = av.reverse ++ .ref a :: rest) (kk : ∀ (v : Option Value) (S1 : hp), post v S1 → V p l e R s m args below meth c b D cy nL Qf S1 (cells + mc) (slots + ms) (pc + 3) lv (v.toList ++ rest)) : V p l e R s m args below meth c b D cy nL Qf S cells slots pc lv st0 := by
  obtain ⟨C, T, N, hc⟩ := vw_some hk
  exact v_callU X hM rfl hk hc hlink hsm hsu hin hini hcode hdn hn hR hW hf hd hst0 kk
theorem v_copy (X : CX p s m args c cc nL own D cy) {idx a d : Nat} {sp dp n : Int32} (hk0 : hK S a = 12) (hk1 : hK S d = 12) (h1 : ¬ sp < 0) (h2 : ¬ dp < 0) (h3 : ¬ n < 0) (h4 : sp.toNatClampNeg + n.toNatClampNeg ≤ hN S a) (h5 : dp.toNatClampNeg + n.toNatClampNeg ≤ hN S d) (hlink : Cond.methodLink own idx arraycopyName ∈ gtb) (hnat : Cond.native arraycopyName ∈ gtb) (hstat : Cond.static arraycopyName ∈ gtb) (hini : Cond.initialized "java/lang/System" ∈ gtb) (hframes : 1 ≤ R.frames) (hlocals : ((st.map (cv b)).map fun v => v.category).sum + (nativeFrameWords "java/lang/System" "arraycopy" 5 + 11) ≤ R.locals) (hd : decode cc pc = .ok (.invokestatic idx, 3)) (kk : V p l e R s m args below meth c b D cy nL Qf (cpyI S a d sp.toNatClampNeg dp.toNatClampNeg n.toNatClampNeg) cells slots (pc + 3) lv st) : V p l e R s m args below meth c b D cy nL Qf S cells slots pc lv (.int n :: .int dp :: .ref d :: .int sp :: .ref a :: st) := by
  have nn : ∀ z : Int32, ¬ z < 0 → z.toInt = (z.toNatClampNeg : Int) := by
    intro z hz
    have hz0 : (0 : Int) ≤ z.toInt := by
      have := Int32.not_lt.mp hz
      simpa using Int32.le_iff_toInt_le.mp this
    show z.toInt = ((z.toInt.toNat : Nat) : Int)
    omega
  intro H locs ls hH hF hl T hT Z
  have hts := X.2.2.2.2.1
  have hs0 : sv b S a = fun k => .int (hI S a k) := funext fun k => sv_I hk0 rfl
  have hs1 : sv b S d = fun k => .int (hI S d k) := funext fun k => sv_I hk1 rfl
  have hc0 : H[b + a]? = some (arrV (cy 12) (hN S a) (fun k => .int (hI S a k))) := by rw [← hs0]; exact hH.ar hk0 (by omega) (by omega)
  have hc1 : H[b + d]? = some (arrV (cy 12) (hN S d) (fun k => .int (hI S d k))) := by rw [← hs1]; exact hH.ar hk1 (by omega) (by omega)
  obtain ⟨-, k0, hk0', cm0, hkk0⟩ := (X.2.2.2.2.2.1.2 0 _ rfl).1 (hN S a) (fun k => .int (hI S a k))
  obtain ⟨-, k1, hk1', cm1, hkk1⟩ := (X.2.2.2.2.2.1.2 0 _ rfl).1 (hN S d) (fun k => .int (hI S d k))
  obtain ⟨vm', Z', step⟩ := Z.arraycopy X.1 X.2.2.2.1 (hts _ hlink) (hts _ hnat) (hts _ hstat) (hts _ hini) (src := b + a) (dst := b + d) (srcPos := sp) (destPos := dp) (n := n) (by rw [hT]; exact hc0) (by rw [hT]; exact hc1)
    (fun _ h => by cases h) (fun _ h => by cases h) (fun h => by cases h) (fun h => by cases h) hk0' hk1' hkk0 hkk1 (by simp [refKind]) h1 h2 h3
    (by rw [nn sp h1, nn n h3, arrV_size]; omega) (by rw [nn dp h2, nn n h3, arrV_size]; omega)
    (fun vm₁ _ i hi => by
      have e9 : (arrV (cy 12) (hN S a) (fun k => .int (hI S a k))).slots.getD (sp.toNatClampNeg + i) .null = .int (hI S a (sp.toNatClampNeg + i)) := by
        rw [Array.getD_eq_getD_getElem?, arrV_read _ _ (by omega)]
        rfl
      rw [e9]
      exact ⟨rfl, trivial⟩)
    (g := F0 m pc ls (.int n :: .int dp :: .ref (b + d) :: .int sp :: .ref (b + a) :: st.map (cv b))) rfl (by rw [X.2.2.1]; exact hl.1) (rest := st.map (cv b)) rfl (by rw [X.2.1]; exact hd) hframes (by show 2 * 0 + _ + _ ≤ _; omega)
  have e1 : copied (arrV (cy 12) (hN S a) (fun k => .int (hI S a k))) (arrV (cy 12) (hN S d) (fun k => .int (hI S d k))) sp dp n = arrV (cy 12) (hN S d) (fun k => .int (va_cpy (hI S a) (hI S d) sp.toNatClampNeg dp.toNatClampNeg n.toNatClampNeg k)) := va_copied (fun z => .int z) (cy 12) (cy 12) (hI S a) (hI S d) h4
  rw [e1] at Z' step
  have hl9 : b + d < H.size := (Array.getElem?_eq_some_iff.mp hc1).1
  generalize hcell : arrV (cy 12) (hN S d) (fun k => .int (va_cpy (hI S a) (hI S d) sp.toNatClampNeg dp.toNatClampNeg n.toNatClampNeg k)) = cell at Z' step
  have hheap : ((T.setVm vm').setCell (b + d) cell).heap = H.setIfInBounds (b + d) cell := by rw [← hT]; rfl
  have oq : ∀ q : Nat, q ≠ b + d → (H.setIfInBounds (b + d) cell)[q]? = H[q]? := fun q hq => by simp [Array.getElem?_setIfInBounds, Ne.symm hq]
  have hsv : ∀ j n', sv b (cpyI S a d sp.toNatClampNeg dp.toNatClampNeg n.toNatClampNeg) j n' = if j = d then .int (va_cpy (hI S a) (hI S d) sp.toNatClampNeg dp.toNatClampNeg n.toNatClampNeg n') else sv b S j n' := fun j n' => by
    by_cases hj : j = d
    · subst hj
      rw [if_pos rfl, sv_I (S := cpyI S a j sp.toNatClampNeg dp.toNatClampNeg n.toNatClampNeg) (kd := 12) hk1 rfl, hI_cpyI]
      simp only [va_cpy, true_and]
    · rw [if_neg hj]
      simp [sv, hK_cpyI, hI_cpyI, hR_cpyI, hj]
  obtain ⟨t, a1, b1⟩ := kk _ _ ls (hH.upd d rfl rfl rfl (fun j hj k => by rw [hsv, if_neg hj]) (by simp) oq (Or.inr ⟨by show 12 ≤ hK S d; omega, by
    show _ = some (arrV (cy (hK S d)) (hN S d) _)
    rw [hk1]
    have e8 : sv b (cpyI S a d sp.toNatClampNeg dp.toNatClampNeg n.toNatClampNeg) d = fun k => .int (va_cpy (hI S a) (hI S d) sp.toNatClampNeg dp.toNatClampNeg n.toNatClampNeg k) := funext fun k => by rw [hsv, if_pos rfl]
    rw [e8, hcell]
    simp [Array.getElem?_setIfInBounds, hl9]⟩)) ⟨fun q hq => by rw [oq q (by omega)]; exact hF.1 q hq, fun q hq => by
      rcases List.mem_append.mp hq with h | h
      · exact hF.2 q h
      · obtain ⟨z, -, hz⟩ := List.mem_map.mp h
        rw [← hz]
        exact Nat.le_add_right _ _⟩ hl _ hheap Z'
  exact ⟨t, step t a1, b1⟩
end V6
