theorem HW.upd {b : Nat} {D : va_G} {cy : Nat → ClassId} {S S' : hp} {H H' : Heap} (hH : HW b D cy S H) (i : Nat) (h1 : hC S' = hC S) (h2 : hK S' = hK S) (h3 : hN S' = hN S) (ho : ∀ j, j ≠ i → ∀ k, sv b S' j k = sv b S j k) (z : H'.size = H.size) (oq : ∀ q : Nat, q ≠ b + i → H'[q]? = H[q]?) (hi : cellAt b D cy S' i H') : HW b D cy S' H' := by
  refine ⟨by rw [z, h1]; exact hH.1, fun j hj => by rw [h1]; rw [h2] at hj; exact hH.2.1 j hj, fun j hj => ?_⟩
  by_cases hji : j = i
  · subst hji; exact hi
  · rw [h2] at hj
    have hq := oq (b + j) (by omega)
    have hf : sv b S' j = sv b S j := funext (ho j hji)
    rcases hH.2.2 j hj with ⟨g1, r, g2, g3⟩ | ⟨g1, g2⟩
    · exact Or.inl ⟨by rw [h2]; exact g1, r, by rw [h2]; exact g2, by rw [h2, hf]; exact g3.kept hq⟩
    · exact Or.inr ⟨by rw [h2]; exact g1, by rw [h2, h3, hf, hq]; exact g2⟩
theorem sv_setI {b : Nat} {S : hp} {i k : Nat} {v : Int32} (j n : Nat) (h : rfb (hK S i) k = false) : sv b (setI S i k v) j n = if j = i ∧ n = k then .int v else sv b S j n := by
  by_cases hj : j = i ∧ n = k
  · obtain ⟨rfl, rfl⟩ := hj
    simp [sv, hK_setI, hI_setI, h]
  · simp [sv, hK_setI, hI_setI, hR_setI, hj]
theorem sv_setR {b : Nat} {S : hp} {i k : Nat} {v : Option Nat} (j n : Nat) (h : rfb (hK S i) k = true) : sv b (setR S i k v) j n = if j = i ∧ n = k then cv b (va_rf v) else sv b S j n := by
  by_cases hj : j = i ∧ n = k
  · obtain ⟨rfl, rfl⟩ := hj
    simp [sv, hK_setR, hR_setR, h]
  · simp [sv, hK_setR, hI_setR, hR_setR, hj]
theorem HF.put {b : Nat} {s : State} {H H' : Heap} {locs : List Loc} {i k : Nat} (h : HF b s H locs) (oq : ∀ q : Nat, q ≠ b + i → H'[q]? = H[q]?) : HF b s H' (locs ++ [⟨b + i, k⟩]) := ⟨fun q hq => by rw [oq q (by omega)]; exact h.1 q hq, fun q hq => by
  rcases List.mem_append.mp hq with g | g
  · exact h.2 q g
  · rw [List.mem_singleton.mp g]; exact Nat.le_add_right _ _⟩
section VH
variable {p : Program} {l : Launch} {e : Env} {R : Room} {s : State} {m : MethodId} {args : Array Value} {below : List Frame} {meth : Method} {c : Code} {b : Nat} {D : va_G} {cy : Nat → ClassId} {nL : Nat} {Qf : State → Prop} {S : hp} {cells slots pc : Nat} {lv : List (Nat × Value)} {st : List Value} {cc : ByteArray} {own : String}
theorem HW.ob {H : Heap} (hH : HW b D cy S H) {i ci N : Nat} {C : String} {T : u_T} (hk : hK S i = ci) (hlt : ci < 12) (hc : vwCl[ci]? = some (C, T, N)) : t_OB (b + i) (D.1 ci) N (D.2 ci) H (sv b S i) := by
  rcases hH.2.2 i (by rw [hk]; omega) with ⟨g1, r, g2, g3⟩ | ⟨g1, g2⟩
  · rw [hk] at g2 g3
    rw [hc] at g2
    cases g2
    exact g3
  · omega
theorem HW.ar {H : Heap} (hH : HW b D cy S H) {i ci : Nat} (hk : hK S i = ci) (hlt : 12 ≤ ci) (h17 : ci < 17) : H[b + i]? = some (arrV (cy ci) (hN S i) (sv b S i)) := by
  rcases hH.2.2 i (by rw [hk]; omega) with ⟨g1, r, g2, g3⟩ | ⟨g1, g2⟩
  · omega
  · rw [hk] at g2; exact g2
theorem HW.va1 {H : Heap} (hH : HW b D cy S H) {i ci N : Nat} {C : String} {T : u_T} (hk : hK S i = ci) (hlt : ci < 12) (hc : vwCl[ci]? = some (C, T, N)) : va_P D vwCl [(b + i, .inr (ci, (List.range N).map (sv b S i)))] H := by
  intro k q hq
  match k, hq with
  | 0, hq =>
    cases hq
    exact ⟨_, hc, (hH.ob hk hlt hc).to (fun j hj => by simp [vp_V, List.getD_eq_getElem?_getD, hj])⟩
  | k + 1, hq => simp at hq
theorem v_get (X : CX p s m args c cc nL own D cy) {i k ci idx N : Nat} {C : String} {T : u_T} (hk : hK S i = ci) (hlt : ci < 12) (hc : vwCl[ci]? = some (C, T, N)) (hkN : k < N) (hin : ∀ w ∈ u_ws C T N, w ∈ gtb) (hlink : Cond.fieldLink own idx (T k).1 (T k).2.1 (T k).2.2.1 ∈ gtb) (hd : decode cc pc = .ok (.getfield idx, 3)) {v : Value} (hv : sv b S i k = cv b v) (kk : V p l e R s m args below meth c b D cy nL Qf S cells slots (pc + 3) lv (v :: st)) : V p l e R s m args below meth c b D cy nL Qf S cells slots pc lv (.ref i :: st) := by
  intro H locs ls hH hF hl
  exact va_get (D := D) (cl := vwCl) (ws := [(b + i, .inr (ci, (List.range N).map (sv b S i)))]) (tys := tyl cy) (v := cv b v) X.1 X.2.1 X.2.2.2.2.1 hin X.2.2.2.1 X.2.2.2.2.2.1 (hH.va1 hk hlt hc) 0 rfl hc k hkN (X.2.2.2.2.1 _ hlink) (fun _ h => h) (by simp [hkN, hv]) hd (kk H locs ls hH hF hl)
theorem v_getI (X : CX p s m args c cc nL own D cy) {i k ci idx N : Nat} {C : String} {T : u_T} (hk : hK S i = ci) (hlt : ci < 12) (hc : vwCl[ci]? = some (C, T, N)) (hkN : k < N) (hin : ∀ w ∈ u_ws C T N, w ∈ gtb) (hlink : Cond.fieldLink own idx (T k).1 (T k).2.1 (T k).2.2.1 ∈ gtb) (hrf : rfb ci k = false) (hd : decode cc pc = .ok (.getfield idx, 3)) (kk : V p l e R s m args below meth c b D cy nL Qf S cells slots (pc + 3) lv (.int (hI S i k) :: st)) : V p l e R s m args below meth c b D cy nL Qf S cells slots pc lv (.ref i :: st) := v_get X hk hlt hc hkN hin hlink hd (v := .int (hI S i k)) (sv_I hk hrf) kk
theorem v_getR (X : CX p s m args c cc nL own D cy) {i k ci idx N : Nat} {C : String} {T : u_T} (hk : hK S i = ci) (hlt : ci < 12) (hc : vwCl[ci]? = some (C, T, N)) (hkN : k < N) (hin : ∀ w ∈ u_ws C T N, w ∈ gtb) (hlink : Cond.fieldLink own idx (T k).1 (T k).2.1 (T k).2.2.1 ∈ gtb) (hrf : rfb ci k = true) (hd : decode cc pc = .ok (.getfield idx, 3)) {j : Nat} (hj : hR S i k = some j) (kk : V p l e R s m args below meth c b D cy nL Qf S cells slots (pc + 3) lv (.ref j :: st)) : V p l e R s m args below meth c b D cy nL Qf S cells slots pc lv (.ref i :: st) := v_get X hk hlt hc hkN hin hlink hd (v := .ref j) (by rw [sv_R hk hrf, hj]; rfl) kk
theorem v_put (X : CX p s m args c cc nL own D cy) {i k ci idx N : Nat} {C : String} {T : u_T} (hk : hK S i = ci) (hlt : ci < 12) (hc : vwCl[ci]? = some (C, T, N)) (hkN : k < N) (hin : ∀ w ∈ u_ws C T N, w ∈ gtb) (hlink : Cond.fieldLink own idx (T k).1 (T k).2.1 (T k).2.2.1 ∈ gtb) (ty0 : Nat → FieldType) (hty : ∀ k, k < N → parseFieldDescriptor (T k).2.2.1 = some (ty0 k)) (hnm : ∀ a, a < N → ∀ b, b < N → a ≠ b → (T a).2.1 ≠ (T b).2.1) (hfin : (T k).2.2.2 = false) {v : Value} (hn : narrow (ty0 k) (cv b v) = cv b v) (hfit : fits (ty0 k) (cv b v) = true) (hd : decode cc pc = .ok (.putfield idx, 3)) {S1 : hp} (e1 : hC S1 = hC S) (e2 : hK S1 = hK S) (e3 : hN S1 = hN S) (e4 : ∀ j n, sv b S1 j n = if j = i ∧ n = k then cv b v else sv b S j n) (kk : V p l e R s m args below meth c b D cy nL Qf S1 cells slots (pc + 3) lv st) : V p l e R s m args below meth c b D cy nL Qf S cells slots pc lv (v :: .ref i :: st) := by
  intro H locs ls hH hF hl
  have hts := X.2.2.2.2.1
  have hap := va_apart (own := own) hts hin ty0 hty hnm X.2.2.2.2.2.1 hc
  obtain ⟨cell, q1, q2, q3, q4⟩ := hH.ob hk hlt hc
  obtain ⟨hS, hfc, kC, hkC, hkind⟩ := X.2.2.2.2.2.1.1 ci _ hc
  obtain ⟨cf, kf, fi, f, hi, hsl⟩ := hS k hkN
  have hlay := hts _ (hin _ (u_in_lay hkN))
  unfold u_lay at hlay
  rw [if_neg (by rw [hfin]; decide)] at hlay
  have hst := (u_facts hfc hkC (u_lays hts hin hkN) hi).1
  have h6 := u_store hfc hkC hkind hlay hi (hty k hkN) hn hfit
  refine W.putK X.1 X.2.1 (f := f) ⟨X.2.2.2.1, hts _ hlink, ⟨_, _, _, hi⟩, hst⟩ (by rw [q2]; exact h6) q1 q3 (by rw [hsl]; exact k2_hasslot (q4 k hkN)) rfl rfl hd fun H' g1 g2 g3 => ?_
  rw [hsl] at g1 ⊢
  refine kk H' _ ls (hH.upd i e1 e2 e3 (fun j hj n => by rw [e4, if_neg (fun h => hj h.1)]) g2 g3 (Or.inl ⟨by rw [e2, hk]; exact hlt, _, by rw [e2, hk]; exact hc, ?_⟩)) (hF.put g3) hl
  rw [e2, hk]
  refine t_OB.to (V := updV (sv b S i) k (cv b v)) ⟨_, g1, q2, q3, t_set q4 hap hkN (cv b v)⟩ (fun j _ => ?_)
  rw [e4]
  by_cases hj : j = k <;> simp [updV, hj]
theorem v_putF (X : CX p s m args c cc nL own D cy) {i k ci idx N : Nat} {C : String} {T : u_T} (hk : hK S i = ci) (hlt : ci < 12) (hc : vwCl[ci]? = some (C, T, N)) (hkN : k < N) (hin : ∀ w ∈ u_ws C T N, w ∈ gtb) (hlink : Cond.fieldLink own idx (T k).1 (T k).2.1 (T k).2.2.1 ∈ gtb) (ty0 : Nat → FieldType) (hty : ∀ k, k < N → parseFieldDescriptor (T k).2.2.1 = some (ty0 k)) (hnm : ∀ a, a < N → ∀ b, b < N → a ≠ b → (T a).2.1 ≠ (T b).2.1) (hfin : (T k).2.2.2 = true) (hin2 : meth.name = "<init>") (hdecl : (T k).1 = own) {v : Value} (hn : narrow (ty0 k) (cv b v) = cv b v) (hfit : fits (ty0 k) (cv b v) = true) (hd : decode cc pc = .ok (.putfield idx, 3)) {S1 : hp} (e1 : hC S1 = hC S) (e2 : hK S1 = hK S) (e3 : hN S1 = hN S) (e4 : ∀ j n, sv b S1 j n = if j = i ∧ n = k then cv b v else sv b S j n) (kk : V p l e R s m args below meth c b D cy nL Qf S1 cells slots (pc + 3) lv st) : V p l e R s m args below meth c b D cy nL Qf S cells slots pc lv (v :: .ref i :: st) := by
  intro H locs ls hH hF hl
  have hts := X.2.2.2.2.1
  have hap := va_apart (own := own) hts hin ty0 hty hnm X.2.2.2.2.2.1 hc
  obtain ⟨cell, q1, q2, q3, q4⟩ := hH.ob hk hlt hc
  obtain ⟨hS, hfc, kC, hkC, hkind⟩ := X.2.2.2.2.2.1.1 ci _ hc
  obtain ⟨cf, kf, fi, f, hi, hsl⟩ := hS k hkN
  have hlay := hts _ (hin _ (u_in_lay hkN))
  unfold u_lay at hlay
  rw [if_pos hfin] at hlay
  have hst := (u_facts hfc hkC (u_lays hts hin hkN) hi).1
  have hcf : m.cls = cf := by
    obtain ⟨_, _, c', _, _, _, -, -, hf', -, -, -, hown2, -⟩ := Cond.laysFinal_spec hlay
    have e9 : c' = cf := by have := hi.symm.trans hf'; simp at this; exact this.1.symm
    rw [hdecl] at hown2
    rw [← e9]; exact Option.some.inj (X.2.2.2.1.symm.trans hown2)
  have h6 := u_fits hfc hkC hkind (Or.inr hlay) hi (hty k hkN) hn hfit
  refine W.putFinK X.1 X.2.1 X.2.2.2.1 (hts _ hlink) hi hst hcf hin2 (by rw [q2]; exact h6) q1 q3 (by rw [hsl]; exact k2_hasslot (q4 k hkN)) rfl rfl hd fun H' g1 g2 g3 => ?_
  rw [hsl] at g1 ⊢
  refine kk H' _ ls (hH.upd i e1 e2 e3 (fun j hj n => by rw [e4, if_neg (fun h => hj h.1)]) g2 g3 (Or.inl ⟨by rw [e2, hk]; exact hlt, _, by rw [e2, hk]; exact hc, ?_⟩)) (hF.put g3) hl
  rw [e2, hk]
  refine t_OB.to (V := updV (sv b S i) k (cv b v)) ⟨_, g1, q2, q3, t_set q4 hap hkN (cv b v)⟩ (fun j _ => ?_)
  rw [e4]
  by_cases hj : j = k <;> simp [updV, hj]
theorem v_putI (X : CX p s m args c cc nL own D cy) {i k ci idx N : Nat} {C : String} {T : u_T} (hk : hK S i = ci) (hlt : ci < 12) (hc : vwCl[ci]? = some (C, T, N)) (hkN : k < N) (hin : ∀ w ∈ u_ws C T N, w ∈ gtb) (hlink : Cond.fieldLink own idx (T k).1 (T k).2.1 (T k).2.2.1 ∈ gtb) (ty0 : Nat → FieldType) (hty : ∀ k, k < N → parseFieldDescriptor (T k).2.2.1 = some (ty0 k)) (hnm : ∀ a, a < N → ∀ b, b < N → a ≠ b → (T a).2.1 ≠ (T b).2.1) (hfin : (T k).2.2.2 = false) (hrf : rfb ci k = false) {v : Int32} (hn : narrow (ty0 k) (.int v) = .int v) (hfit : fits (ty0 k) (.int v) = true) (hd : decode cc pc = .ok (.putfield idx, 3)) (kk : V p l e R s m args below meth c b D cy nL Qf (setI S i k v) cells slots (pc + 3) lv st) : V p l e R s m args below meth c b D cy nL Qf S cells slots pc lv (.int v :: .ref i :: st) := v_put X hk hlt hc hkN hin hlink ty0 hty hnm hfin (v := .int v) hn hfit hd (S1 := setI S i k v) rfl rfl rfl (fun j n => sv_setI j n (by rw [hk]; exact hrf)) kk
theorem v_putR (X : CX p s m args c cc nL own D cy) {i k ci idx N : Nat} {C : String} {T : u_T} (hk : hK S i = ci) (hlt : ci < 12) (hc : vwCl[ci]? = some (C, T, N)) (hkN : k < N) (hin : ∀ w ∈ u_ws C T N, w ∈ gtb) (hlink : Cond.fieldLink own idx (T k).1 (T k).2.1 (T k).2.2.1 ∈ gtb) (ty0 : Nat → FieldType) (hty : ∀ k, k < N → parseFieldDescriptor (T k).2.2.1 = some (ty0 k)) (hnm : ∀ a, a < N → ∀ b, b < N → a ≠ b → (T a).2.1 ≠ (T b).2.1) (hfin : (T k).2.2.2 = false) (hrf : rfb ci k = true) {v : Nat} (hn : ∀ a : Nat, narrow (ty0 k) (.ref a) = .ref a) (hfit : ∀ a : Nat, fits (ty0 k) (.ref a) = true) (hd : decode cc pc = .ok (.putfield idx, 3)) (kk : V p l e R s m args below meth c b D cy nL Qf (setR S i k (some v)) cells slots (pc + 3) lv st) : V p l e R s m args below meth c b D cy nL Qf S cells slots pc lv (.ref v :: .ref i :: st) := v_put X hk hlt hc hkN hin hlink ty0 hty hnm hfin (v := .ref v) (hn _) (hfit _) hd (S1 := setR S i k (some v)) rfl rfl rfl (fun j n => sv_setR (v := some v) j n (by rw [hk]; exact hrf)) kk
theorem v_putFI (X : CX p s m args c cc nL own D cy) {i k ci idx N : Nat} {C : String} {T : u_T} (hk : hK S i = ci) (hlt : ci < 12) (hc : vwCl[ci]? = some (C, T, N)) (hkN : k < N) (hin : ∀ w ∈ u_ws C T N, w ∈ gtb) (hlink : Cond.fieldLink own idx (T k).1 (T k).2.1 (T k).2.2.1 ∈ gtb) (ty0 : Nat → FieldType) (hty : ∀ k, k < N → parseFieldDescriptor (T k).2.2.1 = some (ty0 k)) (hnm : ∀ a, a < N → ∀ b, b < N → a ≠ b → (T a).2.1 ≠ (T b).2.1) (hfin : (T k).2.2.2 = true) (hin2 : meth.name = "<init>") (hdecl : (T k).1 = own) (hrf : rfb ci k = false) {v : Int32} (hn : narrow (ty0 k) (.int v) = .int v) (hfit : fits (ty0 k) (.int v) = true) (hd : decode cc pc = .ok (.putfield idx, 3)) (kk : V p l e R s m args below meth c b D cy nL Qf (setI S i k v) cells slots (pc + 3) lv st) : V p l e R s m args below meth c b D cy nL Qf S cells slots pc lv (.int v :: .ref i :: st) := v_putF X hk hlt hc hkN hin hlink ty0 hty hnm hfin hin2 hdecl (v := .int v) hn hfit hd (S1 := setI S i k v) rfl rfl rfl (fun j n => sv_setI j n (by rw [hk]; exact hrf)) kk
theorem v_putFR (X : CX p s m args c cc nL own D cy) {i k ci idx N : Nat} {C : String} {T : u_T} (hk : hK S i = ci) (hlt : ci < 12) (hc : vwCl[ci]? = some (C, T, N)) (hkN : k < N) (hin : ∀ w ∈ u_ws C T N, w ∈ gtb) (hlink : Cond.fieldLink own idx (T k).1 (T k).2.1 (T k).2.2.1 ∈ gtb) (ty0 : Nat → FieldType) (hty : ∀ k, k < N → parseFieldDescriptor (T k).2.2.1 = some (ty0 k)) (hnm : ∀ a, a < N → ∀ b, b < N → a ≠ b → (T a).2.1 ≠ (T b).2.1) (hfin : (T k).2.2.2 = true) (hin2 : meth.name = "<init>") (hdecl : (T k).1 = own) (hrf : rfb ci k = true) {v : Nat} (hn : ∀ a : Nat, narrow (ty0 k) (.ref a) = .ref a) (hfit : ∀ a : Nat, fits (ty0 k) (.ref a) = true) (hd : decode cc pc = .ok (.putfield idx, 3)) (kk : V p l e R s m args below meth c b D cy nL Qf (setR S i k (some v)) cells slots (pc + 3) lv st) : V p l e R s m args below meth c b D cy nL Qf S cells slots pc lv (.ref v :: .ref i :: st) := v_putF X hk hlt hc hkN hin hlink ty0 hty hnm hfin hin2 hdecl (v := .ref v) (hn _) (hfit _) hd (S1 := setR S i k (some v)) rfl rfl rfl (fun j n => sv_setR (v := some v) j n (by rw [hk]; exact hrf)) kk
theorem arrV_rd {cI : ClassId} {N : Nat} {f : Nat → Value} {i : Int32} (h : vp_in i N) : (arrV cI N f).slots[i.toNatClampNeg]? = some (f i.toNatClampNeg) := arrV_read _ _ (Nat.not_le.mp fun q => h (Or.inr q))
theorem arrV_inb {cI : ClassId} {N : Nat} {f : Nat → Value} {i : Int32} (h : vp_in i N) : ¬ (i < 0 ∨ (arrV cI N f).slots.size ≤ i.toNatClampNeg) := by rw [arrV_size]; exact h
theorem v_iald (X : CX p s m args c cc nL own D cy) {a : Nat} {i : Int32} (hk : hK S a = 12) (hi : vp_in i (hN S a)) (hd : decode cc pc = .ok (.iaload, 1)) (kk : V p l e R s m args below meth c b D cy nL Qf S cells slots (pc + 1) lv (.int (hI S a i.toNatClampNeg) :: st)) : V p l e R s m args below meth c b D cy nL Qf S cells slots pc lv (.int i :: .ref a :: st) := fun H locs ls hH hF hl =>
  W.iald X.1 X.2.1 (hH.ar hk (by omega) (by omega)) ((X.2.2.2.2.2.1.2 0 _ rfl).1 _ _) (fun q => by cases q) (arrV_inb hi) ((arrV_rd hi).trans (by rw [sv_I hk rfl]; rfl)) rfl rfl hd (kk H locs ls hH hF hl)
theorem v_zald (X : CX p s m args c cc nL own D cy) {a : Nat} {i : Int32} (hk : hK S a = 13) (hi : vp_in i (hN S a)) (hd : decode cc pc = .ok (.baload, 1)) (kk : V p l e R s m args below meth c b D cy nL Qf S cells slots (pc + 1) lv (.int (hI S a i.toNatClampNeg) :: st)) : V p l e R s m args below meth c b D cy nL Qf S cells slots pc lv (.int i :: .ref a :: st) := fun H locs ls hH hF hl =>
  W.zald X.1 X.2.1 (hH.ar hk (by omega) (by omega)) ((X.2.2.2.2.2.1.2 1 _ rfl).1 _ _) (fun q => by cases q) (arrV_inb hi) ((arrV_rd hi).trans (by rw [sv_I hk rfl]; rfl)) rfl rfl hd (kk H locs ls hH hF hl)
theorem v_aald14 (X : CX p s m args c cc nL own D cy) {a : Nat} {i : Int32} {v : Value} (hk : hK S a = 14) (hi : vp_in i (hN S a)) (hd : decode cc pc = .ok (.aaload, 1)) (hv : va_rf (hR S a i.toNatClampNeg) = v) (kk : V p l e R s m args below meth c b D cy nL Qf S cells slots (pc + 1) lv (v :: st)) : V p l e R s m args below meth c b D cy nL Qf S cells slots pc lv (.int i :: .ref a :: st) := fun H locs ls hH hF hl =>
  W.aald (ty := .object "DummyInches$Mouth") X.1 X.2.1 (hH.ar hk (by omega) (by omega)) ((X.2.2.2.2.2.1.2 2 _ rfl).1 _ _) rfl (fun q => by cases q) (arrV_inb hi) ((arrV_rd hi).trans (by rw [sv_R hk rfl, hv])) rfl rfl hd (kk H locs ls hH hF hl)
theorem v_aald15 (X : CX p s m args c cc nL own D cy) {a : Nat} {i : Int32} {v : Value} (hk : hK S a = 15) (hi : vp_in i (hN S a)) (hd : decode cc pc = .ok (.aaload, 1)) (hv : va_rf (hR S a i.toNatClampNeg) = v) (kk : V p l e R s m args below meth c b D cy nL Qf S cells slots (pc + 1) lv (v :: st)) : V p l e R s m args below meth c b D cy nL Qf S cells slots pc lv (.int i :: .ref a :: st) := fun H locs ls hH hF hl =>
  W.aald (ty := .object "DummyInches$Street") X.1 X.2.1 (hH.ar hk (by omega) (by omega)) ((X.2.2.2.2.2.1.2 3 _ rfl).1 _ _) rfl (fun q => by cases q) (arrV_inb hi) ((arrV_rd hi).trans (by rw [sv_R hk rfl, hv])) rfl rfl hd (kk H locs ls hH hF hl)
theorem v_aald16 (X : CX p s m args c cc nL own D cy) {a : Nat} {i : Int32} {v : Value} (hk : hK S a = 16) (hi : vp_in i (hN S a)) (hd : decode cc pc = .ok (.aaload, 1)) (hv : va_rf (hR S a i.toNatClampNeg) = v) (kk : V p l e R s m args below meth c b D cy nL Qf S cells slots (pc + 1) lv (v :: st)) : V p l e R s m args below meth c b D cy nL Qf S cells slots pc lv (.int i :: .ref a :: st) := fun H locs ls hH hF hl =>
  W.aald (ty := .array .int) X.1 X.2.1 (hH.ar hk (by omega) (by omega)) ((X.2.2.2.2.2.1.2 4 _ rfl).1 _ _) rfl (fun q => by cases q) (arrV_inb hi) ((arrV_rd hi).trans (by rw [sv_R hk rfl, hv])) rfl rfl hd (kk H locs ls hH hF hl)
theorem v_iast (X : CX p s m args c cc nL own D cy) {a : Nat} {i x : Int32} (hk : hK S a = 12) (hi : vp_in i (hN S a)) (hd : decode cc pc = .ok (.iastore, 1)) (kk : V p l e R s m args below meth c b D cy nL Qf (setI S a i.toNatClampNeg x) cells slots (pc + 1) lv st) : V p l e R s m args below meth c b D cy nL Qf S cells slots pc lv (.int x :: .int i :: .ref a :: st) := by
  intro H locs ls hH hF hl
  refine W.iast X.1 X.2.1 (hH.ar hk (by omega) (by omega)) ((X.2.2.2.2.2.1.2 0 _ rfl).1 _ _) (fun q => by cases q) (arrV_inb hi) rfl rfl hd fun H1 g1 g2 g3 => ?_
  refine kk H1 _ ls (hH.upd a rfl rfl rfl (fun j hj n => by rw [sv_setI j n (by rw [hk]; rfl), if_neg (fun h => hj h.1)]) g2 g3 (Or.inr ⟨?_, ?_⟩)) (hF.put g3) hl
  · show 12 ≤ hK S a
    omega
  · rw [g1, arrV_store]
    show some (arrV _ _ _) = some (arrV (cy (hK S a)) (hN S a) _)
    rw [hk]
    congr 2
    funext q
    rw [sv_setI a q (by rw [hk]; rfl)]
    by_cases hq : q = i.toNatClampNeg
    · simp [updV, hq]
      try rfl
    · simp [updV, hq]
theorem v_zast (X : CX p s m args c cc nL own D cy) {a : Nat} {i x : Int32} (hk : hK S a = 13) (hi : vp_in i (hN S a)) (hd : decode cc pc = .ok (.bastore, 1)) (kk : V p l e R s m args below meth c b D cy nL Qf (setI S a i.toNatClampNeg (vp_nar .boolean x)) cells slots (pc + 1) lv st) : V p l e R s m args below meth c b D cy nL Qf S cells slots pc lv (.int x :: .int i :: .ref a :: st) := by
  intro H locs ls hH hF hl
  refine W.zast X.1 X.2.1 (hH.ar hk (by omega) (by omega)) ((X.2.2.2.2.2.1.2 1 _ rfl).1 _ _) (fun q => by cases q) (arrV_inb hi) rfl rfl hd fun H1 g1 g2 g3 => ?_
  refine kk H1 _ ls (hH.upd a rfl rfl rfl (fun j hj n => by rw [sv_setI j n (by rw [hk]; rfl), if_neg (fun h => hj h.1)]) g2 g3 (Or.inr ⟨?_, ?_⟩)) (hF.put g3) hl
  · show 12 ≤ hK S a
    omega
  · rw [g1, arrV_store]
    show some (arrV _ _ _) = some (arrV (cy (hK S a)) (hN S a) _)
    rw [hk]
    congr 2
    funext q
    rw [sv_setI a q (by rw [hk]; rfl)]
    by_cases hq : q = i.toNatClampNeg
    · simp [updV, hq]
      try rfl
    · simp [updV, hq]
theorem v_alen (X : CX p s m args c cc nL own D cy) {a kd : Nat} {n : Int32} (hk : hK S a = kd) (h12 : 12 ≤ kd) (h17 : kd < 17) (hn : nI (hN S a) = n) (hd : decode cc pc = .ok (.arraylength, 1)) (kk : V p l e R s m args below meth c b D cy nL Qf S cells slots (pc + 1) lv (.int n :: st)) : V p l e R s m args below meth c b D cy nL Qf S cells slots pc lv (.ref a :: st) := by
  intro H locs ls hH hF hl
  have hA : ∃ ty, ArrOfT s (cy kd) ty := by
    rcases (show kd = 12 ∨ kd = 13 ∨ kd = 14 ∨ kd = 15 ∨ kd = 16 by omega) with h | h | h | h | h <;> subst h
    · exact ⟨_, (X.2.2.2.2.2.1.2 0 _ rfl).1⟩
    · exact ⟨_, (X.2.2.2.2.2.1.2 1 _ rfl).1⟩
    · exact ⟨_, (X.2.2.2.2.2.1.2 2 _ rfl).1⟩
    · exact ⟨_, (X.2.2.2.2.2.1.2 3 _ rfl).1⟩
    · exact ⟨_, (X.2.2.2.2.2.1.2 4 _ rfl).1⟩
  obtain ⟨ty, hA⟩ := hA
  exact W.alen X.1 X.2.1 (hH.ar hk h12 h17) (hA _ _) (by rw [arrV_size]; exact hn) rfl rfl hd (kk H locs ls hH hF hl)
end VH
