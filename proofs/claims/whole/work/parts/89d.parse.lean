/-! street: the text as both read it. N reads a number, B a byte, K the kind of a mouth. -/
abbrev PF := Int32 × Nat
abbrev PN := Nat → Int32 → Int32 → Except PF (Int32 × Nat)
abbrev PB := Nat → Int32 → Except PF Nat
abbrev PK := Nat → Option Nat
def pNum (T : Nat → Int32) (n : Nat) : PN := fun p lo hi =>
  if figs T n p = 1 ∨ figs T n p = 2 then (if rg (fval T p (figs T n p)) lo.toInt hi.toInt = true then .ok (fval T p (figs T n p), p + figs T n p) else .error (2, p)) else .error (1, p)
def pByte (T : Nat → Int32) (n : Nat) : PB := fun p x => if p < n ∧ T p = x then .ok (p + 1) else .error (1, p)
/-- the kind of a mouth by its letter; 0: none -/
def kb (x : Int32) : Nat := if x = 118 then 1 else if x = 107 then 2 else if x = 114 then 3 else if x = 103 then 4 else if x = 115 then 5 else 0
def pK (T : Nat → Int32) (n : Nat) : PK := fun p => if p < n then some (kb (T p)) else none
/-- a number, then a byte -/
def pIn (N : PN) (B : PB) (p : Nat) (lo hi x : Int32) : Except PF (Int32 × Nat) :=
  match N p lo hi with
  | .error e => .error e
  | .ok (v, q) => match B q x with
    | .error e => .error e
    | .ok r => .ok (v, r)
def v3 (a b c : Int32) : Nat → Int32 := fun i => if i = 0 then a else if i = 1 then b else c
def pThree (N : PN) (B : PB) (p : Nat) : Except PF ((Nat → Int32) × Nat) :=
  match pIn N B p 0 99 44 with
  | .error e => .error e
  | .ok (a, q) => match pIn N B q 0 99 44 with
    | .error e => .error e
    | .ok (b, r) => match pIn N B r 0 99 59 with
      | .error e => .error e
      | .ok (c, s) => .ok (v3 a b c, s)
/-- one dummy more -/
def addD (f : Nat → Int32) (d : Nat) (w : Nat → Int32) : Nat → Int32 := fun i =>
  if i = 2 then nI (d + 1) else if 5 + 3 * d ≤ i ∧ i < 5 + 3 * d + 3 then w (i - (5 + 3 * d)) else if 17 + 3 * d ≤ i ∧ i < 17 + 3 * d + 3 then w (i - (17 + 3 * d)) else if 29 + 3 * d ≤ i ∧ i < 29 + 3 * d + 3 then w (i - (29 + 3 * d)) else f i
/-- one mouth more -/
def addM (f : Nat → Int32) (m k : Nat) (v : Int32) : Nat → Int32 := fun i => if i = 3 then nI (m + 1) else if i = 42 + 2 * m then v else if i = 41 + 2 * m then nI k else f i
def pD (N : PN) (B : PB) : Nat → Nat → (Nat → Int32) → Except PF (Nat × (Nat → Int32))
  | 0, p, f => match B p 100 with
    | .ok _ => .error (3, p)
    | .error _ => .ok (p, f)
  | t + 1, p, f => match B p 100 with
    | .error _ => .ok (p, f)
    | .ok q => match pThree N B q with
      | .error e => .error e
      | .ok (w, r) => pD N B t r (addD f (3 - t) w)
def pM (N : PN) (B : PB) (K : PK) : Nat → Nat → (Nat → Int32) → Except PF (Nat → Int32)
  | 0, p, f => match K p with
    | none => .ok f
    | some k => if k = 0 then .error (1, p) else .error (3, p)
  | t + 1, p, f => match K p with
    | none => .ok f
    | some k => if k = 0 then .error (1, p) else match pIn N B (p + 1) 0 99 59 with
      | .error e => .error e
      | .ok (v, q) => pM N B K t q (addM f (4 - t) k v)
/-- the street of nobody, with its wall -/
def fL (v : Int32) : Nat → Int32 := fun i => if i = 0 then 1 else if i = 1 then v else 0
def pLaw (N : PN) (B : PB) : Except PF (Int32 × Nat) :=
  match B 0 119 with
  | .error e => .error e
  | .ok p => pIn N B p 2 20 59
def pAll (N : PN) (B : PB) (K : PK) : Except PF (Nat → Int32) :=
  match pLaw N B with
  | .error e => .error e
  | .ok (v, q) => match pD N B 4 q (fL v) with
    | .error e => .error e
    | .ok (p, f) => pM N B K 5 p f
/-! only the bytes before n are read -/
theorem nf_congr {T T2 : Nat → Int32} {n : Nat} (h : ∀ k, k < n → T k = T2 k) : ∀ t p, p + t ≤ n → nf T t p = nf T2 t p
  | 0, p, _ => rfl
  | t + 1, p, hp => by
    have := nf_congr h t (p + 1) (by omega)
    unfold nf
    rw [this, h p (by omega)]
theorem figs_congr {T T2 : Nat → Int32} {n p : Nat} (h : ∀ k, k < n → T k = T2 k) : figs T n p = figs T2 n p := by
  unfold figs
  by_cases c : p ≤ n
  · exact nf_congr h _ _ (by omega)
  · rw [show n - p = 0 by omega]; rfl
theorem figs_le (T : Nat → Int32) (n p : Nat) : figs T n p ≤ n - p := nf_le T _ _
theorem pNum_congr {T T2 : Nat → Int32} {n : Nat} (h : ∀ k, k < n → T k = T2 k) : pNum T n = pNum T2 n := by
  funext p lo hi
  unfold pNum
  rw [figs_congr (p := p) h]
  by_cases c : figs T2 n p = 1 ∨ figs T2 n p = 2
  · have l := figs_le T2 n p
    have e : fval T p (figs T2 n p) = fval T2 p (figs T2 n p) := by
      unfold fval
      rcases c with c | c
      · rw [c, if_pos (by omega), if_pos (by omega), h p (by omega)]
      · rw [c, if_neg (by omega), if_neg (by omega), h p (by omega), h (p + 1) (by omega)]
    rw [if_pos c, if_pos c, e]
  · rw [if_neg c, if_neg c]
theorem pByte_congr {T T2 : Nat → Int32} {n : Nat} (h : ∀ k, k < n → T k = T2 k) : pByte T n = pByte T2 n := by
  funext p x
  unfold pByte
  by_cases c : p < n
  · rw [h p c]
  · rw [if_neg (fun q => c q.1), if_neg (fun q => c q.1)]
theorem pK_congr {T T2 : Nat → Int32} {n : Nat} (h : ∀ k, k < n → T k = T2 k) : pK T n = pK T2 n := by
  funext p
  unfold pK
  by_cases c : p < n
  · rw [h p c]
  · rw [if_neg c, if_neg c]
theorem pIn_ok {N : PN} {B : PB} {p : Nat} {lo hi x v : Int32} {r : Nat} (h : pIn N B p lo hi x = .ok (v, r)) : ∃ q, N p lo hi = .ok (v, q) ∧ B q x = .ok r := by
  unfold pIn at h
  cases e : N p lo hi with
  | error e => rw [e] at h; cases h
  | ok y =>
    obtain ⟨v2, q⟩ := y
    rw [e] at h
    cases e2 : B q x with
    | error e => simp only [e2] at h; cases h
    | ok y => simp only [e2] at h; cases h; exact ⟨q, rfl, e2⟩
theorem pNum_ok {T : Nat → Int32} {n p q : Nat} {lo hi v : Int32} (h : pNum T n p lo hi = .ok (v, q)) : rg v lo.toInt hi.toInt = true ∧ (p ≤ n → q ≤ n) := by
  unfold pNum at h
  have l := figs_le T n p
  by_cases c : figs T n p = 1 ∨ figs T n p = 2
  · rw [if_pos c] at h
    by_cases c2 : rg (fval T p (figs T n p)) lo.toInt hi.toInt = true
    · rw [if_pos c2] at h
      cases h
      exact ⟨c2, fun _ => by omega⟩
    · rw [if_neg c2] at h; cases h
  · rw [if_neg c] at h; cases h
theorem pByte_ok {T : Nat → Int32} {n p q : Nat} {x : Int32} (h : pByte T n p x = .ok q) : q = p + 1 ∧ p < n ∧ T p = x := by
  unfold pByte at h
  by_cases c : p < n ∧ T p = x
  · rw [if_pos c] at h; cases h; exact ⟨rfl, c⟩
  · rw [if_neg c] at h; cases h
theorem pIn_v {T : Nat → Int32} {n p q : Nat} {lo hi x v : Int32} (h : pIn (pNum T n) (pByte T n) p lo hi x = .ok (v, q)) : rg v lo.toInt hi.toInt = true ∧ q ≤ n := by
  obtain ⟨r, h1, h2⟩ := pIn_ok h
  have := pByte_ok h2
  exact ⟨(pNum_ok h1).1, by omega⟩
theorem pThree_v {T : Nat → Int32} {n p q : Nat} {w : Nat → Int32} (h : pThree (pNum T n) (pByte T n) p = .ok (w, q)) : (∀ i, rg (w i) 0 99 = true) ∧ q ≤ n := by
  unfold pThree at h
  cases e : pIn (pNum T n) (pByte T n) p 0 99 44 with
  | error e => rw [e] at h; cases h
  | ok y =>
    obtain ⟨a, p1⟩ := y
    rw [e] at h
    simp only at h
    cases e2 : pIn (pNum T n) (pByte T n) p1 0 99 44 with
    | error e => rw [e2] at h; cases h
    | ok y =>
      obtain ⟨b, p2⟩ := y
      rw [e2] at h
      simp only at h
      cases e3 : pIn (pNum T n) (pByte T n) p2 0 99 59 with
      | error e => rw [e3] at h; cases h
      | ok y =>
        obtain ⟨c, p3⟩ := y
        rw [e3] at h
        cases h
        refine ⟨fun i => ?_, (pIn_v e3).2⟩
        unfold v3
        by_cases i0 : i = 0
        · rw [if_pos i0]; exact (pIn_v e).1
        · rw [if_neg i0]
          by_cases i1 : i = 1
          · rw [if_pos i1]; exact (pIn_v e2).1
          · rw [if_neg i1]; exact (pIn_v e3).1
theorem kb_le (x : Int32) : kb x ≤ 5 := by
  unfold kb
  by_cases h1 : x = 118
  · rw [if_pos h1]; omega
  rw [if_neg h1]
  by_cases h2 : x = 107
  · rw [if_pos h2]; omega
  rw [if_neg h2]
  by_cases h3 : x = 114
  · rw [if_pos h3]; omega
  rw [if_neg h3]
  by_cases h4 : x = 103
  · rw [if_pos h4]; omega
  rw [if_neg h4]
  by_cases h5 : x = 115
  · rw [if_pos h5]; omega
  rw [if_neg h5]; omega
/-! what is read is a street -/
theorem rg_bd {x : Int32} (h : rg x 0 99 = true) : bd x := by
  have := rg_t.mp h
  exact ⟨by omega, by omega⟩
theorem WF_fL {v : Int32} (h : rg v 2 20 = true) : WF (fL v) ∧ nd (fL v) = 0 ∧ nm (fL v) = 0 ∧ nl (fL v) = 0 := by
  have b0 : bd (0 : Int32) := ⟨by decide, by decide⟩
  refine ⟨⟨⟨rfl, Nat.zero_le _⟩, ⟨rfl, Nat.zero_le _⟩, ⟨rfl, Nat.zero_le _⟩, Or.inr ⟨rfl, h⟩, fun j hj => absurd hj (Nat.not_lt_zero _), fun k hk => ⟨?_, ?_, ?_⟩, fun i hi => absurd hi (Nat.not_lt_zero _)⟩, rfl, rfl, rfl⟩
  · unfold fL; rw [if_neg (by omega), if_neg (by omega)]; exact b0
  · unfold fL; rw [if_neg (by omega), if_neg (by omega)]; exact b0
  · unfold fL; rw [if_neg (by omega), if_neg (by omega)]; exact b0
theorem addD_lo {f : Nat → Int32} {d : Nat} {w : Nat → Int32} {i : Nat} (h : i < 5) (h2 : i ≠ 2) : addD f d w i = f i := by
  unfold addD; rw [if_neg h2, if_neg (by omega), if_neg (by omega), if_neg (by omega)]
theorem addD_hi {f : Nat → Int32} {d : Nat} {w : Nat → Int32} {i : Nat} (hd : d < 4) (h : 41 ≤ i) : addD f d w i = f i := by
  unfold addD; rw [if_neg (by omega), if_neg (by omega), if_neg (by omega), if_neg (by omega)]
theorem addD_5 {f : Nat → Int32} {d : Nat} {w : Nat → Int32} {k : Nat} (hk : k < 12) : addD f d w (5 + k) = if 3 * d ≤ k ∧ k < 3 * d + 3 then w (k - 3 * d) else f (5 + k) := by
  unfold addD
  rw [if_neg (by omega)]
  by_cases c : 3 * d ≤ k ∧ k < 3 * d + 3
  · rw [if_pos (by omega), if_pos c]; congr 1; omega
  · rw [if_neg (by omega), if_neg c, if_neg (by omega), if_neg (by omega)]
theorem addD_17 {f : Nat → Int32} {d : Nat} {w : Nat → Int32} {k : Nat} (hd : d < 4) (hk : k < 12) : addD f d w (17 + k) = if 3 * d ≤ k ∧ k < 3 * d + 3 then w (k - 3 * d) else f (17 + k) := by
  unfold addD
  rw [if_neg (by omega), if_neg (by omega)]
  by_cases c : 3 * d ≤ k ∧ k < 3 * d + 3
  · rw [if_pos (by omega), if_pos c]; congr 1; omega
  · rw [if_neg (by omega), if_neg c, if_neg (by omega)]
theorem addD_29 {f : Nat → Int32} {d : Nat} {w : Nat → Int32} {k : Nat} (hd : d < 4) (hk : k < 12) : addD f d w (29 + k) = if 3 * d ≤ k ∧ k < 3 * d + 3 then w (k - 3 * d) else f (29 + k) := by
  unfold addD
  rw [if_neg (by omega), if_neg (by omega), if_neg (by omega)]
  by_cases c : 3 * d ≤ k ∧ k < 3 * d + 3
  · rw [if_pos (by omega), if_pos c]; congr 1; omega
  · rw [if_neg (by omega), if_neg c]
theorem addD_n {f : Nat → Int32} {d : Nat} {w : Nat → Int32} (hd : d < 4) : nd (addD f d w) = d + 1 ∧ nm (addD f d w) = nm f ∧ nl (addD f d w) = nl f ∧ ∀ j, kd (addD f d w) j = kd f j := by
  refine ⟨?_, ?_, ?_, fun j => ?_⟩
  · show (nI (d + 1)).toNatClampNeg = d + 1; exact nI_clamp (by omega)
  · unfold nm; rw [addD_lo (by omega) (by omega)]
  · unfold nl; rw [addD_lo (by omega) (by omega)]
  · unfold kd; rw [addD_hi hd (by omega)]
theorem WF_addD {f : Nat → Int32} {d : Nat} {w : Nat → Int32} (h : WF f) (h0 : f 0 = 1) (hl : nl f = 0) (hd : d < 4) (hw : ∀ i, rg (w i) 0 99 = true) : WF (addD f d w) := by
  obtain ⟨a1, a2, a3, a4, a5, a6, a7⟩ := h
  obtain ⟨e1, e2, e3, e4⟩ := addD_n (f := f) (w := w) hd
  refine ⟨⟨by rw [e1]; rfl, by rw [e1]; omega⟩, ⟨?_, by rw [e2]; exact a2.2⟩, ⟨?_, by rw [e3]; exact a3.2⟩, Or.inr ⟨?_, ?_⟩, fun j hj => ?_, fun k hk => ⟨?_, ?_, ?_⟩, fun i hi => ?_⟩
  · rw [e2, addD_lo (by omega) (by omega)]; exact a2.1
  · rw [e3, addD_lo (by omega) (by omega)]; exact a3.1
  · rw [addD_lo (by omega) (by omega)]; exact h0
  · rw [addD_lo (by omega) (by omega)]
    rcases a4 with ⟨q, _⟩ | ⟨_, q⟩
    · rw [h0] at q; exact absurd q (by decide)
    · exact q
  · rw [e2] at hj
    rw [e4, addD_hi hd (by omega), addD_hi hd (by omega)]; exact a5 j hj
  · rw [addD_5 hk]
    by_cases c : 3 * d ≤ k ∧ k < 3 * d + 3
    · rw [if_pos c]; exact rg_bd (hw _)
    · rw [if_neg c]; exact (a6 k hk).1
  · rw [addD_17 hd hk]
    by_cases c : 3 * d ≤ k ∧ k < 3 * d + 3
    · rw [if_pos c]; exact rg_bd (hw _)
    · rw [if_neg c]; exact (a6 k hk).2.1
  · rw [addD_29 hd hk]
    by_cases c : 3 * d ≤ k ∧ k < 3 * d + 3
    · rw [if_pos c]; exact rg_bd (hw _)
    · rw [if_neg c]; exact (a6 k hk).2.2
  · rw [e3, hl] at hi; exact absurd hi (Nat.not_lt_zero _)
theorem addM_lo {f : Nat → Int32} {m k : Nat} {v : Int32} {i : Nat} (h : i < 41) (h2 : i ≠ 3) : addM f m k v i = f i := by
  unfold addM; rw [if_neg h2, if_neg (by omega), if_neg (by omega)]
theorem addM_41 {f : Nat → Int32} {m k : Nat} {v : Int32} {j : Nat} : addM f m k v (41 + 2 * j) = if j = m then nI k else f (41 + 2 * j) := by
  unfold addM
  rw [if_neg (by omega), if_neg (by omega)]
  by_cases c : j = m
  · rw [if_pos (by omega), if_pos c]
  · rw [if_neg (by omega), if_neg c]
theorem addM_42 {f : Nat → Int32} {m k : Nat} {v : Int32} {j : Nat} : addM f m k v (42 + 2 * j) = if j = m then v else f (42 + 2 * j) := by
  unfold addM
  rw [if_neg (by omega)]
  by_cases c : j = m
  · rw [if_pos (by omega), if_pos c]
  · rw [if_neg (by omega), if_neg (by omega), if_neg c]
theorem addM_n {f : Nat → Int32} {m k : Nat} {v : Int32} (hm : m < 5) (hk : k ≤ 5) : nd (addM f m k v) = nd f ∧ nm (addM f m k v) = m + 1 ∧ nl (addM f m k v) = nl f ∧ ∀ j, kd (addM f m k v) j = if j = m then k else kd f j := by
  refine ⟨?_, ?_, ?_, fun j => ?_⟩
  · unfold nd; rw [addM_lo (by omega) (by omega)]
  · show (nI (m + 1)).toNatClampNeg = m + 1; exact nI_clamp (by omega)
  · unfold nl; rw [addM_lo (by omega) (by omega)]
  · unfold kd; rw [addM_41]
    by_cases c : j = m
    · rw [if_pos c, if_pos c]; exact nI_clamp (by omega)
    · rw [if_neg c, if_neg c]
theorem WF_addM {f : Nat → Int32} {m k : Nat} {v : Int32} (h : WF f) (h0 : f 0 = 1) (hl : nl f = 0) (hm : m < 5) (hmm : nm f = m) (hk1 : 1 ≤ k) (hk : k ≤ 5) (hv : rg v 0 99 = true) : WF (addM f m k v) := by
  obtain ⟨a1, a2, a3, a4, a5, a6, a7⟩ := h
  obtain ⟨e1, e2, e3, e4⟩ := addM_n (f := f) (v := v) hm hk
  refine ⟨⟨?_, by rw [e1]; exact a1.2⟩, ⟨by rw [e2]; rfl, by rw [e2]; omega⟩, ⟨?_, by rw [e3]; exact a3.2⟩, Or.inr ⟨?_, ?_⟩, fun j hj => ?_, fun k hk => ⟨?_, ?_, ?_⟩, fun i hi => ?_⟩
  · rw [e1, addM_lo (by omega) (by omega)]; exact a1.1
  · rw [e3, addM_lo (by omega) (by omega)]; exact a3.1
  · rw [addM_lo (by omega) (by omega)]; exact h0
  · rw [addM_lo (by omega) (by omega)]
    rcases a4 with ⟨q, _⟩ | ⟨_, q⟩
    · rw [h0] at q; exact absurd q (by decide)
    · exact q
  · rw [e2] at hj
    rw [e4, addM_41, addM_42]
    by_cases c : j = m
    · rw [if_pos c, if_pos c, if_pos c]; exact ⟨rfl, hk1, hk, hv⟩
    · rw [if_neg c, if_neg c, if_neg c]; exact a5 j (by omega)
  · rw [addM_lo (by omega) (by omega)]; exact (a6 k hk).1
  · rw [addM_lo (by omega) (by omega)]; exact (a6 k hk).2.1
  · rw [addM_lo (by omega) (by omega)]; exact (a6 k hk).2.2
  · rw [e3, hl] at hi; exact absurd hi (Nat.not_lt_zero _)
