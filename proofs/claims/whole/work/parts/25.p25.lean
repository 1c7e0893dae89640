/-! PURE LAYER: the law at work. A program is a list of lines (test, worth); a test that is empty is none. -/
section P25
variable {g : Gt} {d : Nat} {t : Tt}
theorem ev_app (nm : Nat → Int32) (a b : List Tok) (s : List Int32) : ev nm (a ++ b) s = ev nm b (ev nm a s) := List.foldl_append
theorem tk_len {nm : Nat → Int32} {x : Tok} {s : List Int32} {m : Nat} (h : dk s.length x = some m) : (tk nm s x).length = m := by
  unfold dk at h
  unfold tk
  by_cases h1 : x.1 = 1
  · rw [if_pos (Or.inl h1)] at h; rw [if_pos h1]; cases h; rfl
  · by_cases h2 : x.1 = 2
    · rw [if_pos (Or.inr h2)] at h; rw [if_neg h1, if_pos h2]; cases h; rfl
    · rw [if_neg (by omega)] at h
      rw [if_neg h1, if_neg h2]
      by_cases h3 : x.1 = 3 ∨ x.1 = 4
      · rw [if_pos h3] at h
        cases s with
        | nil => simp at h
        | cons a r =>
          simp at h
          rcases h3 with h3 | h3 <;> simp [h3, ← h]
      · rw [if_neg h3] at h
        match s, h with
        | [], h => simp at h
        | [a], h => simp at h
        | a :: b :: r, h =>
          simp at h
          have h5 : ¬ x.1 = 3 := fun q => h3 (Or.inl q)
          have h6 : ¬ x.1 = 4 := fun q => h3 (Or.inr q)
          simp [h5, h6, ← h]
/-- what lies deeper is let be -/
theorem tk_app {nm : Nat → Int32} {x : Tok} {s r : List Int32} {m : Nat} (h : dk s.length x = some m) : tk nm (s ++ r) x = tk nm s x ++ r := by
  unfold dk at h
  unfold tk
  by_cases h1 : x.1 = 1
  · rw [if_pos h1, if_pos h1]; rfl
  · by_cases h2 : x.1 = 2
    · rw [if_neg h1, if_pos h2, if_neg h1, if_pos h2]; rfl
    · rw [if_neg (by omega)] at h
      rw [if_neg h1, if_neg h2, if_neg h1, if_neg h2]
      by_cases h3 : x.1 = 3 ∨ x.1 = 4
      · rw [if_pos h3] at h
        cases s with
        | nil => simp at h
        | cons a q => rcases h3 with h3 | h3 <;> simp [h3]
      · rw [if_neg h3] at h
        have h5 : ¬ x.1 = 3 := fun q => h3 (Or.inl q)
        have h6 : ¬ x.1 = 4 := fun q => h3 (Or.inr q)
        match s, h with
        | [], h => simp at h
        | [a], h => simp at h
        | a :: b :: q, h => simp [h5, h6]
theorem ev_dv {nm : Nat → Int32} : ∀ (xs : List Tok) (s r : List Int32) (m : Nat), dv xs s.length = some m → ev nm xs (s ++ r) = ev nm xs s ++ r ∧ (ev nm xs s).length = m := by
  intro xs
  induction xs with
  | nil => intro s r m h; simp [dv] at h; exact ⟨rfl, h⟩
  | cons x xs ih =>
    intro s r m h
    simp only [dv] at h
    cases hk : dk s.length x with
    | none => rw [hk] at h; cases h
    | some k =>
      rw [hk] at h
      have hl := tk_len (nm := nm) hk
      show ev nm xs (tk nm (s ++ r) x) = ev nm xs (tk nm s x) ++ r ∧ (ev nm xs (tk nm s x)).length = m
      rw [tk_app hk]
      exact ih _ _ _ (by rw [hl]; exact h)
def wv (nm : Nat → Int32) (xs : List Tok) : Int32 := (ev nm xs []).headD 0
theorem WE_ev {xs : List Tok} (h : WE xs) (nm : Nat → Int32) (s : List Int32) : ev nm xs s = wv nm xs :: s := by
  have h1 := ev_dv (nm := nm) xs [] s _ (h.2 0)
  rw [List.nil_append] at h1
  rw [h1.1]
  unfold wv
  have h2 := h1.2
  match hh : ev nm xs [], h2 with
  | [v], _ => rfl
abbrev Prog : Type := List (List Tok × List Tok)
def pv (nm : Nat → Int32) : Prog → Int32
  | [] => 0
  | (te, va) :: r => if te = [] then wv nm va else if wv nm te = 0 then pv nm r else wv nm va
/-- the stack of a law object -/
def SK (t : Tt) (r : Nat) : List Int32 → Prop
  | [] => True
  | v :: s => t.1 (r + 3) s.length = v ∧ SK t r s
def Stk (t : Tt) (r : Nat) (s : List Int32) : Prop := t.1 r 5 = nI s.length ∧ SK t r s
theorem SK.cg {t t' : Tt} {r : Nat} : ∀ (s : List Int32), (∀ j, j < s.length → t'.1 (r + 3) j = t.1 (r + 3) j) → SK t r s → SK t' r s := by
  intro s
  induction s with
  | nil => intro _ _; trivial
  | cons v s ih => intro h q; exact ⟨(h _ (by simp)).trans q.1, ih (fun j hj => h j (by simp; omega)) q.2⟩
def StS (r o j : Nat) : Prop := (o = r ∧ j = 5) ∨ o = r + 3
theorem sp_push {r : Nat} {v : Int32} {s : List Int32} {P : Tt → Prop} (hr : isLw r) (hs : Stk t r s) (hl : s.length < 128) (h : ∀ t', Fr (StS r) t t' → Stk t' r (v :: s) → P t') : Rt g d mX3_push 0 [some (.ref r), some (.int v)] [] t (QV P) := by
  apply bX3_push_0 hr
  rw [hs.1]
  refine br_f (nI_ge (b := 128) (by omega) (by decide)) ⟨vpn (by omega), qv ?_⟩
  rw [ncl (by omega)]
  have hr' : r ≠ r + 3 := by omega
  have e : (pI t (r + 3) s.length v).1 r 5 = nI s.length := by rw [pI_o _ _ _ _ hr']; exact hs.1
  rw [e, nI_1]
  refine h _ (((Fr.rf (StS r) t).pI _ (Or.inr rfl)).pI _ (Or.inl ⟨rfl, rfl⟩)) ⟨pI_s _ _ _ _, ?_, ?_⟩
  · rw [pI_o _ _ _ _ (by omega), pI_s]
  · refine SK.cg s (fun j hj => ?_) hs.2
    rw [pI_o _ _ _ _ (by omega), pI_n _ _ _ (by omega)]
theorem sp_pop {r : Nat} {v : Int32} {s : List Int32} {P : Int32 → Tt → Prop} (hr : isLw r) (hs : Stk t r (v :: s)) (hl : s.length < 128) (h : ∀ t', Fr (StS r) t t' → Stk t' r s → P v t') : Rt g d mX3_pop 0 [some (.ref r)] [] t (QI P) := by
  apply bX3_pop_0 hr
  have e0 : t.1 r 5 = nI (s.length + 1) := hs.1
  rw [e0]
  refine br_t (nI_le (a := 1) (by omega) (by omega)) ?_
  rw [pI_s, nI_pred]
  refine ⟨vpn hl, qi ?_⟩
  rw [ncl (by omega), pI_o _ _ _ _ (by omega), hs.2.1]
  refine h _ ((Fr.rf (StS r) t).pI _ (Or.inl ⟨rfl, rfl⟩)) ⟨pI_s _ _ _ _, ?_⟩
  refine SK.cg s (fun j hj => ?_) hs.2.2
  rw [pI_o _ _ _ _ (by omega)]
/-- how a token stands in the class's code -/
def sgn (x : Tok) : Int32 := if x.1 = 1 then 0 else if x.1 = 2 then 1 else if x.1 = 3 then -33 else if x.1 = 4 then -45 else nI x.1
def vlu (x : Tok) : Int32 := if x.1 = 1 ∨ x.1 = 2 then nI x.2 else 0
def enc (xs : List Tok) : List (Int32 × Int32) := xs.map (fun x => (sgn x, vlu x))
/-- the class's code of a program, from place b on -/
def cco : Nat → Prog → List (Int32 × Int32)
  | _, [] => []
  | b, (te, va) :: r => if te = [] then enc va ++ (2, 0) :: cco (b + va.length + 1) r else enc te ++ (3, nI (b + te.length + 1 + va.length + 1)) :: (enc va ++ (2, 0) :: cco (b + te.length + 1 + va.length + 1) r)
def clen : Prog → Nat
  | [] => 0
  | (te, va) :: r => (if te = [] then 0 else te.length + 1) + va.length + 1 + clen r
theorem cco_len : ∀ (p : Prog) (b : Nat), (cco b p).length = clen p := by
  intro p
  induction p with
  | nil => intro b; rfl
  | cons l p ih =>
    intro b
    obtain ⟨te, va⟩ := l
    simp only [cco, clen]
    split
    · simp [enc, ih]; omega
    · simp [enc, ih]; omega
/-- a list of steps stands in the code from place b on -/
def At (t : Tt) (r b : Nat) (cs : List (Int32 × Int32)) : Prop := ∀ i x, cs[i]? = some x → t.1 (r + 1) (b + i) = x.1 ∧ t.1 (r + 2) (b + i) = x.2
theorem At.fr {t t' : Tt} {r b : Nat} {cs : List (Int32 × Int32)} (h : At t r b cs) (hf : Fr (StS r) t t') : At t' r b cs := by
  intro i x hx
  have := h i x hx
  rw [hf.1 _ _ (by unfold StS; omega), hf.1 _ _ (by unfold StS; omega)]
  exact this
theorem At.app {t : Tt} {r b : Nat} {cs ds : List (Int32 × Int32)} (h : At t r b (cs ++ ds)) : At t r b cs ∧ At t r (b + cs.length) ds := by
  refine ⟨fun i x hx => h i x ?_, fun i x hx => ?_⟩
  · rw [List.getElem?_append_left (List.getElem?_eq_some_iff.mp hx).1]; exact hx
  · have := h (cs.length + i) x (by rw [List.getElem?_append_right (by omega)]; simpa using hx)
    rwa [← Nat.add_assoc] at this
theorem At.hd {t : Tt} {r b : Nat} {c : Int32 × Int32} {ds : List (Int32 × Int32)} (h : At t r b (c :: ds)) : (t.1 (r + 1) b = c.1 ∧ t.1 (r + 2) b = c.2) ∧ At t r (b + 1) ds := by
  refine ⟨h 0 c rfl, fun i x hx => ?_⟩
  have := h (i + 1) x (by simpa using hx)
  rwa [show b + (i + 1) = b + 1 + i by omega] at this
end P25
