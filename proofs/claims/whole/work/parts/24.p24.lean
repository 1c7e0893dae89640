/-! PURE LAYER: tokens, their worth; push, pop, together, twoOf -/
section P24
variable {g : Gt} {d : Nat} {t : Tt}
abbrev Tok : Type := Nat × Nat
def isOp (k : Nat) : Prop := k = 37 ∨ k = 38 ∨ k = 42 ∨ k = 43 ∨ k = 45 ∨ k = 47 ∨ k = 60 ∨ k = 61 ∨ k = 62 ∨ k = 124
def okT (x : Tok) : Prop := (x.1 = 1 ∧ x.2 < 10000) ∨ (x.1 = 2 ∧ x.2 < 6) ∨ x.1 = 3 ∨ x.1 = 4 ∨ isOp x.1
def op2 (k : Nat) (a b : Int32) : Int32 :=
  if k = 37 then (if b = 0 then 0 else jr a b)
  else if k = 38 then (if a = 0 then 0 else if b = 0 then 0 else 1)
  else if k = 42 then a * b
  else if k = 43 then a + b
  else if k = 45 then a - b
  else if k = 47 then (if b = 0 then 0 else a / b)
  else if k = 60 then (if b ≤ a then 0 else 1)
  else if k = 61 then (if a = b then 1 else 0)
  else if k = 62 then (if a ≤ b then 0 else 1)
  else if a = 0 then (if b = 0 then 0 else 1) else 1
theorem o37 (a b : Int32) : op2 37 a b = if b = 0 then 0 else jr a b := rfl
theorem o38 (a b : Int32) : op2 38 a b = if a = 0 then 0 else if b = 0 then 0 else 1 := rfl
theorem o47 (a b : Int32) : op2 47 a b = if b = 0 then 0 else a / b := rfl
theorem o60 (a b : Int32) : op2 60 a b = if b ≤ a then 0 else 1 := rfl
theorem o61 (a b : Int32) : op2 61 a b = if a = b then 1 else 0 := rfl
theorem o62 (a b : Int32) : op2 62 a b = if a ≤ b then 0 else 1 := rfl
theorem o124 (a b : Int32) : op2 124 a b = if a = 0 then (if b = 0 then 0 else 1) else 1 := rfl
theorem sp_together {k : Nat} {a b : Int32} {P : Int32 → Tt → Prop} (hk : isOp k) (h : P (op2 k a b) t) : Rt g d mX3_together 0 [some (.int (nI k)), some (.int a), some (.int b)] [] t (QI P) := by
  apply bX3_together_0
  rcases hk with rfl | rfl | rfl | rfl | rfl | rfl | rfl | rfl | rfl | rfl
  · refine br_t rfl ?_
    refine ⟨fun c => ⟨c, qi ?_⟩, fun c => qi ?_⟩
    · simpa [op2, c] using h
    · simpa [op2, c] using h
  · refine br_f (by decide) (br_t rfl ?_)
    refine ⟨fun c => qi ?_, fun c => ⟨fun c2 => qi ?_, fun c2 => qi ?_⟩⟩
    · simpa [op2, c] using h
    · simpa [op2, c, c2] using h
    · simpa [op2, c, c2] using h
  · refine br_f (by decide) (br_f (by decide) (br_t rfl (qi ?_)))
    simpa [op2] using h
  · refine br_f (by decide) (br_f (by decide) (br_f (by decide) (br_t rfl (qi ?_))))
    simpa [op2] using h
  · refine br_f (by decide) (br_f (by decide) (br_f (by decide) (br_f (by decide) (br_t rfl (qi ?_)))))
    simpa [op2] using h
  · refine br_f (by decide) (br_f (by decide) (br_f (by decide) (br_f (by decide) (br_f (by decide) (br_t rfl ?_)))))
    refine ⟨fun c => ⟨c, qi ?_⟩, fun c => qi ?_⟩
    · simpa [op2, c] using h
    · simpa [op2, c] using h
  · refine br_f (by decide) (br_f (by decide) (br_f (by decide) (br_f (by decide) (br_f (by decide) (br_f (by decide) (br_t rfl ?_))))))
    refine ⟨fun c => qi ?_, fun c => qi ?_⟩
    · rw [o60, if_pos c] at h; exact h
    · rw [o60, if_neg c] at h; exact h
  · refine br_f (by decide) (br_f (by decide) (br_f (by decide) (br_f (by decide) (br_f (by decide) (br_f (by decide) (br_f (by decide) (br_t rfl ?_)))))))
    refine ⟨fun c => qi ?_, fun c => qi ?_⟩
    · rw [o61, if_neg c] at h; exact h
    · rw [o61, if_pos c] at h; exact h
  · refine br_f (by decide) (br_f (by decide) (br_f (by decide) (br_f (by decide) (br_f (by decide) (br_f (by decide) (br_f (by decide) (br_f (by decide) (br_t rfl ?_))))))))
    refine ⟨fun c => qi ?_, fun c => qi ?_⟩
    · rw [o62, if_pos c] at h; exact h
    · rw [o62, if_neg c] at h; exact h
  · refine br_f (by decide) (br_f (by decide) (br_f (by decide) (br_f (by decide) (br_f (by decide) (br_f (by decide) (br_f (by decide) (br_f (by decide) (br_f (by decide) (br_t rfl ?_)))))))))
    refine ⟨fun c => bX3_together_100 (qi ?_), fun c => ⟨fun c2 => qi ?_, fun c2 => bX3_together_100 (qi ?_)⟩⟩
    · rw [o124, if_neg c] at h; exact h
    · rw [o124, if_pos c, if_pos c2] at h; exact h
    · rw [o124, if_pos c, if_neg c2] at h; exact h
theorem div_m1 (a : Int32) : a / (-1) = -a := by
  apply Int32.toInt_inj.mp
  rw [Int32.toInt_div]
  show (a.toInt.tdiv (-1)).bmod _ = _
  rw [Int.tdiv_neg, Int.tdiv_one, Int32.toInt_neg]
theorem jr_m1 (a : Int32) : jr a (-1) = 0 := by
  unfold jr
  rw [div_m1, Int32.mul_neg, Int32.mul_one, Int32.neg_neg, Int32.sub_self]
theorem sr_twoOf {k : Nat} {a b : Int32} {P : Int32 → Tt → Prop} (hk : isOp k) (h : P (op2 k a b) t) : Rt g d mX8_twoOf 0 [some (.int (nI k)), some (.int a), some (.int b)] [] t (QI P) := by
  apply bX8_twoOf_0
  rcases hk with rfl | rfl | rfl | rfl | rfl | rfl | rfl | rfl | rfl | rfl
  · refine br_t rfl ?_
    refine ⟨fun c => bX8_twoOf_163 (qi ?_), fun c => ⟨fun c2 => ⟨c, qi ?_⟩, fun c2 => bX8_twoOf_163 (qi ?_)⟩⟩
    · rw [o37, if_pos c] at h; exact h
    · rw [o37, if_neg c] at h; exact h
    · subst c2
      rw [show op2 37 a (-1) = 0 from by simp [op2, jr_m1]] at h
      exact h
  all_goals (repeat refine br_f (by decide) ?_)
  all_goals first | refine br_t rfl ?_ | skip
  · refine ⟨fun c => qi ?_, fun c => ⟨fun c2 => qi ?_, fun c2 => qi ?_⟩⟩
    · simpa [op2, c] using h
    · simpa [op2, c, c2] using h
    · simpa [op2, c, c2] using h
  · exact qi (by simpa [op2] using h)
  · exact qi (by simpa [op2] using h)
  · exact qi (by simpa [op2] using h)
  · refine ⟨fun c => ⟨fun c2 => ⟨c, qi ?_⟩, fun c2 => qi ?_⟩, fun c => qi ?_⟩
    · simpa [op2, c] using h
    · subst c2
      rw [show op2 47 a (-1) = -a from by simp [op2, div_m1]] at h
      exact h
    · simpa [op2, c] using h
  · refine ⟨fun c => qi ?_, fun c => qi ?_⟩
    · rw [o60, if_pos c] at h; exact h
    · rw [o60, if_neg c] at h; exact h
  · refine ⟨fun c => qi ?_, fun c => qi ?_⟩
    · rw [o61, if_neg c] at h; exact h
    · rw [o61, if_pos c] at h; exact h
  · refine ⟨fun c => qi ?_, fun c => qi ?_⟩
    · rw [o62, if_pos c] at h; exact h
    · rw [o62, if_neg c] at h; exact h
  · refine ⟨fun c => bX8_twoOf_226 (qi ?_), fun c => ⟨fun c2 => qi ?_, fun c2 => bX8_twoOf_226 (qi ?_)⟩⟩
    · rw [o124, if_neg c] at h; exact h
    · rw [o124, if_pos c, if_pos c2] at h; exact h
    · rw [o124, if_pos c, if_neg c2] at h; exact h
/-- one token on a stack (its top first) -/
def tk (nm : Nat → Int32) (s : List Int32) (x : Tok) : List Int32 :=
  if x.1 = 1 then nI x.2 :: s
  else if x.1 = 2 then nm x.2 :: s
  else match s with
    | [] => []
    | a :: r => if x.1 = 3 then (if a = 0 then 1 else 0) :: r
      else if x.1 = 4 then (-a) :: r
      else match r with
        | [] => []
        | b :: r' => op2 x.1 b a :: r'
def ev (nm : Nat → Int32) (xs : List Tok) (s : List Int32) : List Int32 := xs.foldl (tk nm) s
/-- how many lie on the stack behind a token, if all that it takes are there -/
def dk (n : Nat) (x : Tok) : Option Nat :=
  if x.1 = 1 ∨ x.1 = 2 then some (n + 1) else if x.1 = 3 ∨ x.1 = 4 then (if 1 ≤ n then some n else none) else (if 2 ≤ n then some (n - 1) else none)
def dv : List Tok → Nat → Option Nat
  | [], n => some n
  | x :: xs, n => match dk n x with
    | none => none
    | some m => dv xs m
theorem dv_app (a b : List Tok) : ∀ n, dv (a ++ b) n = (dv a n).bind (dv b) := by
  induction a with
  | nil => intro n; rfl
  | cons x a ih =>
    intro n
    show (match dk n x with | none => none | some m => dv (a ++ b) m) = _
    simp only [dv]
    cases dk n x with
    | none => rfl
    | some m => exact ih m
/-- a whole E: it leaves one more, whatever lay there -/
def WE (xs : List Tok) : Prop := (∀ x ∈ xs, okT x) ∧ ∀ n, dv xs n = some (n + 1)
theorem WE.num {v : Nat} (h : v < 10000) : WE [(1, v)] := ⟨fun x hx => by rw [List.mem_singleton.mp hx]; exact Or.inl ⟨rfl, h⟩, fun n => rfl⟩
theorem WE.nam {v : Nat} (h : v < 6) : WE [(2, v)] := ⟨fun x hx => by rw [List.mem_singleton.mp hx]; exact Or.inr (Or.inl ⟨rfl, h⟩), fun n => rfl⟩
theorem WE.un {xs : List Tok} {k : Nat} (h : WE xs) (hk : k = 3 ∨ k = 4) : WE (xs ++ [(k, 0)]) := by
  refine ⟨fun x hx => ?_, fun n => ?_⟩
  · rcases List.mem_append.mp hx with h1 | h1
    · exact h.1 x h1
    · rw [List.mem_singleton.mp h1]; rcases hk with rfl | rfl
      · exact Or.inr (Or.inr (Or.inl rfl))
      · exact Or.inr (Or.inr (Or.inr (Or.inl rfl)))
  · rw [dv_app, h.2 n]
    rcases hk with rfl | rfl <;> simp [dv, dk]
theorem WE.bin {xs ys : List Tok} {k : Nat} (h : WE xs) (h' : WE ys) (hk : isOp k) : WE (xs ++ ys ++ [(k, 0)]) := by
  refine ⟨fun x hx => ?_, fun n => ?_⟩
  · rcases List.mem_append.mp hx with h1 | h1
    · rcases List.mem_append.mp h1 with h1 | h1
      · exact h.1 x h1
      · exact h'.1 x h1
    · rw [List.mem_singleton.mp h1]; exact Or.inr (Or.inr (Or.inr (Or.inr hk)))
  · rw [dv_app, dv_app, h.2 n]
    show ((dv ys (n + 1)).bind (dv [(k, 0)])) = _
    rw [h'.2 (n + 1)]
    have h1 : ¬ (k = 1 ∨ k = 2) := by unfold isOp at hk; omega
    have h2 : ¬ (k = 3 ∨ k = 4) := by unfold isOp at hk; omega
    simp [dv, dk, h1, h2]
end P24
