/-! PURE LAYER: each part of the state rests on its own places -/
section P43
variable {t t' : Tt} {S : Nat → Nat → Prop}
theorem c_mo {b : Pp} (h : MoC t 1 b) (hf : Fr S t t') (hS : ∀ o j, S o j → ¬ (o = 1 ∧ (j = 0 ∨ j = 1)) ∧ o ≠ 2 ∧ o ≠ 3 ∧ o ≠ 4) : MoC t' 1 b :=
  h.fr hf (fun q => by have := hS _ _ q; omega) (fun q => by have := hS _ _ q; omega) (fun k q => by have := hS _ _ q; omega) (fun k q => by have := hS _ _ q; omega) (fun k q => by have := hS _ _ q; omega)
theorem c_so {s : Nat} (h : soC t s) (hf : Fr S t t') (hS : ∀ o j, S o j → ¬ (o = 0 ∧ j = 11)) : soC t' s := (hf.1 _ _ (fun q => by have := hS _ _ q; omega)).trans h
theorem c_ch {c : Ch} (h : chC t c) (hf : Fr S t t') (hS : ∀ o j, S o j → ¬ (o = 22 ∧ (j = 0 ∨ j = 1)) ∧ ¬ (23 ≤ o ∧ o ≤ 26)) : chC t' c := by
  have k : ∀ o j, ((o = 22 ∧ (j = 0 ∨ j = 1)) ∨ (23 ≤ o ∧ o ≤ 26)) → t'.1 o j = t.1 o j := fun o j hq => hf.1 o j (fun q => by have := hS _ _ q; omega)
  refine ⟨(k _ _ (by omega)).trans h.1, (k _ _ (by omega)).trans h.2.1, fun i hi => ?_⟩
  rw [k 23 _ (by omega), k 24 _ (by omega), k 25 _ (by omega), k 26 _ (by omega)]
  exact h.2.2 i hi
theorem c_tp {p : Tp} (h : tpC t p) (hf : Fr S t t') (hS : ∀ o j, S o j → ¬ (o = 33 ∧ j = 1) ∧ o ≠ 34) : tpC t' p :=
  ⟨(hf.1 _ _ (fun q => by have := hS _ _ q; omega)).trans h.1, fun i hi => (hf.1 _ _ (fun q => by have := hS _ _ q; omega)).trans (h.2 i hi)⟩
theorem c_lw {p : Prog} (h : lwC t p) (hf : Fr S t t') (hS : ∀ o j, S o j → ¬ ((o = 35 ∨ o = 40) ∧ j = 4) ∧ o ≠ 36 ∧ o ≠ 37 ∧ o ≠ 41 ∧ o ≠ 42) : lwC t' p := by
  have hr' := h.1
  unfold isLw at hr'
  have k : ∀ o j, (((o = 35 ∨ o = 40) ∧ j = 4) ∨ o = 36 ∨ o = 37 ∨ o = 41 ∨ o = 42) → t'.1 o j = t.1 o j := fun o j hq => hf.1 o j (fun q => by have := hS _ _ q; omega)
  unfold lwC
  rw [hf.2]
  refine ⟨h.1, h.2.1, h.2.2.1, (k _ _ (by omega)).trans h.2.2.2.1, h.2.2.2.2.1, h.2.2.2.2.2.1, fun i x hx => ?_⟩
  rw [k _ _ (by omega), k _ _ (by omega)]
  exact h.2.2.2.2.2.2 i x hx
theorem c_im {x : Im} (h : imC t x) (hf : Fr S t t') (hS : ∀ o j, S o j → ¬ (o = 0 ∧ j = 12) ∧ ¬ (9 ≤ o ∧ o ≤ 12) ∧ o ≠ 32) : imC t' x := by
  have k : ∀ o j, ((o = 0 ∧ j = 12) ∨ (9 ≤ o ∧ o ≤ 12) ∨ o = 32) → t'.1 o j = t.1 o j := fun o j hq => hf.1 o j (fun q => by have := hS _ _ q; omega)
  rcases h with ⟨e1, e2⟩ | ⟨e1, e2, e3, e4⟩
  · exact Or.inl ⟨e1, (k _ _ (by omega)).trans e2⟩
  · exact Or.inr ⟨e1, (k _ _ (by omega)).trans e2, ⟨(k _ _ (by omega)).trans e3.1, (k _ _ (by omega)).trans e3.2.1, fun p hp l hl => (k _ _ (by omega)).trans (e3.2.2.1 p hp l hl), fun p hp => (k _ _ (by omega)).trans (e3.2.2.2.1 p hp), fun p hp => (k _ _ (by omega)).trans (e3.2.2.2.2 p hp)⟩, fun i hi => (k _ _ (by omega)).trans (e4 i hi)⟩
theorem c_dd {f : Nat → Int32} (h : ddC t f) (hf : Fr S t t') (hS : ∀ o j, S o j → o ≠ 31) : ddC t' f := fun i hi => (hf.1 _ _ (fun q => hS _ _ q rfl)).trans (h i hi)
theorem c_bo {b : Bo} (h : boC t b) (hf : Fr S t t') (hS : ∀ o j, S o j → ¬ (o = 27 ∧ (j = 0 ∨ j = 2)) ∧ o ≠ 28 ∧ o ≠ 29) : boC t' b := by
  have k : ∀ o j, ((o = 27 ∧ (j = 0 ∨ j = 2)) ∨ o = 28 ∨ o = 29) → t'.1 o j = t.1 o j := fun o j hq => hf.1 o j (fun q => by have := hS _ _ q; omega)
  exact ⟨(k _ _ (by omega)).trans h.1, (k _ _ (by omega)).trans h.2.1, fun i hi => (k _ _ (by omega)).trans (h.2.2.1 i hi), fun i hi hr => (k _ _ (by omega)).trans (h.2.2.2 i hi hr)⟩
theorem c_sh {x : Sh} (h : shC t x) (hf : Fr S t t') (hS : ∀ o j, S o j → ¬ (45 ≤ o ∧ o ≤ 56)) : shC t' x := by
  intro s hs
  exact (h s hs).fr (funext fun j => hf.1 _ _ (fun q => by have := hS _ _ q; omega)) (by rw [hf.2])
-- the reference
theorem m_mo {b : Pp} (h : MoR t b) (hf : Fr S t t') (hS : ∀ o j, S o j → ¬ (o = 57 ∧ (j = 1 ∨ j = 6)) ∧ o ≠ 58 ∧ o ≠ 59 ∧ o ≠ 60) : MoR t' b :=
  h.fr hf (fun q => by have := hS _ _ q; omega) (fun q => by have := hS _ _ q; omega) (fun k q => by have := hS _ _ q; omega) (fun k q => by have := hS _ _ q; omega) (fun k q => by have := hS _ _ q; omega)
theorem m_so {s : Nat} (h : soM t s) (hf : Fr S t t') (hS : ∀ o j, S o j → o ≠ 61) : soM t' s := fun f hf' => (hf.1 _ _ (fun q => hS _ _ q rfl)).trans (h f hf')
theorem m_ch {c : Ch} (h : chM t c) (hf : Fr S t t') (hS : ∀ o j, S o j → ¬ (o = 57 ∧ (j = 7 ∨ j = 8)) ∧ ¬ (62 ≤ o ∧ o ≤ 65)) : chM t' c := by
  have k : ∀ o j, ((o = 57 ∧ (j = 7 ∨ j = 8)) ∨ (62 ≤ o ∧ o ≤ 65)) → t'.1 o j = t.1 o j := fun o j hq => hf.1 o j (fun q => by have := hS _ _ q; omega)
  refine ⟨(k _ _ (by omega)).trans h.1, (k _ _ (by omega)).trans h.2.1, fun i hi => ?_⟩
  rw [k 62 _ (by omega), k 63 _ (by omega), k 64 _ (by omega), k 65 _ (by omega)]
  exact h.2.2 i hi
theorem m_tp {p : Tp} (h : tpM t p) (hf : Fr S t t') (hS : ∀ o j, S o j → ¬ (o = 57 ∧ j = 14) ∧ o ≠ 66) : tpM t' p :=
  ⟨(hf.1 _ _ (fun q => by have := hS _ _ q; omega)).trans h.1, fun i hi => (hf.1 _ _ (fun q => by have := hS _ _ q; omega)).trans (h.2 i hi)⟩
theorem m_lw {p : Prog} (h : LwM t p) (hf : Fr S t t') (hS : ∀ o j, S o j → ¬ (67 ≤ o ∧ o ≤ 71) ∧ ¬ (o = 57 ∧ j = 26)) : LwM t' p := h.fr hf (fun o j q => by have := hS o j q; omega)
theorem m_im {x : Im} (h : imM t x) (hf : Fr S t t') (hS : ∀ o j, S o j → ¬ (o = 57 ∧ (j = 39 ∨ j = 40)) ∧ ¬ (83 ≤ o ∧ o ≤ 86)) : imM t' x := by
  have k : ∀ o j, ((o = 57 ∧ (j = 39 ∨ j = 40)) ∨ (83 ≤ o ∧ o ≤ 86)) → t'.1 o j = t.1 o j := fun o j hq => hf.1 o j (fun q => by have := hS _ _ q; omega)
  rcases h with ⟨e1, e2⟩ | ⟨e1, e2, e3, e4, e5, e6, e7⟩
  · exact Or.inl ⟨e1, (k _ _ (by omega)).trans e2⟩
  · exact Or.inr ⟨e1, (k _ _ (by omega)).trans e2, (k _ _ (by omega)).trans e3, fun p hp l hl => (k _ _ (by omega)).trans (e4 p hp l hl), fun p hp => (k _ _ (by omega)).trans (e5 p hp), fun p hp => (k _ _ (by omega)).trans (e6 p hp), fun i hi => (k _ _ (by omega)).trans (e7 i hi)⟩
theorem m_dd {f : Nat → Int32} (h : ddM t f) (hf : Fr S t t') (hS : ∀ o j, S o j → o ≠ 82) : ddM t' f := fun i hi => (hf.1 _ _ (fun q => hS _ _ q rfl)).trans (h i hi)
theorem m_bo {b : Bo} (h : boM t b) (hf : Fr S t t') (hS : ∀ o j, S o j → ¬ (o = 57 ∧ (j = 45 ∨ j = 47)) ∧ o ≠ 87 ∧ o ≠ 88) : boM t' b := by
  have k : ∀ o j, ((o = 57 ∧ (j = 45 ∨ j = 47)) ∨ o = 87 ∨ o = 88) → t'.1 o j = t.1 o j := fun o j hq => hf.1 o j (fun q => by have := hS _ _ q; omega)
  exact ⟨(k _ _ (by omega)).trans h.1, (k _ _ (by omega)).trans h.2.1, fun i hi => (k _ _ (by omega)).trans (h.2.2.1 i hi), fun i hi hr => (k _ _ (by omega)).trans (h.2.2.2 i hi hr)⟩
theorem m_sh {x : Sh} (h : shM t x) (hf : Fr S t t') (hS : ∀ o j, S o j → o ≠ 89 ∧ o ≠ 90) : shM t' x := by
  intro s hs
  exact (h s hs).fr (hf.1 _ _ (fun q => (hS _ _ q).1 rfl)) (hf.1 _ _ (fun q => (hS _ _ q).2 rfl)) (fun i _ => by rw [hf.2])
-- a state with one part changed
abbrev setP (a : Aa) (x : Pp) : Aa := (x, aS a, aC a, aTp a, aL a, aI a, aD a, aB a, aH a)
abbrev setS (a : Aa) (x : Nat) : Aa := (aP a, x, aC a, aTp a, aL a, aI a, aD a, aB a, aH a)
abbrev setC (a : Aa) (x : Ch) : Aa := (aP a, aS a, x, aTp a, aL a, aI a, aD a, aB a, aH a)
abbrev setT (a : Aa) (x : Tp) : Aa := (aP a, aS a, aC a, x, aL a, aI a, aD a, aB a, aH a)
abbrev setG (a : Aa) (x : Prog) : Aa := (aP a, aS a, aC a, aTp a, x, aI a, aD a, aB a, aH a)
abbrev setI (a : Aa) (x : Im) : Aa := (aP a, aS a, aC a, aTp a, aL a, x, aD a, aB a, aH a)
abbrev setD (a : Aa) (x : Nat → Int32) : Aa := (aP a, aS a, aC a, aTp a, aL a, aI a, x, aB a, aH a)
abbrev setB (a : Aa) (x : Bo) : Aa := (aP a, aS a, aC a, aTp a, aL a, aI a, aD a, x, aH a)
abbrev setH (a : Aa) (x : Sh) : Aa := (aP a, aS a, aC a, aTp a, aL a, aI a, aD a, aB a, x)
/-- the facts are changed, and nothing else but scratch -/
theorem RF.so {a : Aa} {s : Nat} (h : RF t a) (hf : Fr S t t') (hS : ∀ o j, S o j → MSc o j ∨ o = 61) (hs : soM t' s) : RF t' (setS a s) := by
  have c : ∀ o j, S o j → (72 ≤ o ∧ o ≤ 81) ∨ (o = 57 ∧ (j = 33 ∨ j = 35 ∨ j = 36)) ∨ o = 61 := fun o j q => by have := hS o j q; unfold MSc at this; omega
  obtain ⟨h1, h2, h3, h4, h5, h6, h7, h8, h9⟩ := h
  exact ⟨m_mo h1 hf (fun o j q => by have := c o j q; omega), hs, m_ch h3 hf (fun o j q => by have := c o j q; omega), m_tp h4 hf (fun o j q => by have := c o j q; omega), m_lw h5 hf (fun o j q => by have := c o j q; omega), m_im h6 hf (fun o j q => by have := c o j q; omega), m_dd h7 hf (fun o j q => by have := c o j q; omega), m_bo h8 hf (fun o j q => by have := c o j q; omega), m_sh h9 hf (fun o j q => by have := c o j q; omega)⟩
end P43
