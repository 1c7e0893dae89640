/-! PURE LAYER: the whole abstract state, how the class shows it (RC), how the reference shows it (RF) -/
section P29
variable {g : Gt} {d : Nat} {t : Tt}
abbrev Ch : Type := Nat × Nat × (Nat → Nat × Nat × Nat × Nat)
abbrev Tp : Type := Nat × (Nat → Nat)
abbrev Im : Type := Bool × Pp × (Nat → Int32)
abbrev Bo : Type := Nat × (Nat → Nat) × Nat × (Nat → Int32)
abbrev Sh : Type := (Nat → Nat × Nat × Nat) × (Nat → Nat → Int64)
abbrev Aa : Type := Pp × Nat × Ch × Tp × Prog × Im × (Nat → Int32) × Bo × Sh
abbrev aP (a : Aa) : Pp := a.1
abbrev aS (a : Aa) : Nat := a.2.1
abbrev aC (a : Aa) : Ch := a.2.2.1
abbrev aTp (a : Aa) : Tp := a.2.2.2.1
abbrev aL (a : Aa) : Prog := a.2.2.2.2.1
abbrev aI (a : Aa) : Im := a.2.2.2.2.2.1
abbrev aD (a : Aa) : Nat → Int32 := a.2.2.2.2.2.2.1
abbrev aB (a : Aa) : Bo := a.2.2.2.2.2.2.2.1
abbrev aH (a : Aa) : Sh := a.2.2.2.2.2.2.2.2
def soC (t : Tt) (s : Nat) : Prop := t.1 0 11 = nI s
def soM (t : Tt) (s : Nat) : Prop := ∀ f, f < 10 → t.1 61 f = nI (capd s f)
def okCh (n : Nat) (e : Nat × Nat × Nat × Nat) : Prop := (e.2.1 ≤ 7 ∧ e.1 < n ∧ e.2.2.1 ≤ 9 ∧ e.2.2.2 ≤ 9) ∨ (e.2.1 = 8 ∧ e.1 < n ∧ e.2.2.1 < 256 ∧ e.2.2.2 < 256) ∨ (e.2.1 = 9 ∧ e.1 < 10 ∧ e.2.2.1 < 2 ∧ e.2.2.2 < 2) ∨ (e.2.1 = 10 ∧ e.1 = 0 ∧ e.2.2.1 ≤ 9 ∧ e.2.2.2 ≤ 9)
def chW (n : Nat) (c : Ch) : Prop := c.1 ≤ c.2.1 ∧ c.2.1 ≤ 40 ∧ ∀ i, i < c.2.1 → okCh n (c.2.2 i)
def chC (t : Tt) (c : Ch) : Prop := t.1 22 0 = nI c.1 ∧ t.1 22 1 = nI c.2.1 ∧ ∀ i, i < c.2.1 → t.1 23 i = nI (c.2.2 i).1 ∧ t.1 24 i = nI (c.2.2 i).2.1 ∧ t.1 25 i = nI (c.2.2 i).2.2.1 ∧ t.1 26 i = nI (c.2.2 i).2.2.2
def chM (t : Tt) (c : Ch) : Prop := t.1 57 7 = nI c.1 ∧ t.1 57 8 = nI (c.2.1 - c.1) ∧ ∀ i, i < c.2.1 → t.1 63 i = nI (c.2.2 i).1 ∧ t.1 62 i = nI (c.2.2 i).2.1 ∧ t.1 64 i = nI (c.2.2 i).2.2.1 ∧ t.1 65 i = nI (c.2.2 i).2.2.2
def tpW (p : Tp) : Prop := p.1 ≤ 120 ∧ ∀ i, i < p.1 → p.2 i < 256
def tpC (t : Tt) (p : Tp) : Prop := t.1 33 1 = nI p.1 ∧ ∀ i, i < p.1 → t.1 34 i = nI (p.2 i)
def tpM (t : Tt) (p : Tp) : Prop := t.1 57 14 = nI p.1 ∧ ∀ i, i < p.1 → t.1 66 i = vp_nar .byte (nI (p.2 i))
def lwC (t : Tt) (p : Prog) : Prop := isLw t.2.2.1 ∧ isLw t.2.2.2 ∧ t.2.2.1 ≠ t.2.2.2 ∧ LwC t t.2.2.1 p
def imW (n : Nat) (i : Im) : Prop := i.1 = true → PpW i.2.1 ∧ pn i.2.1 ≤ n
def imC (t : Tt) (i : Im) : Prop := (i.1 = false ∧ t.1 0 12 = 0) ∨ (i.1 = true ∧ t.1 0 12 = 1 ∧ MoC t 9 i.2.1 ∧ ∀ k, k < 6 → t.1 32 k = i.2.2 k)
def imM (t : Tt) (i : Im) : Prop := (i.1 = false ∧ t.1 57 39 = 0) ∨ (i.1 = true ∧ t.1 57 39 = 1 ∧ t.1 57 40 = nI (pn i.2.1) ∧ (∀ p, p < pn i.2.1 → ∀ k, k < 8 → t.1 83 (8 * p + k) = nI (pf i.2.1 p k)) ∧ (∀ p, p < pn i.2.1 → t.1 84 p = nI (pc i.2.1 p)) ∧ (∀ p, p < pn i.2.1 → t.1 85 p = pl i.2.1 p) ∧ ∀ k, k < 6 → t.1 86 k = i.2.2 k)
def ddC (t : Tt) (f : Nat → Int32) : Prop := ∀ k, k < 6 → t.1 31 k = f k
def ddM (t : Tt) (f : Nat → Int32) : Prop := ∀ k, k < 6 → t.1 82 k = f k
def boW (b : Bo) : Prop := b.1 ≤ 50 ∧ (∀ i, i < b.1 → b.2.1 i < 8) ∧ b.2.2.1 ≤ 1000
def boC (t : Tt) (b : Bo) : Prop := t.1 27 0 = nI b.1 ∧ t.1 27 2 = nI b.2.2.1 ∧ (∀ i, i < b.1 → t.1 28 i = nI (b.2.1 i)) ∧ ∀ i, i < 24 → i < b.2.2.1 → t.1 29 i = b.2.2.2 i
def boM (t : Tt) (b : Bo) : Prop := t.1 57 45 = nI b.1 ∧ t.1 57 47 = nI b.2.2.1 ∧ (∀ i, i < b.1 → t.1 87 i = nI (b.2.1 i)) ∧ ∀ i, i < 24 → i < b.2.2.1 → t.1 88 i = b.2.2.2 i
def shW (nb : Nat) (h : Sh) : Prop := ∀ s, s < 6 → (h.1 s).1 = 0 ∨ ((h.1 s).1 = 1 ∧ (h.1 s).2.1 < nb) ∨ ((h.1 s).1 = 2 ∧ (h.1 s).2.1 < 5 ∧ (h.1 s).2.2 ≤ 60 ∧ ((h.1 s).2.1 = 0 → ∀ i, i < 60 → -128 ≤ (h.2 s i).toInt ∧ (h.2 s i).toInt ≤ 127))
def shC1 (t : Tt) (s : Nat) (x : Nat × Nat × Nat) (c : Nat → Int64) : Prop := (x.1 = 0 ∧ t.1 (45 + 2 * s) 0 = -2) ∨ (x.1 = 1 ∧ t.1 (45 + 2 * s) 0 = -1 ∧ t.1 (45 + 2 * s) 2 = nI x.2.1) ∨ (x.1 = 2 ∧ t.1 (45 + 2 * s) 0 = nI x.2.1 ∧ t.1 (45 + 2 * s) 1 = nI x.2.2 ∧ ∀ i, i < 60 → t.2.1 (45 + 2 * s + 1) i = c i)
def shM1 (t : Tt) (s : Nat) (x : Nat × Nat × Nat) (c : Nat → Int64) : Prop := (x.1 = 0 ∧ t.1 89 s = -1) ∨ (x.1 = 1 ∧ t.1 89 s = nI x.2.1) ∨ (x.1 = 2 ∧ t.1 89 s = -2 - nI x.2.1 ∧ t.1 90 s = nI x.2.2 ∧ ∀ i, i < 60 → t.2.1 91 (60 * s + i) = c i)
def shC (t : Tt) (h : Sh) : Prop := ∀ s, s < 6 → shC1 t s (h.1 s) (h.2 s)
def shM (t : Tt) (h : Sh) : Prop := ∀ s, s < 6 → shM1 t s (h.1 s) (h.2 s)
def AW (a : Aa) : Prop := PpW (aP a) ∧ aS a < 1024 ∧ chW (pn (aP a)) (aC a) ∧ tpW (aTp a) ∧ imW (pn (aP a)) (aI a) ∧ boW (aB a) ∧ shW (aB a).1 (aH a)
def RC (t : Tt) (a : Aa) : Prop := MoC t 1 (aP a) ∧ soC t (aS a) ∧ chC t (aC a) ∧ tpC t (aTp a) ∧ lwC t (aL a) ∧ imC t (aI a) ∧ ddC t (aD a) ∧ boC t (aB a) ∧ shC t (aH a)
def RF (t : Tt) (a : Aa) : Prop := MoR t (aP a) ∧ soM t (aS a) ∧ chM t (aC a) ∧ tpM t (aTp a) ∧ LwM t (aL a) ∧ imM t (aI a) ∧ ddM t (aD a) ∧ boM t (aB a) ∧ shM t (aH a)
def Rel (t : Tt) (a : Aa) : Prop := AW a ∧ RC t a ∧ RF t a
/-- the class's scratch -/
def CSc (o j : Nat) : Prop := (5 ≤ o ∧ o ≤ 8) ∨ (13 ≤ o ∧ o ≤ 21) ∨ LwS o j ∨ (o = 33 ∧ j = 3)
/-- the reference's scratch -/
def MSc (o j : Nat) : Prop := (72 ≤ o ∧ o ≤ 81) ∨ (o = 57 ∧ (j = 33 ∨ j = 35 ∨ j = 36))
/-- whatever lies with the reference -/
def MAl (o j : Nat) : Prop := 57 ≤ o
def CAl (o j : Nat) : Prop := o < 57
theorem shC1.fr {t t' : Tt} {s : Nat} {x : Nat × Nat × Nat} {c : Nat → Int64} (h : shC1 t s x c) (h0 : t'.1 (45 + 2 * s) = t.1 (45 + 2 * s)) (hJ : t'.2.1 (45 + 2 * s + 1) = t.2.1 (45 + 2 * s + 1)) : shC1 t' s x c := by
  unfold shC1 at h ⊢
  rw [h0, hJ]; exact h
theorem shM1.fr {t t' : Tt} {s : Nat} {x : Nat × Nat × Nat} {c : Nat → Int64} (h : shM1 t s x c) (h0 : t'.1 89 s = t.1 89 s) (h1 : t'.1 90 s = t.1 90 s) (hJ : ∀ i, i < 60 → t'.2.1 91 (60 * s + i) = t.2.1 91 (60 * s + i)) : shM1 t' s x c := by
  rcases h with h | h | ⟨e1, e2, e3, e4⟩
  · exact Or.inl (by rw [h0]; exact h)
  · exact Or.inr (Or.inl (by rw [h0]; exact h))
  · exact Or.inr (Or.inr ⟨e1, h0.trans e2, h1.trans e3, fun i hi => (hJ i hi).trans (e4 i hi)⟩)
/-- RC rests on the ids below 57 that are no scratch -/
theorem RC.fr {S : Nat → Nat → Prop} {t t' : Tt} {a : Aa} (h : RC t a) (hf : Fr S t t') (hS : ∀ o j, S o j → CSc o j ∨ 57 ≤ o) : RC t' a := by
  have hr := h.2.2.2.2.1.1
  have hr' := hr
  unfold isLw at hr'
  have k : ∀ o j, o < 57 → ¬ CSc o j → t'.1 o j = t.1 o j := fun o j h1 h2 => hf.1 o j (fun q => by rcases hS o j q with q | q; exact h2 q; omega)
  obtain ⟨h1, h2, h3, h4, h5, h6, h7, h8, h9⟩ := h
  refine ⟨?_, ?_, ?_, ?_, ?_, ?_, ?_, ?_, ?_⟩
  · refine ⟨(k _ _ (by decide) (by unfold CSc LwS; omega)).trans h1.1, (k _ _ (by decide) (by unfold CSc LwS; omega)).trans h1.2.1, fun p hp l hl => (k _ _ (by decide) (by unfold CSc LwS; omega)).trans (h1.2.2.1 p hp l hl), fun p hp => (k _ _ (by decide) (by unfold CSc LwS; omega)).trans (h1.2.2.2.1 p hp), fun p hp => (k _ _ (by decide) (by unfold CSc LwS; omega)).trans (h1.2.2.2.2 p hp)⟩
  · exact (k _ _ (by decide) (by unfold CSc LwS; omega)).trans h2
  · refine ⟨(k _ _ (by decide) (by unfold CSc LwS; omega)).trans h3.1, (k _ _ (by decide) (by unfold CSc LwS; omega)).trans h3.2.1, fun i hi => ?_⟩
    rw [k 23 _ (by decide) (by unfold CSc LwS; omega), k 24 _ (by decide) (by unfold CSc LwS; omega), k 25 _ (by decide) (by unfold CSc LwS; omega), k 26 _ (by decide) (by unfold CSc LwS; omega)]
    exact h3.2.2 i hi
  · exact ⟨(k _ _ (by decide) (by unfold CSc LwS; omega)).trans h4.1, fun i hi => (k _ _ (by decide) (by unfold CSc LwS; omega)).trans (h4.2 i hi)⟩
  · unfold lwC
    rw [hf.2]
    refine ⟨h5.1, h5.2.1, h5.2.2.1, (k _ _ (by omega) (by unfold CSc LwS; omega)).trans h5.2.2.2.1, h5.2.2.2.2.1, h5.2.2.2.2.2.1, fun i x hx => ?_⟩
    rw [k _ _ (by omega) (by unfold CSc LwS; omega), k _ _ (by omega) (by unfold CSc LwS; omega)]
    exact h5.2.2.2.2.2.2 i x hx
  · rcases h6 with ⟨e1, e2⟩ | ⟨e1, e2, e3, e4⟩
    · exact Or.inl ⟨e1, (k _ _ (by decide) (by unfold CSc LwS; omega)).trans e2⟩
    · refine Or.inr ⟨e1, (k _ _ (by decide) (by unfold CSc LwS; omega)).trans e2, ⟨(k _ _ (by decide) (by unfold CSc LwS; omega)).trans e3.1, (k _ _ (by decide) (by unfold CSc LwS; omega)).trans e3.2.1, fun p hp l hl => (k _ _ (by decide) (by unfold CSc LwS; omega)).trans (e3.2.2.1 p hp l hl), fun p hp => (k _ _ (by decide) (by unfold CSc LwS; omega)).trans (e3.2.2.2.1 p hp), fun p hp => (k _ _ (by decide) (by unfold CSc LwS; omega)).trans (e3.2.2.2.2 p hp)⟩, fun i hi => (k _ _ (by decide) (by unfold CSc LwS; omega)).trans (e4 i hi)⟩
  · exact fun i hi => (k _ _ (by decide) (by unfold CSc LwS; omega)).trans (h7 i hi)
  · exact ⟨(k _ _ (by decide) (by unfold CSc LwS; omega)).trans h8.1, (k _ _ (by decide) (by unfold CSc LwS; omega)).trans h8.2.1, fun i hi => (k _ _ (by decide) (by unfold CSc LwS; omega)).trans (h8.2.2.1 i hi), fun i hi hr => (k _ _ (by decide) (by unfold CSc LwS; omega)).trans (h8.2.2.2 i hi hr)⟩
  · intro s hs
    exact (h9 s hs).fr (funext fun j => k _ _ (by omega) (by unfold CSc LwS; omega)) (by rw [hf.2])
theorem RF.fr {S : Nat → Nat → Prop} {t t' : Tt} {a : Aa} (h : RF t a) (hf : Fr S t t') (hS : ∀ o j, S o j → MSc o j ∨ o < 57) : RF t' a := by
  have k : ∀ o j, 57 ≤ o → ¬ MSc o j → t'.1 o j = t.1 o j := fun o j h1 h2 => hf.1 o j (fun q => by rcases hS o j q with q | q; exact h2 q; omega)
  obtain ⟨h1, h2, h3, h4, h5, h6, h7, h8, h9⟩ := h
  refine ⟨?_, ?_, ?_, ?_, ?_, ?_, ?_, ?_, ?_⟩
  · refine ⟨(k _ _ (by decide) (by unfold MSc; omega)).trans h1.1, (k _ _ (by decide) (by unfold MSc; omega)).trans h1.2.1, fun p hp l hl => (k _ _ (by decide) (by unfold MSc; omega)).trans (h1.2.2.1 p hp l hl), fun p hp => (k _ _ (by decide) (by unfold MSc; omega)).trans (h1.2.2.2.1 p hp), fun p hp => (k _ _ (by decide) (by unfold MSc; omega)).trans (h1.2.2.2.2 p hp)⟩
  · exact fun f hf' => (k _ _ (by decide) (by unfold MSc; omega)).trans (h2 f hf')
  · refine ⟨(k _ _ (by decide) (by unfold MSc; omega)).trans h3.1, (k _ _ (by decide) (by unfold MSc; omega)).trans h3.2.1, fun i hi => ?_⟩
    rw [k 62 _ (by decide) (by unfold MSc; omega), k 63 _ (by decide) (by unfold MSc; omega), k 64 _ (by decide) (by unfold MSc; omega), k 65 _ (by decide) (by unfold MSc; omega)]
    exact h3.2.2 i hi
  · exact ⟨(k _ _ (by decide) (by unfold MSc; omega)).trans h4.1, fun i hi => (k _ _ (by decide) (by unfold MSc; omega)).trans (h4.2 i hi)⟩
  · refine h5.cg (k _ _ (by decide) (by unfold MSc; omega)) ?_ ?_ ?_ ?_ ?_ <;> (funext j; exact k _ _ (by decide) (by unfold MSc; omega))
  · rcases h6 with ⟨e1, e2⟩ | ⟨e1, e2, e3, e4, e5, e6, e7⟩
    · exact Or.inl ⟨e1, (k _ _ (by decide) (by unfold MSc; omega)).trans e2⟩
    · exact Or.inr ⟨e1, (k _ _ (by decide) (by unfold MSc; omega)).trans e2, (k _ _ (by decide) (by unfold MSc; omega)).trans e3, fun p hp l hl => (k _ _ (by decide) (by unfold MSc; omega)).trans (e4 p hp l hl), fun p hp => (k _ _ (by decide) (by unfold MSc; omega)).trans (e5 p hp), fun p hp => (k _ _ (by decide) (by unfold MSc; omega)).trans (e6 p hp), fun i hi => (k _ _ (by decide) (by unfold MSc; omega)).trans (e7 i hi)⟩
  · exact fun i hi => (k _ _ (by decide) (by unfold MSc; omega)).trans (h7 i hi)
  · exact ⟨(k _ _ (by decide) (by unfold MSc; omega)).trans h8.1, (k _ _ (by decide) (by unfold MSc; omega)).trans h8.2.1, fun i hi => (k _ _ (by decide) (by unfold MSc; omega)).trans (h8.2.2.1 i hi), fun i hi hr => (k _ _ (by decide) (by unfold MSc; omega)).trans (h8.2.2.2 i hi hr)⟩
  · intro s hs
    exact (h9 s hs).fr (k _ _ (by decide) (by unfold MSc; omega)) (k _ _ (by decide) (by unfold MSc; omega)) (fun i _ => by rw [hf.2])
theorem RC.sc {t t' : Tt} {a : Aa} (h : RC t a) (hf : Fr CSc t t') : RC t' a := h.fr hf (fun _ _ q => Or.inl q)
theorem RC.al {t t' : Tt} {a : Aa} (h : RC t a) (hf : Fr MAl t t') : RC t' a := h.fr hf (fun _ _ q => Or.inr q)
theorem RF.sc {t t' : Tt} {a : Aa} (h : RF t a) (hf : Fr MSc t t') : RF t' a := h.fr hf (fun _ _ q => Or.inl q)
theorem RF.al {t t' : Tt} {a : Aa} (h : RF t a) (hf : Fr CAl t t') : RF t' a := h.fr hf (fun _ _ q => Or.inr q)
theorem CSc_al (o j : Nat) (h : CSc o j) : CAl o j := by unfold CSc LwS at h; unfold CAl; omega
theorem MSc_al (o j : Nat) (h : MSc o j) : MAl o j := by unfold MSc at h; unfold MAl; omega
theorem Rel.c {t t' : Tt} {a : Aa} (h : Rel t a) (hf : Fr CSc t t') : Rel t' a := ⟨h.1, h.2.1.sc hf, h.2.2.al (hf.mo CSc_al)⟩
theorem Rel.m {t t' : Tt} {a : Aa} (h : Rel t a) (hf : Fr MSc t t') : Rel t' a := ⟨h.1, h.2.1.al (hf.mo MSc_al), h.2.2.sc hf⟩
end P29
