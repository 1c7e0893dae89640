/-! PURE LAYER: mouths. n, gold, flakes, caps, lies told. -/
section P21
variable {g : Gt} {d : Nat} {t : Tt}
abbrev Pp : Type := Nat × Nat × (Nat → Nat → Nat) × (Nat → Nat) × (Nat → Int32)
abbrev pn (a : Pp) : Nat := a.1
abbrev pg (a : Pp) : Nat := a.2.1
abbrev pf (a : Pp) : Nat → Nat → Nat := a.2.2.1
abbrev pc (a : Pp) : Nat → Nat := a.2.2.2.1
abbrev pl (a : Pp) : Nat → Int32 := a.2.2.2.2
def PpW (a : Pp) : Prop := pn a ≤ 7 ∧ pg a ≤ 9 ∧ (∀ p, p < pn a → ∀ k, k < 8 → pf a p k ≤ 9) ∧ ∀ p, p < pn a → pc a p < 256
/-- mouths as they lie at the numbers: people and gold at (o, i), (o, j), flakes in fo, caps in co, lies in lo -/
def Mth (t : Tt) (o i j fo co lo : Nat) (a : Pp) : Prop := t.1 o i = nI (pn a) ∧ t.1 o j = nI (pg a) ∧ (∀ p, p < pn a → ∀ k, k < 8 → t.1 fo (8 * p + k) = nI (pf a p k)) ∧ (∀ p, p < pn a → t.1 co p = nI (pc a p)) ∧ ∀ p, p < pn a → t.1 lo p = pl a p
abbrev MoC (t : Tt) (o : Nat) (a : Pp) : Prop := Mth t o 0 1 (o + 1) (o + 2) (o + 3) a
abbrev MoM (t : Tt) (a : Pp) : Prop := Mth t 57 1 6 74 59 75 a
abbrev MoR (t : Tt) (a : Pp) : Prop := Mth t 57 1 6 58 59 60 a
def worth (a : Pp) (p : Nat) : Nat := fsum (pf a p) 8 + pg a * bits (pc a p)
theorem fs_le {a : Pp} (hw : PpW a) {p : Nat} (hp : p < pn a) : fsum (pf a p) 8 ≤ 72 := fsum_le (c := 9) 8 (fun k hk => hw.2.2.1 p hp k hk)
theorem bits_le {x : Nat} (h : x < 1024) : bits x ≤ 10 := pop_tab x h
theorem worth_le {a : Pp} (hw : PpW a) {p : Nat} (hp : p < pn a) : worth a p ≤ 162 := by
  have h1 := fs_le hw hp
  have h2 := bits_le (show pc a p < 1024 from Nat.lt_trans (hw.2.2.2 p hp) (by decide))
  have h3 := hw.2.1
  have : pg a * bits (pc a p) ≤ 9 * 10 := Nat.mul_le_mul h3 h2
  unfold worth
  omega
theorem Mth.fr {S : Nat → Nat → Prop} {t t' : Tt} {o i j fo co lo : Nat} {a : Pp} (h : Mth t o i j fo co lo a) (hf : Fr S t t') (h1 : ¬ S o i) (h2 : ¬ S o j) (h3 : ∀ k, ¬ S fo k) (h4 : ∀ k, ¬ S co k) (h5 : ∀ k, ¬ S lo k) : Mth t' o i j fo co lo a :=
  ⟨(hf.1 _ _ h1).trans h.1, (hf.1 _ _ h2).trans h.2.1, fun p hp k hk => (hf.1 _ _ (h3 _)).trans (h.2.2.1 p hp k hk), fun p hp => (hf.1 _ _ (h4 _)).trans (h.2.2.2.1 p hp), fun p hp => (hf.1 _ _ (h5 _)).trans (h.2.2.2.2 p hp)⟩
theorem sp_flakesOf {o p : Nat} {a : Pp} {P : Int32 → Tt → Prop} (ho : isMo o) (hm : MoC t o a) (hw : PpW a) (hp : p < pn a) (h : P (nI (fsum (pf a p) 8)) t) : Rt g d mX5_flakesOf 0 [some (.ref o), some (.int (nI p)), none, none] [] t (QI P) := by
  have hn := hw.1
  apply bX5_flakesOf_0 ho
  have key : ∀ m i, i + m = 8 → Rt g d mX5_flakesOf 4 [some (.ref o), some (.int (nI p)), some (.int (nI (fsum (pf a p) i))), some (.int (nI i))] [] t (QI P) := by
    intro m
    induction m with
    | zero =>
      intro i hi
      have : i = 8 := by omega
      subst this
      apply bX5_flakesOf_4 ho
      exact br_t (nI_le (a := 8) (by omega) (by decide)) (qi h)
    | succ m ih =>
      intro i hi
      apply bX5_flakesOf_4 ho
      refine br_f (nI_ge (b := 8) (by omega) (by decide)) ?_
      rw [ix8]
      refine ⟨vpn (by omega), ?_⟩
      intro z ez
      rw [ez, ncl (by omega), hm.2.2.1 p hp i (by omega), nI_add, nI_1]
      exact ih (i + 1) (by omega)
  exact key 8 0 rfl
theorem sp_worthOf {o p : Nat} {a : Pp} {P : Int32 → Tt → Prop} (ho : isMo o) (hm : MoC t o a) (hw : PpW a) (hp : p < pn a) (h : P (nI (worth a p)) t) : Rt g (d + 1) mX5_worthOf 0 [some (.ref o), some (.int (nI p))] [] t (QI P) := by
  have hn := hw.1
  apply bX5_worthOf_0 ho
  refine sp_flakesOf ho hm hw hp ?_
  refine ⟨vpn (by omega), ?_⟩
  rw [ncl (by omega), hm.2.2.2.1 p hp]
  refine sp_bitCount (Nat.lt_trans (hw.2.2.2 p hp) (by decide)) (qi ?_)
  rw [hm.2.1, pk_mul, nI_add]
  exact h
theorem sp_isGone {o p : Nat} {a : Pp} {P : Int32 → Tt → Prop} (ho : isMo o) (hm : MoC t o a) (hw : PpW a) (hp : p < pn a) (h : P (if fsum (pf a p) 8 = 0 then 1 else 0) t) : Rt g (d + 1) mX5_isGone 0 [some (.ref o), some (.int (nI p))] [] t (QI P) := by
  have hn := hw.1
  apply bX5_isGone_0 ho
  refine sp_flakesOf ho hm hw hp ?_
  have h7 := fs_le hw hp
  by_cases h0 : fsum (pf a p) 8 = 0
  · rw [if_pos h0] at h
    rw [h0]
    exact ⟨fun c => absurd rfl c, fun _ => qi h⟩
  · rw [if_neg h0] at h
    refine ⟨fun _ => qi h, fun c => absurd (nI_inj (b := 0) (by omega) (by decide) c) h0⟩
/-- bit t of caps -/
def capd (c t : Nat) : Nat := c / 2 ^ t % 2
theorem capd_tab : ∀ c, c < 256 → ∀ t, t < 8 → (jsr (nI c) (nI t)) &&& 1 = nI (capd c t) := by decide +kernel
theorem capd_01 (c t : Nat) : capd c t = 0 ∨ capd c t = 1 := by unfold capd; omega
theorem sp_isCapped {o p k : Nat} {a : Pp} {P : Int32 → Tt → Prop} (ho : isMo o) (hm : MoC t o a) (hw : PpW a) (hp : p < pn a) (hk : k < 8) (h : P (nI (capd (pc a p) k)) t) : Rt g d mX5_isCapped 0 [some (.ref o), some (.int (nI p)), some (.int (nI k))] [] t (QI P) := by
  have hn := hw.1
  apply bX5_isCapped_0 ho
  refine ⟨vpn (by omega), ?_⟩
  rw [ncl (by omega), hm.2.2.2.1 p hp, capd_tab _ (hw.2.2.2 p hp) k hk]
  rcases capd_01 (pc a p) k with e | e
  · rw [e] at h ⊢
    exact ⟨fun _ => qi h, fun c => absurd c (by decide)⟩
  · rw [e] at h ⊢
    exact ⟨fun c => absurd rfl c, fun _ => qi h⟩
-- the reference
theorem sr_flakesOf {p : Nat} {a : Pp} {P : Int32 → Tt → Prop} (hm : MoM t a) (hw : PpW a) (hp : p < pn a) (h : P (nI (fsum (pf a p) 8)) t) : Rt g d mX8_flakesOf 0 [some (.ref 57), some (.int (nI p)), none, none] [] t (QI P) := by
  have hn := hw.1
  apply bX8_flakesOf_0
  have key : ∀ m i, i + m = 8 → Rt g d mX8_flakesOf 4 [some (.ref 57), some (.int (nI p)), some (.int (nI (fsum (pf a p) i))), some (.int (nI i))] [] t (QI P) := by
    intro m
    induction m with
    | zero =>
      intro i hi
      have : i = 8 := by omega
      subst this
      apply bX8_flakesOf_4
      exact br_t (nI_le (a := 8) (by omega) (by decide)) (qi h)
    | succ m ih =>
      intro i hi
      apply bX8_flakesOf_4
      refine br_f (nI_ge (b := 8) (by omega) (by decide)) ?_
      rw [ix8']
      refine ⟨vpn (by omega), ?_⟩
      intro z ez
      rw [ez, ncl (by omega), hm.2.2.1 p hp i (by omega), nI_add, nI_1]
      exact ih (i + 1) (by omega)
  exact key 8 0 rfl
theorem sr_worthOf {p : Nat} {a : Pp} {P : Int32 → Tt → Prop} (hm : MoM t a) (hw : PpW a) (hp : p < pn a) (h : P (nI (worth a p)) t) : Rt g (d + 1) mX8_worthOf 0 [some (.ref 57), some (.int (nI p))] [] t (QI P) := by
  have hn := hw.1
  apply bX8_worthOf_0
  refine sr_flakesOf hm hw hp ?_
  refine ⟨vpn (by omega), ?_⟩
  rw [ncl (by omega), hm.2.2.2.1 p hp]
  refine sp_bitsOf (Nat.lt_trans (hw.2.2.2 p hp) (by decide)) (qi ?_)
  rw [hm.2.1, pk_mul, nI_add]
  exact h
theorem sr_isGone {p : Nat} {a : Pp} {P : Int32 → Tt → Prop} (hm : MoM t a) (hw : PpW a) (hp : p < pn a) (h : P (if fsum (pf a p) 8 = 0 then 1 else 0) t) : Rt g (d + 1) mX8_isGone 0 [some (.ref 57), some (.int (nI p))] [] t (QI P) := by
  have hn := hw.1
  apply bX8_isGone_0
  refine sr_flakesOf hm hw hp ?_
  have h7 := fs_le hw hp
  by_cases h0 : fsum (pf a p) 8 = 0
  · rw [if_pos h0] at h
    rw [h0]
    exact ⟨fun c => absurd rfl c, fun _ => qi h⟩
  · rw [if_neg h0] at h
    refine ⟨fun _ => qi h, fun c => absurd (nI_inj (b := 0) (by omega) (by decide) c) h0⟩
end P21
