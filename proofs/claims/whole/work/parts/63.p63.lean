/-! PURE LAYER: act: what a body does -/
section P63
variable {g : Gt} {d : Nat} {t t1 : Tt} {a : Aa}
abbrev Ev : Type := Int32 × List Int32
def eB0 (n : Nat) (x : Int32) : Ev := (x + nI n, [1])
def eB6 (n : Nat) (x : Int32) : Ev := ((eB0 n x).1 * 2, 70 :: (eB0 n x).2)
def eB1 (n : Nat) (x : Int32) : Ev := ((eB0 n x).1 + 3, 20 :: (eB0 n x).2)
def eB7 (n : Nat) (x : Int32) : Ev := ((eB6 n x).1 - 1, 81 :: (eB6 n x).2)
def eB (c n : Nat) (x : Int32) : Ev := if c = 1 ∨ c = 4 then eB1 n x else if c = 7 then eB7 n x else if c = 6 then eB6 n x else eB0 n x
def eG0 (n : Nat) (x : Int32) : Ev := (x ^^^ nI n, [11])
def eG3 (n : Nat) (x : Int32) : Ev := ((eG0 n x).1 * 3, 40 :: (eG0 n x).2)
def eG5 (n : Nat) (x : Int32) : Ev := ((eG3 n x).1 - (eB 5 n 2).1, 60 :: ((eG3 n x).2 ++ (eB 5 n 2).2))
def eG (c n : Nat) (x : Int32) : Ev := if c = 5 then eG5 n x else if c = 3 then eG3 n x else eG0 n x
def eL0 (c n : Nat) (x : Int32) : Ev := ((eB c n x).1 * 2, 10 :: (eB c n x).2)
def eL2 (c n : Nat) (x : Int32) : Ev := (-(eL0 c n x).1, 30 :: (eL0 c n x).2)
def eL3 (c n : Nat) (x : Int32) : Ev := ((eL2 c n (x + 1)).1, 41 :: (eL2 c n (x + 1)).2)
def eL7 (n : Nat) (x : Int32) : Ev := ((eL0 7 n x).1 + (eG 7 n 2).1, 80 :: ((eL0 7 n x).2 ++ (eG 7 n 2).2))
def eLy (c n : Nat) (x : Int32) : Ev := if c = 3 ∨ c = 5 then eL3 c n x else if c = 7 then eL7 n x else if c = 2 then eL2 c n x else eL0 c n x
def eT0 (c n : Nat) (x : Int32) : Ev := ((eLy c n x).1 - (eG c n 1).1, 2 :: ((eLy c n x).2 ++ (eG c n 1).2))
def eT (c n : Nat) (x : Int32) : Ev := if c = 4 then ((eT0 c n x).1 ^^^ 5, 50 :: (eT0 c n x).2) else if c = 5 then ((eT0 c n x).1 + 1, 61 :: (eT0 c n x).2) else eT0 c n x
theorem eB_len (c n : Nat) (x : Int32) : (eB c n x).2.length ≤ 3 := by unfold eB; split <;> (try split) <;> (try split) <;> simp [eB0, eB1, eB6, eB7]
theorem eG_len (c n : Nat) (x : Int32) : (eG c n x).2.length ≤ 6 := by
  have := eB_len 5 n 2
  unfold eG; split <;> (try split) <;> simp [eG0, eG3, eG5] <;> omega
theorem eL_len (c n : Nat) (x : Int32) : (eLy c n x).2.length ≤ 11 := by
  have h1 := eB_len c n x
  have h2 := eB_len 7 n x
  have h3 := eB_len c n (x + 1)
  have h4 := eG_len 7 n 2
  unfold eLy; split <;> (try split) <;> (try split) <;> simp [eL0, eL2, eL3, eL7] <;> omega
theorem eT_len (c n : Nat) (x : Int32) : (eT c n x).2.length ≤ 20 := by
  have h1 := eL_len c n x
  have h2 := eG_len c n 1
  unfold eT; split <;> (try split) <;> simp [eT0] <;> omega
theorem apc (l : List Int32) (b : Int32) (r : List Int32) : l ++ b :: r = (l ++ [b]) ++ r := by simp
def TrcC (t : Tt) (l : List Int32) : Prop := t.1 27 2 = nI l.length ∧ ∀ i x, i < 24 → l[i]? = some x → t.1 29 i = x
def TrcM (t : Tt) (l : List Int32) : Prop := t.1 57 47 = nI l.length ∧ ∀ i x, i < 24 → l[i]? = some x → t.1 88 i = x
def FtC (o j : Nat) : Prop := (o = 27 ∧ j = 2) ∨ o = 29
def FtM (o j : Nat) : Prop := (o = 57 ∧ j = 47) ∨ o = 88
theorem ap_get {l : List Int32} {b x : Int32} {i : Nat} (h : (l ++ [b])[i]? = some x) : l[i]? = some x ∨ (i = l.length ∧ x = b) := by
  by_cases c : i < l.length
  · rw [List.getElem?_append_left c] at h; exact Or.inl h
  · rw [List.getElem?_append_right (by omega)] at h
    have h2 := (List.getElem?_eq_some_iff.mp h).1
    simp at h2
    have e : i = l.length := by omega
    subst e
    simp at h
    exact Or.inr ⟨rfl, h.symm⟩
theorem get_lt {l : List Int32} {x : Int32} {i : Nat} (h : l[i]? = some x) : i < l.length := (List.getElem?_eq_some_iff.mp h).1
-- the reference
theorem sr_ran {l : List Int32} {b : Int32} {P : Tt → Prop} (h : TrcM t l) (hl : l.length < 1000) (k : ∀ t', Fr FtM t t' → TrcM t' (l ++ [b]) → P t') : Rt g d mX8_ran 0 [some (.ref 57), some (.int b)] [] t (QV P) := by
  apply bX8_ran_0
  rw [h.1]
  have e1 : (l ++ [b]).length = l.length + 1 := by simp
  by_cases c : 24 ≤ l.length
  · refine br_t (nI_le (a := 24) c (by omega)) (qv ?_)
    rw [nI_1]
    refine k _ ((Fr.rf FtM t).pI _ (Or.inl ⟨rfl, rfl⟩)) ⟨by rw [pI_s, e1], fun i x hi hx => ?_⟩
    rw [pI_o _ _ _ _ (by decide)]
    rcases ap_get hx with q | q
    · exact h.2 i x hi q
    · omega
  · refine br_f (nI_ge (b := 24) (by omega) (by decide)) ⟨vpn (by omega), qv ?_⟩
    rw [ncl (by omega), pI_o _ _ _ _ (show 57 ≠ 88 by decide), h.1, nI_1]
    refine k _ (((Fr.rf FtM t).pI _ (Or.inr rfl)).pI _ (Or.inl ⟨rfl, rfl⟩)) ⟨by rw [pI_s, e1], fun i x hi hx => ?_⟩
    rw [pI_o _ _ _ _ (by decide), pI_a]
    rcases ap_get hx with q | ⟨q1, q2⟩
    · have := get_lt q
      rw [if_neg (by omega)]; exact h.2 i x hi q
    · rw [if_pos ⟨rfl, q1⟩, q2]
theorem kM {n c : Nat} (h : t.1 87 n = nI c) (f : Fr FtM t t1) : t1.1 87 n = nI c := (f.1 _ _ (by unfold FtM; omega)).trans h
theorem kC {n c : Nat} (h : t.1 28 n = nI c) (f : Fr FtC t t1) : t1.1 28 n = nI c := (f.1 _ _ (by unfold FtC; omega)).trans h
theorem sr_plainBites {n : Nat} {x : Int32} {l : List Int32} {P : Int32 → Tt → Prop} (h : TrcM t l) (hl : l.length < 990) (k : ∀ t', Fr FtM t t' → TrcM t' (l ++ (eB0 n x).2) → P (eB0 n x).1 t') : Rt g (d + 1) mX8_plainBites 0 [some (.ref 57), some (.int (nI n)), some (.int x)] [] t (QI P) := by
  apply bX8_plainBites_0
  exact sr_ran h (by omega) (fun t' f' h' => qi (k t' f' h'))
theorem sr_mirrorBites {n : Nat} {x : Int32} {l : List Int32} {P : Int32 → Tt → Prop} (h : TrcM t l) (hl : l.length < 980) (k : ∀ t', Fr FtM t t' → TrcM t' (l ++ (eB6 n x).2) → P (eB6 n x).1 t') : Rt g (d + 2) mX8_mirrorBites 0 [some (.ref 57), some (.int (nI n)), some (.int x)] [] t (QI P) := by
  apply bX8_mirrorBites_0
  refine sr_ran h (by omega) (fun t1 f1 h1 => ?_)
  refine sr_plainBites h1 (by simp; omega) (fun t2 f2 h2 => qi (k t2 (f1.tr f2) ?_))
  unfold eB6
  rw [apc]; exact h2
theorem sr_biting {n c : Nat} {x : Int32} {l : List Int32} {P : Int32 → Tt → Prop} (h : TrcM t l) (hl : l.length < 970) (hn : n < 50) (hc : c < 8) (hk : t.1 87 n = nI c) (k : ∀ t', Fr FtM t t' → TrcM t' (l ++ (eB c n x).2) → P (eB c n x).1 t') : Rt g (d + 3) mX8_biting 0 [some (.ref 57), some (.int (nI n)), some (.int x)] [] t (QI P) := by
  unfold eB at k
  apply bX8_biting_0
  refine ⟨vpn hn, ?_⟩
  rw [ncl (by omega), hk]
  refine sr_isUnder hc (k := 1) (by decide) (fun hu => br_f (by decide) ?_) (fun hu => br_t rfl ⟨vpn hn, ?_⟩)
  · unfold undr at hu
    rw [if_pos (by omega)] at k
    refine sr_ran h (by omega) (fun t1 f1 h1 => ?_)
    refine sr_plainBites h1 (by simp; omega) (fun t2 f2 h2 => qi (k t2 (f1.tr f2) ?_))
    unfold eB1
    rw [apc]; exact h2
  · unfold undr at hu
    rw [if_neg (by omega)] at k
    rw [hk]
    by_cases c7 : c = 7
    · rw [if_pos c7] at k
      refine br_p (by rw [c7]; rfl) ?_
      refine sr_ran h (by omega) (fun t1 f1 h1 => ?_)
      refine sr_mirrorBites h1 (by simp; omega) (fun t2 f2 h2 => qi (k t2 (f1.tr f2) ?_))
      unfold eB7
      rw [apc]; exact h2
    · rw [if_neg c7] at k
      refine br_n (wne (by omega) (by decide) c7) ⟨vpn hn, ?_⟩
      by_cases c6 : c = 6
      · rw [if_pos c6] at k
        exact br_p (by rw [c6]; rfl) (sr_mirrorBites h (by omega) (fun t2 f2 h2 => qi (k t2 f2 h2)))
      · rw [if_neg c6] at k
        exact br_n (wne (by omega) (by decide) c6) (sr_plainBites h (by omega) (fun t2 f2 h2 => qi (k t2 f2 h2)))
theorem sr_plainGrins {n : Nat} {x : Int32} {l : List Int32} {P : Int32 → Tt → Prop} (h : TrcM t l) (hl : l.length < 990) (k : ∀ t', Fr FtM t t' → TrcM t' (l ++ (eG0 n x).2) → P (eG0 n x).1 t') : Rt g (d + 1) mX8_plainGrins 0 [some (.ref 57), some (.int (nI n)), some (.int x)] [] t (QI P) := by
  apply bX8_plainGrins_0
  exact sr_ran h (by omega) (fun t' f' h' => qi (k t' f' h'))
theorem sr_capGrins {n : Nat} {x : Int32} {l : List Int32} {P : Int32 → Tt → Prop} (h : TrcM t l) (hl : l.length < 980) (k : ∀ t', Fr FtM t t' → TrcM t' (l ++ (eG3 n x).2) → P (eG3 n x).1 t') : Rt g (d + 2) mX8_capGrins 0 [some (.ref 57), some (.int (nI n)), some (.int x)] [] t (QI P) := by
  apply bX8_capGrins_0
  refine sr_ran h (by omega) (fun t1 f1 h1 => ?_)
  refine sr_plainGrins h1 (by simp; omega) (fun t2 f2 h2 => qi (k t2 (f1.tr f2) ?_))
  unfold eG3
  rw [apc]; exact h2
theorem eG3_len (n : Nat) (x : Int32) : (eG3 n x).2.length = 2 := rfl
theorem sr_grinning {n c : Nat} {x : Int32} {l : List Int32} {P : Int32 → Tt → Prop} (h : TrcM t l) (hl : l.length < 950) (hn : n < 50) (hc : c < 8) (hk : t.1 87 n = nI c) (k : ∀ t', Fr FtM t t' → TrcM t' (l ++ (eG c n x).2) → P (eG c n x).1 t') : Rt g (d + 4) mX8_grinning 0 [some (.ref 57), some (.int (nI n)), some (.int x), none] [] t (QI P) := by
  unfold eG at k
  apply bX8_grinning_0
  refine ⟨vpn hn, ?_⟩
  rw [ncl (by omega), hk]
  by_cases c5 : c = 5
  · rw [if_pos c5] at k
    subst c5
    refine br_p rfl ?_
    refine sr_ran h (by omega) (fun t1 f1 h1 => ?_)
    refine sr_capGrins (d := d + 1) h1 (by simp; omega) (fun t2 f2 h2 => ?_)
    refine sr_biting (d := d) (c := 5) h2 (by simp [eG3_len]; omega) hn (by decide) (kM (kM hk f1) f2) (fun t3 f3 h3 => qi (k t3 ((f1.tr f2).tr f3) ?_))
    unfold eG5
    rw [apc, ← List.append_assoc]; exact h3
  · rw [if_neg c5] at k
    refine br_n (wne (by omega) (by decide) c5) ⟨vpn hn, ?_⟩
    by_cases c3 : c = 3
    · rw [if_pos c3] at k
      exact br_p (by rw [c3]; rfl) (sr_capGrins (d := d + 1) h (by omega) (fun t2 f2 h2 => qi (k t2 f2 h2)))
    · rw [if_neg c3] at k
      exact br_n (wne (by omega) (by decide) c3) (sr_plainGrins h (by omega) (fun t2 f2 h2 => qi (k t2 f2 h2)))
theorem sr_plainLies {n c : Nat} {x : Int32} {l : List Int32} {P : Int32 → Tt → Prop} (h : TrcM t l) (hl : l.length < 940) (hn : n < 50) (hc : c < 8) (hk : t.1 87 n = nI c) (k : ∀ t', Fr FtM t t' → TrcM t' (l ++ (eL0 c n x).2) → P (eL0 c n x).1 t') : Rt g (d + 4) mX8_plainLies 0 [some (.ref 57), some (.int (nI n)), some (.int x)] [] t (QI P) := by
  apply bX8_plainLies_0
  refine sr_ran h (by omega) (fun t1 f1 h1 => ?_)
  refine sr_biting h1 (by simp; omega) hn hc (kM hk f1) (fun t2 f2 h2 => qi (k t2 (f1.tr f2) ?_))
  unfold eL0
  rw [apc]; exact h2
theorem sr_stumpLies {n c : Nat} {x : Int32} {l : List Int32} {P : Int32 → Tt → Prop} (h : TrcM t l) (hl : l.length < 930) (hn : n < 50) (hc : c < 8) (hk : t.1 87 n = nI c) (k : ∀ t', Fr FtM t t' → TrcM t' (l ++ (eL2 c n x).2) → P (eL2 c n x).1 t') : Rt g (d + 5) mX8_stumpLies 0 [some (.ref 57), some (.int (nI n)), some (.int x)] [] t (QI P) := by
  apply bX8_stumpLies_0
  refine sr_ran h (by omega) (fun t1 f1 h1 => ?_)
  refine sr_plainLies h1 (by simp; omega) hn hc (kM hk f1) (fun t2 f2 h2 => qi (k t2 (f1.tr f2) ?_))
  unfold eL2
  rw [apc]; exact h2
theorem sr_lying {n c : Nat} {x : Int32} {l : List Int32} {P : Int32 → Tt → Prop} (h : TrcM t l) (hl : l.length < 900) (hn : n < 50) (hc : c < 8) (hk : t.1 87 n = nI c) (k : ∀ t', Fr FtM t t' → TrcM t' (l ++ (eLy c n x).2) → P (eLy c n x).1 t') : Rt g (d + 6) mX8_lying 0 [some (.ref 57), some (.int (nI n)), some (.int x), none] [] t (QI P) := by
  unfold eLy at k
  apply bX8_lying_0
  refine ⟨vpn hn, ?_⟩
  rw [ncl (by omega), hk]
  refine sr_isUnder hc (k := 3) (by decide) (fun hu => br_f (by decide) ?_) (fun hu => br_t rfl ⟨vpn hn, ?_⟩)
  · unfold undr at hu
    rw [if_pos (by omega)] at k
    refine sr_ran h (by omega) (fun t1 f1 h1 => ?_)
    refine sr_stumpLies h1 (by simp; omega) hn hc (kM hk f1) (fun t2 f2 h2 => qi (k t2 (f1.tr f2) ?_))
    unfold eL3
    rw [apc]; exact h2
  · unfold undr at hu
    rw [if_neg (by omega)] at k
    rw [hk]
    by_cases c7 : c = 7
    · rw [if_pos c7] at k
      subst c7
      refine br_p rfl ?_
      refine sr_ran h (by omega) (fun t1 f1 h1 => ?_)
      refine sr_plainLies (d := d + 1) (c := 7) h1 (by simp; omega) hn hc (kM hk f1) (fun t2 f2 h2 => ?_)
      have hb := eB_len 7 n x
      refine sr_grinning (d := d + 1) (c := 7) h2 (by simp [eL0]; omega) hn hc (kM (kM hk f1) f2) (fun t3 f3 h3 => qi (k t3 ((f1.tr f2).tr f3) ?_))
      unfold eL7
      rw [apc, ← List.append_assoc]; exact h3
    · rw [if_neg c7] at k
      refine br_n (wne (by omega) (by decide) c7) ⟨vpn hn, ?_⟩
      by_cases c2 : c = 2
      · rw [if_pos c2] at k
        exact br_p (by rw [c2]; rfl) (sr_stumpLies h (by omega) hn hc hk (fun t2 f2 h2 => qi (k t2 f2 h2)))
      · rw [if_neg c2] at k
        exact br_n (wne (by omega) (by decide) c2) (sr_plainLies (d := d + 1) h (by omega) hn hc hk (fun t2 f2 h2 => qi (k t2 f2 h2)))
theorem sr_plainTells {n c : Nat} {x : Int32} {l : List Int32} {P : Int32 → Tt → Prop} (h : TrcM t l) (hl : l.length < 850) (hn : n < 50) (hc : c < 8) (hk : t.1 87 n = nI c) (k : ∀ t', Fr FtM t t' → TrcM t' (l ++ (eT0 c n x).2) → P (eT0 c n x).1 t') : Rt g (d + 7) mX8_plainTells 0 [some (.ref 57), some (.int (nI n)), some (.int x), none] [] t (QI P) := by
  apply bX8_plainTells_0
  refine sr_ran h (by omega) (fun t1 f1 h1 => ?_)
  refine sr_lying h1 (by simp; omega) hn hc (kM hk f1) (fun t2 f2 h2 => ?_)
  have hb := eL_len c n x
  refine sr_grinning (d := d + 2) h2 (by simp; omega) hn hc (kM (kM hk f1) f2) (fun t3 f3 h3 => qi (k t3 ((f1.tr f2).tr f3) ?_))
  unfold eT0
  rw [apc, ← List.append_assoc]; exact h3
theorem sr_telling {n c : Nat} {x : Int32} {l : List Int32} {P : Int32 → Tt → Prop} (h : TrcM t l) (hl : l.length < 800) (hn : n < 50) (hc : c < 8) (hk : t.1 87 n = nI c) (k : ∀ t', Fr FtM t t' → TrcM t' (l ++ (eT c n x).2) → P (eT c n x).1 t') : Rt g (d + 8) mX8_telling 0 [some (.ref 57), some (.int (nI n)), some (.int x)] [] t (QI P) := by
  unfold eT at k
  apply bX8_telling_0
  refine ⟨vpn hn, ?_⟩
  rw [ncl (by omega), hk]
  by_cases c4 : c = 4
  · rw [if_pos c4] at k
    refine br_p (by rw [c4]; rfl) ?_
    refine sr_ran h (by omega) (fun t1 f1 h1 => ?_)
    refine sr_plainTells h1 (by simp; omega) hn hc (kM hk f1) (fun t2 f2 h2 => qi (k t2 (f1.tr f2) ?_))
    rw [apc]; exact h2
  · rw [if_neg c4] at k
    refine br_n (wne (by omega) (by decide) c4) ⟨vpn hn, ?_⟩
    by_cases c5 : c = 5
    · rw [if_pos c5] at k
      refine br_p (by rw [c5]; rfl) ?_
      refine sr_ran h (by omega) (fun t1 f1 h1 => ?_)
      refine sr_plainTells h1 (by simp; omega) hn hc (kM hk f1) (fun t2 f2 h2 => qi (k t2 (f1.tr f2) ?_))
      rw [apc]; exact h2
    · rw [if_neg c5] at k
      exact br_n (wne (by omega) (by decide) c5) (sr_plainTells h (by omega) hn hc hk (fun t2 f2 h2 => qi (k t2 f2 h2)))
end P63
