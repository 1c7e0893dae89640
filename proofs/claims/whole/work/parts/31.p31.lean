/-! PURE LAYER: a trial is held -/
section P31
variable {g : Gt} {d : Nat} {t : Tt}
/-- mouths, what was said last (2: nothing), liars, heard, who went first -/
abbrev Rs : Type := Pp × (Nat → Nat) × Nat × Nat × Option Nat
abbrev sP (s : Rs) : Pp := s.1
abbrev sL (s : Rs) : Nat → Nat := s.2.1
abbrev sI (s : Rs) : Nat := s.2.2.1
abbrev sH (s : Rs) : Nat := s.2.2.2.1
abbrev sG (s : Rs) : Option Nat := s.2.2.2.2
def lsI (x : Nat) : Int32 := if x = 2 then -1 else nI x
def gI : Option Nat → Int32
  | none => -2
  | some i => nI i
def RsW (n : Nat) (s : Rs) : Prop := PpW (sP s) ∧ pn (sP s) = n ∧ (∀ i, i < 70 → sL s i ≤ 2) ∧ sI s < 128 ∧ sH s < 1024 ∧ ∀ i, sG s = some i → i < 15
def RsC (t : Tt) (s : Rs) : Prop := MoC t 17 (sP s) ∧ (∀ i, i < 70 → t.1 21 i = lsI (sL s i)) ∧ t.1 13 6 = nI (sI s) ∧ t.1 13 7 = nI (sH s) ∧ t.1 13 8 = gI (sG s)
def RsM (t : Tt) (s : Rs) : Prop := MoM t (sP s) ∧ (∀ i, i < 70 → t.1 80 i = lsI (sL s i)) ∧ t.1 57 36 = nI (sI s) ∧ t.1 57 35 = gI (sG s)
def isTrue (so f v : Nat) : Prop := capd so f = v
def spk (pr : Prog) (so : Nat) (s : Rs) (p f v z : Nat) : Rs := (if capd so f = v then sP s else lieA (prc pr (sP s) p f z) (sP s) p z, upN (sL s) (10 * p + f) v, if capd so f = v then sI s else sI s ||| 2 ^ p, sH s ||| 2 ^ f, sG s)
def spkO (pr : Prog) (so : Nat) (s : Rs) (p f v z : Nat) : Nat := if capd so f = v then 0 else lieO (prc pr (sP s) p f z) (sP s) p z
def turn (tb i v : Nat) : Nat := (v + capd tb i) % 2
def stp (pr : Prog) (so tb : Nat) (r : Tr) (s : Rs) (i : Nat) : Rs :=
  let s1 := spk pr so s (r.2 i).1 (r.2 i).2.1 (turn tb i (r.2 i).2.2.1) (r.2 i).2.2.2
  (sP s1, sL s1, sI s1, sH s1, if sG s = none ∧ fsum (pf (sP s1) (r.2 i).1) 8 = 0 then some i else sG s)
def rs0 (a : Pp) : Rs := (a, fun _ => 2, 0, 0, none)
def rsn (pr : Prog) (so tb : Nat) (a : Pp) (r : Tr) : Nat → Rs
  | 0 => rs0 a
  | i + 1 => stp pr so tb r (rsn pr so tb a r i) i
abbrev held (pr : Prog) (so tb : Nat) (a : Pp) (r : Tr) : Rs := rsn pr so tb a r r.1
theorem lor_lt {n : Nat} : ∀ a b : Nat, a < 2 ^ n → b < 2 ^ n → a ||| b < 2 ^ n := fun a b h1 h2 => Nat.or_lt_two_pow h1 h2
theorem spk_W {pr : Prog} {so n : Nat} {s : Rs} {p f v z : Nat} (h : RsW n s) (hp : p < n) (hf : f < 10) (hv : v < 2) : RsW n (spk pr so s p f v z) := by
  obtain ⟨h1, h2, h3, h4, h5, h6⟩ := h
  have hn := h1.1
  refine ⟨?_, ?_, fun i hi => ?_, ?_, ?_, h6⟩
  · show PpW (if capd so f = v then sP s else lieA _ _ p z)
    split
    · exact h1
    · exact lieA_W h1 (by omega) _ _
  · show pn (if capd so f = v then sP s else lieA _ _ p z) = n
    split
    · exact h2
    · exact h2
  · show upN (sL s) (10 * p + f) v i ≤ 2
    unfold upN
    split
    · omega
    · exact h3 i hi
  · show (if capd so f = v then sI s else sI s ||| 2 ^ p) < 128
    split
    · exact h4
    · exact lor_lt (n := 7) _ _ h4 (Nat.pow_lt_pow_right (by decide) (by omega))
  · show sH s ||| 2 ^ f < 1024
    exact lor_lt (n := 10) _ _ h5 (Nat.pow_lt_pow_right (by decide) (by omega))
theorem stp_W {pr : Prog} {so tb n : Nat} {r : Tr} {s : Rs} {i : Nat} (h : RsW n s) (hr : okY n (r.2 i)) (hi : i < 15) : RsW n (stp pr so tb r s i) := by
  have h1 := spk_W (pr := pr) (so := so) (v := turn tb i (r.2 i).2.2.1) (z := (r.2 i).2.2.2) h hr.1 hr.2.1 (Nat.mod_lt _ (by decide))
  refine ⟨h1.1, h1.2.1, h1.2.2.1, h1.2.2.2.1, h1.2.2.2.2.1, fun j hj => ?_⟩
  have hj : (if sG s = none ∧ _ then some i else sG s) = some j := hj
  split at hj
  · cases hj; exact hi
  · exact h.2.2.2.2.2 j hj
theorem rsn_W {pr : Prog} {so tb : Nat} {a : Pp} {r : Tr} (ha : PpW a) (hr : trW (pn a) r) : ∀ i, i ≤ r.1 → RsW (pn a) (rsn pr so tb a r i) := by
  intro i
  induction i with
  | zero => intro _; exact ⟨ha, rfl, fun _ _ => Nat.le_refl _, show (0 : Nat) < 128 by decide, show (0 : Nat) < 1024 by decide, fun i hi => by cases hi⟩
  | succ i ih => intro hi; exact stp_W (ih (by omega)) (hr.2 i (by omega)) (by have := hr.1; omega)
-- bits
theorem nI_or (a b : Nat) : nI a ||| nI b = nI (a ||| b) := by
  apply Int32.toBitVec_inj.mp
  rw [Int32.toBitVec_or]
  show BitVec.ofNat 32 a ||| BitVec.ofNat 32 b = BitVec.ofNat 32 (a ||| b)
  rw [BitVec.ofNat_or]
theorem nI_and (a b : Nat) : nI a &&& nI b = nI (a &&& b) := by
  apply Int32.toBitVec_inj.mp
  rw [Int32.toBitVec_and]
  show BitVec.ofNat 32 a &&& BitVec.ofNat 32 b = BitVec.ofNat 32 (a &&& b)
  rw [BitVec.ofNat_and]
theorem nI_xor (a b : Nat) : nI a ^^^ nI b = nI (a ^^^ b) := by
  apply Int32.toBitVec_inj.mp
  rw [Int32.toBitVec_xor]
  show BitVec.ofNat 32 a ^^^ BitVec.ofNat 32 b = BitVec.ofNat 32 (a ^^^ b)
  rw [BitVec.ofNat_xor]
theorem shl_tab : ∀ k, k < 15 → jsl 1 (nI k) = nI (2 ^ k) := by decide +kernel
theorem bit_tab : ∀ k, k < 15 → ∀ x, x < 1024 → (jsr (nI x) (nI k)) &&& 1 = nI (capd x k) := by decide +kernel
theorem xor_tab : ∀ f, f < 10 → ∀ v, v < 2 → ∀ b, b < 2 → (2 * f + v) ^^^ b = 2 * f + (v + b) % 2 := by decide
theorem xor_tab2 : ∀ v, v < 2 → ∀ b, b < 2 → v ^^^ b = (v + b) % 2 := by decide
theorem capd_2 (a b : Nat) : capd a b < 2 := Nat.mod_lt _ (by decide)
-- mouths are copied
theorem sp_copyFrom {o o' : Nat} {a : Pp} {P : Tt → Prop} (ho : isMo o) (ho' : isMo o') (hne : o ≠ o') (hm : MoC t o' a) (hw : PpW a) (h : ∀ t', Fr (fun x _ => o ≤ x ∧ x ≤ o + 3) t t' → MoC t' o a → P t') : Rt g (d + 1) mX5_copyFrom 0 [some (.ref o), some (.ref o')] [] t (QV P) := by
  have hn := hw.1
  have e1 := ho
  have e2 := ho'
  unfold isMo at e1 e2
  apply bX5_copyFrom_0 ho ho'
  rw [show (0 : Int32).toNatClampNeg = 0 from rfl, show (56 : Int32).toNatClampNeg = 56 from rfl, show (7 : Int32).toNatClampNeg = 7 from rfl, pI_o t o 0 _ (show o' ≠ o by omega), hm.1, hm.2.1]
  apply qv
  generalize e : pI (pI t o 0 (nI (pn a))) o 1 (nI (pg a)) = tb
  have f0 : Fr (fun x _ => o ≤ x ∧ x ≤ o + 3) t tb := by rw [← e]; exact ((Fr.rf _ t).pI _ (by omega)).pI _ (by omega)
  have b0 : tb.1 o 0 = nI (pn a) := by rw [← e]; simp [pI_a]
  have b1 : tb.1 o 1 = nI (pg a) := by rw [← e]; simp [pI_a]
  refine h _ (((f0.cI (fun j => by omega)).cI (fun j => by omega)).cI (fun j => by omega)) ⟨?_, ?_, fun p hp k hk => ?_, fun p hp => ?_, fun p hp => ?_⟩
  · rw [cI_o _ _ _ _ _ _ (by omega), cI_o _ _ _ _ _ _ (by omega), cI_o _ _ _ _ _ _ (by omega)]; exact b0
  · rw [cI_o _ _ _ _ _ _ (by omega), cI_o _ _ _ _ _ _ (by omega), cI_o _ _ _ _ _ _ (by omega)]; exact b1
  · rw [cI_o _ _ _ _ _ _ (by omega), cI_o _ _ _ _ _ _ (by omega), cI_s, if_pos (by omega), f0.1 _ _ (by omega), Nat.zero_add, Nat.sub_zero]
    exact hm.2.2.1 p hp k hk
  · rw [cI_o _ _ _ _ _ _ (by omega), cI_s, if_pos (by omega), cI_o _ _ _ _ _ _ (by omega), f0.1 _ _ (by omega), Nat.zero_add, Nat.sub_zero]
    exact hm.2.2.2.1 p hp
  · rw [cI_s, if_pos (by omega), cI_o _ _ _ _ _ _ (by omega), cI_o _ _ _ _ _ _ (by omega), f0.1 _ _ (by omega), Nat.zero_add, Nat.sub_zero]
    exact hm.2.2.2.2 p hp
theorem sr_beginMouths {a : Pp} {P : Tt → Prop} (hm : MoR t a) (hw : PpW a) (h : ∀ t', Fr (fun x _ => x = 74 ∨ x = 75) t t' → MoM t' a → P t') : Rt g d mX8_beginMouths 0 [some (.ref 57), none] [] t (QV P) := by
  have hn := hw.1
  apply bX8_beginMouths_0
  have k2 : ∀ m i t2, i + m = 7 → Fr (fun x _ => x = 74 ∨ x = 75) t t2 → (∀ q, q < 56 → t2.1 74 q = t.1 58 q) → (∀ q, q < i → t2.1 75 q = t.1 60 q) → Rt g d mX8_beginMouths 28 [some (.ref 57), some (.int (nI i))] [] t2 (QV P) := by
    intro m
    induction m with
    | zero =>
      intro i t2 hi hf h1 h2
      have : i = 7 := by omega
      subst this
      apply bX8_beginMouths_28
      refine br_t (nI_le (a := 7) (by omega) (by decide)) (qv (h t2 hf ⟨?_, ?_, fun p hp k hk => ?_, fun p hp => ?_, fun p hp => ?_⟩))
      · rw [hf.1 _ _ (by omega)]; exact hm.1
      · rw [hf.1 _ _ (by omega)]; exact hm.2.1
      · rw [h1 _ (by omega)]; exact hm.2.2.1 p hp k hk
      · rw [hf.1 _ _ (by omega)]; exact hm.2.2.2.1 p hp
      · rw [h2 _ (by omega)]; exact hm.2.2.2.2 p hp
    | succ m ih =>
      intro i t2 hi hf h1 h2
      apply bX8_beginMouths_28
      refine br_f (nI_ge (b := 7) (by omega) (by decide)) ⟨vpn (by omega), vpn (by omega), ?_⟩
      rw [ncl (by omega), hf.1 60 _ (by omega), nI_1]
      refine ih (i + 1) _ (by omega) (hf.pI _ (Or.inr rfl)) (fun q hq => ?_) (fun q hq => ?_)
      · rw [pI_o _ _ _ _ (by decide)]; exact h1 q hq
      · rw [pI_a]
        split
        · rename_i e; rw [e.2]
        · rename_i e; exact h2 q (by omega)
  have k1 : ∀ m i t2, i + m = 56 → Fr (fun x _ => x = 74 ∨ x = 75) t t2 → (∀ q, q < i → t2.1 74 q = t.1 58 q) → Rt g d mX8_beginMouths 2 [some (.ref 57), some (.int (nI i))] [] t2 (QV P) := by
    intro m
    induction m with
    | zero =>
      intro i t2 hi hf h1
      have : i = 56 := by omega
      subst this
      apply bX8_beginMouths_2
      exact br_t (nI_le (a := 56) (by omega) (by decide)) (k2 7 0 t2 rfl hf h1 (fun q hq => absurd hq (by omega)))
    | succ m ih =>
      intro i t2 hi hf h1
      apply bX8_beginMouths_2
      refine br_f (nI_ge (b := 56) (by omega) (by decide)) ⟨vpn (by omega), vpn (by omega), ?_⟩
      rw [ncl (by omega), hf.1 58 _ (by omega), nI_1]
      refine ih (i + 1) _ (by omega) (hf.pI _ (Or.inl rfl)) (fun q hq => ?_)
      rw [pI_a]
      split
      · rename_i e; rw [e.2]
      · rename_i e; exact h1 q (by omega)
  exact k1 56 0 t rfl (Fr.rf _ _) (fun q hq => absurd hq (by omega))
end P31
