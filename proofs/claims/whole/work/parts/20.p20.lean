/-! PURE LAYER, basics -/
section P20
variable {g : Gt} {d : Nat} {M : Mt} {pc : Nat} {L : List (Option Value)} {S : List Value} {t : Tt}
theorem Rt.ci {P P' : Int32 → Tt → Prop} (h : Rt g d M pc L S t (QI P)) (hq : ∀ v t', P v t' → P' v t') : Rt g d M pc L S t (QI P') := Rt.cq h (fun _ _ ⟨v, e, q⟩ => ⟨v, e, hq v _ q⟩)
theorem Rt.cv {P P' : Tt → Prop} (h : Rt g d M pc L S t (QV P)) (hq : ∀ t', P t' → P' t') : Rt g d M pc L S t (QV P') := Rt.cq h (fun _ _ ⟨e, q⟩ => ⟨e, hq _ q⟩)
theorem qi {P : Int32 → Tt → Prop} {v : Int32} (h : P v t) : QI P (some (.int v)) t := ⟨v, rfl, h⟩
theorem ql {P : Int64 → Tt → Prop} {v : Int64} (h : P v t) : QL P (some (.long v)) t := ⟨v, rfl, h⟩
theorem qr {P : Nat → Tt → Prop} {v : Nat} (h : P v t) : QR P (some (.ref v)) t := ⟨v, rfl, h⟩
theorem qv {P : Tt → Prop} (h : P t) : QV P none t := ⟨rfl, h⟩
theorem br_n {c A B : Prop} (h : ¬ c) (a : A) : (¬ c → A) ∧ (c → B) := ⟨fun _ => a, fun q => absurd q h⟩
theorem br_p {c A B : Prop} (h : c) (b : B) : (¬ c → A) ∧ (c → B) := ⟨fun q => absurd h q, fun _ => b⟩
theorem pI_a (t : Tt) (o j : Nat) (x : Int32) (a b : Nat) : (pI t o j x).1 a b = if a = o ∧ b = j then x else t.1 a b := by
  unfold pI upd
  by_cases h : a = o
  · subst h; simp
  · simp [h]
theorem pI_o (t : Tt) (o j : Nat) (x : Int32) {a : Nat} (h : a ≠ o) : (pI t o j x).1 a = t.1 a := by simp [pI, h]
theorem pI_2 (t : Tt) (o j : Nat) (x : Int32) : (pI t o j x).2 = t.2 := rfl
theorem pI_s (t : Tt) (o j : Nat) (x : Int32) : (pI t o j x).1 o j = x := by simp [pI_a]
theorem pI_n (t : Tt) (o : Nat) {j b : Nat} (x : Int32) (h : b ≠ j) : (pI t o j x).1 o b = t.1 o b := by simp [pI_a, h]
theorem pJ_1 (t : Tt) (o j : Nat) (x : Int64) : (pJ t o j x).1 = t.1 := rfl
theorem pJ_2 (t : Tt) (o j : Nat) (x : Int64) : (pJ t o j x).2.2 = t.2.2 := rfl
theorem pJ_a (t : Tt) (o j : Nat) (x : Int64) (a b : Nat) : (pJ t o j x).2.1 a b = if a = o ∧ b = j then x else t.2.1 a b := by
  unfold pJ vp_updL
  by_cases h : a = o
  · subst h; simp
  · simp [h]
theorem cI_o (t : Tt) (o o' sp dp n : Nat) {a : Nat} (h : a ≠ o') : (cI t o o' sp dp n).1 a = t.1 a := by simp [cI, h]
theorem cI_s (t : Tt) (o o' sp dp n j : Nat) : (cI t o o' sp dp n).1 o' j = if dp ≤ j ∧ j < dp + n then t.1 o (sp + (j - dp)) else t.1 o' j := by simp [cI, va_cpy]
theorem cI_2 (t : Tt) (o o' sp dp n : Nat) : (cI t o o' sp dp n).2 = t.2 := rfl
/-- what may have changed: the ints at the places of S alone -/
def Fr (S : Nat → Nat → Prop) (t t' : Tt) : Prop := (∀ o j, ¬ S o j → t'.1 o j = t.1 o j) ∧ t'.2 = t.2
theorem Fr.rf (S : Nat → Nat → Prop) (t : Tt) : Fr S t t := ⟨fun _ _ _ => rfl, rfl⟩
theorem Fr.tr {S : Nat → Nat → Prop} {t t' t'' : Tt} (h : Fr S t t') (h' : Fr S t' t'') : Fr S t t'' := ⟨fun o j q => (h'.1 o j q).trans (h.1 o j q), h'.2.trans h.2⟩
theorem Fr.mo {S S' : Nat → Nat → Prop} {t t' : Tt} (h : Fr S t t') (hs : ∀ o j, S o j → S' o j) : Fr S' t t' := ⟨fun o j q => h.1 o j (fun z => q (hs o j z)), h.2⟩
theorem Fr.pI {S : Nat → Nat → Prop} {t t' : Tt} {o j : Nat} (x : Int32) (h : Fr S t t') (hs : S o j) : Fr S t (pI t' o j x) := by
  refine ⟨fun a b q => ?_, h.2⟩
  rw [pI_a, if_neg (fun z => q (by rw [z.1, z.2]; exact hs))]
  exact h.1 a b q
theorem Fr.cI {S : Nat → Nat → Prop} {t t' : Tt} {o o' sp dp n : Nat} (h : Fr S t t') (hs : ∀ j, S o' j) : Fr S t (cI t' o o' sp dp n) := by
  refine ⟨fun a b q => ?_, h.2⟩
  have ha : a ≠ o' := fun z => q (by rw [z]; exact hs b)
  rw [cI_o _ _ _ _ _ _ ha]
  exact h.1 a b q
-- numbers
theorem l8 : (8 : Int32) = nI 8 := rfl
theorem l10 : (10 : Int32) = nI 10 := rfl
theorem l0 : (0 : Int32) = nI 0 := rfl
theorem l1 : (1 : Int32) = nI 1 := rfl
theorem nI_inj {a b : Nat} (ha : a < 2 ^ 31) (hb : b < 2 ^ 31) (h : nI a = nI b) : a = b := (nI_eq ha hb).mp h
theorem ix8 (p k : Nat) : nI p * 8 + nI k = nI (8 * p + k) := by rw [l8, pk_mul, nI_add, Nat.mul_comm]
theorem ix8' (p k : Nat) : 8 * nI p + nI k = nI (8 * p + k) := by rw [l8, pk_mul, nI_add]
theorem ix10 (p k : Nat) : nI p * 10 + nI k = nI (10 * p + k) := by rw [l10, pk_mul, nI_add, Nat.mul_comm]
theorem ix10' (p k : Nat) : 10 * nI p + nI k = nI (10 * p + k) := by rw [l10, pk_mul, nI_add]
theorem vpn {k N : Nat} (h : k < N) (hN : N < 2 ^ 31 := by decide) : vp_in (nI k) N := vp_in_nI h hN
theorem ncl {k : Nat} (h : k < 2 ^ 31) : (nI k).toNatClampNeg = k := nI_clamp h
theorem jr_n {a b : Nat} (ha : a < 2 ^ 31) (h0 : 0 < b) (hb : b < 2 ^ 31) : jr (nI a) (nI b) = nI (a % b) := pk_rem ha h0 hb
-- sums of flakes
def fsum (f : Nat → Nat) : Nat → Nat
  | 0 => 0
  | n + 1 => fsum f n + f n
theorem fsum_le {f : Nat → Nat} {c : Nat} : ∀ n, (∀ k, k < n → f k ≤ c) → fsum f n ≤ n * c := by
  intro n
  induction n with
  | zero => intro _; simp [fsum]
  | succ n ih =>
    intro h
    have h1 := ih (fun k hk => h k (by omega))
    have h2 := h n (by omega)
    simp only [fsum]
    rw [Nat.add_mul]
    omega
theorem fsum_cg {f f' : Nat → Nat} : ∀ n, (∀ k, k < n → f k = f' k) → fsum f n = fsum f' n := by
  intro n
  induction n with
  | zero => intro _; rfl
  | succ n ih => intro h; simp only [fsum]; rw [ih (fun k hk => h k (by omega)), h n (by omega)]
theorem fsum_0 {f : Nat → Nat} : ∀ n, fsum f n = 0 ↔ ∀ k, k < n → f k = 0 := by
  intro n
  induction n with
  | zero => simp [fsum]
  | succ n ih =>
    simp only [fsum]
    constructor
    · intro h k hk
      have h1 : fsum f n = 0 := by omega
      by_cases hkn : k = n
      · subst hkn; omega
      · exact ih.mp h1 k (by omega)
    · intro h
      have h1 := ih.mpr (fun k hk => h k (by omega))
      have h2 := h n (by omega)
      omega
/-- how many bits -/
def pop : Nat → Nat → Nat
  | 0, _ => 0
  | n + 1, x => x % 2 + pop n (x / 2)
abbrev bits (x : Nat) : Nat := pop 10 x
theorem pop_tab : ∀ x, x < 1024 → bits x ≤ 10 := by decide +kernel
def bcF (p0 : Int32) : Int32 :=
  let z1 := p0 - ((jus p0 1) &&& 1431655765)
  let z2 := (z1 &&& 858993459) + ((jus z1 2) &&& 858993459)
  let z3 := (z2 + (jus z2 4)) &&& 252645135
  let z4 := z3 + (jus z3 8)
  let z5 := z4 + (jus z4 16)
  z5 &&& 63
theorem bcF_tab : ∀ x, x < 1024 → bcF (nI x) = nI (bits x) := by decide +kernel
theorem clr_tab : ∀ x, x < 1024 → x ≠ 0 → ((nI x) &&& (nI x - 1)) = nI (x &&& (x - 1)) ∧ x &&& (x - 1) < x ∧ bits x = bits (x &&& (x - 1)) + 1 := by decide +kernel
/-- Integer.bitCount -/
theorem sp_bitCount {x : Nat} {P : Int32 → Tt → Prop} (hx : x < 1024) (h : P (nI (bits x)) t) : Rt g d mJ6_bitCount_0f7a4 0 [some (.int (nI x))] [] t (QI P) := by
  apply bJ6_bitCount_0f7a4_0
  intro z1 e1 z2 e2 z3 e3 z4 e4 z5 e5
  apply qi
  have : z5 &&& 63 = bcF (nI x) := by subst e5 e4 e3 e2 e1; rfl
  rw [this, bcF_tab x hx]
  exact h
theorem sp_bitsOf {x : Nat} {P : Int32 → Tt → Prop} (hx : x < 1024) (h : P (nI (bits x)) t) : Rt g d mX8_bitsOf 0 [some (.int (nI x)), none, none] [] t (QI P) := by
  apply bX8_bitsOf_0
  have key : ∀ (n x c : Nat), x ≤ n → x < 1024 → P (nI (c + bits x)) t → Rt g d mX8_bitsOf 4 [none, some (.int (nI c)), some (.int (nI x))] [] t (QI P) := by
    intro n
    induction n with
    | zero =>
      intro x c hn hx hP
      have : x = 0 := by omega
      subst this
      apply bX8_bitsOf_4
      exact br_t rfl (qi (by simpa [bits, pop] using hP))
    | succ n ih =>
      intro x c hn hx hP
      apply bX8_bitsOf_4
      by_cases h0 : x = 0
      · subst h0
        exact br_t rfl (qi (by simpa [bits, pop] using hP))
      · obtain ⟨e1, e2, e3⟩ := clr_tab x hx h0
        refine br_f (fun q => h0 (nI_inj (by omega) (by omega) q)) ?_
        intro z ez
        rw [ez, e1, nI_1]
        refine ih _ _ (by omega) (by omega) ?_
        rw [e3] at hP
        rwa [Nat.add_assoc, Nat.add_comm 1]
  have := key x x 0 (Nat.le_refl _) hx (by rw [Nat.zero_add]; exact h)
  exact this
end P20
