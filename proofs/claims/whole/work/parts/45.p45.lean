/-! PURE LAYER: isSo -/
section P45
variable {g : Gt} {d : Nat} {t : Tt} {a : Aa}
theorem sr_isSeen0 {p s : Nat} {b : Pp} {c : Nat → Int64} {P : Int32 → Tt → Prop} (hm : MoM t b) (hw : PpW b) (hp : p < pn b) (hs : s < 6) (hJ : ∀ i, i < 60 → t.2.1 91 (60 * s + i) = c i) (hb : ∀ i, i < 60 → -128 ≤ (c i).toInt ∧ (c i).toInt ≤ 127) (k : P (if sees b p c then 1 else 0) t) : Rt g (d + 1) mX8_isSeen 0 [some (.ref 57), some (.int (nI s)), some (.int (nI p)), none] [] t (QI P) := by
  have hn := hw.1
  apply bX8_isSeen_0
  have key : ∀ m i, i + m = 8 → (∀ q, q < i → (pf b p q : Int) = (c q).toInt) → Rt g (d + 1) mX8_isSeen 2 [some (.ref 57), some (.int (nI s)), some (.int (nI p)), some (.int (nI i))] [] t (QI P) := by
    intro m
    induction m with
    | zero =>
      intro i hi hq
      have : i = 8 := by omega
      subst this
      apply bX8_isSeen_2
      rw [if_pos hq] at k
      exact br_t (nI_le (a := 8) (by omega) (by decide)) (qi k)
    | succ m ih =>
      intro i hi hq
      apply bX8_isSeen_2
      refine br_f (nI_ge (b := 8) (by omega) (by decide)) ?_
      rw [ix8']
      refine ⟨vpn (by omega), ?_⟩
      have hf9 := hw.2.2.1 p hp i (by omega)
      refine sr_seenAt hs (by omega) (hJ i (by omega)) ?_
      rw [ncl (by omega), hm.2.2.1 p hp i (by omega), nI_1]
      have ee : nI (pf b p i) = (c i).toInt32 ↔ (pf b p i : Int) = (c i).toInt := by
        rw [← Int32.toInt_inj, by32 (hb i (by omega)), tI (by omega)]
      refine ⟨fun c' => ih (i + 1) (by omega) (fun q hq' => ?_), fun c' => qi ?_⟩
      · by_cases e : q = i
        · subst e; exact ee.mp c'
        · exact hq q (by omega)
      · rw [if_neg (fun w => c' (ee.mpr (w i (by omega))))] at k
        exact k
  exact key 8 0 rfl (fun q hq => absurd hq (by omega))
def soW (so k way : Nat) : Nat := (so &&& (1023 ^^^ (2 ^ k - 1))) ||| way
theorem msk_tab : ∀ k, k < 9 → ∀ so, so < 1024 → (nI so) &&& ((nI (2 ^ k) - 1) ^^^ (-1)) = nI (so &&& (1023 ^^^ (2 ^ k - 1))) := by decide +kernel
theorem mbit_tab : ∀ k, k < 9 → ∀ f, f < 10 → (1023 ^^^ (2 ^ k - 1)).testBit f = decide (k ≤ f) := by decide +kernel
theorem soW_lt {so k way : Nat} (hso : so < 1024) (hk : k < 9) (hw : way < 2 ^ k) : soW so k way < 1024 := by
  unfold soW
  have h2 : 2 ^ k ≤ 2 ^ 8 := Nat.pow_le_pow_right (by decide) (by omega)
  refine Nat.or_lt_two_pow (n := 10) (Nat.lt_of_le_of_lt Nat.and_le_left hso) (by omega)
theorem soW_bit {so k way f : Nat} (hk : k < 9) (hw : way < 2 ^ k) (hf : f < 10) : capd (soW so k way) f = if f < k then capd way f else capd so f := by
  have e : (soW so k way).testBit f = if f < k then way.testBit f else so.testBit f := by
    unfold soW
    rw [Nat.testBit_or, Nat.testBit_and, mbit_tab k hk f hf]
    by_cases c : f < k
    · rw [if_pos c, show decide (k ≤ f) = false from decide_eq_false (by omega)]
      simp
    · rw [if_neg c, show decide (k ≤ f) = true from decide_eq_true (by omega)]
      have : way.testBit f = false := Nat.testBit_lt_two_pow (Nat.lt_of_lt_of_le hw (Nat.pow_le_pow_right (by decide) (by omega)))
      rw [this]
      simp
  have c1 := capd_bit (soW so k way) f
  rw [e] at c1
  split
  · rename_i c
    rw [if_pos c] at c1
    have c2 := capd_bit way f
    have := capd_01 (soW so k way) f
    have := capd_01 way f
    rw [← c2] at c1
    omega
  · rename_i c
    rw [if_neg c] at c1
    have c2 := capd_bit so f
    have := capd_01 (soW so k way) f
    have := capd_01 so f
    rw [← c2] at c1
    omega
abbrev isP (pr : Prog) (so : Nat) (b : Pp) (tr : Tr) (k i : Nat) : Pp := sP (held pr (soW so k i) 0 b tr)
def isA (pr : Prog) (so : Nat) (b : Pp) (tr : Tr) (k p : Nat) (c : Nat → Int64) : Nat → Nat × Option Nat × Nat
  | 0 => (0, none, 2 ^ k - 1)
  | i + 1 => if sees (isP pr so b tr k i) p c then ((isA pr so b tr k p c i).1 + 1, if (isA pr so b tr k p c i).2.1 = none then some i else (isA pr so b tr k p c i).2.1, (isA pr so b tr k p c i).2.2 &&& i) else isA pr so b tr k p c i
theorem isA_ok {pr : Prog} {so : Nat} {b : Pp} {tr : Tr} {k p : Nat} {c : Nat → Int64} : ∀ i, (isA pr so b tr k p c i).1 ≤ i ∧ ((isA pr so b tr k p c i).1 = 0 ↔ (isA pr so b tr k p c i).2.1 = none) ∧ ∀ j, (isA pr so b tr k p c i).2.1 = some j → j < i := by
  intro i
  induction i with
  | zero => exact ⟨Nat.le_refl _, ⟨fun _ => rfl, fun _ => rfl⟩, fun j h => by cases h⟩
  | succ i ih =>
    simp only [isA]
    split
    · refine ⟨by have := ih.1; dsimp only; omega, ⟨fun h => by dsimp only at h; omega, fun h => ?_⟩, fun j h => ?_⟩
      · dsimp only at h
        split at h
        · cases h
        · rename_i h1 h2; exact absurd h h2
      · dsimp only at h
        split at h
        · cases h; omega
        · have := ih.2.2 j h; omega
    · exact ⟨by have := ih.1; omega, ih.2.1, fun j h => by have := ih.2.2 j h; omega⟩
def iAns (r : Nat × Option Nat × Nat) (z : Nat) : Int32 := if z = 0 then nI r.1 else if z = 1 then gI r.2.1 else if r.1 = 0 then gI r.2.1 else nI r.2.2
theorem sp_waysOfSo {p k z s2 : Nat} {tr : Tr} {P : Int32 → Tt → Prop} (h : Rel t a) (ht : TrC t tr) (htw : trW (pn (aP a)) tr) (hs2 : s2 < 6) (hb2 : refB ((aH a).1 s2) = 0) (hp : p < pn (aP a)) (hk : k < 9) (hz : z < 3) (kk : ∀ t', Rel t' a → P (iAns (isA (aL a) (aS a) (aP a) tr k p ((aH a).2 s2) (2 ^ k)) z) t') : Rt g (d + 6) mX7_waysOfSo 0 [some (.ref 0), some (.ref (45 + 2 * s2)), some (.int (nI p)), some (.int (nI k)), some (.int (nI z)), none, none, none, none, none] [] t (QI P) := by
  have hso := h.1.2.1
  have h28 : 2 ^ k ≤ 2 ^ 8 := Nat.pow_le_pow_right (by decide) (by omega)
  have h20 : 0 < 2 ^ k := Nat.pow_pos (by decide)
  have hsh : isSh (45 + 2 * s2) := by unfold isSh; omega
  apply bX7_waysOfSo_0 hsh
  intro z1 e1
  rw [shl_tab k (by omega)] at e1
  have e1' : z1 = nI (2 ^ k - 1) := by rw [e1, l1, pk_sub (by omega)]
  have key : ∀ m i t2, i + m = 2 ^ k → Rel t2 a → TrC t2 tr → Rt g (d + 6) mX7_waysOfSo 21 [some (.ref 0), some (.ref (45 + 2 * s2)), some (.int (nI p)), none, some (.int (nI z)), some (.int z1), some (.int (nI (isA (aL a) (aS a) (aP a) tr k p ((aH a).2 s2) i).1)), some (.int (gI (isA (aL a) (aS a) (aP a) tr k p ((aH a).2 s2) i).2.1)), some (.int (nI (isA (aL a) (aS a) (aP a) tr k p ((aH a).2 s2) i).2.2)), some (.int (nI i))] [] t2 (QI P) := by
    intro m
    induction m with
    | zero =>
      intro i t2 hi r2 c2
      have : i = 2 ^ k := by omega
      subst this
      have hok := isA_ok (pr := aL a) (so := aS a) (b := aP a) (tr := tr) (k := k) (p := p) (c := (aH a).2 s2) (2 ^ k)
      apply bX7_waysOfSo_21 hsh
      have q := kk t2 r2
      unfold iAns at q
      refine br_t (by rw [e1']; exact nI_lt (by omega) (by omega)) ⟨fun c => ?_, fun c => qi ?_⟩
      · rw [if_neg (fun e => c (by rw [e]; rfl))] at q
        refine ⟨fun c2 => bX7_waysOfSo_122 (qi ?_), fun c2 => ⟨fun c3 => qi ?_, fun c3 => bX7_waysOfSo_122 (qi ?_)⟩⟩
        · rw [if_pos (nI_inj (b := 1) (by omega) (by decide) c2)] at q; exact q
        · rw [if_neg (fun e => c2 (by rw [e]; rfl)), if_neg (fun e => c3 (by rw [e]; rfl))] at q; exact q
        · rw [if_neg (fun e => c2 (by rw [e]; rfl)), if_pos (nI_inj (b := 0) (by omega) (by decide) c3)] at q; exact q
      · rw [if_pos (nI_inj (b := 0) (by omega) (by decide) c)] at q; exact q
    | succ m ih =>
      intro i t2 hi r2 c2
      have hok := isA_ok (pr := aL a) (so := aS a) (b := aP a) (tr := tr) (k := k) (p := p) (c := (aH a).2 s2) i
      apply bX7_waysOfSo_21 hsh
      refine br_f (by rw [e1']; exact nI_nlt (by omega) (by omega)) ⟨r2.lw.1, ?_⟩
      rw [r2.so, e1, msk_tab k hk _ hso, nI_or]
      have hsw : soW (aS a) k i < 1024 := soW_lt hso hk (by omega)
      refine sp_hold (so := soW (aS a) k i) r2.lw.1 r2.2.1.1 r2.pw r2.lw.2.2.2 hsw (show 0 < 1024 by decide) c2 htw (fun t3 hf3 hs3 => ?_)
      have r3 := r2.c (hf3.mo HoS_C)
      have c3 := c2.fr hf3
      have hw3 := rsn_W (pr := aL a) (so := soW (aS a) k i) (tb := 0) r2.pw htw _ (Nat.le_refl _)
      refine sp_looksLike mo17 hs3.1 hw3.1 (by rw [hw3.2.1]; exact hp) r3 hs2 hb2 ?_
      rw [← e1]
      have ew : isA (aL a) (aS a) (aP a) tr k p ((aH a).2 s2) (i + 1) = if sees (isP (aL a) (aS a) (aP a) tr k i) p ((aH a).2 s2) then ((isA (aL a) (aS a) (aP a) tr k p ((aH a).2 s2) i).1 + 1, if (isA (aL a) (aS a) (aP a) tr k p ((aH a).2 s2) i).2.1 = none then some i else (isA (aL a) (aS a) (aP a) tr k p ((aH a).2 s2) i).2.1, (isA (aL a) (aS a) (aP a) tr k p ((aH a).2 s2) i).2.2 &&& i) else isA (aL a) (aS a) (aP a) tr k p ((aH a).2 s2) i := rfl
      have step : ∀ u q w, isA (aL a) (aS a) (aP a) tr k p ((aH a).2 s2) (i + 1) = (u, q, w) → Rt g (d + 6) mX7_waysOfSo 97 [some (.ref 0), some (.ref (45 + 2 * s2)), some (.int (nI p)), none, some (.int (nI z)), some (.int z1), some (.int (nI u)), some (.int (gI q)), some (.int (nI w)), some (.int (nI i))] [] t3 (QI P) := by
        intro u q w hq
        apply bX7_waysOfSo_97 hsh
        have := ih (i + 1) t3 (by omega) r3 c3
        rw [hq] at this
        rw [nI_1]
        exact this
      by_cases h0 : sees (isP (aL a) (aS a) (aP a) tr k i) p ((aH a).2 s2)
      · rw [if_pos h0] at ew
        rw [if_pos h0]
        have gx := gI_x (o := (isA (aL a) (aS a) (aP a) tr k p ((aH a).2 s2) i).2.1) (fun j hj => by have := hok.2.2 j hj; omega)
        refine br_f (by decide) ⟨fun c => ?_, fun c => ?_⟩
        · rw [if_neg (fun q => c (gx.mpr q))] at ew
          apply bX7_waysOfSo_88 hsh
          intro z8 e8
          rw [nI_and] at e8
          rw [e8, nI_1]
          exact step _ _ _ ew
        · rw [if_pos (gx.mp c)] at ew
          apply bX7_waysOfSo_88 hsh
          intro z8 e8
          rw [nI_and] at e8
          rw [e8, nI_1]
          exact step _ (some i) _ ew
      · rw [if_neg h0] at ew
        rw [if_neg h0]
        exact br_t rfl (step _ _ _ ew)
  have k0 := key (2 ^ k) 0 t (Nat.zero_add _) h ht
  rw [show (isA (aL a) (aS a) (aP a) tr k p ((aH a).2 s2) 0) = (0, none, 2 ^ k - 1) from rfl] at k0
  rw [← e1'] at k0
  exact k0
end P45
