/-! PURE LAYER: arguments -/
section P23
variable {g : Gt} {d : Nat} {t : Tt}
def gd (x : Int32) (n : Nat) : Prop := ∃ k, k < n ∧ x = nI k
theorem tI {n : Nat} (h : n < 2 ^ 31) : (nI n).toInt = (n : Int) := nI_toInt h
theorem gd_iff {x : Int32} {n : Nat} (hn : n < 2 ^ 31) : gd x n ↔ 0 ≤ x.toInt ∧ x.toInt < n := by
  constructor
  · rintro ⟨k, hk, rfl⟩
    rw [tI (by omega)]
    omega
  · rintro ⟨h1, h2⟩
    obtain ⟨j, hj, e⟩ := vp_in_of (vp_in_iff.mpr ⟨h1, h2⟩) hn
    exact ⟨j, hj, e⟩
theorem lt_i (x y : Int32) : x < y ↔ x.toInt < y.toInt := Int32.lt_iff_toInt_lt
theorem le_i (x y : Int32) : x ≤ y ↔ x.toInt ≤ y.toInt := Int32.le_iff_toInt_le
theorem z_i : (0 : Int32).toInt = 0 := rfl
theorem sp_out_g {x m : Int32} {n : Nat} {P : Int32 → Tt → Prop} (hm : m.toInt = (n : Int) - 1) (hn : n < 2 ^ 31) (hx : gd x n) (h : P 0 t) : Rt g d mX7_outside 0 [some (.int x), some (.int m)] [] t (QI P) := by
  have := (gd_iff hn).mp hx
  apply bX7_outside_0
  refine br_f (by rw [lt_i, z_i]; omega) (br_t (by rw [le_i]; omega) (qi h))
theorem sp_out_b {x m : Int32} {n : Nat} {P : Int32 → Tt → Prop} (hm : m.toInt = (n : Int) - 1) (hn : n < 2 ^ 31) (hx : ¬ gd x n) (h : P 1 t) : Rt g d mX7_outside 0 [some (.int x), some (.int m)] [] t (QI P) := by
  rw [gd_iff hn] at hx
  apply bX7_outside_0
  refine ⟨fun _ => bX7_outside_9 (qi h), fun c => ⟨fun c2 => absurd ?_ hx, fun _ => bX7_outside_9 (qi h)⟩⟩
  rw [lt_i, z_i] at c
  rw [le_i] at c2
  omega
theorem m1_i {n : Nat} (h : n < 2 ^ 30) : (nI n - 1).toInt = (n : Int) - 1 := by
  exact pk_sub_toInt (a := n) (b := 1) h (by decide)
theorem sp_noShelf_g {x : Int32} {P : Int32 → Tt → Prop} (hx : gd x 6) (h : P 0 t) : Rt g (d + 1) mX7_noShelf 0 [some (.int x)] [] t (QI P) := by
  apply bX7_noShelf_0
  exact sp_out_g (n := 6) rfl (by decide) hx ⟨Or.inl rfl, qi h⟩
theorem sp_noShelf_b {x : Int32} {P : Int32 → Tt → Prop} (hx : ¬ gd x 6) (h : P 1 t) : Rt g (d + 1) mX7_noShelf 0 [some (.int x)] [] t (QI P) := by
  apply bX7_noShelf_0
  exact sp_out_b (n := 6) rfl (by decide) hx ⟨Or.inr rfl, qi h⟩
theorem sp_nobody_g {x : Int32} {n : Nat} {P : Int32 → Tt → Prop} (hp : t.1 1 0 = nI n) (hn : n ≤ 7) (hx : gd x n) (h : P 0 t) : Rt g (d + 1) mX7_nobody 0 [some (.ref 0), some (.int x)] [] t (QI P) := by
  apply bX7_nobody_0
  rw [hp]
  exact sp_out_g (m1_i (by omega)) (by omega) hx ⟨Or.inl rfl, qi h⟩
theorem sp_nobody_b {x : Int32} {n : Nat} {P : Int32 → Tt → Prop} (hp : t.1 1 0 = nI n) (hn : n ≤ 7) (hx : ¬ gd x n) (h : P 1 t) : Rt g (d + 1) mX7_nobody 0 [some (.ref 0), some (.int x)] [] t (QI P) := by
  apply bX7_nobody_0
  rw [hp]
  exact sp_out_b (m1_i (by omega)) (by omega) hx ⟨Or.inr rfl, qi h⟩
-- the reference
theorem sr_in_g {x m : Int32} {n : Nat} {P : Int32 → Tt → Prop} (hm : m.toInt = (n : Int) - 1) (hn : n < 2 ^ 31) (hx : gd x n) (h : P 1 t) : Rt g d mX8_in 0 [some (.int x), some (.int 0), some (.int m)] [] t (QI P) := by
  have := (gd_iff hn).mp hx
  apply bX8_in_0
  refine br_f (by rw [lt_i, z_i]; omega) (br_f (by rw [lt_i]; omega) (qi h))
theorem sr_in_b {x m : Int32} {n : Nat} {P : Int32 → Tt → Prop} (hm : m.toInt = (n : Int) - 1) (hn : n < 2 ^ 31) (hx : ¬ gd x n) (h : P 0 t) : Rt g d mX8_in 0 [some (.int x), some (.int 0), some (.int m)] [] t (QI P) := by
  rw [gd_iff hn] at hx
  apply bX8_in_0
  refine ⟨fun _ => qi h, fun c => ⟨fun _ => qi h, fun c2 => absurd ?_ hx⟩⟩
  rw [lt_i, z_i] at c
  rw [lt_i] at c2
  omega
theorem sr_isShelf_g {x : Int32} {P : Int32 → Tt → Prop} (hx : gd x 6) (h : P 1 t) : Rt g (d + 1) mX8_isShelf 0 [some (.int x)] [] t (QI P) := by
  apply bX8_isShelf_0
  exact sr_in_g (n := 6) rfl (by decide) hx ⟨Or.inr rfl, qi h⟩
theorem sr_isShelf_b {x : Int32} {P : Int32 → Tt → Prop} (hx : ¬ gd x 6) (h : P 0 t) : Rt g (d + 1) mX8_isShelf 0 [some (.int x)] [] t (QI P) := by
  apply bX8_isShelf_0
  exact sr_in_b (n := 6) rfl (by decide) hx ⟨Or.inl rfl, qi h⟩
theorem sr_isFact_g {x : Int32} {P : Int32 → Tt → Prop} (hx : gd x 10) (h : P 1 t) : Rt g (d + 1) mX8_isFact 0 [some (.int x)] [] t (QI P) := by
  apply bX8_isFact_0
  exact sr_in_g (n := 10) rfl (by decide) hx ⟨Or.inr rfl, qi h⟩
theorem sr_isFact_b {x : Int32} {P : Int32 → Tt → Prop} (hx : ¬ gd x 10) (h : P 0 t) : Rt g (d + 1) mX8_isFact 0 [some (.int x)] [] t (QI P) := by
  apply bX8_isFact_0
  exact sr_in_b (n := 10) rfl (by decide) hx ⟨Or.inl rfl, qi h⟩
theorem sr_isPerson_g {x : Int32} {n : Nat} {P : Int32 → Tt → Prop} (hp : t.1 57 1 = nI n) (hn : n ≤ 7) (hx : gd x n) (h : P 1 t) : Rt g (d + 1) mX8_isPerson 0 [some (.ref 57), some (.int x)] [] t (QI P) := by
  apply bX8_isPerson_0
  rw [hp]
  exact sr_in_g (m1_i (by omega)) (by omega) hx ⟨Or.inr rfl, qi h⟩
theorem sr_isPerson_b {x : Int32} {n : Nat} {P : Int32 → Tt → Prop} (hp : t.1 57 1 = nI n) (hn : n ≤ 7) (hx : ¬ gd x n) (h : P 0 t) : Rt g (d + 1) mX8_isPerson 0 [some (.ref 57), some (.int x)] [] t (QI P) := by
  apply bX8_isPerson_0
  rw [hp]
  exact sr_in_b (m1_i (by omega)) (by omega) hx ⟨Or.inl rfl, qi h⟩
/-- tens and ones -/
theorem ten {x : Int32} (h : ¬ x < 0) : ∃ k : Nat, k < 2 ^ 31 ∧ x = nI k ∧ x / 10 = nI (k / 10) ∧ jr x 10 = nI (k % 10) := by
  obtain ⟨k, hk, rfl⟩ := nI_of h
  refine ⟨k, hk, rfl, ?_, ?_⟩
  · rw [l10, pk_div hk (by decide) (by decide)]
  · rw [l10, jr_n hk (by decide) (by decide)]
def gcl (x : Int32) : Prop := ∃ f v, f < 10 ∧ v < 2 ∧ x = nI (10 * f + v)
theorem sp_noClaim_g {x : Int32} {P : Int32 → Tt → Prop} (hx : gcl x) (h : P 0 t) : Rt g (d + 1) mX7_noClaim 0 [some (.int x)] [] t (QI P) := by
  obtain ⟨f, v, hf, hv, rfl⟩ := hx
  apply bX7_noClaim_0
  refine br_f (nI_pos (by omega)) ?_
  rw [l10, pk_div (by omega) (by decide) (by decide), jr_n (by omega) (by decide) (by decide), show (10 * f + v) / 10 = f by omega, show (10 * f + v) % 10 = v by omega]
  refine sp_out_g (n := 10) rfl (by decide) ⟨f, hf, rfl⟩ ⟨fun c => absurd rfl c, fun _ => br_t (nI_le (b := 1) (by omega) (by decide)) (qi h)⟩
theorem sp_noClaim_b {x : Int32} {P : Int32 → Tt → Prop} (hx : ¬ gcl x) (h : P 1 t) : Rt g (d + 1) mX7_noClaim 0 [some (.int x)] [] t (QI P) := by
  apply bX7_noClaim_0
  refine ⟨fun _ => bX7_noClaim_24 (qi h), fun c => ?_⟩
  obtain ⟨k, hk, e1, e2, e3⟩ := ten c
  rw [e2, e3]
  by_cases hf : gd (nI (k / 10)) 10
  · refine sp_out_g (n := 10) rfl (by decide) hf ⟨fun c => absurd rfl c, fun _ => ⟨fun c2 => absurd ?_ hx, fun _ => bX7_noClaim_24 (qi h)⟩⟩
    obtain ⟨j, hj, ej⟩ := hf
    have := nI_inj (by omega) (by omega) ej
    have h2 : k % 10 ≤ 1 := (nI_leI (b := 1) (by omega) (by decide)).mp c2
    exact ⟨k / 10, k % 10, by omega, by omega, by rw [e1]; congr 1; omega⟩
  · exact sp_out_b (n := 10) rfl (by decide) hf ⟨fun _ => bX7_noClaim_24 (qi h), fun c => absurd c (by decide)⟩
theorem sr_areFact_g {x : Int32} {P : Int32 → Tt → Prop} (hx : gcl x) (h : P 1 t) : Rt g (d + 2) mX8_areFact 0 [some (.int x)] [] t (QI P) := by
  obtain ⟨f, v, hf, hv, rfl⟩ := hx
  apply bX8_areFact_0
  refine br_f (nI_pos (by omega)) ?_
  rw [l10, pk_div (by omega) (by decide) (by decide), jr_n (by omega) (by decide) (by decide), show (10 * f + v) / 10 = f by omega, show (10 * f + v) % 10 = v by omega]
  refine sr_isFact_g ⟨f, hf, rfl⟩ ⟨fun c => absurd c (by decide), fun _ => br_f (nI_nlt (a := 1) (b := v) (by omega) (by decide)) (qi h)⟩
theorem sr_areFact_b {x : Int32} {P : Int32 → Tt → Prop} (hx : ¬ gcl x) (h : P 0 t) : Rt g (d + 2) mX8_areFact 0 [some (.int x)] [] t (QI P) := by
  apply bX8_areFact_0
  refine ⟨fun _ => qi h, fun c => ?_⟩
  obtain ⟨k, hk, e1, e2, e3⟩ := ten c
  rw [e2, e3]
  by_cases hf : gd (nI (k / 10)) 10
  · refine sr_isFact_g hf ⟨fun c => absurd c (by decide), fun _ => ⟨fun _ => qi h, fun c2 => absurd ?_ hx⟩⟩
    obtain ⟨j, hj, ej⟩ := hf
    have := nI_inj (by omega) (by omega) ej
    have h2 : ¬ 1 < k % 10 := fun q => c2 (nI_lt (a := 1) q (by omega))
    exact ⟨k / 10, k % 10, by omega, by omega, by rw [e1]; congr 1; omega⟩
  · exact sr_isFact_b hf ⟨fun _ => qi h, fun c => absurd rfl c⟩
end P23
