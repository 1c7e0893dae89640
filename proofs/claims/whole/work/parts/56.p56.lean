/-! PURE LAYER: numbers of mend() and of(); of -/
section P56
variable {g : Gt} {d : Nat} {t t1 : Tt} {a : Aa}
def okX (x : Int32) (w n : Nat) : Prop := if w = 9 then gd x 10 else if w = 10 then x = 0 else gd x n
def mst (w : Nat) : Nat := if w = 8 then 255 else if w = 9 then 1 else 9
def nowV (a : Aa) (nb w : Nat) : Nat := if w = 8 then pc (aP a) nb else if w = 9 then capd (aS a) nb else if w = 10 then pg (aP a) else pf (aP a) nb w
theorem wne {w k : Nat} (hw : w < 2 ^ 31) (hk : k < 2 ^ 31) (h : w ≠ k) : ¬ nI w = nI k := fun q => h (nI_inj hw hk q)
theorem sp_noNumber_b {x y : Int32} {P : Int32 → Tt → Prop} (hy : ¬ gd y 13) (k : P 1 t) : Rt g (d + 3) mX7_noNumber 0 [some (.ref 0), some (.int x), some (.int y)] [] t (QI P) := by
  apply bX7_noNumber_0
  exact sp_out_b (n := 13) rfl (by decide) hy (br_f (by decide) (qi k))
theorem sp_noNumber {x : Int32} {w n : Nat} {P : Int32 → Tt → Prop} (hp : t.1 1 0 = nI n) (hn : n ≤ 7) (hw : w < 13) (k1 : okX x w n → P 0 t) (k0 : ¬ okX x w n → P 1 t) : Rt g (d + 3) mX7_noNumber 0 [some (.ref 0), some (.int x), some (.int (nI w))] [] t (QI P) := by
  unfold okX at k1 k0
  apply bX7_noNumber_0
  refine sp_out_g (n := 13) rfl (by decide) ⟨w, hw, rfl⟩ (br_t rfl ?_)
  by_cases h9 : w = 9
  · subst h9
    rw [if_pos rfl] at k1 k0
    refine br_p rfl ?_
    by_cases hx : gd x 10
    · exact sp_out_g (n := 10) rfl (by decide) hx ⟨Or.inl rfl, qi (k1 hx)⟩
    · exact sp_out_b (n := 10) rfl (by decide) hx ⟨Or.inr rfl, qi (k0 hx)⟩
  · rw [if_neg h9] at k1 k0
    refine br_n (wne (by omega) (by decide) h9) ?_
    by_cases h10 : w = 10
    · subst h10
      rw [if_pos rfl] at k1 k0
      exact br_p rfl ⟨fun c => qi (k1 c), fun c => qi (k0 c)⟩
    · rw [if_neg h10] at k1 k0
      refine br_n (wne (by omega) (by decide) h10) ?_
      by_cases hx : gd x n
      · exact sp_nobody_g hp hn hx ⟨Or.inl rfl, qi (k1 hx)⟩
      · exact sp_nobody_b hp hn hx ⟨Or.inr rfl, qi (k0 hx)⟩
theorem sr_in {x lo hi : Int32} {P : Int32 → Tt → Prop} (k1 : lo ≤ x → x ≤ hi → P 1 t) (k0 : ¬ (lo ≤ x ∧ x ≤ hi) → P 0 t) : Rt g d mX8_in 0 [some (.int x), some (.int lo), some (.int hi)] [] t (QI P) := by
  apply bX8_in_0
  refine ⟨fun c => qi (k0 (fun q => ?_)), fun c => ⟨fun c2 => qi (k0 (fun q => ?_)), fun c2 => qi (k1 ?_ ?_)⟩⟩
  · rw [lt_i] at c; rw [le_i, le_i] at q; omega
  · rw [lt_i] at c2; rw [le_i, le_i] at q; omega
  · rw [lt_i] at c; rw [le_i]; omega
  · rw [lt_i] at c2; rw [le_i]; omega
theorem sr_isOne_b {x y : Int32} {P : Int32 → Tt → Prop} (hy : ¬ gd y 11) (k : P 0 t) : Rt g (d + 3) mX8_isOne 0 [some (.ref 57), some (.int x), some (.int y)] [] t (QI P) := by
  apply bX8_isOne_0
  refine sr_in_b (n := 9) rfl (by decide) (fun ⟨j, hj, e⟩ => hy ⟨j, by omega, e⟩) (br_t rfl (br_n (fun e => hy ⟨9, by decide, e⟩) (br_n (fun e => hy ⟨10, by decide, e⟩) (qi k))))
theorem sr_isOne {x : Int32} {w n : Nat} {P : Int32 → Tt → Prop} (hp : t.1 57 1 = nI n) (hn : n ≤ 7) (hw : w < 11) (k1 : okX x w n → P 1 t) (k0 : ¬ okX x w n → P 0 t) : Rt g (d + 3) mX8_isOne 0 [some (.ref 57), some (.int x), some (.int (nI w))] [] t (QI P) := by
  unfold okX at k1 k0
  apply bX8_isOne_0
  by_cases h9 : w = 9
  · subst h9
    rw [if_pos rfl] at k1 k0
    refine sr_in_b (n := 9) rfl (by decide) (fun ⟨j, hj, e⟩ => by have := nI_inj (by omega) (by omega) e; omega) (br_t rfl (br_p rfl ?_))
    by_cases hx : gd x 10
    · exact sr_isFact_g hx ⟨Or.inr rfl, qi (k1 hx)⟩
    · exact sr_isFact_b hx ⟨Or.inl rfl, qi (k0 hx)⟩
  · rw [if_neg h9] at k1 k0
    by_cases h10 : w = 10
    · subst h10
      rw [if_pos rfl] at k1 k0
      refine sr_in_b (n := 9) rfl (by decide) (fun ⟨j, hj, e⟩ => by have := nI_inj (by omega) (by omega) e; omega) (br_t rfl (br_n (by decide) (br_p rfl ⟨fun c => qi (k0 c), fun c => qi (k1 c)⟩)))
    · rw [if_neg h10] at k1 k0
      refine sr_in_g (n := 9) rfl (by decide) ⟨w, by omega, rfl⟩ (br_f (by decide) ?_)
      by_cases hx : gd x n
      · exact sr_isPerson_g hp hn hx ⟨Or.inr rfl, qi (k1 hx)⟩
      · exact sr_isPerson_b hp hn hx ⟨Or.inl rfl, qi (k0 hx)⟩
/-- a number that is there -/
def okN (n nb w : Nat) : Prop := if w = 9 then nb < 10 else if w = 10 then nb = 0 else nb < n
theorem okX_N {x : Int32} {w n : Nat} (h : okX x w n) : ∃ nb, okN n nb w ∧ x = nI nb := by
  unfold okX at h
  unfold okN
  by_cases h9 : w = 9
  · rw [if_pos h9] at h
    obtain ⟨nb, h1, h2⟩ := h
    exact ⟨nb, by rw [if_pos h9]; exact h1, h2⟩
  · rw [if_neg h9] at h
    by_cases h10 : w = 10
    · rw [if_pos h10] at h
      exact ⟨0, by rw [if_neg h9, if_pos h10], h⟩
    · rw [if_neg h10] at h
      obtain ⟨nb, h1, h2⟩ := h
      exact ⟨nb, by rw [if_neg h9, if_neg h10]; exact h1, h2⟩
theorem nowV_lt {nb w : Nat} (hw : AW a) (h : okN (pn (aP a)) nb w) (hw' : w < 11) : nowV a nb w ≤ mst w := by
  unfold okN at h
  unfold nowV mst
  by_cases h8 : w = 8
  · rw [if_neg (by omega), if_neg (by omega)] at h
    rw [if_pos h8, if_pos h8]
    have := hw.1.2.2.2 nb h
    omega
  · rw [if_neg h8, if_neg h8]
    by_cases h9 : w = 9
    · rw [if_pos h9, if_pos h9]
      have := capd_2 (aS a) nb
      omega
    · rw [if_neg h9] at h
      rw [if_neg h9, if_neg h9]
      by_cases h10 : w = 10
      · rw [if_pos h10]
        exact hw.1.2.1
      · rw [if_neg h10] at h ⊢
        exact hw.1.2.2.1 nb h w (by omega)
theorem sp_now {nb w : Nat} {P : Int32 → Tt → Prop} (h : RC t a) (hw : AW a) (ok : okN (pn (aP a)) nb w) (hw' : w < 11) (k : P (nI (nowV a nb w)) t) : Rt g (d + 3) mX7_numberNow 0 [some (.ref 0), some (.int (nI nb)), some (.int (nI w))] [] t (QI P) := by
  have hn := hw.1.1
  unfold okN at ok
  unfold nowV at k
  apply bX7_numberNow_0
  by_cases h8 : w = 8
  · subst h8
    rw [if_neg (by decide), if_neg (by decide)] at ok
    rw [if_pos rfl] at k
    refine br_t rfl ⟨vpn (by omega), qi ?_⟩
    rw [ncl (by omega), h.1.2.2.2.1 nb ok]
    exact k
  · rw [if_neg h8] at k
    refine br_f (wne (by omega) (by decide) h8) ?_
    by_cases h9 : w = 9
    · subst h9
      rw [if_pos rfl] at ok k
      refine br_t rfl (qi ?_)
      rw [show t.1 0 11 = nI (aS a) from h.2.1, bit_tab nb (by omega) _ hw.2.1]
      exact k
    · rw [if_neg h9] at k ok
      refine br_f (wne (by omega) (by decide) h9) ?_
      by_cases h10 : w = 10
      · subst h10
        rw [if_pos rfl] at k
        refine br_t rfl (qi ?_)
        rw [show t.1 1 1 = nI (pg (aP a)) from h.1.2.1]
        exact k
      · rw [if_neg h10] at k ok
        refine br_f (wne (by omega) (by decide) h10) (br_f (wne (by omega) (by decide) (show w ≠ 11 by omega)) (br_f (wne (by omega) (by decide) (show w ≠ 12 by omega)) ?_))
        rw [ix8]
        refine ⟨vpn (by omega), qi ?_⟩
        rw [ncl (by omega), show t.1 2 (8 * nb + w) = _ from h.1.2.2.1 nb ok w (by omega)]
        exact k
theorem sr_valueAt {nb w : Nat} {P : Int32 → Tt → Prop} (h : RF t a) (hw : AW a) (ok : okN (pn (aP a)) nb w) (hw' : w < 11) (k : P (nI (nowV a nb w)) t) : Rt g d mX8_valueAt 0 [some (.ref 57), some (.int (nI w)), some (.int (nI nb))] [] t (QI P) := by
  have hn := hw.1.1
  unfold okN at ok
  unfold nowV at k
  apply bX8_valueAt_0
  by_cases h8 : w = 8
  · subst h8
    rw [if_neg (by decide), if_neg (by decide)] at ok
    rw [if_pos rfl] at k
    refine br_t (by decide) (br_p rfl ⟨vpn (by omega), qi ?_⟩)
    rw [ncl (by omega), h.1.2.2.2.1 nb ok]
    exact k
  · rw [if_neg h8] at k
    by_cases h9 : w = 9
    · subst h9
      rw [if_pos rfl] at ok k
      refine br_t (by decide) (br_n (by decide) (br_p rfl ⟨vpn (by omega), qi ?_⟩))
      rw [ncl (by omega), h.2.1 nb ok]
      exact k
    · rw [if_neg h9] at k ok
      by_cases h10 : w = 10
      · subst h10
        rw [if_pos rfl] at k
        refine br_t (by decide) (br_n (by decide) (br_n (by decide) (qi ?_)))
        rw [show t.1 57 6 = nI (pg (aP a)) from h.1.2.1]
        exact k
      · rw [if_neg h10] at k ok
        rw [ix8']
        refine br_f (nI_ge (b := 8) (by omega) (by decide)) ⟨vpn (by omega), qi ?_⟩
        rw [ncl (by omega), show t.1 58 (8 * nb + w) = _ from h.1.2.2.1 nb ok w (by omega)]
        exact k
theorem both_of {x y : Int32} {Q : Int32 → Int32 → Tt → Prop} (h : Rel t a) (K : KK Q) : Rt g (d + 300) mX7_of 0 [some (.ref 0), some (.int x), some (.int y)] [] t (QI (fun v t1 => Rt g (d + 300) mX8_of 0 [some (.ref 57), some (.int x), some (.int y)] [] t1 (QI (fun w t2 => Q v w t2)))) := by
  have hn := h.n7
  apply bX7_of_0
  by_cases hy : gd y 13
  · obtain ⟨w, hw, rfl⟩ := hy
    by_cases hw' : w < 11
    · have hin : ∀ {P : Int32 → Tt → Prop}, P 0 t → Rt g (d + 299) mX8_in 0 [some (.int (nI w)), some (.int 11), some (.int 12)] [] t (QI P) := fun {P} k => sr_in (fun q _ => by rw [show (11 : Int32) = nI 11 from rfl] at q; have := (nI_leI (by decide) (by omega)).mp q; omega) (fun _ => k)
      refine sp_noNumber (d := d + 296) h.pc hn (by omega) (fun ok => br_t rfl ?_) (fun ok => br_f (by decide) (qi ?_))
      · obtain ⟨nb, ok1, rfl⟩ := okX_N ok
        refine sp_now (d := d + 296) h.2.1 h.1 ok1 hw' (qi ?_)
        apply bX8_of_0
        refine hin (br_t rfl (sr_isOne (d := d + 296) h.pm hn hw' (fun _ => br_f (by decide) ?_) (fun q => absurd ok q)))
        exact sr_valueAt h.2.2 h.1 ok1 hw' (qi (K _ _ ⟨a, h⟩))
      · apply bX8_of_0
        exact hin (br_t rfl (sr_isOne (d := d + 296) h.pm hn hw' (fun q => absurd q ok) (fun _ => br_t rfl (qi (K _ _ ⟨a, h⟩)))))
    · have hw2 : w = 11 ∨ w = 12 := by omega
      have eok : okX x w (pn (aP a)) ↔ gd x (pn (aP a)) := by unfold okX; rw [if_neg (by omega), if_neg (by omega)]
      have hin : ∀ {P : Int32 → Tt → Prop}, P 1 t → Rt g (d + 299) mX8_in 0 [some (.int (nI w)), some (.int 11), some (.int 12)] [] t (QI P) := fun {P} k => sr_in (fun _ _ => k) (fun q => absurd ⟨nI_le (a := 11) (by omega) (by omega), nI_le (b := 12) (by omega) (by decide)⟩ q)
      refine sp_noNumber (d := d + 296) h.pc hn hw (fun ok => br_t rfl ?_) (fun ok => br_f (by decide) (qi ?_))
      · obtain ⟨p, hp, rfl⟩ := eok.mp ok
        apply bX7_numberNow_0
        refine br_f (wne (by omega) (by decide) (show w ≠ 8 by omega)) (br_f (wne (by omega) (by decide) (show w ≠ 9 by omega)) (br_f (wne (by omega) (by decide) (show w ≠ 10 by omega)) ?_))
        rcases hw2 with rfl | rfl
        · refine br_t rfl (sp_worthOf (d := d + 297) mo1 h.2.1.1 h.pw hp (qi (qi ?_)))
          apply bX8_of_0
          refine hin (br_f (by decide) (sr_isPerson_g h.pm hn ⟨p, hp, rfl⟩ (br_n (by decide) ?_)))
          refine sr_begin h (fun t3 r3 m3 => br_p rfl ?_)
          exact sr_worthOf m3 h.pw hp (qi (K _ _ ⟨a, r3⟩))
        · refine br_f (by decide) (br_t rfl ⟨vpn (by omega), qi (qi ?_)⟩)
          rw [ncl (by omega), show t.1 4 p = pl (aP a) p from h.2.1.1.2.2.2.2 p hp]
          apply bX8_of_0
          refine hin (br_f (by decide) (sr_isPerson_g h.pm hn ⟨p, hp, rfl⟩ (br_n (by decide) ?_)))
          refine sr_begin h (fun t3 r3 m3 => br_n (by decide) ⟨vpn (by omega), qi ?_⟩)
          rw [ncl (by omega), show t3.1 60 p = pl (aP a) p from r3.2.2.1.2.2.2.2 p hp]
          exact K _ _ ⟨a, r3⟩
      · apply bX8_of_0
        exact hin (br_f (by decide) (sr_isPerson_b h.pm hn (fun q => ok (eok.mpr q)) (br_p rfl (qi (K _ _ ⟨a, h⟩)))))
  · refine sp_noNumber_b (d := d + 296) hy (br_f (by decide) (qi ?_))
    apply bX8_of_0
    refine sr_in (fun q1 q2 => absurd ((gd_iff (by decide)).mpr ?_) hy) (fun _ => br_t rfl (sr_isOne_b (d := d + 296) (fun ⟨j, hj, e⟩ => hy ⟨j, by omega, e⟩) (br_t rfl (qi (K _ _ ⟨a, h⟩)))))
    rw [le_i] at q1 q2
    have e11 : (11 : Int32).toInt = 11 := rfl
    have e12 : (12 : Int32).toInt = 12 := rfl
    omega
end P56
