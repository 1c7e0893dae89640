/-! PURE LAYER: shift -/
section P61
variable {g : Gt} {d : Nat} {t t1 : Tt} {a : Aa}
def gdR (i n : Int32) (sz : Nat) : Prop := 0 ≤ i.toInt ∧ 0 ≤ n.toInt ∧ i.toInt + n.toInt ≤ sz
theorem sub_tI {m : Nat} {x : Int32} (hm : m ≤ 60) (hx : 0 ≤ x.toInt) : (nI m - x).toInt = (m : Int) - x.toInt := by
  obtain ⟨k, hk, rfl⟩ := nI_of (show ¬ x < 0 from by rw [lt_i, z_i]; omega)
  rw [Int32.toInt_sub, nI_toInt (by omega), nI_toInt hk]
  exact Int.bmod_eq_of_le (by omega) (by omega)
theorem sp_lacks {o sz : Nat} {i n : Int32} {P : Int32 → Tt → Prop} (ho : isSh o) (hz : t.1 o 1 = nI sz) (h60 : sz ≤ 60) (k1 : gdR i n sz → P 0 t) (k0 : ¬ gdR i n sz → P 1 t) : Rt g d mX6_lacks 0 [some (.ref o), some (.int i), some (.int n)] [] t (QI P) := by
  unfold gdR at k1 k0
  apply bX6_lacks_0 ho
  rw [hz]
  have ez : (nI sz).toInt = (sz : Int) := tI (by omega)
  refine ⟨fun c => bX6_lacks_18 (qi (k0 (fun q => ?_))), fun c => ⟨fun c2 => bX6_lacks_18 (qi (k0 (fun q => ?_))), fun c2 => ⟨fun c4 => qi (k1 ?_), fun c4 => bX6_lacks_18 (qi (k0 (fun q => ?_)))⟩⟩⟩
  · rw [lt_i, z_i] at c; omega
  · rw [lt_i, z_i] at c2; omega
  · rw [lt_i, z_i] at c c2
    rw [le_i, sub_tI h60 (by omega)] at c4
    omega
  · rw [lt_i, z_i] at c c2
    rw [le_i, sub_tI h60 (by omega)] at c4
    omega
def shfC (x : Sh) (s i o j n : Nat) : Nat → Int64 := fun k => if j ≤ k ∧ k < j + n then x.2 s (i + (k - j)) else x.2 o k
theorem sr_shift {s i o j n : Nat} {P : Int32 → Tt → Prop} (h : RF t a) (hw : AW a) (hs : s < 6) (ho : o < 6) (es : ((aH a).1 s).1 = 2) (eo : ((aH a).1 o).1 = 2) (hi : i + n ≤ ((aH a).1 s).2.2) (hj : j + n ≤ ((aH a).1 o).2.2)
    (k : ∀ t1, Fj MAl MAl t t1 → RF t1 (setH a (shP (aH a) o ((aH a).1 o) (shfC (aH a) s i o j n))) → P (nI n) t1) : Rt g (d + 1) mX8_shift 113 [some (.ref 57), some (.int (nI s)), some (.int (nI i)), some (.int (nI o)), some (.int (nI j)), some (.int (nI n)), some (.int 0)] [] t (QI P) := by
  have w7 := hw.2.2.2.2.2.2
  have sm : shM t (aH a) := h.2.2.2.2.2.2.2.2
  obtain ⟨r1, r2, r3⟩ := w_row w7 hs es
  obtain ⟨u1, u2, u3⟩ := w_row w7 ho eo
  have cs := (m_row sm hs es).2
  have co := (m_row sm ho eo).2
  have k2 : ∀ m q t2 t3, q + m = n → Fj (fun _ _ => False) (fun o' _ => o' = 92) t t2 → (∀ k, k < n → t2.2.1 92 k = t.2.1 91 (60 * s + i + k)) → Fj (fun _ _ => False) (fun o' j' => o' = 91 ∧ 60 * o + j ≤ j' ∧ j' < 60 * o + j + n) t2 t3 → (∀ k, k < q → t3.2.1 91 (60 * o + j + k) = t.2.1 91 (60 * s + i + k)) → Rt g (d + 1) mX8_shift 150 [some (.ref 57), none, none, some (.int (nI o)), some (.int (nI j)), some (.int (nI n)), some (.int (nI q))] [] t3 (QI P) := by
    intro m
    induction m with
    | zero =>
      intro q t2 t3 hq f2 e2 f3 e3
      have : q = n := by omega
      subst this
      apply bX8_shift_150
      refine br_t (nI_le (Nat.le_refl _) (by omega)) (qi ?_)
      have f23 : Fj (fun _ _ => False) (fun o' j' => (o' = 91 ∧ 60 * o + j ≤ j' ∧ j' < 60 * o + j + q) ∨ o' = 92) t t3 := (f2.mo (fun _ _ q => q) (fun _ _ q => Or.inr q)).tr (f3.mo (fun _ _ q => q) (fun _ _ q => Or.inl q))
      refine k t3 (f23.mo (fun o j q => q.elim) (fun o j q => by unfold MAl; omega)) (h.sh f23 (fun o j q => q.elim) (shP_M sm f23 ho (fun o j q => q.elim) (fun o j q => by omega) (Or.inr (Or.inr ⟨eo, ?_, ?_, fun k hk => ?_⟩))))
      · rw [f23.1 _ _ (fun q => q)]
        have := m_hold sm ho; rw [hM_2 eo] at this; exact this
      · rw [f23.1 _ _ (fun q => q)]; exact (m_row sm ho eo).1
      · unfold shfC
        by_cases c : j ≤ k ∧ k < j + q
        · rw [if_pos c]
          have := e3 (k - j) (by omega)
          rw [show 60 * o + j + (k - j) = 60 * o + k by omega, show 60 * s + i + (k - j) = 60 * s + (i + (k - j)) by omega, cs _ (by omega)] at this
          exact this
        · rw [if_neg c, f23.2.1 _ _ (by omega)]
          exact co k hk
    | succ m ih =>
      intro q t2 t3 hq f2 e2 f3 e3
      apply bX8_shift_150
      rw [show (60 : Int32) = nI 60 from rfl, pk_mul, nI_add, nI_add]
      refine br_f (nI_ge (by omega) (by omega)) ⟨vpn (by omega), vpn (by omega), ?_⟩
      rw [ncl (by omega), ncl (by omega), f3.2.1 92 _ (by omega), e2 q (by omega), nI_1]
      refine ih (q + 1) t2 _ (by omega) f2 e2 (f3.pJ _ (by omega)) (fun k hk => ?_)
      rw [pJ_a]
      by_cases c : k = q
      · rw [if_pos ⟨rfl, by omega⟩, c]
      · rw [if_neg (by omega)]; exact e3 k (by omega)
  have k1 : ∀ m q t2, q + m = n → Fj (fun _ _ => False) (fun o' _ => o' = 92) t t2 → (∀ k, k < q → t2.2.1 92 k = t.2.1 91 (60 * s + i + k)) → Rt g (d + 1) mX8_shift 113 [some (.ref 57), some (.int (nI s)), some (.int (nI i)), some (.int (nI o)), some (.int (nI j)), some (.int (nI n)), some (.int (nI q))] [] t2 (QI P) := by
    intro m
    induction m with
    | zero =>
      intro q t2 hq f2 e2
      have : q = n := by omega
      subst this
      apply bX8_shift_113
      exact br_t (nI_le (Nat.le_refl _) (by omega)) (k2 q 0 t2 t2 (Nat.zero_add _) f2 e2 (Fj.rf _ _ _) (fun k hk => absurd hk (by omega)))
    | succ m ih =>
      intro q t2 hq f2 e2
      apply bX8_shift_113
      rw [show (60 : Int32) = nI 60 from rfl, pk_mul, nI_add, nI_add]
      refine br_f (nI_ge (by omega) (by omega)) ⟨vpn (by omega), vpn (by omega), ?_⟩
      rw [ncl (by omega), ncl (by omega), f2.2.1 91 _ (by omega), nI_1]
      refine ih (q + 1) _ (by omega) (f2.pJ _ rfl) (fun k hk => ?_)
      rw [pJ_a]
      by_cases c : k = q
      · rw [if_pos ⟨rfl, c⟩, c]
      · rw [if_neg (fun w => c w.2)]; exact e2 k (by omega)
  exact k1 n 0 t (Nat.zero_add _) (Fj.rf _ _ _) (fun k hk => absurd hk (by omega))
theorem row_eq {w1 w2 : Nat} (h1 : w1 < 5) (h2 : w2 < 5) : (-2 - nI w1 : Int32) = -2 - nI w2 ↔ w1 = w2 := by
  have tab : ∀ k, k < 5 → ∀ l, l < 5 → ((-2 - nI k : Int32) = -2 - nI l ↔ k = l) := by decide
  exact tab w1 h1 w2 h2
theorem bod_row {b w : Nat} (hb : b < 50) (hw : w < 5) : ¬ (-2 - nI w : Int32) = nI b := by
  intro e
  have h1 := (sort2_tab w hw).1
  rw [e] at h1
  exact nI_pos (n := b) (by omega) h1
theorem sr_shX {s o : Nat} {y u v : Int32} {P : Int32 → Tt → Prop} (h : RF t a) (hw : AW a) (hs : s < 6) (ho : o < 6) (k0 : ((aH a).1 s).1 = 0 ∨ ((aH a).1 o).1 = 0 → P (-11) t)
    (k2 : ((aH a).1 s).1 ≠ 0 → ((aH a).1 o).1 ≠ 0 → ¬ (((aH a).1 s).1 = 2 ∧ ((aH a).1 o).1 = 2 ∧ ((aH a).1 s).2.1 = ((aH a).1 o).2.1) → P (-12) t)
    (k3 : ((aH a).1 s).1 = 2 → ((aH a).1 o).1 = 2 → ((aH a).1 s).2.1 = ((aH a).1 o).2.1 → ¬ (gdR y v ((aH a).1 s).2.2 ∧ gdR u v ((aH a).1 o).2.2) → P (-13) t)
    (k4 : ((aH a).1 s).1 = 2 → ((aH a).1 o).1 = 2 → ((aH a).1 s).2.1 = ((aH a).1 o).2.1 → gdR y v ((aH a).1 s).2.2 ∧ gdR u v ((aH a).1 o).2.2 → Rt g (d + 3) mX8_shift 113 [some (.ref 57), some (.int (nI s)), some (.int y), some (.int (nI o)), some (.int u), some (.int v), some (.int 0)] [] t (QI P)) : Rt g (d + 3) mX8_shift 0 [some (.ref 57), some (.int (nI s)), some (.int y), some (.int (nI o)), some (.int u), some (.int v), none] [] t (QI P) := by
  have w7 := hw.2.2.2.2.2.2
  have hb : (aB a).1 ≤ 50 := hw.2.2.2.2.2.1.1
  have sm : shM t (aH a) := h.2.2.2.2.2.2.2.2
  apply bX8_shift_0
  refine sr_isShelf_g ⟨s, hs, rfl⟩ (br_f (by decide) (sr_isShelf_g ⟨o, ho, rfl⟩ (br_n (by decide) ⟨vpn hs, ?_⟩)))
  have ns : (nI s).toNatClampNeg = s := ncl (by omega)
  have no : (nI o).toNatClampNeg = o := ncl (by omega)
  rw [ns, no, m_hold sm hs, m_hold sm ho]
  rcases w_kind w7 hs with e | e | e
  · rw [hM_0 e]; exact br_t rfl (qi (k0 (Or.inl e)))
  · have b1 := w_bod w7 hs e
    rw [hM_1 e]
    refine br_f (body_tab _ (by omega)).1 ⟨vpn ho, ?_⟩
    rcases w_kind w7 ho with e' | e' | e'
    · rw [hM_0 e']; exact br_p rfl (qi (k0 (Or.inr e')))
    · have b2 := w_bod w7 ho e'
      rw [hM_1 e']
      exact br_n (body_tab _ (by omega)).1 ⟨vpn hs, br_t (nI_pos' (by omega)) (qi (k2 (by omega) (by omega) (by omega)))⟩
    · obtain ⟨r1, r2, r3⟩ := w_row w7 ho e'
      rw [hM_2 e']
      exact br_n (sort_tab _ r1).1 ⟨vpn hs, br_t (nI_pos' (by omega)) (qi (k2 (by omega) (by omega) (by omega)))⟩
  · obtain ⟨r1, r2, r3⟩ := w_row w7 hs e
    rw [hM_2 e]
    refine br_f (sort_tab _ r1).1 ⟨vpn ho, ?_⟩
    have nn : ¬ 0 ≤ (-2 - nI ((aH a).1 s).2.1 : Int32) := fun q => by
      have := (sort2_tab _ r1).1
      rw [lt_i, z_i] at this; rw [le_i, z_i] at q; omega
    rcases w_kind w7 ho with e' | e' | e'
    · rw [hM_0 e']; exact br_p rfl (qi (k0 (Or.inr e')))
    · have b2 := w_bod w7 ho e'
      rw [hM_1 e']
      exact br_n (body_tab _ (by omega)).1 ⟨vpn hs, br_f nn ⟨vpn hs, vpn ho, br_f (bod_row (by omega) r1) (qi (k2 (by omega) (by omega) (by omega)))⟩⟩
    · obtain ⟨u1, u2, u3⟩ := w_row w7 ho e'
      rw [hM_2 e']
      refine br_n (sort_tab _ u1).1 ⟨vpn hs, br_f nn ⟨vpn hs, vpn ho, ?_⟩⟩
      by_cases eq : ((aH a).1 s).2.1 = ((aH a).1 o).2.1
      · have k3 := k3 e e' eq
        have k4 := k4 e e' eq
        unfold gdR at k3 k4
        rw [(m_row sm hs e).1, (m_row sm ho e').1]
        refine br_t ((row_eq r1 u1).mpr eq) ⟨fun c => qi (k3 (fun q => ?_)), fun c => ⟨fun c2 => qi (k3 (fun q => ?_)), fun c2 => ⟨fun c3 => qi (k3 (fun q => ?_)), fun c3 => ⟨vpn hs, fun c4 => qi (k3 (fun q => ?_)), fun c4 => ⟨vpn ho, fun c5 => k4 ?_, fun c5 => qi (k3 (fun q => ?_))⟩⟩⟩⟩⟩
        · rw [lt_i, z_i] at c; omega
        · rw [lt_i, z_i] at c2; omega
        · rw [lt_i, z_i] at c3; omega
        · rw [lt_i, z_i] at c c2 c3
          rw [lt_i, sub_tI r2 (by omega)] at c4
          omega
        · rw [lt_i, z_i] at c c2 c3
          rw [lt_i, sub_tI r2 (by omega)] at c4
          rw [le_i, sub_tI u2 (by omega)] at c5
          omega
        · rw [lt_i, z_i] at c c2 c3
          rw [le_i, sub_tI u2 (by omega)] at c5
          omega
      · exact br_f (fun q => eq ((row_eq r1 u1).mp q)) (qi (k2 (by omega) (by omega) (fun q => eq q.2.2)))
theorem both_shift {x y z u v : Int32} {Q : Int32 → Int32 → Tt → Prop} (h : Rel t a) (K : KK Q) : Rt g (d + 300) mX7_shift 0 [some (.ref 0), some (.int x), some (.int y), some (.int z), some (.int u), some (.int v), none, none] [] t (QI (fun v1 t1 => Rt g (d + 300) mX8_shift 0 [some (.ref 57), some (.int x), some (.int y), some (.int z), some (.int u), some (.int v), none] [] t1 (QI (fun w t2 => Q v1 w t2)))) := by
  have w7 := h.sw
  have hb : (aB a).1 ≤ 50 := h.1.2.2.2.2.2.1.1
  apply bX7_shift_0
  by_cases h1 : gd x 6
  · refine sp_noShelf_g h1 (br_p rfl ?_)
    by_cases h2 : gd z 6
    · refine sp_noShelf_g h2 (br_t rfl ?_)
      obtain ⟨s, hs, rfl⟩ := h1
      obtain ⟨o, ho, rfl⟩ := h2
      have ns : (nI s).toNatClampNeg = s := ncl (by omega)
      have no : (nI o).toNatClampNeg = o := ncl (by omega)
      refine ⟨vpn hs, vpn ho, ?_⟩
      rw [ns, no, c_hold h.sc hs, c_hold h.sc ho]
      have p11 : ((aH a).1 s).1 = 0 ∨ ((aH a).1 o).1 = 0 → Rt g (d + 300) mX8_shift 0 [some (.ref 57), some (.int (nI s)), some (.int y), some (.int (nI o)), some (.int u), some (.int v), none] [] t (QI (fun w t2 => Q (-11) w t2)) := fun q => sr_shX (d := d + 297) h.2.2 h.1 hs ho (fun _ => K _ _ ⟨a, h⟩) (fun q1 q2 _ => by omega) (fun q1 q2 _ _ => by omega) (fun q1 q2 _ _ => by omega)
      have p12 : ((aH a).1 s).1 ≠ 0 → ((aH a).1 o).1 ≠ 0 → ¬ (((aH a).1 s).1 = 2 ∧ ((aH a).1 o).1 = 2 ∧ ((aH a).1 s).2.1 = ((aH a).1 o).2.1) → Rt g (d + 300) mX8_shift 0 [some (.ref 57), some (.int (nI s)), some (.int y), some (.int (nI o)), some (.int u), some (.int v), none] [] t (QI (fun w t2 => Q (-12) w t2)) := fun q1 q2 q3 => sr_shX (d := d + 297) h.2.2 h.1 hs ho (fun q => by omega) (fun _ _ _ => K _ _ ⟨a, h⟩) (fun a1 a2 a3 _ => absurd ⟨a1, a2, a3⟩ q3) (fun a1 a2 a3 _ => absurd ⟨a1, a2, a3⟩ q3)
      have p13 : ((aH a).1 s).1 = 2 → ((aH a).1 o).1 = 2 → ((aH a).1 s).2.1 = ((aH a).1 o).2.1 → ¬ (gdR y v ((aH a).1 s).2.2 ∧ gdR u v ((aH a).1 o).2.2) → Rt g (d + 300) mX8_shift 0 [some (.ref 57), some (.int (nI s)), some (.int y), some (.int (nI o)), some (.int u), some (.int v), none] [] t (QI (fun w t2 => Q (-13) w t2)) := fun q1 q2 q3 q4 => sr_shX (d := d + 297) h.2.2 h.1 hs ho (fun q => by omega) (fun _ _ q => absurd ⟨q1, q2, q3⟩ q) (fun _ _ _ _ => K _ _ ⟨a, h⟩) (fun _ _ _ q => absurd q q4)
      rcases w_kind w7 hs with e | e | e
      · rw [hC_0 e]
        exact br_t rfl (qi (p11 (Or.inl e)))
      · rw [hC_1 e]
        refine br_f (by decide) ?_
        rcases w_kind w7 ho with e' | e' | e'
        · rw [hC_0 e']; exact br_p rfl (qi (p11 (Or.inr e')))
        · rw [hC_1 e']
          exact br_n (by decide) (br_t rfl (qi (p12 (by omega) (by omega) (by omega))))
        · obtain ⟨r1, r2, r3⟩ := w_row w7 ho e'
          rw [hC_2 e']
          exact br_n (row_ne r1).1 (br_t rfl (qi (p12 (by omega) (by omega) (by omega))))
      · obtain ⟨r1, r2, r3⟩ := w_row w7 hs e
        rw [hC_2 e]
        refine br_f (row_ne r1).1 ?_
        rcases w_kind w7 ho with e' | e' | e'
        · rw [hC_0 e']; exact br_p rfl (qi (p11 (Or.inr e')))
        · rw [hC_1 e']
          exact br_n (by decide) (br_f (row_ne r1).2 (br_f (row_ne r1).2 (qi (p12 (by omega) (by omega) (by omega)))))
        · obtain ⟨u1, u2, u3⟩ := w_row w7 ho e'
          rw [hC_2 e']
          refine br_n (row_ne u1).1 (br_f (row_ne r1).2 ?_)
          by_cases eq : ((aH a).1 s).2.1 = ((aH a).1 o).2.1
          · refine br_t (by rw [eq]) ?_
            refine sp_lacks (isSh_n hs) (c_row h.sc hs e).1 r2 (fun q1 => br_p rfl ?_) (fun q1 => br_n (by decide) (qi (p13 e e' eq (fun q => q1 q.1))))
            refine sp_lacks (isSh_n ho) (c_row h.sc ho e').1 u2 (fun q2 => br_t rfl ?_) (fun q2 => br_f (by decide) (qi (p13 e e' eq (fun q => q2 q.2))))
            have q1' := q1
            have q2' := q2
            unfold gdR at q1' q2'
            obtain ⟨i, hi, rfl⟩ := nI_of (show ¬ y < 0 from by rw [lt_i, z_i]; omega)
            obtain ⟨j, hj, rfl⟩ := nI_of (show ¬ u < 0 from by rw [lt_i, z_i]; omega)
            obtain ⟨n, hn, rfl⟩ := nI_of (show ¬ v < 0 from by rw [lt_i, z_i]; omega)
            rw [tI hi, tI hn] at q1'
            rw [tI hj, tI hn] at q2'
            have ni : (nI i).toNatClampNeg = i := ncl hi
            have nj : (nI j).toNatClampNeg = j := ncl hj
            have nn : (nI n).toNatClampNeg = n := ncl hn
            rw [ni, nj, nn]
            refine ⟨nI_pos hi, nI_pos hj, nI_pos hn, by omega, by omega, qi ?_⟩
            have f1 : Fj (fun _ _ => False) (fun o' _ => o' = 45 + 2 * o + 1) t (cJ t (45 + 2 * s + 1) (45 + 2 * o + 1) i j n) := (Fj.rf _ _ t).cJ (fun _ => rfl)
            have c1 : RC (cJ t (45 + 2 * s + 1) (45 + 2 * o + 1) i j n) (setH a (shP (aH a) o ((aH a).1 o) (shfC (aH a) s i o j n))) := by
              refine h.2.1.sh f1 (fun o j q => q.elim) (shP_C h.sc f1 ho (fun o j q => q.elim) (fun o j q => q) (Or.inr (Or.inr ⟨e', ?_, ?_, fun k hk => ?_⟩)))
              · have := c_hold h.sc ho; rw [hC_2 e'] at this; exact this
              · exact (c_row h.sc ho e').1
              · rw [cJ_s]
                unfold shfC
                by_cases c : j ≤ k ∧ k < j + n
                · rw [if_pos c, if_pos c]; exact (c_row h.sc hs e).2 _ (by omega)
                · rw [if_neg c, if_neg c]; exact (c_row h.sc ho e').2 k hk
            have g1 : RF (cJ t (45 + 2 * s + 1) (45 + 2 * o + 1) i j n) a := h.2.2.aj (f1.mo (fun o j q => q.elim) (fun o j q => by unfold CAl; omega))
            generalize cJ t (45 + 2 * s + 1) (45 + 2 * o + 1) i j n = t1 at c1 g1
            refine sr_shX (d := d + 297) g1 h.1 hs ho (fun q => by omega) (fun _ _ q => absurd ⟨e, e', eq⟩ q) (fun _ _ _ q => absurd ⟨q1, q2⟩ q) (fun _ _ _ _ => ?_)
            refine sr_shift (d := d + 299) g1 h.1 hs ho e e' (by omega) (by omega) (fun t2 f2 g2 => K _ _ ⟨_, ?_, c1.aj f2, g2⟩)
            obtain ⟨w1, w2, w3, w4, w5, w6, w7⟩ := h.1
            refine ⟨w1, w2, w3, w4, w5, w6, shP_W w7 (Or.inr (Or.inr ⟨e', u1, u2, fun e0 k hk => ?_⟩))⟩
            unfold shfC
            split
            · exact r3 (by omega) _ (by omega)
            · exact u3 e0 k hk
          · exact br_f (fun q => eq (nI_inj (by omega) (by omega) q)) (qi (p12 (by omega) (by omega) (fun q => eq q.2.2)))
    · refine sp_noShelf_b h2 (br_f (by decide) (qi ?_))
      exact bX8_shift_0 (sr_isShelf_g h1 (br_f (by decide) (sr_isShelf_b h2 (br_p rfl (qi (K _ _ ⟨a, h⟩))))))
  · refine sp_noShelf_b h1 (br_n (by decide) (qi ?_))
    exact bX8_shift_0 (sr_isShelf_b h1 (br_t rfl (qi (K _ _ ⟨a, h⟩))))
end P61
