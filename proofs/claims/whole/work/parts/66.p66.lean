/-! PURE LAYER: people -/
section P66
variable {g : Gt} {d : Nat} {t t1 : Tt} {a : Aa}
abbrev nineOk (c : Nat → Int64) (sz : Nat) (p : Int) : Prop := 0 ≤ p ∧ p + 9 ≤ (sz : Int) ∧ ∀ k, k < 8 → 0 ≤ ((c (p.toNat + 1 + k)).toInt32).toInt ∧ ((c (p.toNat + 1 + k)).toInt32).toInt < 10
def cpAt (c : Nat → Int64) (p : Nat) : Nat := ((c p).toInt32).toBitVec.toNat % 256
def flAt (c : Nat → Int64) (p : Nat) : Nat → Nat := fun k => ((c (p + 1 + k)).toInt32).toInt.toNat
def pplN (c : Nat → Int64) (sz : Nat) : Nat → Int → Pp → Nat × Pp
  | 0, _, b => (0, b)
  | m + 1, p, b => if pn b < 7 ∧ nineOk c sz p then ((pplN c sz m (p + 9) (addP b (cpAt c p.toNat) (flAt c p.toNat))).1 + 1, (pplN c sz m (p + 9) (addP b (cpAt c p.toNat) (flAt c p.toNat))).2) else (0, b)
theorem i_nat {x : Int32} (h : 0 ≤ x.toInt) : x = nI x.toInt.toNat := by
  obtain ⟨k, hk, rfl⟩ := nI_of (show ¬ x < 0 from by rw [lt_i, z_i]; omega)
  rw [tI hk]
  rfl
theorem cp_e (c : Nat → Int64) (p : Nat) : (c p).toInt32 &&& 255 = nI (cpAt c p) := pk_and _ 8 rfl
theorem cp_lt (c : Nat → Int64) (p : Nat) : cpAt c p < 256 := Nat.mod_lt _ (by decide)
theorem fl_e {c : Nat → Int64} {sz : Nat} {p : Nat} (h : nineOk c sz (p : Int)) {k : Nat} (hk : k < 8) : (c (p + 1 + k)).toInt32 = nI (flAt c p k) ∧ flAt c p k ≤ 9 := by
  have := h.2.2 k hk
  rw [Int.toNat_natCast] at this
  refine ⟨i_nat this.1, ?_⟩
  unfold flAt
  omega
theorem AW.came (h : AW a) (hn : pn (aP a) < 7) {c : Nat → Int64} {sz p : Nat} (hk : nineOk c sz (p : Int)) : AW (setP a (addP (aP a) (cpAt c p) (flAt c p))) := h.add hn (cp_lt c p) (fun k hk' => (fl_e hk hk').2)
theorem sp_isNine {s sz : Nat} {x : Int32} {c : Nat → Int64} {P : Int32 → Tt → Prop} (hs : s < 6) (h60 : sz ≤ 60) (hz : t.1 (45 + 2 * s) 1 = nI sz) (hc : ∀ i, i < 60 → t.2.1 (45 + 2 * s + 1) i = c i) (k1 : nineOk c sz x.toInt → P 1 t) (k0 : ¬ nineOk c sz x.toInt → P 0 t) : Rt g (d + 1) mX7_isNine 0 [some (.ref (45 + 2 * s)), some (.int x), none] [] t (QI P) := by
  apply bX7_isNine_0 (isSh_n hs)
  have e9 : (nI sz - 8 - 1).toInt = (sz : Int) - 9 := by
    rw [show nI sz - 8 - 1 = nI sz - 9 from by rw [Int32.sub_sub]; rfl, show (9 : Int32) = nI 9 from rfl, pk_sub_toInt (by omega) (by decide)]
    rfl
  rw [hz]
  refine ⟨fun q => qi (k0 (fun w => ?_)), fun q => ⟨fun q2 => ?_, fun q2 => qi (k0 (fun w => ?_))⟩⟩
  · rw [lt_i, z_i] at q; have := w.1; omega
  · rw [le_i, e9] at q2
    obtain ⟨p, hp, rfl⟩ := nI_of q
    rw [tI hp] at q2 k1 k0
    have key : ∀ m i, i + m = 8 → (∀ k, k < i → 0 ≤ ((c (p + 1 + k)).toInt32).toInt ∧ ((c (p + 1 + k)).toInt32).toInt < 10) → Rt g (d + 1) mX7_isNine 21 [some (.ref (45 + 2 * s)), some (.int (nI p)), some (.int (nI (i + 1)))] [] t (QI P) := by
      intro m
      induction m with
      | zero =>
        intro i hi hk
        have : i = 8 := by omega
        subst this
        apply bX7_isNine_21 (isSh_n hs)
        refine br_t (nI_lt (a := 8) (by omega) (by decide)) (qi (k1 ⟨by omega, by omega, fun k hk' => ?_⟩))
        rw [Int.toNat_natCast]
        exact hk k hk'
      | succ m ih =>
        intro i hi hk
        apply bX7_isNine_21 (isSh_n hs)
        rw [nI_add]
        refine br_f (nI_nlt (a := 8) (by omega) (by decide)) ⟨vpn (by omega), ?_⟩
        rw [ncl (by omega), hc _ (by omega), show p + (i + 1) = p + 1 + i by omega]
        by_cases hg : gd ((c (p + 1 + i)).toInt32) 10
        · refine sp_out_g (n := 10) rfl (by decide) hg (br_t rfl ?_)
          rw [nI_1]
          refine ih (i + 1) (by omega) (fun k hk' => ?_)
          by_cases e : k = i
          · rw [e]; exact (gd_iff (by decide)).mp hg
          · exact hk k (by omega)
        · refine sp_out_b (n := 10) rfl (by decide) hg (br_f (by decide) (qi (k0 (fun w => hg ((gd_iff (by decide)).mpr ?_)))))
          have := w.2.2 i (by omega)
          rw [Int.toNat_natCast] at this
          exact this
    exact key 8 0 rfl (fun k hk => absurd hk (by omega))
  · rw [le_i, e9] at q2
    have := w.2.1
    omega
theorem sp_newc {c : Nat} {P : Int32 → Tt → Prop} (h : t.1 1 0 = nI (pn (aP a))) (hn : pn (aP a) < 7) (k : ∀ t', Fr (fun o j => (o = 1 ∧ j = 0) ∨ (o = 3 ∧ j = pn (aP a)) ∨ (o = 4 ∧ j = pn (aP a))) t t' → t'.1 1 0 = nI (pn (aP a) + 1) → t'.1 3 (pn (aP a)) = nI c → t'.1 4 (pn (aP a)) = 0 → P (nI (pn (aP a))) t') : Rt g d mX5_newcomer 0 [some (.ref 1), some (.int (nI c)), none] [] t (QI P) := by
  apply bX5_newcomer_0 mo1
  intro z1 e1
  rw [h] at e1
  subst e1
  refine ⟨vpn hn, vpn hn, qi ?_⟩
  have e0 : (pI (pI t (1 + 2) (nI (pn (aP a))).toNatClampNeg (nI c)) (1 + 3) (nI (pn (aP a))).toNatClampNeg 0).1 1 0 + 1 = nI (pn (aP a) + 1) := by
    rw [pI_o _ _ _ _ (by decide), pI_o _ _ _ _ (by decide), h, nI_1]
  rw [e0, ncl (by omega)]
  refine k _ ?_ ?_ ?_ ?_
  · exact (((Fr.rf _ t).pI _ (Or.inr (Or.inl ⟨rfl, rfl⟩))).pI _ (Or.inr (Or.inr ⟨rfl, rfl⟩))).pI _ (Or.inl ⟨rfl, rfl⟩)
  · exact pI_s _ _ _ _
  · rw [pI_o _ _ _ _ (by decide), pI_o _ _ _ _ (by decide)]; exact pI_s _ _ _ _
  · rw [pI_o _ _ _ _ (by decide)]; exact pI_s _ _ _ _
theorem sp_comeFrom {s sz p : Nat} {c : Nat → Int64} {P : Tt → Prop} (h : RC t a) (hs : s < 6) (h60 : sz ≤ 60) (hn : pn (aP a) < 7) (hc : ∀ i, i < 60 → t.2.1 (45 + 2 * s + 1) i = c i) (hk : nineOk c sz (p : Int)) (k : ∀ t', Fr (fun o _ => 1 ≤ o ∧ o ≤ 4) t t' → RC t' (setP a (addP (aP a) (cpAt c p) (flAt c p))) → P t') : Rt g (d + 1) mX7_comeFrom 0 [some (.ref 0), some (.ref (45 + 2 * s)), some (.int (nI p)), none, none] [] t (QV P) := by
  have hp9 : p + 9 ≤ 60 := by have := hk.2.1; omega
  apply bX7_comeFrom_0 (isSh_n hs)
  refine ⟨vpn (by omega), ?_⟩
  rw [ncl (by omega), hc p (by omega), cp_e]
  refine sp_newc h.1.1 hn (fun t0 f0 e1 e2 e3 => ?_)
  have key : ∀ m i t2, i + m = 8 → Fr (fun o j => o = 2 ∧ 8 * pn (aP a) ≤ j) t0 t2 → (∀ k, k < i → t2.1 2 (8 * pn (aP a) + k) = nI (flAt c p k)) → Rt g (d + 1) mX7_comeFrom 22 [some (.ref 0), some (.ref (45 + 2 * s)), some (.int (nI p)), some (.int (nI (pn (aP a)))), some (.int (nI i))] [] t2 (QV P) := by
    intro m
    induction m with
    | zero =>
      intro i t2 hi f2 e4
      have : i = 8 := by omega
      subst this
      apply bX7_comeFrom_22 (isSh_n hs)
      refine br_t (nI_le (a := 8) (by omega) (by decide)) (qv (k t2 ?_ (h.came f0 e1 e2 e3 f2 e4)))
      exact (f0.mo (fun o j q => by omega)).tr (f2.mo (fun o j q => by omega))
    | succ m ih =>
      intro i t2 hi f2 e4
      apply bX7_comeFrom_22 (isSh_n hs)
      have e2c : ∀ q, t2.2.1 q = t.2.1 q := fun q => by rw [f2.2, f0.2]
      rw [ix8, nI_1, nI_add, e2c]
      refine br_f (nI_ge (b := 8) (by omega) (by decide)) ⟨vpn (by omega), vpn (by omega), ?_⟩
      rw [ncl (by omega), ncl (by omega), hc _ (by omega), (fl_e hk (show i < 8 by omega)).1, nI_1]
      refine ih (i + 1) _ (by omega) (f2.pI _ ⟨rfl, by omega⟩) (fun k hk => ?_)
      rw [pI_a]
      by_cases e : k = i
      · rw [if_pos ⟨rfl, by omega⟩, e]
      · rw [if_neg (by omega)]; exact e4 k (by omega)
  exact key 8 0 t0 rfl (Fr.rf _ _) (fun k hk => absurd hk (by omega))
theorem sp_ppl {s sz n : Nat} {c : Nat → Int64} {P : Int32 → Tt → Prop} (hs : s < 6) (h60 : sz ≤ 60) (hn7 : n ≤ 7) : ∀ m q x t b, q + m = n → RC t (setP a b) → AW (setP a b) → RF t a → t.1 (45 + 2 * s) 1 = nI sz → (∀ i, i < 60 → t.2.1 (45 + 2 * s + 1) i = c i) → (∀ t', RC t' (setP a (pplN c sz m x.toInt b).2) → AW (setP a (pplN c sz m x.toInt b).2) → RF t' a → P (nI (q + (pplN c sz m x.toInt b).1)) t') → Rt g (d + 3) mX7_people 57 [some (.ref 0), none, none, some (.int (nI n)), some (.ref (45 + 2 * s)), some (.int (nI q)), some (.int x)] [] t (QI P) := by
  intro m
  induction m with
  | zero =>
    intro q x t b hq r w g0 hz hc k
    have : q = n := by omega
    subst this
    apply bX7_people_57 (isSh_n hs)
    exact br_t (nI_le (Nat.le_refl _) (by omega)) (qi (k t r w g0))
  | succ m ih =>
    intro q x t b hq r w g0 hz hc k
    have ep : t.1 1 0 = nI (pn b) := r.1.1
    have hb7 : pn b ≤ 7 := w.1.1
    have es : pplN c sz (m + 1) x.toInt b = if pn b < 7 ∧ nineOk c sz x.toInt then ((pplN c sz m (x.toInt + 9) (addP b (cpAt c x.toInt.toNat) (flAt c x.toInt.toNat))).1 + 1, (pplN c sz m (x.toInt + 9) (addP b (cpAt c x.toInt.toNat) (flAt c x.toInt.toNat))).2) else (0, b) := rfl
    rw [es] at k
    apply bX7_people_57 (isSh_n hs)
    rw [ep]
    refine br_f (nI_ge (by omega) (by omega)) ?_
    by_cases h7 : pn b < 7
    · refine br_f (nI_ge (b := 7) h7 (by decide)) ?_
      refine sp_isNine hs h60 hz hc (fun hk => br_f (by decide) ?_) (fun hk => br_t rfl (qi ?_))
      · rw [if_pos ⟨h7, hk⟩] at k
        obtain ⟨p, hp, rfl⟩ := nI_of (show ¬ x < 0 from by rw [lt_i, z_i]; have := hk.1; omega)
        rw [tI hp] at hk k
        have hp9 := hk.2.1
        refine sp_comeFrom (d := d + 1) (a := setP a b) r hs h60 h7 hc hk (fun t2 f2 r2 => ?_)
        rw [nI_1, show (9 : Int32) = nI 9 from rfl, nI_add]
        refine ih (q + 1) (nI (p + 9)) t2 (addP b (cpAt c p) (flAt c p)) (by omega) r2 (AW.came (a := setP a b) w h7 hk) (g0.al (f2.mo (fun o j q => by unfold CAl; omega))) ((f2.1 _ _ (by omega)).trans hz) (fun i hi => by rw [f2.2]; exact hc i hi) ?_
        rw [tI (by omega), Nat.add_assoc, Nat.add_comm 1]
        rw [Int.toNat_natCast] at k
        exact k
      · rw [if_neg (fun q => hk q.2)] at k
        exact k t r w g0
    · rw [if_neg (fun q => h7 q.1)] at k
      exact br_t (nI_le (a := 7) (by omega) (by omega)) (qi (k t r w g0))
theorem sr_isMouth {s p : Nat} {c : Nat → Int64} {P : Int32 → Tt → Prop} (hs : s < 6) (hp : p + 9 ≤ 60) (hc : ∀ i, i < 60 → t.2.1 91 (60 * s + i) = c i) (k1 : (∀ k, k < 8 → 0 ≤ ((c (p + 1 + k)).toInt32).toInt ∧ ((c (p + 1 + k)).toInt32).toInt < 10) → P 1 t) (k0 : ¬ (∀ k, k < 8 → 0 ≤ ((c (p + 1 + k)).toInt32).toInt ∧ ((c (p + 1 + k)).toInt32).toInt < 10) → P 0 t) : Rt g (d + 1) mX8_isMouth 0 [some (.ref 57), some (.int (nI s)), some (.int (nI p)), none] [] t (QI P) := by
  apply bX8_isMouth_0
  have key : ∀ m i, i + m = 8 → (∀ k, k < i → 0 ≤ ((c (p + 1 + k)).toInt32).toInt ∧ ((c (p + 1 + k)).toInt32).toInt < 10) → Rt g (d + 1) mX8_isMouth 2 [some (.ref 57), some (.int (nI s)), some (.int (nI p)), some (.int (nI (i + 1)))] [] t (QI P) := by
    intro m
    induction m with
    | zero =>
      intro i hi hk
      have : i = 8 := by omega
      subst this
      apply bX8_isMouth_2
      exact br_t (nI_lt (a := 8) (by omega) (by decide)) (qi (k1 hk))
    | succ m ih =>
      intro i hi hk
      apply bX8_isMouth_2
      rw [show (60 : Int32) = nI 60 from rfl, pk_mul, nI_add, nI_add]
      refine br_f (nI_nlt (a := 8) (by omega) (by decide)) ⟨vpn (by omega), ?_⟩
      rw [ncl (by omega), show 60 * s + p + (i + 1) = 60 * s + (p + 1 + i) by omega, hc _ (by omega)]
      by_cases hg : gd ((c (p + 1 + i)).toInt32) 10
      · refine sr_in_g (n := 10) rfl (by decide) hg (br_n (by decide) ?_)
        rw [nI_1]
        refine ih (i + 1) (by omega) (fun k hk' => ?_)
        by_cases e : k = i
        · rw [e]; exact (gd_iff (by decide)).mp hg
        · exact hk k (by omega)
      · exact sr_in_b (n := 10) rfl (by decide) hg (br_p rfl (qi (k0 (fun w => hg ((gd_iff (by decide)).mpr (w i (by omega)))))))
  exact key 8 0 rfl (fun k hk => absurd hk (by omega))
theorem z2_e {y : Int32} {q : Nat} (hq : q ≤ 7) : (y.toInt64 + (9 * nI q).toInt64).toInt = y.toInt + 9 * q := by
  have h1 := Int32.le_toInt y
  have h2 := Int32.toInt_lt y
  rw [show (9 : Int32) = nI 9 from rfl, pk_mul, Int64.toInt_add, Int32.toInt_toInt64, Int32.toInt_toInt64, tI (by omega)]
  rw [Int.bmod_eq_of_le (by omega) (by omega)]
  omega
theorem sr_ppl {s sz n : Nat} {y : Int32} {c : Nat → Int64} {P : Int32 → Tt → Prop} (hs : s < 6) (h60 : sz ≤ 60) (hn7 : n ≤ 7) : ∀ m q t b, q + m = n → RF t (setP a b) → AW (setP a b) → t.1 90 s = nI sz → (∀ i, i < 60 → t.2.1 91 (60 * s + i) = c i) → (∀ t', Fr MAl t t' → RF t' (setP a (pplN c sz m (y.toInt + 9 * q) b).2) → P (nI (q + (pplN c sz m (y.toInt + 9 * q) b).1)) t') → Rt g (d + 3) mX8_people 58 [some (.ref 57), some (.int (nI s)), some (.int y), some (.int (nI n)), some (.int (nI q)), none, none, none] [] t (QI P) := by
  intro m
  induction m with
  | zero =>
    intro q t b hq r w hz hc k
    have : q = n := by omega
    subst this
    apply bX8_people_58
    exact br_t (nI_le (Nat.le_refl _) (by omega)) (qi (k t (Fr.rf _ _) r))
  | succ m ih =>
    intro q t b hq r w hz hc k
    have em : t.1 57 1 = nI (pn b) := r.1.1
    have hb7 : pn b ≤ 7 := w.1.1
    have es : pplN c sz (m + 1) (y.toInt + 9 * q) b = if pn b < 7 ∧ nineOk c sz (y.toInt + 9 * q) then ((pplN c sz m (y.toInt + 9 * q + 9) (addP b (cpAt c (y.toInt + 9 * q).toNat) (flAt c (y.toInt + 9 * q).toNat))).1 + 1, (pplN c sz m (y.toInt + 9 * q + 9) (addP b (cpAt c (y.toInt + 9 * q).toNat) (flAt c (y.toInt + 9 * q).toNat))).2) else (0, b) := rfl
    rw [es] at k
    have stop : ¬ (pn b < 7 ∧ nineOk c sz (y.toInt + 9 * q)) → P (nI q) t := by
      intro hb
      rw [if_neg hb] at k
      exact k t (Fr.rf _ _) r
    apply bX8_people_58
    refine br_f (nI_ge (by omega) (by omega)) ?_
    intro z2 e2
    have ez : z2.toInt = y.toInt + 9 * q := by rw [e2]; exact z2_e (by omega)
    clear e2
    refine ⟨fun q1 => qi (stop (fun w => ?_)), fun q1 => ⟨vpn hs, fun q2 => qi (stop (fun w => ?_)), fun q2 => ?_⟩⟩
    · rw [lt_l, ez, show (0 : Int64).toInt = 0 from rfl] at q1
      have := w.2.1
      omega
    · rw [ncl (by omega), hz, le_l, nI_64 (by omega), Int64.toInt_add, ez, show (8 : Int64).toInt = 8 from rfl, Int.bmod_eq_of_le (by have := w.2.1; omega) (by have := w.2.2.1; omega)] at q2
      have := w.2.2.1
      omega
    · rw [lt_l, ez, show (0 : Int64).toInt = 0 from rfl] at q1
      have hy1 := Int32.le_toInt y
      have hy2 := Int32.toInt_lt y
      rw [ncl (by omega), hz, le_l, nI_64 (by omega), Int64.toInt_add, ez, show (8 : Int64).toInt = 8 from rfl, Int.bmod_eq_of_le (by omega) (by omega)] at q2
      obtain ⟨p, hp⟩ : ∃ p : Nat, y.toInt + 9 * q = (p : Int) := ⟨(y.toInt + 9 * q).toNat, by omega⟩
      have hp9 : p + 9 ≤ sz := by omega
      have e32 : z2.toInt32 = nI p := by
        apply Int32.toInt_inj.mp
        rw [Int64.toInt_toInt32, ez, hp, tI (by omega)]
        exact Int.bmod_eq_of_le (by omega) (by omega)
      rw [hp] at k stop
      rw [em, e32]
      by_cases h7 : pn b < 7
      · refine br_f (fun w => by have := nI_inj (b := 7) (by omega) (by decide) w; omega) ?_
        refine sr_isMouth hs (by omega) hc (fun hk => br_n (by decide) ?_) (fun hk => br_p rfl (qi (stop (fun w => hk ?_))))
        · have hk9 : nineOk c sz (p : Int) := ⟨by omega, by omega, by rw [Int.toNat_natCast]; exact hk⟩
          rw [if_pos ⟨h7, hk9⟩, Int.toNat_natCast] at k
          have key : ∀ m' i t2, i + m' = 8 → Fr (fun o j => o = 58 ∧ 8 * pn b ≤ j) t t2 → (∀ k, k < i → t2.1 58 (8 * pn b + k) = nI (flAt c p k)) → Rt g (d + 3) mX8_people 125 [some (.ref 57), some (.int (nI s)), some (.int y), some (.int (nI n)), some (.int (nI q)), some (.long z2), none, some (.int (nI i))] [] t2 (QI P) := by
            intro m'
            induction m' with
            | zero =>
              intro i t2 hi f2 e4
              have : i = 8 := by omega
              subst this
              apply bX8_people_125
              have em2 : t2.1 57 1 = nI (pn b) := (f2.1 _ _ (by omega)).trans em
              have ec : t2.2.1 = t.2.1 := by rw [f2.2]
              rw [e32, show (60 : Int32) = nI 60 from rfl, pk_mul, nI_add, em2, ec]
              have n1 : (nI (60 * s + p)).toNatClampNeg = 60 * s + p := ncl (by omega)
              have n2 : (nI (pn b)).toNatClampNeg = pn b := ncl (by omega)
              rw [n1, n2, hc p (by omega), cp_e]
              have em3 : (pI t2 59 (pn b) (nI (cpAt c p))).1 57 1 = nI (pn b) := by rw [pI_o _ _ _ _ (by decide)]; exact em2
              rw [em3, n2]
              have em4 : (pI (pI t2 59 (pn b) (nI (cpAt c p))) 60 (pn b) 0).1 57 1 = nI (pn b) := by rw [pI_o _ _ _ _ (by decide)]; exact em3
              rw [em4, nI_1, nI_1]
              refine br_t (nI_le (a := 8) (by omega) (by decide)) ⟨vpn (by omega), vpn h7, vpn h7, ?_⟩
              generalize e5 : pI (pI (pI t2 59 (pn b) (nI (cpAt c p))) 60 (pn b) 0) 57 1 (nI (pn b + 1)) = t5
              have f3 : Fr (fun o j => (o = 57 ∧ j = 1) ∨ (o = 59 ∧ j = pn b) ∨ (o = 60 ∧ j = pn b) ∨ (o = 58 ∧ 8 * pn b ≤ j)) t t5 := by
                rw [← e5]
                exact (((f2.mo (fun o j q => Or.inr (Or.inr (Or.inr q)))).pI _ (Or.inr (Or.inl ⟨rfl, rfl⟩))).pI _ (Or.inr (Or.inr (Or.inl ⟨rfl, rfl⟩)))).pI _ (Or.inl ⟨rfl, rfl⟩)
              have r5 : RF t5 (setP a (addP b (cpAt c p) (flAt c p))) := by
                refine RF.came (a := setP a b) r f3 ?_ ?_ ?_ ?_
                · rw [← e5]; exact pI_s _ _ _ _
                · rw [← e5, pI_o _ _ _ _ (by decide), pI_o _ _ _ _ (by decide)]; exact pI_s _ _ _ _
                · rw [← e5, pI_o _ _ _ _ (by decide)]; exact pI_s _ _ _ _
                · intro k hk
                  rw [← e5, pI_o _ _ _ _ (by decide), pI_o _ _ _ _ (by decide), pI_o _ _ _ _ (by decide)]
                  exact e4 k hk
              have fM : Fr MAl t t5 := f3.mo (fun o j q => by unfold MAl; omega)
              refine ih (q + 1) t5 (addP b (cpAt c p) (flAt c p)) (by omega) r5 (AW.came (a := setP a b) w h7 hk9) ((f3.1 _ _ (by omega)).trans hz) (fun i hi => by rw [f3.2]; exact hc i hi) (fun t6 f6 r6 => ?_)
              have e9 : y.toInt + 9 * ((q + 1 : Nat) : Int) = (p : Int) + 9 := by omega
              rw [e9] at r6 ⊢
              have := k t6 (fM.tr f6) r6
              rw [show q + ((pplN c sz m (↑p + 9) (addP b (cpAt c p) (flAt c p))).1 + 1) = q + 1 + (pplN c sz m (↑p + 9) (addP b (cpAt c p) (flAt c p))).1 by omega] at this
              exact this
            | succ m' ih' =>
              intro i t2 hi f2 e4
              apply bX8_people_125
              have em2 : t2.1 57 1 = nI (pn b) := (f2.1 _ _ (by omega)).trans em
              have ec : t2.2.1 = t.2.1 := by rw [f2.2]
              rw [e32, show (60 : Int32) = nI 60 from rfl, pk_mul, nI_add, nI_1 (60 * s + p), nI_add, em2, ec, ix8']
              refine br_f (nI_ge (b := 8) (by omega) (by decide)) ⟨vpn (by omega), vpn (by omega), ?_⟩
              rw [ncl (by omega), ncl (by omega), show 60 * s + p + 1 + i = 60 * s + (p + 1 + i) by omega, hc _ (by omega), (fl_e hk9 (show i < 8 by omega)).1, nI_1]
              refine ih' (i + 1) _ (by omega) (f2.pI _ ⟨rfl, by omega⟩) (fun k hk => ?_)
              rw [pI_a]
              by_cases e : k = i
              · rw [if_pos ⟨rfl, by omega⟩, e]
              · rw [if_neg (by omega)]; exact e4 k (by omega)
          exact key 8 0 t rfl (Fr.rf _ _) (fun k hk => absurd hk (by omega))
        · have := w.2.2.2
          rw [Int.toNat_natCast] at this
          exact this
      · exact br_t (by rw [show pn b = 7 by omega]; rfl) (qi (stop (fun w => h7 w.1)))
theorem both_people {x y z : Int32} {Q : Int32 → Int32 → Tt → Prop} (h : Rel t a) (K : KK Q) : Rt g (d + 300) mX7_people 0 [some (.ref 0), some (.int x), some (.int y), some (.int z), none, none, none] [] t (QI (fun v t1 => Rt g (d + 300) mX8_people 0 [some (.ref 57), some (.int x), some (.int y), some (.int z), none, none, none, none] [] t1 (QI (fun w t2 => Q v w t2)))) := by
  have w7 := h.sw
  have hb50 : (aB a).1 ≤ 50 := h.1.2.2.2.2.2.1.1
  apply bX7_people_0
  by_cases h1 : gd x 6
  · refine sp_noShelf_g h1 (br_p rfl ?_)
    have badn : ¬ (1 ≤ z ∧ z ≤ 7) → Rt g (d + 300) mX8_people 0 [some (.ref 57), some (.int x), some (.int y), some (.int z), none, none, none, none] [] t (QI (fun w t2 => Q (-1) w t2)) := fun hz => bX8_people_0 (sr_isShelf_g h1 (br_f (by decide) (sr_in (fun q1 q2 => absurd ⟨q1, q2⟩ hz) (fun _ => br_p rfl (qi (K _ _ ⟨a, h⟩))))))
    refine ⟨fun c => qi (badn (fun q => ?_)), fun c => ⟨fun c2 => ?_, fun c2 => qi (badn (fun q => c2 q.2))⟩⟩
    · rw [lt_i] at c; have := q.1; rw [le_i] at this; omega
    · have hz1 : 1 ≤ z := by rw [lt_i] at c; rw [le_i]; omega
      obtain ⟨s, hs, rfl⟩ := h1
      have ns : (nI s).toNatClampNeg = s := ncl (by omega)
      obtain ⟨n, hn, rfl⟩ := nI_of (show ¬ z < 0 from by rw [lt_i] at c ⊢; rw [show (1 : Int32).toInt = 1 from rfl] at c; rw [z_i]; omega)
      have hn7 : n ≤ 7 := (nI_leI (b := 7) hn (by decide)).mp c2
      have ref : ∀ {P : Int32 → Tt → Prop} t1, RF t1 a → (hM ((aH a).1 s) = -1 → P 0 t1) → (hM ((aH a).1 s) ≠ -1 → hM ((aH a).1 s) ≠ -2 → P (-12) t1) → (hM ((aH a).1 s) ≠ -1 → hM ((aH a).1 s) = -2 → Rt g (d + 300) mX8_people 58 [some (.ref 57), some (.int (nI s)), some (.int y), some (.int (nI n)), some (.int 0), none, none, none] [] t1 (QI P)) → Rt g (d + 300) mX8_people 0 [some (.ref 57), some (.int (nI s)), some (.int y), some (.int (nI n)), none, none, none, none] [] t1 (QI P) := by
        intro P t1 g1 k0 k1 k2
        have eh := m_hold g1.2.2.2.2.2.2.2.2 hs
        apply bX8_people_0
        refine sr_isShelf_g ⟨s, hs, rfl⟩ (br_f (by decide) (sr_in (fun _ _ => br_n (by decide) ⟨vpn hs, ?_⟩) (fun q => absurd ⟨hz1, c2⟩ q)))
        rw [ns, eh]
        refine ⟨fun e => bX8_people_43 ⟨vpn hs, ?_⟩, fun e => ⟨vpn hs, fun e2 => bX8_people_43 ⟨vpn hs, ?_⟩, fun e2 => qi (k1 e e2)⟩⟩
        · rw [ns, eh]; exact br_p e (qi (k0 e))
        · rw [ns, eh]; exact br_n e (k2 e e2)
      refine ⟨vpn hs, ?_⟩
      rw [ns, c_hold h.sc hs]
      rcases w_kind w7 hs with e | e | e
      · rw [hC_0 e]
        refine br_p rfl (qi ?_)
        exact ref t h.2.2 (fun _ => K _ _ ⟨a, h⟩) (fun q _ => absurd (hM_0 e) q) (fun q _ => absurd (hM_0 e) q)
      · have hb := w_bod w7 hs e
        rw [hC_1 e]
        refine br_n (by decide) (br_f (by decide) (qi ?_))
        rw [hM_1 e] at ref
        exact ref t h.2.2 (fun q => absurd q (body_tab _ (by omega)).1) (fun _ _ => K _ _ ⟨a, h⟩) (fun _ q => absurd q (body_tab _ (by omega)).2)
      · obtain ⟨r1, r2, r3⟩ := w_row w7 hs e
        rw [hC_2 e]
        rw [hM_2 e] at ref
        refine br_n (row_ne r1).1 ?_
        by_cases h0 : ((aH a).1 s).2.1 = 0
        · refine br_t (by rw [h0]; rfl) ?_
          refine sp_ppl (d := d + 297) (a := a) hs r2 hn7 n 0 y t (aP a) (Nat.zero_add _) h.2.1 h.1 h.2.2 (c_row h.sc hs e).1 (c_row h.sc hs e).2 (fun t1 c1 wA g1 => ?_)
          refine ref t1 g1 (fun q => absurd q (sort_tab _ r1).1) (fun _ q => absurd ((sort_tab _ r1).2.mpr h0) q) (fun _ _ => ?_)
          have sm1 : shM t1 (aH a) := g1.2.2.2.2.2.2.2.2
          refine sr_ppl (d := d + 297) (a := a) hs r2 hn7 n 0 t1 (aP a) (Nat.zero_add _) g1 h.1 (m_row sm1 hs e).1 (m_row sm1 hs e).2 (fun t2 f2 g2 => ?_)
          have e0 : y.toInt + 9 * ((0 : Nat) : Int) = y.toInt := by omega
          rw [e0] at g2 ⊢
          exact K _ _ ⟨_, wA, c1.al f2, g2⟩
        · refine br_f (fun q => h0 (nI_inj (b := 0) (by omega) (by decide) q)) (qi ?_)
          exact ref t h.2.2 (fun q => absurd q (sort_tab _ r1).1) (fun _ _ => K _ _ ⟨a, h⟩) (fun _ q => absurd ((sort_tab _ r1).2.mp q) h0)
  · refine sp_noShelf_b h1 (br_n (by decide) (qi ?_))
    exact bX8_people_0 (sr_isShelf_b h1 (br_t rfl (qi (K _ _ ⟨a, h⟩))))
end P66
