/-! PURE LAYER: back -/
section P55
variable {g : Gt} {d : Nat} {t t1 : Tt} {a : Aa}
def bkP (b m : Pp) (i : Nat) : Pp := (pn b, pg b, fun q => if q < i ∧ q < pn m then pf m q else pf b q, fun q => if q < i ∧ q < pn m then pc m q else pc b q, fun q => if q < i then (if q < pn m then pl m q else 0) else pl b q)
theorem bkP_0 (b m : Pp) : bkP b m 0 = b := by
  refine Prod.ext rfl (Prod.ext rfl (Prod.ext ?_ (Prod.ext ?_ ?_)))
  · funext q
    show (if q < 0 ∧ q < pn m then pf m q else pf b q) = pf b q
    rw [if_neg (fun w => absurd w.1 (by omega))]
  · funext q
    show (if q < 0 ∧ q < pn m then pc m q else pc b q) = pc b q
    rw [if_neg (fun w => absurd w.1 (by omega))]
  · funext q
    show (if q < 0 then (if q < pn m then pl m q else 0) else pl b q) = pl b q
    rw [if_neg (by omega)]
theorem bkP_W {b m : Pp} {i : Nat} (hb : PpW b) (hm : PpW m) : PpW (bkP b m i) := by
  refine ⟨hb.1, hb.2.1, fun p hp k hk => ?_, fun p hp => ?_⟩
  · show (if p < i ∧ p < pn m then pf m p else pf b p) k ≤ 9
    split
    · rename_i c; exact hm.2.2.1 p c.2 k hk
    · exact hb.2.2.1 p hp k hk
  · show (if p < i ∧ p < pn m then pc m p else pc b p) < 256
    split
    · rename_i c; exact hm.2.2.2 p c.2
    · exact hb.2.2.2 p hp
theorem bk_step {o i j fo co lo x : Nat} {b m : Pp} (h : Mth t o i j fo co lo (bkP b m x)) (e1 : t1.1 o i = t.1 o i) (e2 : t1.1 o j = t.1 o j) (e3 : ∀ p, p < pn b → p ≠ x → ∀ k, k < 8 → t1.1 fo (8 * p + k) = t.1 fo (8 * p + k)) (e4 : ∀ k, k < 8 → t1.1 fo (8 * x + k) = nI (if x < pn m then pf m x k else pf b x k)) (e5 : ∀ p, p < pn b → p ≠ x → t1.1 co p = t.1 co p) (e6 : t1.1 co x = nI (if x < pn m then pc m x else pc b x)) (e7 : ∀ p, p < pn b → p ≠ x → t1.1 lo p = t.1 lo p) (e8 : t1.1 lo x = if x < pn m then pl m x else 0) : Mth t1 o i j fo co lo (bkP b m (x + 1)) := by
  refine ⟨e1.trans h.1, e2.trans h.2.1, fun p hp k hk => ?_, fun p hp => ?_, fun p hp => ?_⟩
  · show _ = nI ((if p < x + 1 ∧ p < pn m then pf m p else pf b p) k)
    by_cases e : p = x
    · subst e
      rw [e4 k hk]
      by_cases c : p < pn m
      · rw [if_pos c, if_pos ⟨by omega, c⟩]
      · rw [if_neg c, if_neg (fun w => c w.2)]
    · rw [e3 p hp e k hk, h.2.2.1 p hp k hk]
      show nI ((if p < x ∧ p < pn m then pf m p else pf b p) k) = _
      by_cases c : p < x ∧ p < pn m
      · rw [if_pos c, if_pos ⟨by omega, c.2⟩]
      · rw [if_neg c, if_neg (fun w => c ⟨by omega, w.2⟩)]
  · show _ = nI (if p < x + 1 ∧ p < pn m then pc m p else pc b p)
    by_cases e : p = x
    · subst e
      rw [e6]
      by_cases c : p < pn m
      · rw [if_pos c, if_pos ⟨by omega, c⟩]
      · rw [if_neg c, if_neg (fun w => c w.2)]
    · rw [e5 p hp e, h.2.2.2.1 p hp]
      show nI (if p < x ∧ p < pn m then pc m p else pc b p) = _
      by_cases c : p < x ∧ p < pn m
      · rw [if_pos c, if_pos ⟨by omega, c.2⟩]
      · rw [if_neg c, if_neg (fun w => c ⟨by omega, w.2⟩)]
  · show _ = if p < x + 1 then (if p < pn m then pl m p else 0) else pl b p
    by_cases e : p = x
    · subst e
      rw [e8, if_pos (show p < p + 1 by omega)]
    · rw [e7 p hp e, h.2.2.2.2 p hp]
      show (if p < x then (if p < pn m then pl m p else 0) else pl b p) = _
      by_cases c : p < x
      · rw [if_pos c, if_pos (show p < x + 1 by omega)]
      · rw [if_neg c, if_neg (show ¬ p < x + 1 by omega)]
theorem sp_layBack {b m : Pp} {P : Tt → Prop} (hm : MoC t 1 b) (hi : MoC t 9 m) (hw : PpW b) (hwm : PpW m) (kk : ∀ t1, Fr (fun o _ => 2 ≤ o ∧ o ≤ 4) t t1 → MoC t1 1 (bkP b m (pn b)) → P t1) : Rt g (d + 1) mX5_layBack 0 [some (.ref 1), some (.ref 9), none] [] t (QV P) := by
  have hn := hw.1
  have hnm := hwm.1
  apply bX5_layBack_0 mo1 mo9
  have key : ∀ r x t2, x + r = pn b → Fr (fun o _ => 2 ≤ o ∧ o ≤ 4) t t2 → MoC t2 1 (bkP b m x) → Rt g (d + 1) mX5_layBack 2 [some (.ref 1), some (.ref 9), some (.int (nI x))] [] t2 (QV P) := by
    intro r
    induction r with
    | zero =>
      intro x t2 hx f2 m2
      have : x = pn b := by omega
      subst this
      apply bX5_layBack_2 mo1 mo9
      rw [show t2.1 1 0 = nI (pn b) from m2.1]
      exact br_t (nI_le (Nat.le_refl _) (by omega)) (qv (kk t2 f2 m2))
    | succ r ih =>
      intro x t2 hx f2 m2
      have n9 : t2.1 9 0 = nI (pn m) := (f2.1 _ _ (by omega)).trans hi.1
      apply bX5_layBack_2 mo1 mo9
      rw [show t2.1 1 0 = nI (pn b) from m2.1, n9]
      refine br_f (nI_ge (by omega) (by omega)) ?_
      by_cases c : x < pn m
      · refine br_f (nI_ge c (by omega)) ?_
        rw [show nI x * 8 = nI (8 * x) from by rw [l8, pk_mul, Nat.mul_comm], ncl (by omega), show (8 : Int32).toNatClampNeg = 8 from rfl]
        refine ⟨nI_pos (by omega), nI_pos (by omega), by omega, by omega, vpn (by omega), vpn (by omega), vpn (by omega), vpn (by omega), ?_⟩
        rw [ncl (by omega)]
        apply bX5_layBack_73 mo1 mo9
        rw [nI_1]
        have q1 : (cI t2 (9 + 1) (1 + 1) (8 * x) (8 * x) 8).1 (9 + 2) x = nI (pc m x) := by rw [cI_o _ _ _ _ _ _ (by decide), f2.1 _ _ (by omega)]; exact hi.2.2.2.1 x c
        rw [q1]
        have q2 : (pI (cI t2 (9 + 1) (1 + 1) (8 * x) (8 * x) 8) (1 + 2) x (nI (pc m x))).1 (9 + 3) x = pl m x := by rw [pI_o _ _ _ _ (by decide), cI_o _ _ _ _ _ _ (by decide), f2.1 _ _ (by omega)]; exact hi.2.2.2.2 x c
        rw [q2]
        generalize e3 : pI (pI (cI t2 (9 + 1) (1 + 1) (8 * x) (8 * x) 8) (1 + 2) x (nI (pc m x))) (1 + 3) x (pl m x) = t3
        have f3 : Fr (fun o _ => 2 ≤ o ∧ o ≤ 4) t2 t3 := by rw [← e3]; exact (((Fr.rf _ t2).cI (fun j => by omega)).pI _ (by omega)).pI _ (by omega)
        have q3 : ∀ k, t3.1 2 k = if 8 * x ≤ k ∧ k < 8 * x + 8 then t2.1 10 (8 * x + (k - 8 * x)) else t2.1 2 k := by
          intro k
          rw [← e3, pI_o _ _ _ _ (by decide), pI_o _ _ _ _ (by decide)]
          exact cI_s _ _ _ _ _ _ _
        refine ih (x + 1) t3 (by omega) (f2.tr f3) (bk_step m2 (f3.1 _ _ (by omega)) (f3.1 _ _ (by omega)) (fun p hp hpx k hk => ?_) (fun k hk => ?_) (fun p hp hpx => ?_) ?_ (fun p hp hpx => ?_) ?_)
        · have := q3 (8 * p + k)
          rw [if_neg (by omega)] at this
          exact this
        · have := q3 (8 * x + k)
          rw [if_pos (by omega), show 8 * x + (8 * x + k - 8 * x) = 8 * x + k by omega, f2.1 _ _ (by omega)] at this
          rw [if_pos c]
          exact this.trans (hi.2.2.1 x c k hk)
        · rw [← e3, pI_o _ _ _ _ (by decide), pI_n _ _ _ hpx, cI_o _ _ _ _ _ _ (by decide)]
        · rw [← e3, pI_o _ _ _ _ (by decide), pI_s, if_pos c]
        · rw [← e3, pI_n _ _ _ hpx, pI_o _ _ _ _ (by decide), cI_o _ _ _ _ _ _ (by decide)]
        · rw [← e3, pI_s, if_pos c]
      · refine br_t (nI_le (by omega) (by omega)) ⟨vpn (by omega), ?_⟩
        apply bX5_layBack_73 mo1 mo9
        rw [nI_1, ncl (by omega)]
        have f3 : Fr (fun o _ => 2 ≤ o ∧ o ≤ 4) t2 (pI t2 (1 + 3) x 0) := (Fr.rf _ t2).pI _ (by omega)
        refine ih (x + 1) _ (by omega) (f2.tr f3) (bk_step m2 (f3.1 _ _ (by omega)) (f3.1 _ _ (by omega)) (fun p hp hpx k hk => by rw [pI_o _ _ _ _ (by decide)]) (fun k hk => ?_) (fun p hp hpx => by rw [pI_o _ _ _ _ (by decide)]) ?_ (fun p hp hpx => by rw [pI_n _ _ _ hpx]) ?_)
        · rw [if_neg c, pI_o _ _ _ _ (by decide)]
          have := m2.2.2.1 x (show x < pn b by omega) k hk
          rw [show pf (bkP b m x) x k = pf b x k from by show (if x < x ∧ x < pn m then pf m x else pf b x) k = _; rw [if_neg (fun w => c w.2)]] at this
          exact this
        · rw [if_neg c, pI_o _ _ _ _ (by decide)]
          have := m2.2.2.2.1 x (show x < pn b by omega)
          rw [show pc (bkP b m x) x = pc b x from by show (if x < x ∧ x < pn m then pc m x else pc b x) = _; rw [if_neg (fun w => c w.2)]] at this
          exact this
        · rw [if_neg c]; exact pI_s _ _ _ _
  exact key (pn b) 0 t (Nat.zero_add _) (Fr.rf _ _) (by rw [bkP_0]; exact hm)
theorem sr_back {m : Pp} {D : Nat → Int32} {P : Int32 → Tt → Prop} (h : RF t a) (hw : PpW (aP a)) (hwm : PpW m) (hle : pn m ≤ pn (aP a)) (e39 : t.1 57 39 = 1) (e40 : t.1 57 40 = nI (pn m)) (e83 : ∀ p, p < pn m → ∀ k, k < 8 → t.1 83 (8 * p + k) = nI (pf m p k)) (e84 : ∀ p, p < pn m → t.1 84 p = nI (pc m p)) (e85 : ∀ p, p < pn m → t.1 85 p = pl m p) (e86 : ∀ k, k < 6 → t.1 86 k = D k) (kk : ∀ t1, Fr MAl t t1 → RF t1 (setD (setP a (bkP (aP a) m (pn (aP a)))) D) → P (D 0) t1) : Rt g d mX8_back 0 [some (.ref 57), none] [] t (QI P) := by
  have hn := hw.1
  apply bX8_back_0
  rw [e39]
  refine br_n (by decide) ?_
  -- the last loop
  have k3 : ∀ r i t2, i + r = 6 → Fr (fun o _ => (58 ≤ o ∧ o ≤ 60) ∨ o = 82) t t2 → MoR t2 (bkP (aP a) m (pn (aP a))) → (∀ k, k < i → t2.1 82 k = D k) → Rt g d mX8_back 103 [some (.ref 57), some (.int (nI i))] [] t2 (QI P) := by
    intro r
    induction r with
    | zero =>
      intro i t2 hi f2 m2 h3
      have : i = 6 := by omega
      subst this
      apply bX8_back_103
      rw [h3 0 (by decide)]
      refine br_t (nI_le (a := 6) (by omega) (by decide)) (qi (kk t2 (f2.mo (fun o j q => by unfold MAl; omega)) (h.pd f2 (fun o j q => by omega) m2 h3)))
    | succ r ih =>
      intro i t2 hi f2 m2 h3
      apply bX8_back_103
      refine br_f (nI_ge (b := 6) (by omega) (by decide)) ⟨vpn (by omega), vpn (by omega), ?_⟩
      rw [ncl (by omega), f2.1 86 _ (by omega), e86 i (by omega), nI_1]
      refine ih (i + 1) _ (by omega) (f2.pI _ (by omega)) (m_mo m2 ((Fr.rf (fun o _ => o = 82) _).pI _ rfl) (fun o j q => by omega)) (fun k hk => ?_)
      rw [pI_a]
      split
      · rename_i e; rw [e.2]
      · rename_i e; exact h3 k (by omega)
  -- caps and lies
  have k2 : ∀ r x t2, x + r = pn (aP a) → Fr (fun o _ => 58 ≤ o ∧ o ≤ 60) t t2 → (∀ p, p < pn (aP a) → ∀ k, k < 8 → t2.1 58 (8 * p + k) = nI (pf (bkP (aP a) m (pn (aP a))) p k)) → (∀ p, p < pn (aP a) → t2.1 59 p = nI (if p < x ∧ p < pn m then pc m p else pc (aP a) p)) → (∀ p, p < pn (aP a) → t2.1 60 p = if p < x then (if p < pn m then pl m p else 0) else pl (aP a) p) → Rt g d mX8_back 43 [some (.ref 57), some (.int (nI x))] [] t2 (QI P) := by
    intro r
    induction r with
    | zero =>
      intro x t2 hx f2 h1 h2 h3
      have : x = pn (aP a) := by omega
      subst this
      apply bX8_back_43
      rw [f2.1 57 1 (by omega), show t.1 57 1 = nI (pn (aP a)) from h.1.1]
      refine br_t (nI_le (Nat.le_refl _) (by omega)) (k3 6 0 t2 rfl (f2.mo (fun o j q => Or.inl q)) ⟨?_, ?_, h1, h2, h3⟩ (fun k hk => absurd hk (by omega)))
      · exact (f2.1 _ _ (by omega)).trans h.1.1
      · exact (f2.1 _ _ (by omega)).trans h.1.2.1
    | succ r ih =>
      intro x t2 hx f2 h1 h2 h3
      apply bX8_back_43
      have n1 : t2.1 57 1 = nI (pn (aP a)) := (f2.1 _ _ (by omega)).trans h.1.1
      have n2 : t2.1 57 40 = nI (pn m) := (f2.1 _ _ (by omega)).trans e40
      rw [n1, n2]
      refine br_f (nI_ge (by omega) (by omega)) ?_
      by_cases c : x < pn m
      · refine br_f (nI_ge c (by omega)) ⟨vpn (by omega), vpn (by omega), ?_⟩
        apply bX8_back_71
        rw [ncl (by omega), pI_o _ _ _ _ (show 57 ≠ 59 by decide), n2, pI_o _ _ _ _ (show 85 ≠ 59 by decide), f2.1 84 _ (by omega), f2.1 85 _ (by omega), e84 x c, e85 x c]
        refine br_f (nI_ge c (by omega)) ⟨vpn (by omega), ?_⟩
        apply bX8_back_94
        refine ⟨vpn (by omega), ?_⟩
        rw [ncl (by omega), nI_1]
        refine ih (x + 1) _ (by omega) ((f2.pI _ (by omega)).pI _ (by omega)) (fun p hp k hk => ?_) (fun p hp => ?_) (fun p hp => ?_)
        · rw [pI_o _ _ _ _ (by decide), pI_o _ _ _ _ (by decide)]; exact h1 p hp k hk
        · rw [pI_o _ _ _ _ (by decide), pI_a]
          by_cases e : p = x
          · rw [if_pos ⟨rfl, e⟩, e, if_pos ⟨by omega, c⟩]
          · rw [if_neg (fun w => e w.2), h2 p hp]
            by_cases c2 : p < x ∧ p < pn m
            · rw [if_pos c2, if_pos ⟨by omega, c2.2⟩]
            · rw [if_neg c2, if_neg (fun w => c2 ⟨by omega, w.2⟩)]
        · rw [pI_a]
          by_cases e : p = x
          · rw [if_pos ⟨rfl, e⟩, e, if_pos (show x < x + 1 by omega), if_pos c]
          · rw [if_neg (fun w => e w.2), pI_o _ _ _ _ (by decide), h3 p hp]
            by_cases c2 : p < x
            · rw [if_pos c2, if_pos (show p < x + 1 by omega)]
            · rw [if_neg c2, if_neg (show ¬ p < x + 1 by omega)]
      · refine br_t (nI_le (by omega) (by omega)) ?_
        apply bX8_back_71
        rw [n2]
        refine br_t (nI_le (by omega) (by omega)) ?_
        apply bX8_back_94
        refine ⟨vpn (by omega), ?_⟩
        rw [ncl (by omega), nI_1]
        refine ih (x + 1) _ (by omega) (f2.pI _ (by omega)) (fun p hp k hk => ?_) (fun p hp => ?_) (fun p hp => ?_)
        · rw [pI_o _ _ _ _ (by decide)]; exact h1 p hp k hk
        · rw [pI_o _ _ _ _ (by decide), h2 p hp]
          by_cases c2 : p < x ∧ p < pn m
          · rw [if_pos c2, if_pos ⟨by omega, c2.2⟩]
          · rw [if_neg c2, if_neg (fun w => c2 ⟨by omega, w.2⟩)]
        · rw [pI_a]
          by_cases e : p = x
          · rw [if_pos ⟨rfl, e⟩, e, if_pos (show x < x + 1 by omega), if_neg c]
          · rw [if_neg (fun w => e w.2), h3 p hp]
            by_cases c2 : p < x
            · rw [if_pos c2, if_pos (show p < x + 1 by omega)]
            · rw [if_neg c2, if_neg (show ¬ p < x + 1 by omega)]
  -- flakes
  have k1 : ∀ r i t2, i + r = 8 * pn m → Fr (fun o _ => o = 58) t t2 → (∀ q, q < i → t2.1 58 q = t.1 83 q) → (∀ q, i ≤ q → t2.1 58 q = t.1 58 q) → Rt g d mX8_back 12 [some (.ref 57), some (.int (nI i))] [] t2 (QI P) := by
    intro r
    induction r with
    | zero =>
      intro i t2 hi f2 h1 h2
      have : i = 8 * pn m := by omega
      subst this
      apply bX8_back_12
      rw [f2.1 57 40 (by omega), e40, show 8 * nI (pn m) = nI (8 * pn m) from by rw [l8, pk_mul]]
      refine br_t (nI_le (Nat.le_refl _) (by omega)) (k2 (pn (aP a)) 0 t2 (Nat.zero_add _) (f2.mo (fun o j q => by omega)) (fun p hp k hk => ?_) (fun p hp => ?_) (fun p hp => ?_))
      · show _ = nI ((if p < pn (aP a) ∧ p < pn m then pf m p else pf (aP a) p) k)
        by_cases c : p < pn m
        · rw [if_pos ⟨hp, c⟩, h1 _ (by omega)]; exact e83 p c k hk
        · rw [if_neg (fun w => c w.2), h2 _ (by omega)]; exact h.1.2.2.1 p hp k hk
      · rw [if_neg (fun w => absurd w.1 (by omega)), f2.1 _ _ (by omega)]; exact h.1.2.2.2.1 p hp
      · rw [if_neg (by omega), f2.1 _ _ (by omega)]; exact h.1.2.2.2.2 p hp
    | succ r ih =>
      intro i t2 hi f2 h1 h2
      apply bX8_back_12
      rw [f2.1 57 40 (by omega), e40, show 8 * nI (pn m) = nI (8 * pn m) from by rw [l8, pk_mul]]
      refine br_f (nI_ge (by omega) (by omega)) ⟨vpn (by omega), vpn (by omega), ?_⟩
      rw [ncl (by omega), f2.1 83 _ (by omega), nI_1]
      refine ih (i + 1) _ (by omega) (f2.pI _ rfl) (fun q hq => ?_) (fun q hq => ?_)
      · rw [pI_a]
        split
        · rename_i e; rw [e.2]
        · rename_i e; exact h1 q (by omega)
      · rw [pI_n _ _ _ (by omega)]; exact h2 q (by omega)
  exact k1 (8 * pn m) 0 t (Nat.zero_add _) (Fr.rf _ _) (fun q hq => absurd hq (by omega)) (fun q hq => rfl)
theorem both_back {Q : Int32 → Int32 → Tt → Prop} (h : Rel t a) (K : KK Q) : Rt g (d + 300) mX7_back 0 [some (.ref 0)] [] t (QI (fun v t1 => Rt g (d + 300) mX8_back 0 [some (.ref 57), none] [] t1 (QI (fun w t2 => Q v w t2)))) := by
  have hn := h.n7
  have hiC := h.2.1.2.2.2.2.2.1
  have hiM := h.2.2.2.2.2.2.2.1
  have hiW := h.1.2.2.2.2.1
  apply bX7_back_0
  rcases hiC with ⟨b1, e12⟩ | ⟨b1, e12, m9, d32⟩
  · rw [e12]
    refine br_p rfl (qi ?_)
    rcases hiM with ⟨-, e39⟩ | ⟨b2, -⟩
    · apply bX8_back_0
      rw [e39]
      exact br_p rfl (qi (K _ _ ⟨a, h⟩))
    · rw [b1] at b2; cases b2
  · obtain ⟨w1, w2⟩ := hiW b1
    rw [e12]
    refine br_n (by decide) ?_
    refine sp_layBack h.2.1.1 m9 h.pw w1 (fun t1 f1 m1 => ?_)
    rw [show (0 : Int32).toNatClampNeg = 0 from rfl, show (6 : Int32).toNatClampNeg = 6 from rfl]
    have r32 : ∀ k, k < 6 → (cI t1 32 31 0 0 6).1 31 k = (aI a).2.2 k := by
      intro k hk
      rw [cI_s, if_pos (by omega), Nat.zero_add, Nat.sub_zero, f1.1 _ _ (by omega)]
      exact d32 k hk
    rw [r32 0 (by decide)]
    have f2 : Fr (fun o _ => o = 31) t1 (cI t1 32 31 0 0 6) := (Fr.rf _ t1).cI (fun j => rfl)
    have f3 : Fr (fun o _ => (2 ≤ o ∧ o ≤ 4) ∨ o = 31) t (cI t1 32 31 0 0 6) := (f1.mo (fun o j q => Or.inl q)).tr (f2.mo (fun o j q => Or.inr q))
    have c3 : RC (cI t1 32 31 0 0 6) (setD (setP a (bkP (aP a) (aI a).2.1 (pn (aP a)))) (aI a).2.2) := h.2.1.pd f3 (fun o j q => by omega) (c_mo m1 f2 (fun o j q => by omega)) r32
    have g3 : RF (cI t1 32 31 0 0 6) a := h.2.2.al (f3.mo (fun o j q => by unfold CAl; omega))
    generalize cI t1 32 31 0 0 6 = t3 at c3 g3
    apply qi
    rcases g3.2.2.2.2.2.1 with ⟨b2, -⟩ | ⟨-, q39, q40, q83, q84, q85, q86⟩
    · rw [b1] at b2; cases b2
    · refine sr_back g3 h.pw w1 w2 q39 q40 q83 q84 q85 q86 (fun t4 f4 g4 => K _ _ ⟨_, ?_, c3.al f4, g4⟩)
      obtain ⟨w1', w2', w3, w4, w5, w6, w7⟩ := h.1
      exact ⟨bkP_W w1' w1, w2', w3, w4, w5, w6, w7⟩
end P55
