/-! PURE LAYER: year -/
section P50
variable {g : Gt} {d : Nat} {t : Tt} {a : Aa}
def yrL (b : Pp) (i : Nat) : Pp := (pn b, pg b, pf b, pc b, fun q => if q < i then 0 else pl b q)
def yrS (b : Pp) : Nat → Int32
  | 0 => 0
  | i + 1 => yrS b i + pl b i
theorem yr_step {o i j fo co lo k : Nat} {b : Pp} (h : Mth t o i j fo co lo (yrL b k)) (d1 : lo ≠ o) (d2 : lo ≠ co) (d3 : lo ≠ fo) : Mth (pI t lo k 0) o i j fo co lo (yrL b (k + 1)) := by
  have := h.putL (p := k) (v := 0) d1 d2 d3
  refine ⟨this.1, this.2.1, this.2.2.1, this.2.2.2.1, fun q hq => ?_⟩
  rw [this.2.2.2.2 q hq]
  show upN (fun q => if q < k then 0 else pl b q) k 0 q = if q < k + 1 then 0 else pl b q
  unfold upN
  by_cases e : q = k
  · rw [if_pos e, if_pos (by omega)]
  · rw [if_neg e]
    show (if q < k then 0 else pl b q) = _
    by_cases c : q < k
    · rw [if_pos c, if_pos (by omega)]
    · rw [if_neg c, if_neg (by omega)]
theorem both_year {Q : Int32 → Int32 → Tt → Prop} (h : Rel t a) (K : KK Q) : Rt g (d + 300) mX7_year 0 [some (.ref 0), none, none] [] t (QI (fun v t1 => Rt g (d + 300) mX8_year 0 [some (.ref 57), none, none] [] t1 (QI (fun w t2 => Q v w t2)))) := by
  have hn := h.n7
  have y0 : yrL (aP a) 0 = aP a := by
    refine Prod.ext rfl (Prod.ext rfl (Prod.ext rfl (Prod.ext rfl ?_)))
    funext q
    show (if q < 0 then 0 else pl (aP a) q) = _
    rw [if_neg (by omega)]
  have fin : ∀ t1, RC t1 (setD (setP a (yrL (aP a) (pn (aP a)))) (upN (aD a) 5 (aD a 5 + 1))) → RF t1 a → Rt g (d + 300) mX8_year 0 [some (.ref 57), none, none] [] t1 (QI (fun w t2 => Q (yrS (aP a) (pn (aP a))) w t2)) := by
    intro t1 c1 g1
    apply bX8_year_0
    have key : ∀ m i t2, i + m = pn (aP a) → Fr (fun o _ => o = 60) t1 t2 → MoR t2 (yrL (aP a) i) → Rt g (d + 300) mX8_year 4 [some (.ref 57), some (.int (yrS (aP a) i)), some (.int (nI i))] [] t2 (QI (fun w t2 => Q (yrS (aP a) (pn (aP a))) w t2)) := by
      intro m
      induction m with
      | zero =>
        intro i t2 hi f2 m2
        have : i = pn (aP a) := by omega
        subst this
        apply bX8_year_4
        rw [m2.1]
        refine br_t (nI_le (Nat.le_refl _) (by omega)) (qi (K _ _ ⟨setD (setP a (yrL (aP a) (pn (aP a)))) (upN (aD a) 5 (aD a 5 + 1)), h.1, ?_, ?_⟩))
        · exact c1.al ((f2.mo (fun o j q => by unfold MAl; omega)).pI _ (by unfold MAl; omega))
        · obtain ⟨h1, h2, h3, h4, h5, h6, h7, h8, h9⟩ := g1
          have f3 : Fr (fun o j => o = 60 ∨ o = 82) t1 (pI t2 82 5 (t2.1 82 5 + 1)) := (f2.mo (fun o j q => Or.inl q)).pI _ (Or.inr rfl)
          refine ⟨m_mo m2 ((Fr.rf (fun o _ => o = 82) _).pI _ rfl) (fun o j q => by omega), m_so h2 f3 (fun o j q => by omega), m_ch h3 f3 (fun o j q => by omega), m_tp h4 f3 (fun o j q => by omega), m_lw h5 f3 (fun o j q => by omega), m_im h6 f3 (fun o j q => by omega), fun i hi => ?_, m_bo h8 f3 (fun o j q => by omega), m_sh h9 f3 (fun o j q => by omega)⟩
          rw [pI_a, f2.1 82 5 (by omega), h7 5 (by decide)]
          show _ = upN (aD a) 5 (aD a 5 + 1) i
          unfold upN
          by_cases q : i = 5
          · rw [if_pos ⟨rfl, q⟩, if_pos q]
          · rw [if_neg (fun w => q w.2), if_neg q, f2.1 _ _ (by omega)]
            exact h7 i hi
      | succ m ih =>
        intro i t2 hi f2 m2
        apply bX8_year_4
        rw [m2.1]
        refine br_f (nI_ge (show i < pn (yrL (aP a) i) from by show i < pn (aP a); omega) (by show pn (aP a) < _; omega)) ⟨vpn (by omega), ?_⟩
        intro z3 e3
        have el : t2.1 60 i = pl (aP a) i := by
          rw [m2.2.2.2.2 i (by show i < pn (aP a); omega)]
          show (if i < i then 0 else pl (aP a) i) = _
          rw [if_neg (by omega)]
        rw [ncl (by omega), el] at e3
        refine ⟨vpn (by omega), ?_⟩
        rw [e3, ncl (by omega), nI_1]
        exact ih (i + 1) _ (by omega) (f2.pI _ rfl) (yr_step m2 (by decide) (by decide) (by decide))
    exact key (pn (aP a)) 0 t1 (Nat.zero_add _) (Fr.rf _ _) (by rw [y0]; exact g1.1)
  apply bX7_year_0
  have key : ∀ m i t2, i + m = pn (aP a) → Fr (fun o _ => o = 4) t t2 → MoC t2 1 (yrL (aP a) i) → Rt g (d + 300) mX7_year 4 [some (.ref 0), some (.int (yrS (aP a) i)), some (.int (nI i))] [] t2 (QI (fun v t1 => Rt g (d + 300) mX8_year 0 [some (.ref 57), none, none] [] t1 (QI (fun w t2 => Q v w t2)))) := by
    intro m
    induction m with
    | zero =>
      intro i t2 hi f2 m2
      have : i = pn (aP a) := by omega
      subst this
      apply bX7_year_4
      rw [m2.1]
      have f3 : Fr (fun o j => o = 4 ∨ o = 31) t (pI t2 31 5 (t2.1 31 5 + 1)) := (f2.mo (fun o j q => Or.inl q)).pI _ (Or.inr rfl)
      refine br_t (nI_le (Nat.le_refl _) (by omega)) (qi (fin _ ?_ (h.2.2.al (f3.mo (fun o j q => by unfold CAl; omega)))))
      obtain ⟨h1, h2, h3, h4, h5, h6, h7, h8, h9⟩ := h.2.1
      refine ⟨c_mo m2 ((Fr.rf (fun o _ => o = 31) _).pI _ rfl) (fun o j q => by omega), c_so h2 f3 (fun o j q => by omega), c_ch h3 f3 (fun o j q => by omega), c_tp h4 f3 (fun o j q => by omega), c_lw h5 f3 (fun o j q => by omega), c_im h6 f3 (fun o j q => by omega), fun i hi => ?_, c_bo h8 f3 (fun o j q => by omega), c_sh h9 f3 (fun o j q => by omega)⟩
      rw [pI_a, f2.1 31 5 (by omega), h7 5 (by decide)]
      show _ = upN (aD a) 5 (aD a 5 + 1) i
      unfold upN
      by_cases q : i = 5
      · rw [if_pos ⟨rfl, q⟩, if_pos q]
      · rw [if_neg (fun w => q w.2), if_neg q, f2.1 _ _ (by omega)]
        exact h7 i hi
    | succ m ih =>
      intro i t2 hi f2 m2
      apply bX7_year_4
      rw [m2.1]
      refine br_f (nI_ge (show i < pn (yrL (aP a) i) from by show i < pn (aP a); omega) (by show pn (aP a) < _; omega)) ⟨vpn (by omega), ?_⟩
      intro z3 e3
      have el : t2.1 4 i = pl (aP a) i := by
        rw [m2.2.2.2.2 i (by show i < pn (aP a); omega)]
        show (if i < i then 0 else pl (aP a) i) = _
        rw [if_neg (by omega)]
      rw [ncl (by omega), el] at e3
      refine ⟨vpn (by omega), ?_⟩
      rw [e3, ncl (by omega), nI_1]
      exact ih (i + 1) _ (by omega) (f2.pI _ rfl) (yr_step m2 (by decide) (by decide) (by decide))
  exact key (pn (aP a)) 0 t (Nat.zero_add _) (Fr.rf _ _) (by rw [y0]; exact h.2.1.1)
end P50
