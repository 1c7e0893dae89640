/-! PURE LAYER: shelves changed: keep, row -/
section P59
variable {g : Gt} {d : Nat} {t t1 : Tt} {a : Aa}
/-- ints changed at S alone, longs at J alone -/
def Fj (S J : Nat → Nat → Prop) (t t' : Tt) : Prop := (∀ o j, ¬ S o j → t'.1 o j = t.1 o j) ∧ (∀ o j, ¬ J o j → t'.2.1 o j = t.2.1 o j) ∧ t'.2.2 = t.2.2
theorem Fj.rf (S J : Nat → Nat → Prop) (t : Tt) : Fj S J t t := ⟨fun _ _ _ => rfl, fun _ _ _ => rfl, rfl⟩
theorem Fj.tr {S J : Nat → Nat → Prop} {t t' t'' : Tt} (h : Fj S J t t') (h' : Fj S J t' t'') : Fj S J t t'' := ⟨fun o j q => (h'.1 o j q).trans (h.1 o j q), fun o j q => (h'.2.1 o j q).trans (h.2.1 o j q), h'.2.2.trans h.2.2⟩
theorem Fj.mo {S S' J J' : Nat → Nat → Prop} {t t' : Tt} (h : Fj S J t t') (hs : ∀ o j, S o j → S' o j) (hj : ∀ o j, J o j → J' o j) : Fj S' J' t t' := ⟨fun o j q => h.1 o j (fun z => q (hs o j z)), fun o j q => h.2.1 o j (fun z => q (hj o j z)), h.2.2⟩
theorem Fj.pI {S J : Nat → Nat → Prop} {t t' : Tt} {o j : Nat} (x : Int32) (h : Fj S J t t') (hs : S o j) : Fj S J t (pI t' o j x) := by
  refine ⟨fun a b q => ?_, h.2⟩
  rw [pI_a, if_neg (fun z => q (by rw [z.1, z.2]; exact hs))]
  exact h.1 a b q
theorem Fj.pJ {S J : Nat → Nat → Prop} {t t' : Tt} {o j : Nat} (x : Int64) (h : Fj S J t t') (hs : J o j) : Fj S J t (pJ t' o j x) := by
  refine ⟨h.1, fun a b q => ?_, h.2.2⟩
  rw [pJ_a, if_neg (fun z => q (by rw [z.1, z.2]; exact hs))]
  exact h.2.1 a b q
theorem cJ_1 (t : Tt) (o o' sp dp n : Nat) : (cJ t o o' sp dp n).1 = t.1 := rfl
theorem cJ_2 (t : Tt) (o o' sp dp n : Nat) : (cJ t o o' sp dp n).2.2 = t.2.2 := rfl
theorem cJ_o (t : Tt) (o o' sp dp n : Nat) {a : Nat} (h : a ≠ o') : (cJ t o o' sp dp n).2.1 a = t.2.1 a := by simp [cJ, h]
theorem cJ_s (t : Tt) (o o' sp dp n j : Nat) : (cJ t o o' sp dp n).2.1 o' j = if dp ≤ j ∧ j < dp + n then t.2.1 o (sp + (j - dp)) else t.2.1 o' j := by simp [cJ, va_cpy]
theorem Fj.cJ {S J : Nat → Nat → Prop} {t t' : Tt} {o o' sp dp n : Nat} (h : Fj S J t t') (hs : ∀ j, J o' j) : Fj S J t (cJ t' o o' sp dp n) := by
  refine ⟨h.1, fun a b q => ?_, h.2.2⟩
  rw [cJ_o _ _ _ _ _ _ (fun z => q (by rw [z]; exact hs b))]
  exact h.2.1 a b q
theorem Fj.fr {S J : Nat → Nat → Prop} {t t' : Tt} (h : Fj S J t t') : Fr S t (t'.1, t.2.1, t'.2.2) := ⟨h.1, Prod.ext rfl h.2.2⟩
theorem Fr.fj {S : Nat → Nat → Prop} {t t' : Tt} (J : Nat → Nat → Prop) (h : Fr S t t') : Fj S J t t' := ⟨h.1, fun _ _ _ => by rw [h.2], by rw [h.2]⟩
theorem RC.sh {S J : Nat → Nat → Prop} {x : Sh} (h : RC t a) (f : Fj S J t t1) (hS : ∀ o j, S o j → 45 ≤ o ∧ o ≤ 56) (hs : shC t1 x) : RC t1 (setH a x) := by
  obtain ⟨h1, h2, h3, h4, h5, h6, h7, h8, h9⟩ := h
  exact ⟨c_mo (t' := (t1.1, t.2.1, t1.2.2)) h1 f.fr (fun o j q => by have := hS o j q; omega), c_so (t' := (t1.1, t.2.1, t1.2.2)) h2 f.fr (fun o j q => by have := hS o j q; omega), c_ch (t' := (t1.1, t.2.1, t1.2.2)) h3 f.fr (fun o j q => by have := hS o j q; omega), c_tp (t' := (t1.1, t.2.1, t1.2.2)) h4 f.fr (fun o j q => by have := hS o j q; omega), c_lw (t' := (t1.1, t.2.1, t1.2.2)) h5 f.fr (fun o j q => by have := hS o j q; omega), c_im (t' := (t1.1, t.2.1, t1.2.2)) h6 f.fr (fun o j q => by have := hS o j q; omega), c_dd (t' := (t1.1, t.2.1, t1.2.2)) h7 f.fr (fun o j q => by have := hS o j q; omega), c_bo (t' := (t1.1, t.2.1, t1.2.2)) h8 f.fr (fun o j q => by have := hS o j q; omega), hs⟩
theorem RF.sh {S J : Nat → Nat → Prop} {x : Sh} (h : RF t a) (f : Fj S J t t1) (hS : ∀ o j, S o j → o = 89 ∨ o = 90) (hs : shM t1 x) : RF t1 (setH a x) := by
  obtain ⟨h1, h2, h3, h4, h5, h6, h7, h8, h9⟩ := h
  exact ⟨m_mo (t' := (t1.1, t.2.1, t1.2.2)) h1 f.fr (fun o j q => by have := hS o j q; omega), m_so (t' := (t1.1, t.2.1, t1.2.2)) h2 f.fr (fun o j q => by have := hS o j q; omega), m_ch (t' := (t1.1, t.2.1, t1.2.2)) h3 f.fr (fun o j q => by have := hS o j q; omega), m_tp (t' := (t1.1, t.2.1, t1.2.2)) h4 f.fr (fun o j q => by have := hS o j q; omega), (m_lw (t' := (t1.1, t.2.1, t1.2.2)) h5 f.fr (fun o j q => by have := hS o j q; omega)).cg rfl rfl rfl rfl rfl rfl, m_im (t' := (t1.1, t.2.1, t1.2.2)) h6 f.fr (fun o j q => by have := hS o j q; omega), m_dd (t' := (t1.1, t.2.1, t1.2.2)) h7 f.fr (fun o j q => by have := hS o j q; omega), m_bo (t' := (t1.1, t.2.1, t1.2.2)) h8 f.fr (fun o j q => by have := hS o j q; omega), hs⟩
theorem RC.aj (h : RC t a) (f : Fj MAl MAl t t1) : RC t1 a := by
  obtain ⟨h1, h2, h3, h4, h5, h6, h7, h8, h9⟩ := h
  have k : ∀ o j, MAl o j → 57 ≤ o := fun o j q => q
  refine ⟨c_mo (t' := (t1.1, t.2.1, t1.2.2)) h1 f.fr (fun o j q => by have := k o j q; omega), c_so (t' := (t1.1, t.2.1, t1.2.2)) h2 f.fr (fun o j q => by have := k o j q; omega), c_ch (t' := (t1.1, t.2.1, t1.2.2)) h3 f.fr (fun o j q => by have := k o j q; omega), c_tp (t' := (t1.1, t.2.1, t1.2.2)) h4 f.fr (fun o j q => by have := k o j q; omega), c_lw (t' := (t1.1, t.2.1, t1.2.2)) h5 f.fr (fun o j q => by have := k o j q; omega), c_im (t' := (t1.1, t.2.1, t1.2.2)) h6 f.fr (fun o j q => by have := k o j q; omega), c_dd (t' := (t1.1, t.2.1, t1.2.2)) h7 f.fr (fun o j q => by have := k o j q; omega), c_bo (t' := (t1.1, t.2.1, t1.2.2)) h8 f.fr (fun o j q => by have := k o j q; omega), fun s hs => ?_⟩
  exact (h9 s hs).fr (funext fun j => f.1 _ _ (fun q => by have := k _ _ q; omega)) (funext fun j => f.2.1 _ _ (fun q => by have := k _ _ q; omega))
theorem RF.aj (h : RF t a) (f : Fj CAl CAl t t1) : RF t1 a := by
  obtain ⟨h1, h2, h3, h4, h5, h6, h7, h8, h9⟩ := h
  have k : ∀ o j, CAl o j → o < 57 := fun o j q => q
  refine ⟨m_mo (t' := (t1.1, t.2.1, t1.2.2)) h1 f.fr (fun o j q => by have := k o j q; omega), m_so (t' := (t1.1, t.2.1, t1.2.2)) h2 f.fr (fun o j q => by have := k o j q; omega), m_ch (t' := (t1.1, t.2.1, t1.2.2)) h3 f.fr (fun o j q => by have := k o j q; omega), m_tp (t' := (t1.1, t.2.1, t1.2.2)) h4 f.fr (fun o j q => by have := k o j q; omega), (m_lw (t' := (t1.1, t.2.1, t1.2.2)) h5 f.fr (fun o j q => by have := k o j q; omega)).cg rfl rfl rfl rfl rfl rfl, m_im (t' := (t1.1, t.2.1, t1.2.2)) h6 f.fr (fun o j q => by have := k o j q; omega), m_dd (t' := (t1.1, t.2.1, t1.2.2)) h7 f.fr (fun o j q => by have := k o j q; omega), m_bo (t' := (t1.1, t.2.1, t1.2.2)) h8 f.fr (fun o j q => by have := k o j q; omega), fun s hs => ?_⟩
  exact (h9 s hs).fr (f.1 _ _ (fun q => by have := k _ _ q; omega)) (f.1 _ _ (fun q => by have := k _ _ q; omega)) (fun i _ => f.2.1 _ _ (fun q => by have := k _ _ q; omega))
/-- a shelf is set -/
def shP (x : Sh) (s : Nat) (u : Nat × Nat × Nat) (c : Nat → Int64) : Sh := (upN x.1 s u, upN x.2 s c)
def shO (nb : Nat) (u : Nat × Nat × Nat) (c : Nat → Int64) : Prop := u.1 = 0 ∨ (u.1 = 1 ∧ u.2.1 < nb) ∨ (u.1 = 2 ∧ u.2.1 < 5 ∧ u.2.2 ≤ 60 ∧ (u.2.1 = 0 → ∀ i, i < 60 → -128 ≤ (c i).toInt ∧ (c i).toInt ≤ 127))
theorem shP_W {nb s : Nat} {x : Sh} {u : Nat × Nat × Nat} {c : Nat → Int64} (h : shW nb x) (hu : shO nb u c) : shW nb (shP x s u c) := by
  intro q hq
  show (upN x.1 s u q).1 = 0 ∨ ((upN x.1 s u q).1 = 1 ∧ (upN x.1 s u q).2.1 < nb) ∨ ((upN x.1 s u q).1 = 2 ∧ (upN x.1 s u q).2.1 < 5 ∧ (upN x.1 s u q).2.2 ≤ 60 ∧ ((upN x.1 s u q).2.1 = 0 → ∀ i, i < 60 → -128 ≤ (upN x.2 s c q i).toInt ∧ (upN x.2 s c q i).toInt ≤ 127))
  unfold upN
  by_cases e : q = s
  · rw [if_pos e, if_pos e]; exact hu
  · rw [if_neg e, if_neg e]; exact h q hq
theorem shP_C {s : Nat} {x : Sh} {u : Nat × Nat × Nat} {c : Nat → Int64} {S J : Nat → Nat → Prop} (h : shC t x) (f : Fj S J t t1) (hs : s < 6) (hS : ∀ o j, S o j → o = 45 + 2 * s) (hJ : ∀ o j, J o j → o = 45 + 2 * s + 1) (hu : shC1 t1 s u c) : shC t1 (shP x s u c) := by
  intro q hq
  show shC1 t1 q (upN x.1 s u q) (upN x.2 s c q)
  unfold upN
  by_cases e : q = s
  · subst e; rw [if_pos rfl, if_pos rfl]; exact hu
  · rw [if_neg e, if_neg e]
    exact (h q hq).fr (funext fun j => f.1 _ _ (fun w => by have := hS _ _ w; omega)) (funext fun j => f.2.1 _ _ (fun w => by have := hJ _ _ w; omega))
theorem shP_M {s : Nat} {x : Sh} {u : Nat × Nat × Nat} {c : Nat → Int64} {S J : Nat → Nat → Prop} (h : shM t x) (f : Fj S J t t1) (hs : s < 6) (hS : ∀ o j, S o j → (o = 89 ∨ o = 90) ∧ j = s) (hJ : ∀ o j, J o j → (o = 91 ∧ 60 * s ≤ j ∧ j < 60 * s + 60) ∨ o = 92) (hu : shM1 t1 s u c) : shM t1 (shP x s u c) := by
  intro q hq
  show shM1 t1 q (upN x.1 s u q) (upN x.2 s c q)
  unfold upN
  by_cases e : q = s
  · subst e; rw [if_pos rfl, if_pos rfl]; exact hu
  · rw [if_neg e, if_neg e]
    exact (h q hq).fr (f.1 _ _ (fun w => by have := hS _ _ w; omega)) (f.1 _ _ (fun w => by have := hS _ _ w; omega)) (fun i hi => f.2.1 _ _ (fun w => by have := hJ _ _ w; omega))
theorem isSh_n {s : Nat} (h : s < 6) : isSh (45 + 2 * s) := by unfold isSh; omega
theorem sr_isBody {x : Int32} {P : Int32 → Tt → Prop} (h : t.1 57 45 = nI (aB a).1) (hb : (aB a).1 ≤ 50) (k1 : gd x (aB a).1 → P 1 t) (k0 : ¬ gd x (aB a).1 → P 0 t) : Rt g (d + 1) mX8_isBody 0 [some (.ref 57), some (.int x)] [] t (QI P) := by
  apply bX8_isBody_0
  rw [h]
  by_cases hx : gd x (aB a).1
  · exact sr_in_g (m1_i (by omega)) (by omega) hx ⟨Or.inr rfl, qi (k1 hx)⟩
  · exact sr_in_b (m1_i (by omega)) (by omega) hx ⟨Or.inl rfl, qi (k0 hx)⟩
theorem both_keep {x y : Int32} {Q : Int32 → Int32 → Tt → Prop} (h : Rel t a) (K : KK Q) : Rt g (d + 300) mX7_keep 0 [some (.ref 0), some (.int x), some (.int y)] [] t (QI (fun v t1 => Rt g (d + 300) mX8_keep 0 [some (.ref 57), some (.int x), some (.int y)] [] t1 (QI (fun w t2 => Q v w t2)))) := by
  have hb : (aB a).1 ≤ 50 := h.1.2.2.2.2.2.1.1
  have eb : t.1 27 0 = nI (aB a).1 := h.2.1.2.2.2.2.2.2.2.1.1
  apply bX7_keep_0
  by_cases h1 : gd x 6
  · refine sp_noShelf_g h1 (br_p rfl ?_)
    rw [eb]
    have bad : ¬ (y = -1 ∨ gd y (aB a).1) → Rt g (d + 300) mX8_keep 0 [some (.ref 57), some (.int x), some (.int y)] [] t (QI (fun w t2 => Q (-1) w t2)) := fun hy => bX8_keep_0 (sr_isShelf_g h1 (br_f (by decide) (br_f (fun q => hy (Or.inl q)) (sr_isBody (a := a) h.2.2.2.2.2.2.2.2.2.1.1 hb (fun q => absurd (Or.inr q) hy) (fun _ => br_p rfl (qi (K _ _ ⟨a, h⟩)))))))
    by_cases hy : y = -1 ∨ gd y (aB a).1
    · obtain ⟨s, hs, rfl⟩ := h1
      have n1 : ¬ y < -1 := by
        rcases hy with rfl | ⟨k, hk, rfl⟩
        · decide
        · rw [lt_i, tI (by omega)]; show ¬ (k : Int) < -1; omega
      have n2 : y < nI (aB a).1 := by
        rcases hy with rfl | ⟨k, hk, rfl⟩
        · rw [lt_i, tI (by omega)]; show (-1 : Int) < _; omega
        · exact nI_lt hk (by omega)
      refine br_f n1 (br_t n2 ⟨vpn hs, ?_⟩)
      rw [ncl (by omega)]
      have mdl : ∀ (u : Nat × Nat × Nat) t1, (u = (0, 0, 0) ∧ y = -1 ∨ ∃ b, b < (aB a).1 ∧ y = nI b ∧ u = (1, b, 0)) → RC t1 (setH a (shP (aH a) s u ((aH a).2 s))) → RF t1 a → Rt g (d + 300) mX8_keep 0 [some (.ref 57), some (.int (nI s)), some (.int y)] [] t1 (QI (fun w t2 => Q 1 w t2)) := by
        intro u t1 hu c1 g1
        have go : ∀ {P : Tt → Prop}, (∀ t2, Fr MAl t1 t2 → RF t2 (setH a (shP (aH a) s u ((aH a).2 s))) → P t2) → P (pI t1 89 s y) := by
          intro P k
          have f2 : Fr (fun o j => o = 89 ∧ j = s) t1 (pI t1 89 s y) := (Fr.rf _ t1).pI _ ⟨rfl, rfl⟩
          refine k _ (f2.mo (fun o j q => by unfold MAl; omega)) (g1.sh (f2.fj (fun _ _ => False)) (fun o j q => by omega) (shP_M g1.2.2.2.2.2.2.2.2 (f2.fj (fun _ _ => False)) hs (fun o j q => by omega) (fun o j q => q.elim) ?_))
          rcases hu with ⟨rfl, e⟩ | ⟨b, hb', e, rfl⟩
          · exact Or.inl ⟨rfl, by rw [pI_s, e]⟩
          · exact Or.inr (Or.inl ⟨rfl, by rw [pI_s, e]⟩)
        have fin : ∀ t2, Fr MAl t1 t2 → RF t2 (setH a (shP (aH a) s u ((aH a).2 s))) → QI (fun w t2 => Q 1 w t2) (some (.int 1)) t2 := by
          intro t2 f2 g2
          refine qi (K _ _ ⟨_, ?_, c1.al f2, g2⟩)
          obtain ⟨w1, w2, w3, w4, w5, w6, w7⟩ := h.1
          refine ⟨w1, w2, w3, w4, w5, w6, shP_W w7 ?_⟩
          rcases hu with ⟨rfl, e⟩ | ⟨b, hb', e, rfl⟩
          · exact Or.inl rfl
          · exact Or.inr (Or.inl ⟨rfl, hb'⟩)
        apply bX8_keep_0
        refine sr_isShelf_g ⟨s, hs, rfl⟩ (br_f (by decide) ?_)
        rcases hy with e | hy
        · refine br_t e ⟨vpn hs, ?_⟩
          rw [ncl (by omega)]
          exact go fin
        · refine br_f ?_ (sr_isBody (a := a) g1.2.2.2.2.2.2.2.1.1 hb (fun _ => br_n (by decide) ⟨vpn hs, ?_⟩) (fun q => absurd hy q))
          · obtain ⟨k, hk, rfl⟩ := hy
            exact (body_tab k (by omega)).1
          · rw [ncl (by omega)]
            exact go fin
      rcases hy with rfl | ⟨b, hb', rfl⟩
      · refine br_p rfl ?_
        apply bX7_keep_42 (isSh_n hs)
        refine ⟨vpn hs, qi ?_⟩
        rw [ncl (by omega)]
        have f1 : Fr (fun o _ => o = 45 + 2 * s) t (pI (pI t (45 + 2 * s) 0 (-2)) (45 + 2 * s) 2 (-1)) := ((Fr.rf (fun o _ => o = 45 + 2 * s) t).pI _ rfl).pI _ rfl
        refine mdl (0, 0, 0) _ (Or.inl ⟨rfl, rfl⟩) (h.2.1.sh (f1.fj (fun _ _ => False)) (fun o j q => by omega) (shP_C h.sc (f1.fj (fun _ _ => False)) hs (fun o j q => q) (fun o j q => q.elim) (Or.inl ⟨rfl, ?_⟩))) (h.2.2.al (f1.mo (fun o j q => by unfold CAl; omega)))
        rw [pI_n _ _ _ (by decide), pI_s]
      · refine br_n (body_tab b (by omega)).1 ?_
        apply bX7_keep_42 (isSh_n hs)
        refine ⟨vpn hs, qi ?_⟩
        rw [ncl (by omega)]
        have f1 : Fr (fun o _ => o = 45 + 2 * s) t (pI (pI t (45 + 2 * s) 0 (-1)) (45 + 2 * s) 2 (nI b)) := ((Fr.rf (fun o _ => o = 45 + 2 * s) t).pI _ rfl).pI _ rfl
        refine mdl (1, b, 0) _ (Or.inr ⟨b, hb', rfl, rfl⟩) (h.2.1.sh (f1.fj (fun _ _ => False)) (fun o j q => by omega) (shP_C h.sc (f1.fj (fun _ _ => False)) hs (fun o j q => q) (fun o j q => q.elim) (Or.inr (Or.inl ⟨rfl, ?_, pI_s _ _ _ _⟩)))) (h.2.2.al (f1.mo (fun o j q => by unfold CAl; omega)))
        rw [pI_n _ _ _ (by decide), pI_s]
    · refine ⟨fun _ => qi (bad hy), fun c => br_f (fun c2 => hy ?_) (qi (bad hy))⟩
      by_cases e : y = -1
      · exact Or.inl e
      · refine Or.inr ((gd_iff (by omega)).mpr ?_)
        have hne : y.toInt ≠ -1 := fun q => e (Int32.toInt_inj.mp q)
        rw [lt_i, show (-1 : Int32).toInt = -1 from rfl] at c
        rw [lt_i, tI (by omega)] at c2
        omega
  · refine sp_noShelf_b h1 (br_n (by decide) (qi ?_))
    exact bX8_keep_0 (sr_isShelf_b h1 (br_t rfl (qi (K _ _ ⟨a, h⟩))))
theorem both_row {x y z : Int32} {Q : Int32 → Int32 → Tt → Prop} (h : Rel t a) (K : KK Q) : Rt g (d + 300) mX7_row 0 [some (.ref 0), some (.int x), some (.int y), some (.int z)] [] t (QI (fun v t1 => Rt g (d + 300) mX8_row 0 [some (.ref 57), some (.int x), some (.int y), some (.int z), none] [] t1 (QI (fun w t2 => Q v w t2)))) := by
  apply bX7_row_0
  by_cases h1 : gd x 6
  · refine sp_noShelf_g h1 (br_p rfl ?_)
    by_cases h2 : gd y 5
    · refine sp_out_g (n := 5) rfl (by decide) h2 (br_p rfl ?_)
      by_cases h3 : z ≤ 60
      · by_cases h4 : 0 ≤ z
        · obtain ⟨s, hs, rfl⟩ := h1
          obtain ⟨w, hw, rfl⟩ := h2
          obtain ⟨n, hn, rfl⟩ := nI_of (show ¬ z < 0 from by rw [le_i] at h4; rw [lt_i]; omega)
          have hn60 : n ≤ 60 := (nI_leI hn (by decide)).mp h3
          refine br_t h3 (br_t h4 ⟨vpn hs, ?_⟩)
          rw [ncl (by omega)]
          apply bX6_becomeRow_0 (isSh_n hs)
          generalize e0 : pI (pI t (45 + 2 * s) 0 (nI w)) (45 + 2 * s) 1 (nI n) = t0
          have f0 : Fj (fun o _ => o = 45 + 2 * s) (fun o _ => o = 45 + 2 * s + 1) t t0 := by rw [← e0]; exact ((Fj.rf (fun o _ => o = 45 + 2 * s) (fun o _ => o = 45 + 2 * s + 1) t).pI _ rfl).pI _ rfl
          have a0 : t0.1 (45 + 2 * s) 0 = nI w := by rw [← e0, pI_n _ _ _ (by decide), pI_s]
          have a1 : t0.1 (45 + 2 * s) 1 = nI n := by rw [← e0, pI_s]
          have ref : ∀ t1, RC t1 (setH a (shP (aH a) s (2, w, n) (fun _ => 0))) → RF t1 a → Rt g (d + 300) mX8_row 0 [some (.ref 57), some (.int (nI s)), some (.int (nI w)), some (.int (nI n)), none] [] t1 (QI (fun v2 t2 => Q 1 v2 t2)) := by
            intro t1 c1 g1
            apply bX8_row_0
            refine sr_isShelf_g ⟨s, hs, rfl⟩ (br_f (by decide) (sr_in_g (n := 5) rfl (by decide) ⟨w, hw, rfl⟩ (br_f (by decide) (br_t h3 (br_t h4 ⟨vpn hs, vpn hs, ?_⟩)))))
            intro z11 e11
            rw [show (60 : Int32) = nI 60 from rfl, pk_mul] at e11
            subst e11
            rw [ncl (by omega)]
            generalize e2 : pI (pI t1 89 s (-2 - nI w)) 90 s (nI n) = t2
            have f2 : Fj (fun o j => (o = 89 ∨ o = 90) ∧ j = s) (fun o j => o = 91 ∧ 60 * s ≤ j ∧ j < 60 * s + 60) t1 t2 := by rw [← e2]; exact ((Fj.rf _ _ t1).pI _ (by omega)).pI _ (by omega)
            have b0 : t2.1 89 s = -2 - nI w := by rw [← e2, pI_o _ _ _ _ (by decide), pI_s]
            have b1 : t2.1 90 s = nI n := by rw [← e2, pI_s]
            have key : ∀ m i t3, i + m = 60 → Fj (fun _ _ => False) (fun o j => o = 91 ∧ 60 * s ≤ j ∧ j < 60 * s + 60) t2 t3 → (∀ k, k < i → t3.2.1 91 (60 * s + k) = 0) → Rt g (d + 300) mX8_row 54 [some (.ref 57), some (.int (nI s)), none, none, some (.int (nI (60 * s + i)))] [] t3 (QI (fun v2 t2 => Q 1 v2 t2)) := by
              intro m
              induction m with
              | zero =>
                intro i t3 hi f3 e3
                have : i = 60 := by omega
                subst this
                apply bX8_row_54
                rw [show (60 : Int32) = nI 60 from rfl, pk_mul, nI_add]
                refine br_t (nI_le (Nat.le_refl _) (by omega)) (qi (K _ _ ⟨_, ?_, c1.aj ?_, ?_⟩))
                · obtain ⟨w1, w2, w3, w4, w5, w6, w7⟩ := h.1
                  exact ⟨w1, w2, w3, w4, w5, w6, shP_W w7 (Or.inr (Or.inr ⟨rfl, hw, hn60, fun _ i _ => show -128 ≤ (0 : Int64).toInt ∧ (0 : Int64).toInt ≤ 127 by decide⟩))⟩
                · exact (f2.mo (fun o j q => by unfold MAl; omega) (fun o j q => by unfold MAl; omega)).tr (f3.mo (fun o j q => q.elim) (fun o j q => by unfold MAl; omega))
                · have f23 := f2.tr (f3.mo (fun o j q => q.elim) (fun o j q => q))
                  refine g1.sh f23 (fun o j q => by omega) (shP_M g1.2.2.2.2.2.2.2.2 f23 hs (fun o j q => q) (fun o j q => Or.inl q) (Or.inr (Or.inr ⟨rfl, ?_, ?_, e3⟩)))
                  · rw [f3.1 _ _ (fun q => q)]; exact b0
                  · rw [f3.1 _ _ (fun q => q)]; exact b1
              | succ m ih =>
                intro i t3 hi f3 e3
                apply bX8_row_54
                rw [show (60 : Int32) = nI 60 from rfl, pk_mul, nI_add]
                refine br_f (nI_ge (by omega) (by omega)) ⟨vpn (by omega), ?_⟩
                rw [ncl (by omega), nI_1, Nat.add_assoc]
                refine ih (i + 1) _ (by omega) (f3.pJ _ (by omega)) (fun k hk => ?_)
                rw [pJ_a]
                by_cases e : k = i
                · rw [if_pos ⟨rfl, by omega⟩]
                · rw [if_neg (by omega)]; exact e3 k (by omega)
            exact key 60 0 t2 rfl (Fj.rf _ _ _) (fun k hk => absurd hk (by omega))
          have key : ∀ m i t3, i + m = 60 → Fj (fun _ _ => False) (fun o _ => o = 45 + 2 * s + 1) t0 t3 → (∀ k, k < i → t3.2.1 (45 + 2 * s + 1) k = 0) → Rt g (d + 299) mX6_becomeRow 12 [some (.ref (45 + 2 * s)), none, none, some (.int (nI i))] [] t3 (QV (fun t10 => QI (fun v t1 => Rt g (d + 300) mX8_row 0 [some (.ref 57), some (.int (nI s)), some (.int (nI w)), some (.int (nI n)), none] [] t1 (QI (fun v2 t2 => Q v v2 t2))) (some (.int 1)) t10)) := by
            intro m
            induction m with
            | zero =>
              intro i t3 hi f3 e3
              have : i = 60 := by omega
              subst this
              apply bX6_becomeRow_12 (isSh_n hs)
              refine br_t (nI_le (a := 60) (by omega) (by decide)) (qv (qi ?_))
              have f03 := f0.tr (f3.mo (fun o j q => q.elim) (fun o j q => q))
              refine ref t3 (h.2.1.sh f03 (fun o j q => by omega) (shP_C h.sc f03 hs (fun o j q => q) (fun o j q => q) (Or.inr (Or.inr ⟨rfl, ?_, ?_, e3⟩)))) (h.2.2.aj (f03.mo (fun o j q => by unfold CAl; omega) (fun o j q => by unfold CAl; omega)))
              · rw [f3.1 _ _ (fun q => q)]; exact a0
              · rw [f3.1 _ _ (fun q => q)]; exact a1
            | succ m ih =>
              intro i t3 hi f3 e3
              apply bX6_becomeRow_12 (isSh_n hs)
              refine br_f (nI_ge (b := 60) (by omega) (by decide)) ⟨vpn (by omega), ?_⟩
              rw [ncl (by omega), nI_1]
              refine ih (i + 1) _ (by omega) (f3.pJ _ rfl) (fun k hk => ?_)
              rw [pJ_a]
              by_cases e : k = i
              · rw [if_pos ⟨rfl, e⟩]
              · rw [if_neg (fun q => e q.2)]; exact e3 k (by omega)
          exact key 60 0 t0 rfl (Fj.rf _ _ _) (fun k hk => absurd hk (by omega))
        · refine br_t h3 (br_f h4 (qi ?_))
          exact bX8_row_0 (sr_isShelf_g h1 (br_f (by decide) (sr_in_g (n := 5) rfl (by decide) h2 (br_f (by decide) (br_t h3 (br_f h4 (qi (K _ _ ⟨a, h⟩))))))))
      · refine br_f h3 (qi ?_)
        exact bX8_row_0 (sr_isShelf_g h1 (br_f (by decide) (sr_in_g (n := 5) rfl (by decide) h2 (br_f (by decide) (br_f h3 (qi (K _ _ ⟨a, h⟩)))))))
    · refine sp_out_b (n := 5) rfl (by decide) h2 (br_n (by decide) (qi ?_))
      exact bX8_row_0 (sr_isShelf_g h1 (br_f (by decide) (sr_in_b (n := 5) rfl (by decide) h2 (br_t rfl (qi (K _ _ ⟨a, h⟩))))))
  · refine sp_noShelf_b h1 (br_n (by decide) (qi ?_))
    exact bX8_row_0 (sr_isShelf_b h1 (br_t rfl (qi (K _ _ ⟨a, h⟩))))
end P59
