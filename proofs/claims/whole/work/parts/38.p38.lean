/-! PURE LAYER: enough, jury -/
section P38
variable {g : Gt} {d : Nat} {t : Tt} {a : Aa}
theorem sr_enough {x y : Nat} {b : Pp} {P : Int32 → Tt → Prop} (hm : MoM t b) (hw : PpW b) (hx : x < 1000) (hy : y < 2) (h : P (eans b x y) t) : Rt g (d + 3) mX8_enough 32 [some (.ref 57), some (.int (nI x)), some (.int (nI y)), some (.int (-2)), some (.int 0), none, none] [] t (QI P) := by
  have hn := hw.1
  have hp := n7_pow hn
  have key : ∀ m k, k + m = 2 ^ pn b → Rt g (d + 3) mX8_enough 32 [some (.ref 57), some (.int (nI x)), some (.int (nI y)), some (.int (gI (ebst b x k))), some (.int (nI k)), none, none] [] t (QI P) := by
    intro m
    induction m with
    | zero =>
      intro k hk
      have : k = 2 ^ pn b := by omega
      subst this
      apply bX8_enough_32
      rw [hm.1, shl_tab _ (by omega)]
      refine br_t (nI_le (Nat.le_refl _) (by omega)) ?_
      unfold eans at h
      cases hb : ebst b x (2 ^ pn b) with
      | none =>
        rw [hb] at h
        exact br_f (by decide) (qi h)
      | some j =>
        have hj := ebst_lt _ _ hb
        rw [hb] at h
        dsimp only at h
        refine br_t (nI_pos' (by omega)) ⟨fun c2 => qi ?_, fun c2 => ?_⟩
        · have hy1 : y = 1 := by
            have : y ≠ 0 := fun q => c2 (by rw [q]; rfl)
            omega
          rw [if_pos hy1] at h
          exact h
        · have hy1 : y ≠ 1 := by
            have := nI_inj (b := 0) (by omega) (by decide) c2
            omega
          rw [if_neg hy1] at h
          exact sp_bitsOf (by omega) (qi h)
    | succ m ih =>
      intro k hk
      apply bX8_enough_32
      rw [hm.1, shl_tab _ (by omega)]
      refine br_f (nI_ge (by omega) (by omega)) ?_
      have ew : ebst b x (k + 1) = if x ≤ wtg b k (pn b) ∧ ∀ j, ebst b x k = some j → bits k < bits j then some k else ebst b x k := rfl
      have step : ∀ q, ebst b x (k + 1) = q → Rt g (d + 3) mX8_enough 111 [some (.ref 57), some (.int (nI x)), some (.int (nI y)), some (.int (gI q)), some (.int (nI k)), none, none] [] t (QI P) := by
        intro q hq
        apply bX8_enough_111
        rw [nI_1, ← hq]
        exact ih (k + 1) (by omega)
      have take : ebst b x (k + 1) = some k → Rt g (d + 3) mX8_enough 108 [some (.ref 57), some (.int (nI x)), some (.int (nI y)), none, some (.int (nI k)), none, none] [] t (QI P) := by
        intro q
        apply bX8_enough_108
        exact step (some k) q
      have hwl := wtg_le hw k (pn b) (Nat.le_refl _)
      have inner : ∀ m2 i, i + m2 = pn b → Rt g (d + 3) mX8_enough 49 [some (.ref 57), some (.int (nI x)), some (.int (nI y)), some (.int (gI (ebst b x k))), some (.int (nI k)), some (.int (nI (wtg b k i))), some (.int (nI i))] [] t (QI P) := by
        intro m2
        induction m2 with
        | zero =>
          intro i hi
          have : i = pn b := by omega
          subst this
          apply bX8_enough_49
          rw [hm.1]
          refine br_t (nI_le (Nat.le_refl _) (by omega)) ⟨fun c => ?_, fun c => ?_⟩
          · have c' := (nI_ltI (by omega) (by omega)).mp c
            rw [if_neg (fun q => by omega)] at ew
            exact step _ ew
          · have c' : ¬ wtg b k (pn b) < x := fun q => c (nI_lt q (by omega))
            cases hb : ebst b x k with
            | none =>
              rw [hb] at ew
              rw [if_pos ⟨by omega, fun j hj => by cases hj⟩] at ew
              exact br_t (by decide) (take ew)
            | some j =>
              have hj := ebst_lt _ _ hb
              rw [hb] at ew
              refine br_f (nI_pos (by omega)) (sp_bitsOf (by omega) (sp_bitsOf (x := j) (by omega) ⟨fun c2 => ?_, fun c2 => ?_⟩))
              · have c3 := (nI_leI (bits_lt (by omega)) (bits_lt (by omega))).mp c2
                rw [if_neg (fun q => by have := q.2 j rfl; omega)] at ew
                exact step _ ew
              · have c3 : ¬ bits j ≤ bits k := fun q => c2 (nI_le q (bits_lt (by omega)))
                rw [if_pos ⟨by omega, fun j' hj' => by cases hj'; omega⟩] at ew
                exact take ew
        | succ m2 ih2 =>
          intro i hi
          apply bX8_enough_49
          rw [hm.1]
          refine br_f (nI_ge (by omega) (by omega)) ?_
          rw [bit_tab i (by omega) k (by omega)]
          have step2 : ∀ q, wtg b k (i + 1) = q → Rt g (d + 3) mX8_enough 80 [some (.ref 57), some (.int (nI x)), some (.int (nI y)), some (.int (gI (ebst b x k))), some (.int (nI k)), some (.int (nI q)), some (.int (nI i))] [] t (QI P) := by
            intro q hq
            apply bX8_enough_80
            rw [nI_1, ← hq]
            exact ih2 (i + 1) (by omega)
          have ew2 : wtg b k (i + 1) = if capd k i = 1 then wtg b k i + worth b i else wtg b k i := rfl
          rcases capd_01 k i with e | e
          · rw [e] at ew2 ⊢
            exact br_n (by decide) (step2 _ ew2)
          · rw [e] at ew2 ⊢
            rw [if_pos rfl] at ew2
            refine br_p rfl (sr_worthOf hm hw (by omega) ?_)
            intro z5 e5
            rw [nI_add] at e5
            rw [e5]
            exact step2 _ ew2
      exact inner (pn b) 0 (Nat.zero_add _)
  exact key (2 ^ pn b) 0 (Nat.zero_add _)
theorem both_enough {x y : Int32} {Q : Int32 → Int32 → Tt → Prop} (h : Rel t a) (K : KK Q) : Rt g (d + 300) mX7_enough 0 [some (.ref 0), some (.int x), some (.int y), none, none, none] [] t (QI (fun v t1 => Rt g (d + 300) mX8_enough 0 [some (.ref 57), some (.int x), some (.int y), none, none, none, none] [] t1 (QI (fun w t2 => Q v w t2)))) := by
  apply bX7_enough_0
  by_cases h1 : gd x 1000
  · refine sp_out_g (n := 1000) rfl (by decide) h1 (br_p rfl ?_)
    by_cases h2 : gd y 2
    · refine sp_out_g (n := 2) rfl (by decide) h2 (br_t rfl ?_)
      obtain ⟨x, hx, rfl⟩ := h1
      obtain ⟨y, hy, rfl⟩ := h2
      refine sp_enough h.2.1.1 h.pw hx hy ?_
      apply bX8_enough_0
      refine sr_in_g (n := 1000) rfl (by decide) ⟨x, hx, rfl⟩ (br_f (by decide) ?_)
      refine sr_in_g (n := 2) rfl (by decide) ⟨y, hy, rfl⟩ (br_n (by decide) ?_)
      refine sr_begin h (fun t3 r3 m3 => ?_)
      exact sr_enough m3 h.pw hx hy (K _ _ ⟨a, r3⟩)
    · refine sp_out_b (n := 2) rfl (by decide) h2 (br_f (by decide) (qi ?_))
      apply bX8_enough_0
      exact sr_in_g (n := 1000) rfl (by decide) h1 (br_f (by decide) (sr_in_b (n := 2) rfl (by decide) h2 (br_p rfl (qi (K _ _ ⟨a, h⟩)))))
  · refine sp_out_b (n := 1000) rfl (by decide) h1 (br_n (by decide) (qi ?_))
    apply bX8_enough_0
    exact sr_in_b (n := 1000) rfl (by decide) h1 (br_t rfl (qi (K _ _ ⟨a, h⟩)))
/-- the lesser of two -/
def lsr (b : Pp) (p q : Nat) : Nat := if worth b p < worth b q ∨ (worth b p = worth b q ∧ p < q) then 1 else 0
theorem lsr_2 (b : Pp) (p q : Nat) : lsr b p q < 2 := by unfold lsr; split <;> decide
theorem sp_isLesser {p q : Nat} {b : Pp} {P : Int32 → Tt → Prop} (hm : MoC t 1 b) (hw : PpW b) (hp : p < pn b) (hq : q < pn b) (h : P (nI (lsr b p q)) t) : Rt g (d + 2) mX7_isLesser 0 [some (.ref 0), some (.int (nI p)), some (.int (nI q)), none] [] t (QI P) := by
  have hn := hw.1
  have l1 := worth_le hw hp
  have l2 := worth_le hw hq
  apply bX7_isLesser_0
  refine sp_worthOf mo1 hm hw hp (sp_worthOf mo1 hm hw hq ?_)
  intro z5 e5
  have e5' : z5.toInt = (worth b p : Int) - worth b q := by rw [e5]; exact pk_sub_toInt (by omega) (by omega)
  unfold lsr at h
  refine ⟨fun c => ?_, fun c => ⟨fun c2 => qi ?_, fun c2 => ⟨fun c3 => qi ?_, fun c3 => ?_⟩⟩⟩
  · rw [lt_i, z_i] at c
    rw [if_pos (Or.inl (by omega))] at h
    exact bX7_isLesser_31 (qi h)
  · rw [lt_i, z_i] at c
    have c2' : z5.toInt ≠ 0 := fun e => c2 (Int32.toInt_inj.mp (by rw [e]; rfl))
    rw [if_neg (by omega)] at h
    exact h
  · have c3' := (nI_leI (by omega) (by omega)).mp c3
    rw [lt_i, z_i] at c
    rw [if_neg (by omega)] at h
    exact h
  · have c3' : ¬ q ≤ p := fun e => c3 (nI_le e (by omega))
    have c2' : z5.toInt = 0 := by rw [c2]; rfl
    rw [if_pos (Or.inr ⟨by omega, by omega⟩)] at h
    exact bX7_isLesser_31 (qi h)
theorem sr_isLesser {p q : Nat} {b : Pp} {P : Int32 → Tt → Prop} (hm : MoM t b) (hw : PpW b) (hp : p < pn b) (hq : q < pn b) (h : P (nI (lsr b p q)) t) : Rt g (d + 2) mX8_isLesser 0 [some (.ref 57), some (.int (nI p)), some (.int (nI q))] [] t (QI P) := by
  have hn := hw.1
  have l1 := worth_le hw hp
  have l2 := worth_le hw hq
  apply bX8_isLesser_0
  refine sr_worthOf hm hw hp (sr_worthOf hm hw hq ?_)
  unfold lsr at h
  refine ⟨fun c => ?_, fun c => ?_⟩
  · have c' := (nI_ltI (by omega) (by omega)).mp c
    rw [if_pos (Or.inl c')] at h
    exact bX8_isLesser_31 (qi h)
  · have c' : ¬ worth b p < worth b q := fun e => c (nI_lt e (by omega))
    refine sr_worthOf hm hw hp (sr_worthOf hm hw hq ⟨fun c2 => qi ?_, fun c2 => ⟨fun c3 => qi ?_, fun c3 => ?_⟩⟩)
    · have c2' : worth b p ≠ worth b q := fun e => c2 (by rw [e])
      rw [if_neg (by omega)] at h
      exact h
    · have c3' := (nI_leI (by omega) (by omega)).mp c3
      rw [if_neg (by omega)] at h
      exact h
    · have c2' := nI_inj (by omega) (by omega) c2
      have c3' : ¬ q ≤ p := fun e => c3 (nI_le e (by omega))
      rw [if_pos (Or.inr ⟨by omega, by omega⟩)] at h
      exact bX8_isLesser_31 (qi h)
theorem both_jury {x : Int32} {Q : Int32 → Int32 → Tt → Prop} (h : Rel t a) (K : KK Q) : Rt g (d + 300) mX7_jury 0 [some (.ref 0), some (.int x), none, none, none] [] t (QI (fun v t1 => Rt g (d + 300) mX8_jury 0 [some (.ref 57), some (.int x), none, none, none] [] t1 (QI (fun w t2 => Q v w t2)))) := by
  have hn := h.n7
  apply bX7_jury_0
  by_cases h1 : gd x 1000
  · refine sp_out_g (n := 1000) rfl (by decide) h1 (br_t rfl ?_)
    obtain ⟨k, hk, rfl⟩ := h1
    have q1 : nI k / 100 = nI (k / 100) := pk_div (d := 100) (by omega) (by decide) (by decide)
    have q2 : jr (nI k / 10) 10 = nI (k / 10 % 10) := by rw [l10, pk_div (by omega) (by decide) (by decide), jr_n (by omega) (by decide) (by decide)]
    have q3 : jr (nI k) 10 = nI (k % 10) := jr_n (b := 10) (by omega) (by decide) (by decide)
    rw [q1, q2, q3]
    have md : ∀ (P : Int32 → Tt → Prop), (Rt g (d + 299) mX8_isPerson 0 [some (.ref 57), some (.int (nI (k / 100)))] [] t (QI (fun v7 t6 => (v7 = 0 → QI P (some (.int (-1))) t6) ∧ (¬ v7 = 0 → Rt g (d + 299) mX8_isPerson 0 [some (.ref 57), some (.int (nI (k / 10 % 10)))] [] t6 (QI (fun v10 t9 => (v10 = 0 → QI P (some (.int (-1))) t9) ∧ (¬ v10 = 0 → Rt g (d + 299) mX8_isPerson 0 [some (.ref 57), some (.int (nI (k % 10)))] [] t9 (QI (fun v13 t12 => (v13 = 0 → QI P (some (.int (-1))) t12) ∧ (¬ v13 = 0 → ((nI (k / 100)) = (nI (k / 10 % 10)) → QI P (some (.int (-1))) t12) ∧ (¬ (nI (k / 100)) = (nI (k / 10 % 10)) → ((nI (k / 10 % 10)) = (nI (k % 10)) → QI P (some (.int (-1))) t12) ∧ (¬ (nI (k / 10 % 10)) = (nI (k % 10)) → (¬ (nI (k / 100)) = (nI (k % 10)) → Rt g (d + 299) mX8_beginMouths 0 [some (.ref 57), none] [] t12 (QV (fun t18 => Rt g (d + 299) mX8_isLesser 0 [some (.ref 57), some (.int (nI (k / 100))), some (.int (nI (k / 10 % 10)))] [] t18 (QI (fun v20 t19 => Rt g (d + 299) mX8_isLesser 0 [some (.ref 57), some (.int (nI (k / 100))), some (.int (nI (k % 10)))] [] t19 (QI (fun v22 t21 => (v20 = v22 → Rt g (d + 299) mX8_isLesser 0 [some (.ref 57), some (.int (nI (k / 10 % 10))), some (.int (nI (k / 100)))] [] t21 (QI (fun v25 t24 => Rt g (d + 299) mX8_isLesser 0 [some (.ref 57), some (.int (nI (k / 10 % 10))), some (.int (nI (k % 10)))] [] t24 (QI (fun v27 t26 => (v25 = v27 → QI P (some (.int (nI (k % 10)))) t26) ∧ (¬ v25 = v27 → QI P (some (.int (nI (k / 10 % 10)))) t26)))))) ∧ (¬ v20 = v22 → QI P (some (.int (nI (k / 100)))) t21)))))))) ∧ ((nI (k / 100)) = (nI (k % 10)) → QI P (some (.int (-1))) t12))))))))))))) → Rt g (d + 300) mX8_jury 0 [some (.ref 57), some (.int (nI k)), none, none, none] [] t (QI P) := by
      intro P kk
      apply bX8_jury_0
      refine br_f (nI_pos (by omega)) (br_t (nI_le (b := 999) (by omega) (by decide)) ?_)
      intro z3 e3 z4 e4 z5 e5
      rw [q1] at e3
      rw [q2] at e4
      rw [q3] at e5
      subst e3 e4 e5
      exact kk
    intro z4 e4 z5 e5 z6 e6
    subst e4 e5 e6
    generalize hp : k / 100 = p at *
    generalize hq : k / 10 % 10 = q at *
    generalize hr : k % 10 = r at *
    have b1 : p < 10 := by omega
    have b2 : q < 10 := by omega
    have b3 : r < 10 := by omega
    have bad := K (-1) t ⟨a, h⟩
    by_cases c1 : gd (nI p) (pn (aP a))
    · refine sp_nobody_g h.pc hn c1 (br_p rfl ?_)
      by_cases c2 : gd (nI q) (pn (aP a))
      · refine sp_nobody_g h.pc hn c2 (br_p rfl ?_)
        by_cases c3 : gd (nI r) (pn (aP a))
        · refine sp_nobody_g h.pc hn c3 (br_p rfl ?_)
          have g1 : p < pn (aP a) := by obtain ⟨j, hj, e⟩ := c1; have := nI_inj (by omega) (by omega) e; omega
          have g2 : q < pn (aP a) := by obtain ⟨j, hj, e⟩ := c2; have := nI_inj (by omega) (by omega) e; omega
          have g3 : r < pn (aP a) := by obtain ⟨j, hj, e⟩ := c3; have := nI_inj (by omega) (by omega) e; omega
          have md2 : ∀ (P : Int32 → Tt → Prop), _ → Rt g (d + 300) mX8_jury 0 [some (.ref 57), some (.int (nI k)), none, none, none] [] t (QI P) := fun P kk => md P (sr_isPerson_g h.pm hn c1 (br_f (by decide) (sr_isPerson_g h.pm hn c2 (br_f (by decide) (sr_isPerson_g h.pm hn c3 (br_f (by decide) kk))))))
          refine ⟨fun e1 => qi (md2 _ (br_t e1 (qi bad))), fun e1 => ⟨fun e2 => qi (md2 _ (br_f e1 ⟨fun _ => qi bad, fun _ => br_p e2 (qi bad)⟩)), fun e2 => ⟨fun e3 => ?_, fun e3 => qi (md2 _ (br_f e1 (br_t e3 (qi bad))))⟩⟩⟩
          have u1 := lsr_2 (aP a) p q
          have u2 := lsr_2 (aP a) p r
          have u3 := lsr_2 (aP a) q p
          have u4 := lsr_2 (aP a) q r
          refine sp_isLesser h.2.1.1 h.pw g1 g2 (sp_isLesser h.2.1.1 h.pw g1 g3 ?_)
          refine ⟨fun f1 => ?_, fun f1 => qi (md2 _ (br_f e1 (br_f e3 (br_n e2 ?_))))⟩
          · refine sp_isLesser h.2.1.1 h.pw g2 g1 (sp_isLesser h.2.1.1 h.pw g2 g3 ?_)
            refine ⟨fun f2 => qi (md2 _ (br_f e1 (br_f e3 (br_n e2 ?_)))), fun f2 => qi (md2 _ (br_f e1 (br_f e3 (br_n e2 ?_))))⟩
            · refine sr_begin h (fun t3 r3 m3 => ?_)
              exact sr_isLesser m3 h.pw g1 g2 (sr_isLesser m3 h.pw g1 g3 (br_t f1 (sr_isLesser m3 h.pw g2 g1 (sr_isLesser m3 h.pw g2 g3 (br_t f2 (qi (K _ _ ⟨a, r3⟩)))))))
            · refine sr_begin h (fun t3 r3 m3 => ?_)
              exact sr_isLesser m3 h.pw g1 g2 (sr_isLesser m3 h.pw g1 g3 (br_t f1 (sr_isLesser m3 h.pw g2 g1 (sr_isLesser m3 h.pw g2 g3 (br_f f2 (qi (K _ _ ⟨a, r3⟩)))))))
          · refine sr_begin h (fun t3 r3 m3 => ?_)
            exact sr_isLesser m3 h.pw g1 g2 (sr_isLesser m3 h.pw g1 g3 (br_f f1 (qi (K _ _ ⟨a, r3⟩))))
        · refine sp_nobody_b h.pc hn c3 (br_n (by decide) (qi (md _ ?_)))
          exact sr_isPerson_g h.pm hn c1 (br_f (by decide) (sr_isPerson_g h.pm hn c2 (br_f (by decide) (sr_isPerson_b h.pm hn c3 (br_t rfl (qi bad))))))
      · refine sp_nobody_b h.pc hn c2 (br_n (by decide) (qi (md _ ?_)))
        exact sr_isPerson_g h.pm hn c1 (br_f (by decide) (sr_isPerson_b h.pm hn c2 (br_t rfl (qi bad))))
    · refine sp_nobody_b h.pc hn c1 (br_n (by decide) (qi (md _ ?_)))
      exact sr_isPerson_b h.pm hn c1 (br_t rfl (qi bad))
  · refine sp_out_b (n := 1000) rfl (by decide) h1 (br_f (by decide) (qi ?_))
    apply bX8_jury_0
    refine ⟨fun _ => qi (K _ _ ⟨a, h⟩), fun c => ⟨fun c2 => absurd ?_ h1, fun _ => qi (K _ _ ⟨a, h⟩)⟩⟩
    rw [gd_iff (by decide)]
    rw [lt_i, z_i] at c
    rw [le_i, show (999 : Int32).toInt = 999 from rfl] at c2
    omega
end P38
