/-! PURE LAYER: led, count -/
section P47
variable {g : Gt} {d : Nat} {t : Tt} {a : Aa}
theorem both_led {x : Int32} {Q : Int32 → Int32 → Tt → Prop} (h : Rel t a) (K : KK Q) : Rt g (d + 300) mX7_led 0 [some (.ref 0), some (.int x)] [] t (QI (fun v t1 => Rt g (d + 300) mX8_led 0 [some (.ref 57), some (.int x)] [] t1 (QI (fun w t2 => Q v w t2)))) := by
  apply bX7_led_0
  by_cases h1 : gd x 6
  · refine sp_out_g (n := 6) rfl (by decide) h1 (br_t rfl ?_)
    obtain ⟨k, hk, rfl⟩ := h1
    refine ⟨vpn hk, qi ?_⟩
    apply bX8_led_0
    refine sr_in_g (n := 6) rfl (by decide) ⟨k, hk, rfl⟩ (br_f (by decide) ⟨vpn hk, qi ?_⟩)
    rw [ncl (by omega), h.2.1.2.2.2.2.2.2.1 k hk, h.2.2.2.2.2.2.2.2.1 k hk]
    exact K _ _ ⟨a, h⟩
  · refine sp_out_b (n := 6) rfl (by decide) h1 (br_f (by decide) (qi ?_))
    apply bX8_led_0
    exact sr_in_b (n := 6) rfl (by decide) h1 (br_t rfl (qi (K _ _ ⟨a, h⟩)))
def gnN (b : Pp) : Nat → Nat
  | 0 => 0
  | i + 1 => if fsum (pf b i) 8 = 0 then gnN b i + 1 else gnN b i
theorem both_count {x : Int32} {Q : Int32 → Int32 → Tt → Prop} (h : Rel t a) (K : KK Q) : Rt g (d + 300) mX7_count 0 [some (.ref 0), some (.int x)] [] t (QI (fun v t1 => Rt g (d + 300) mX8_count 0 [some (.ref 57), some (.int x), none, none] [] t1 (QI (fun w t2 => Q v w t2)))) := by
  have hn := h.n7
  apply bX7_count_0
  refine ⟨fun c => qi (bX8_count_0 (br_t c (qi ?_))), fun c0 => ⟨fun c => ?_, fun c1 => ⟨fun c => qi (bX8_count_0 (br_f c0 (br_f c1 (br_t c (qi ?_))))), fun c2 => ⟨fun c => qi (bX8_count_0 (br_f c0 (br_f c1 (br_f c2 (br_t c (qi ?_)))))), fun c3 => ⟨fun c => qi (bX8_count_0 (br_f c0 (br_f c1 (br_f c2 (br_f c3 (br_t c (qi ?_))))))), fun c4 => ⟨fun c => qi (bX8_count_0 (br_f c0 (br_f c1 (br_f c2 (br_f c3 (br_f c4 (br_t c (qi ?_)))))))), fun c5 => qi (bX8_count_0 (br_f c0 (br_f c1 (br_f c2 (br_f c3 (br_f c4 (br_f c5 (qi (K _ _ ⟨a, h⟩)))))))))⟩⟩⟩⟩⟩⟩
  · rw [h.pc, h.pm]; exact K _ _ ⟨a, h⟩
  · have fin : Rt g (d + 300) mX8_count 0 [some (.ref 57), some (.int x), none, none] [] t (QI (fun w t2 => Q (nI (gnN (aP a) (pn (aP a)))) w t2)) := by
      refine bX8_count_0 (br_f c0 (br_t c ?_))
      refine sr_begin h (fun t3 r3 m3 => ?_)
      have key : ∀ m i, i + m = pn (aP a) → Rt g (d + 300) mX8_count 53 [some (.ref 57), none, some (.int (nI (gnN (aP a) i))), some (.int (nI i))] [] t3 (QI (fun w t2 => Q (nI (gnN (aP a) (pn (aP a)))) w t2)) := by
        intro m
        induction m with
        | zero =>
          intro i hi
          have : i = pn (aP a) := by omega
          rw [this]
          apply bX8_count_53
          rw [r3.pm]
          exact br_t (nI_le (Nat.le_refl _) (by omega)) (qi (K _ _ ⟨a, r3⟩))
        | succ m ih =>
          intro i hi
          apply bX8_count_53
          rw [r3.pm]
          refine br_f (nI_ge (by omega) (by omega)) (sr_isGone m3 h.pw (by omega) ?_)
          have ew : gnN (aP a) (i + 1) = if fsum (pf (aP a) i) 8 = 0 then gnN (aP a) i + 1 else gnN (aP a) i := rfl
          have step : ∀ q, gnN (aP a) (i + 1) = q → Rt g (d + 300) mX8_count 72 [some (.ref 57), none, some (.int (nI q)), some (.int (nI i))] [] t3 (QI (fun w t2 => Q (nI (gnN (aP a) (pn (aP a)))) w t2)) := by
            intro q hq
            apply bX8_count_72
            rw [nI_1, ← hq]
            exact ih (i + 1) (by omega)
          by_cases h0 : fsum (pf (aP a) i) 8 = 0
          · rw [if_pos h0] at ew ⊢
            rw [nI_1]
            exact br_f (by decide) (step _ ew)
          · rw [if_neg h0] at ew ⊢
            exact br_t rfl (step _ ew)
      exact key (pn (aP a)) 0 (Nat.zero_add _)
    apply bX5_howManyGone_0 mo1
    have key : ∀ m i, i + m = pn (aP a) → Rt g (d + 299) mX5_howManyGone 4 [some (.ref 1), some (.int (nI (gnN (aP a) i))), some (.int (nI i))] [] t (QI (fun v t1 => QI (fun v t1 => Rt g (d + 300) mX8_count 0 [some (.ref 57), some (.int x), none, none] [] t1 (QI (fun w t2 => Q v w t2))) (some (.int v)) t1)) := by
      intro m
      induction m with
      | zero =>
        intro i hi
        have : i = pn (aP a) := by omega
        rw [this]
        apply bX5_howManyGone_4 mo1
        rw [h.pc]
        exact br_t (nI_le (Nat.le_refl _) (by omega)) (qi (qi fin))
      | succ m ih =>
        intro i hi
        apply bX5_howManyGone_4 mo1
        rw [h.pc]
        refine br_f (nI_ge (by omega) (by omega)) (sp_isGone mo1 h.2.1.1 h.pw (by omega) ?_)
        have ew : gnN (aP a) (i + 1) = if fsum (pf (aP a) i) 8 = 0 then gnN (aP a) i + 1 else gnN (aP a) i := rfl
        have step : ∀ q, gnN (aP a) (i + 1) = q → Rt g (d + 299) mX5_howManyGone 23 [some (.ref 1), some (.int (nI q)), some (.int (nI i))] [] t (QI (fun v t1 => QI (fun v t1 => Rt g (d + 300) mX8_count 0 [some (.ref 57), some (.int x), none, none] [] t1 (QI (fun w t2 => Q v w t2))) (some (.int v)) t1)) := by
          intro q hq
          apply bX5_howManyGone_23 mo1
          rw [nI_1, ← hq]
          exact ih (i + 1) (by omega)
        by_cases h0 : fsum (pf (aP a) i) 8 = 0
        · rw [if_pos h0] at ew ⊢
          rw [nI_1]
          exact br_f (by decide) (step _ ew)
        · rw [if_neg h0] at ew ⊢
          exact br_t rfl (step _ ew)
    exact key (pn (aP a)) 0 (Nat.zero_add _)
  · rw [h.2.1.2.2.2.1.1, h.2.2.2.2.2.1.1]; exact K _ _ ⟨a, h⟩
  · rw [h.2.1.2.2.1.1, h.2.2.2.2.1.1]; exact K _ _ ⟨a, h⟩
  · rw [h.2.1.2.2.2.2.2.2.2.1.1, h.2.2.2.2.2.2.2.2.2.1.1]; exact K _ _ ⟨a, h⟩
  · rw [h.2.1.2.2.2.2.2.2.2.1.2.1, h.2.2.2.2.2.2.2.2.2.1.2.1]; exact K _ _ ⟨a, h⟩
end P47
