theorem bX0_bear_0 {g : Gt} {d : Nat} {t : Tt} {Q : Option Value → Tt → Prop} {p0 : Int32} (h : ((t.1 27 0) < 50 → vp_in (t.1 27 0) 50 ∧ Q (some (.int (((pI (pI t 28 (t.1 27 0).toNatClampNeg p0) 27 0 (((pI t 28 (t.1 27 0).toNatClampNeg p0).1 27 0) + 1)).1 27 0) - 1))) (pI (pI t 28 (t.1 27 0).toNatClampNeg p0) 27 0 (((pI t 28 (t.1 27 0).toNatClampNeg p0).1 27 0) + 1))) ∧ (¬ (t.1 27 0) < 50 → Q (some (.int (-3))) t)) : Rt g d mX0_bear 0 [some (.ref 27), some (.int p0)] [] t Q := by
  refine s_aload_n dX0_bear_0 rfl rfl ?_
  refine t_getI dX0_bear_1 fl_X0_18 rfl (by decide) rfl ?_
  refine s_bipush (v := 50) dX0_bear_4 (by decide) ?_
  refine s_icmp_lt (tgt := 12) dX0_bear_6 (by decide) (fun c1 => ?_) (fun c1 => ?_)
  · replace h := h.1 c1
    refine s_aload_n dX0_bear_12 rfl rfl ?_
    refine t_getR (o' := 28) dX0_bear_13 fl_X0_11 rfl (by decide) rfl rfl ?_
    refine s_aload_n dX0_bear_16 rfl rfl ?_
    refine t_getI dX0_bear_17 fl_X0_18 rfl (by decide) rfl ?_
    refine s_iload_n dX0_bear_20 rfl rfl ?_
    obtain ⟨g2, h⟩ := h
    refine t_iast dX0_bear_21 rfl (by decide) g2 ?_
    refine s_aload_n dX0_bear_22 rfl rfl ?_
    refine s_dup dX0_bear_23 rfl ?_
    refine t_getI dX0_bear_24 fl_X0_18 rfl (by decide) rfl ?_
    refine s_iconst (v := 1) dX0_bear_27 (by decide) ?_
    refine s_iadd dX0_bear_28 ?_
    refine t_putI dX0_bear_29 fl_X0_18 rfl (by decide) rfl rfl rfl rfl ?_
    refine s_aload_n dX0_bear_32 rfl rfl ?_
    refine t_getI dX0_bear_33 fl_X0_18 rfl (by decide) rfl ?_
    refine s_iconst (v := 1) dX0_bear_36 (by decide) ?_
    refine s_isub dX0_bear_37 ?_
    exact t_iret dX0_bear_38 (NR_i rfl _) h
  · replace h := h.2 c1
    refine s_bipush (v := (-3)) dX0_bear_9 (by decide) ?_
    exact t_iret dX0_bear_11 (NR_i rfl _) h
theorem bX0_isUnder_0 {g : Gt} {d : Nat} {t : Tt} {Q : Option Value → Tt → Prop} {p0 : Int32} {p1 : Int32} (h : Rt g d mX0_isUnder 4 [none, some (.int p1), some (.int p0), some (.int 0)] [] t Q) : Rt g d mX0_isUnder 0 [some (.int p0), some (.int p1), none, none] [] t Q := by
  refine s_iload_n dX0_isUnder_0 rfl rfl ?_
  refine s_istore_n dX0_isUnder_1 rfl (by decide) rfl (L9 := [some (.int p0), some (.int p1), some (.int p0), none]) rfl ?_
  refine s_iconst (v := 0) dX0_isUnder_2 (by decide) ?_
  refine s_istore_n dX0_isUnder_3 rfl (by decide) rfl (L9 := [some (.int p0), some (.int p1), some (.int p0), some (.int 0)]) rfl ?_
  exact Rt.lc h (lc_none (lc_some (lc_some (lc_some lc_nil))))
theorem bX0_isUnder_4 {g : Gt} {d : Nat} {t : Tt} {Q : Option Value → Tt → Prop} {x1 : Int32} {x2 : Int32} {x3 : Int32} (h : (8 ≤ x3 → Rt g d mX0_isUnder 31 [none, some (.int x1), some (.int x2), none] [] t Q) ∧ (¬ 8 ≤ x3 → (x2 < 0 → Rt g d mX0_isUnder 31 [none, some (.int x1), some (.int x2), none] [] t Q) ∧ (¬ x2 < 0 → (x2 = x1 → Rt g d mX0_isUnder 31 [none, some (.int x1), some (.int x2), none] [] t Q) ∧ (¬ x2 = x1 → vp_in x2 8 ∧ (∀ z5 : Int32, z5 = (tabA x2.toNatClampNeg) → Rt g d mX0_isUnder 4 [none, some (.int x1), some (.int z5), some (.int (x3 + 1))] [] t Q))))) : Rt g d mX0_isUnder 4 [none, some (.int x1), some (.int x2), some (.int x3)] [] t Q := by
  refine s_iload_n dX0_isUnder_4 rfl rfl ?_
  refine s_bipush (v := 8) dX0_isUnder_5 (by decide) ?_
  refine s_icmp_ge (tgt := 31) dX0_isUnder_7 (by decide) (fun c1 => ?_) (fun c1 => ?_)
  · replace h := h.1 c1
    exact Rt.lc h (lc_none (lc_some (lc_some (lc_none lc_nil))))
  · replace h := h.2 c1
    refine s_iload_n dX0_isUnder_10 rfl rfl ?_
    refine s_if_lt (tgt := 31) dX0_isUnder_11 (by decide) (fun c2 => ?_) (fun c2 => ?_)
    · replace h := h.1 c2
      exact Rt.lc h (lc_none (lc_some (lc_some (lc_none lc_nil))))
    · replace h := h.2 c2
      refine s_iload_n dX0_isUnder_14 rfl rfl ?_
      refine s_iload_n dX0_isUnder_15 rfl rfl ?_
      refine s_icmp_eq (tgt := 31) dX0_isUnder_16 (by decide) (fun c3 => ?_) (fun c3 => ?_)
      · replace h := h.1 c3
        exact Rt.lc h (lc_none (lc_some (lc_some (lc_none lc_nil))))
      · replace h := h.2 c3
        refine s_gsA dX0_isUnder_19 sf_X0_22 ?_
        refine s_iload_n dX0_isUnder_22 rfl rfl ?_
        obtain ⟨g4, h⟩ := h
        refine s_tabA dX0_isUnder_23 g4 ?_
        refine t_nmI (fun z5 ez5 => ?_)
        replace h := h z5 ez5
        refine s_istore_n dX0_isUnder_24 rfl (by decide) rfl (L9 := [none, some (.int x1), some (.int z5), some (.int x3)]) rfl ?_
        refine s_iinc (w := x3 + 1) dX0_isUnder_25 rfl (by rfl) (by decide) rfl (L9 := [none, some (.int x1), some (.int z5), some (.int (x3 + 1))]) rfl ?_
        refine s_goto (tgt := 4) dX0_isUnder_28 (by decide) ?_
        exact h
theorem bX0_isUnder_31 {g : Gt} {d : Nat} {t : Tt} {Q : Option Value → Tt → Prop} {x1 : Int32} {x2 : Int32} (h : (¬ x2 = x1 → Q (some (.int 0)) t) ∧ (x2 = x1 → Q (some (.int 1)) t)) : Rt g d mX0_isUnder 31 [none, some (.int x1), some (.int x2), none] [] t Q := by
  refine s_iload_n dX0_isUnder_31 rfl rfl ?_
  refine s_iload_n dX0_isUnder_32 rfl rfl ?_
  refine s_icmp_ne (tgt := 40) dX0_isUnder_33 (by decide) (fun c1 => ?_) (fun c1 => ?_)
  · replace h := h.1 c1
    refine s_iconst (v := 0) dX0_isUnder_40 (by decide) ?_
    exact t_iret dX0_isUnder_41 (NR_z rfl (Or.inl rfl)) h
  · replace h := h.2 c1
    refine s_iconst (v := 1) dX0_isUnder_36 (by decide) ?_
    refine s_goto (tgt := 41) dX0_isUnder_37 (by decide) ?_
    exact t_iret dX0_isUnder_41 (NR_z rfl (Or.inr rfl)) h
theorem bX0_tracedBodies_0 {g : Gt} {d : Nat} {t : Tt} {Q : Option Value → Tt → Prop} (h : Q (some (.int (imin (t.1 27 2) 24))) t) : Rt g (d + 1) mX0_tracedBodies 0 [some (.ref 27)] [] t Q := by
  refine s_aload_n dX0_tracedBodies_0 rfl rfl ?_
  refine t_getI dX0_tracedBodies_1 fl_X0_25 rfl (by decide) rfl ?_
  refine s_bipush (v := 24) dX0_tracedBodies_4 (by decide) ?_
  refine t_min dX0_tracedBodies_6 mmin_X0_28 (Nat.le_of_ble_eq_true rfl) ?_
  exact t_iret dX0_tracedBodies_9 (NR_i rfl _) h
theorem bX0_perform_0 {g : Gt} {d : Nat} {t : Tt} {Q : Option Value → Tt → Prop} {p0 : Int32} {p1 : Int32} {p2 : Int32} (h : Rt g d mX7_outside 0 [some (.int p0), some (.int (((pI t 27 2 0).1 27 0) - 1))] [] (pI t 27 2 0) (QI (fun v2 t1 => (¬ v2 = 0 → Q (some (.int 0)) t1) ∧ (v2 = 0 → Rt g d mX7_outside 0 [some (.int p1), some (.int 3)] [] t1 (QI (fun v5 t4 => (v5 = 0 → vp_in p0 50 ∧ Rt g d mX0_run 0 [some (.ref 27), some (.int p0), some (.int (t4.1 28 p0.toNatClampNeg)), some (.int p1), some (.int p2), some (.int 0), none, none] [] t4 (QI (fun v9 t8 => Q (some (.int v9)) t8))) ∧ (¬ v5 = 0 → Q (some (.int 0)) t4))))))) : Rt g (d + 1) mX0_perform 0 [some (.ref 27), some (.int p0), some (.int p1), some (.int p2)] [] t Q := by
  refine s_aload_n dX0_perform_0 rfl rfl ?_
  refine s_iconst (v := 0) dX0_perform_1 (by decide) ?_
  refine t_putI dX0_perform_2 fl_X0_25 rfl (by decide) rfl rfl rfl rfl ?_
  refine s_iload_n dX0_perform_5 rfl rfl ?_
  refine s_aload_n dX0_perform_6 rfl rfl ?_
  refine t_getI dX0_perform_7 fl_X0_18 rfl (by decide) rfl ?_
  refine s_iconst (v := 1) dX0_perform_10 (by decide) ?_
  refine s_isub dX0_perform_11 ?_
  refine t_callS (M' := mX7_outside) (k := 0) (As := [.int p0, .int (((pI t 27 2 0).1 27 0) - 1)]) (rest := []) dX0_perform_12 ml_X0_34 mstX7_outside rfl (Nat.le_of_ble_eq_true rfl) (Nat.le_of_ble_eq_true rfl) rfl h (fun rv t1 q => ?_)
  obtain ⟨v2, rfl, h⟩ := q
  show Rt g (d + 1) mX0_perform 15 [some (.ref 27), some (.int p0), some (.int p1), some (.int p2)] [.int v2] t1 Q
  refine s_if_ne (tgt := 26) dX0_perform_15 (by decide) (fun c3 => ?_) (fun c3 => ?_)
  · replace h := h.1 c3
    refine s_iconst (v := 0) dX0_perform_26 (by decide) ?_
    exact t_iret dX0_perform_27 (NR_i rfl _) h
  · replace h := h.2 c3
    refine s_iload_n dX0_perform_18 rfl rfl ?_
    refine s_iconst (v := 3) dX0_perform_19 (by decide) ?_
    refine t_callS (M' := mX7_outside) (k := 0) (As := [.int p1, .int 3]) (rest := []) dX0_perform_20 ml_X0_34 mstX7_outside rfl (Nat.le_of_ble_eq_true rfl) (Nat.le_of_ble_eq_true rfl) rfl h (fun rv t4 q => ?_)
    obtain ⟨v5, rfl, h⟩ := q
    show Rt g (d + 1) mX0_perform 23 [some (.ref 27), some (.int p0), some (.int p1), some (.int p2)] [.int v5] t4 Q
    refine s_if_eq (tgt := 28) dX0_perform_23 (by decide) (fun c6 => ?_) (fun c6 => ?_)
    · replace h := h.1 c6
      refine s_aload_n dX0_perform_28 rfl rfl ?_
      refine s_iload_n dX0_perform_29 rfl rfl ?_
      refine s_aload_n dX0_perform_30 rfl rfl ?_
      refine t_getR (o' := 28) dX0_perform_31 fl_X0_11 rfl (by decide) rfl rfl ?_
      refine s_iload_n dX0_perform_34 rfl rfl ?_
      obtain ⟨g7, h⟩ := h
      refine t_iald dX0_perform_35 rfl (by decide) g7 ?_
      refine s_iload_n dX0_perform_36 rfl rfl ?_
      refine s_iload_n dX0_perform_37 rfl rfl ?_
      refine s_iconst (v := 0) dX0_perform_38 (by decide) ?_
      refine t_callV (M' := mX0_run) (k := 2) (As := [.int p0, .int (t4.1 28 p0.toNatClampNeg), .int p1, .int p2, .int 0]) (rest := []) dX0_perform_39 ml_X0_38 miX0_run msX0_run rfl (by decide) rfl rfl (Nat.le_of_ble_eq_true rfl) (Nat.le_of_ble_eq_true rfl) rfl h (fun rv t8 q => ?_)
      obtain ⟨v9, rfl, h⟩ := q
      show Rt g (d + 1) mX0_perform 42 [some (.ref 27), some (.int p0), some (.int p1), some (.int p2)] [.int v9] t8 Q
      exact t_iret dX0_perform_42 (NR_i rfl _) h
    · replace h := h.2 c6
      refine s_iconst (v := 0) dX0_perform_26 (by decide) ?_
      exact t_iret dX0_perform_27 (NR_i rfl _) h
theorem bX0_run_0 {g : Gt} {d : Nat} {t : Tt} {Q : Option Value → Tt → Prop} {p0 : Int32} {p1 : Int32} {p2 : Int32} {p3 : Int32} {p4 : Int32} (h : Rt g (d + 1) mX0_run 6 [some (.ref 27), some (.int p0), none, some (.int p2), some (.int p3), some (.int p4), some (.int p1), some (.int 0)] [] t Q) : Rt g (d + 1) mX0_run 0 [some (.ref 27), some (.int p0), some (.int p1), some (.int p2), some (.int p3), some (.int p4), none, none] [] t Q := by
  refine s_iload_n dX0_run_0 rfl rfl ?_
  refine s_istore dX0_run_1 (by decide) rfl (L9 := [some (.ref 27), some (.int p0), some (.int p1), some (.int p2), some (.int p3), some (.int p4), some (.int p1), none]) rfl ?_
  refine s_iconst (v := 0) dX0_run_3 (by decide) ?_
  refine s_istore dX0_run_4 (by decide) rfl (L9 := [some (.ref 27), some (.int p0), some (.int p1), some (.int p2), some (.int p3), some (.int p4), some (.int p1), some (.int 0)]) rfl ?_
  exact Rt.lc h (lc_some (lc_some (lc_none (lc_some (lc_some (lc_some (lc_some (lc_some lc_nil))))))))
theorem bX0_run_6 {g : Gt} {d : Nat} {t : Tt} {Q : Option Value → Tt → Prop} {x1 : Int32} {x3 : Int32} {x4 : Int32} {x5 : Int32} {x6 : Int32} {x7 : Int32} (h : (8 ≤ x7 → Rt g (d + 1) mX0_run 45 [some (.ref 27), some (.int x1), none, some (.int x3), some (.int x4), some (.int x5), some (.int x6), none] [] t Q) ∧ (¬ 8 ≤ x7 → (x6 < 0 → Rt g (d + 1) mX0_run 45 [some (.ref 27), some (.int x1), none, some (.int x3), some (.int x4), some (.int x5), some (.int x6), none] [] t Q) ∧ (¬ x6 < 0 → vp_in ((x6 * 4) + x3) 32 ∧ ((¬ (tabO ((x6 * 4) + x3).toNatClampNeg) = 0 → Rt g (d + 1) mX0_run 45 [some (.ref 27), some (.int x1), none, some (.int x3), some (.int x4), some (.int x5), some (.int x6), none] [] t Q) ∧ ((tabO ((x6 * 4) + x3).toNatClampNeg) = 0 → vp_in x6 8 ∧ (∀ z6 : Int32, z6 = (tabA x6.toNatClampNeg) → Rt g (d + 1) mX0_run 6 [some (.ref 27), some (.int x1), none, some (.int x3), some (.int x4), some (.int x5), some (.int z6), some (.int (x7 + 1))] [] t Q)))))) : Rt g (d + 1) mX0_run 6 [some (.ref 27), some (.int x1), none, some (.int x3), some (.int x4), some (.int x5), some (.int x6), some (.int x7)] [] t Q := by
  refine s_iload dX0_run_6 rfl ?_
  refine s_bipush (v := 8) dX0_run_8 (by decide) ?_
  refine s_icmp_ge (tgt := 45) dX0_run_10 (by decide) (fun c1 => ?_) (fun c1 => ?_)
  · replace h := h.1 c1
    exact Rt.lc h (lc_some (lc_some (lc_none (lc_some (lc_some (lc_some (lc_some (lc_none lc_nil))))))))
  · replace h := h.2 c1
    refine s_iload dX0_run_13 rfl ?_
    refine s_if_lt (tgt := 45) dX0_run_15 (by decide) (fun c2 => ?_) (fun c2 => ?_)
    · replace h := h.1 c2
      exact Rt.lc h (lc_some (lc_some (lc_none (lc_some (lc_some (lc_some (lc_some (lc_none lc_nil))))))))
    · replace h := h.2 c2
      refine s_gsO dX0_run_18 sf_X0_42 ?_
      refine s_iload dX0_run_21 rfl ?_
      refine s_iconst (v := 4) dX0_run_23 (by decide) ?_
      refine s_imul dX0_run_24 ?_
      refine s_iload_n dX0_run_25 rfl rfl ?_
      refine s_iadd dX0_run_26 ?_
      obtain ⟨g3, h⟩ := h
      refine s_tabO dX0_run_27 g3 ?_
      refine s_if_ne (tgt := 45) dX0_run_28 (by decide) (fun c4 => ?_) (fun c4 => ?_)
      · replace h := h.1 c4
        exact Rt.lc h (lc_some (lc_some (lc_none (lc_some (lc_some (lc_some (lc_some (lc_none lc_nil))))))))
      · replace h := h.2 c4
        refine s_gsA dX0_run_31 sf_X0_22 ?_
        refine s_iload dX0_run_34 rfl ?_
        obtain ⟨g5, h⟩ := h
        refine s_tabA dX0_run_36 g5 ?_
        refine t_nmI (fun z6 ez6 => ?_)
        replace h := h z6 ez6
        refine s_istore dX0_run_37 (by decide) rfl (L9 := [some (.ref 27), some (.int x1), none, some (.int x3), some (.int x4), some (.int x5), some (.int z6), some (.int x7)]) rfl ?_
        refine s_iinc (w := x7 + 1) dX0_run_39 rfl (by rfl) (by decide) rfl (L9 := [some (.ref 27), some (.int x1), none, some (.int x3), some (.int x4), some (.int x5), some (.int z6), some (.int (x7 + 1))]) rfl ?_
        refine s_goto (tgt := 6) dX0_run_42 (by decide) ?_
        exact h
theorem bX0_run_45 {g : Gt} {d : Nat} {t : Tt} {Q : Option Value → Tt → Prop} {x1 : Int32} {x3 : Int32} {x4 : Int32} {x5 : Int32} {x6 : Int32} (h : (x6 < 0 → Q (some (.int 0)) t) ∧ (¬ x6 < 0 → (x5 ≤ 40 → vp_in ((x6 * 4) + x3) 32 ∧ (∀ z4 : Int32, z4 = (tabO ((x6 * 4) + x3).toNatClampNeg) → (24 ≤ (t.1 27 2) → Rt g (d + 1) mX0_run 91 [some (.ref 27), some (.int x1), none, none, some (.int x4), some (.int x5), some (.int x6), some (.int z4)] [] t Q) ∧ (¬ 24 ≤ (t.1 27 2) → vp_in (t.1 27 2) 24 ∧ Rt g (d + 1) mX0_run 91 [some (.ref 27), some (.int x1), none, none, some (.int x4), some (.int x5), some (.int x6), some (.int z4)] [] (pI t 29 (t.1 27 2).toNatClampNeg z4) Q))) ∧ (¬ x5 ≤ 40 → Q (some (.int 0)) t))) : Rt g (d + 1) mX0_run 45 [some (.ref 27), some (.int x1), none, some (.int x3), some (.int x4), some (.int x5), some (.int x6), none] [] t Q := by
  refine s_iload dX0_run_45 rfl ?_
  refine s_if_lt (tgt := 57) dX0_run_47 (by decide) (fun c1 => ?_) (fun c1 => ?_)
  · replace h := h.1 c1
    refine s_iconst (v := 0) dX0_run_57 (by decide) ?_
    exact t_iret dX0_run_58 (NR_i rfl _) h
  · replace h := h.2 c1
    refine s_iload dX0_run_50 rfl ?_
    refine s_bipush (v := 40) dX0_run_52 (by decide) ?_
    refine s_icmp_le (tgt := 59) dX0_run_54 (by decide) (fun c2 => ?_) (fun c2 => ?_)
    · replace h := h.1 c2
      refine s_gsO dX0_run_59 sf_X0_42 ?_
      refine s_iload dX0_run_62 rfl ?_
      refine s_iconst (v := 4) dX0_run_64 (by decide) ?_
      refine s_imul dX0_run_65 ?_
      refine s_iload_n dX0_run_66 rfl rfl ?_
      refine s_iadd dX0_run_67 ?_
      obtain ⟨g3, h⟩ := h
      refine s_tabO dX0_run_68 g3 ?_
      refine t_nmI (fun z4 ez4 => ?_)
      replace h := h z4 ez4
      refine s_istore dX0_run_69 (by decide) rfl (L9 := [some (.ref 27), some (.int x1), none, some (.int x3), some (.int x4), some (.int x5), some (.int x6), some (.int z4)]) rfl ?_
      refine s_aload_n dX0_run_71 rfl rfl ?_
      refine t_getI dX0_run_72 fl_X0_25 rfl (by decide) rfl ?_
      refine s_bipush (v := 24) dX0_run_75 (by decide) ?_
      refine s_icmp_ge (tgt := 91) dX0_run_77 (by decide) (fun c5 => ?_) (fun c5 => ?_)
      · replace h := h.1 c5
        exact Rt.lc h (lc_some (lc_some (lc_none (lc_none (lc_some (lc_some (lc_some (lc_some lc_nil))))))))
      · replace h := h.2 c5
        refine s_aload_n dX0_run_80 rfl rfl ?_
        refine t_getR (o' := 29) dX0_run_81 fl_X0_15 rfl (by decide) rfl rfl ?_
        refine s_aload_n dX0_run_84 rfl rfl ?_
        refine t_getI dX0_run_85 fl_X0_25 rfl (by decide) rfl ?_
        refine s_iload dX0_run_88 rfl ?_
        obtain ⟨g6, h⟩ := h
        refine t_iast dX0_run_90 rfl (by decide) g6 ?_
        exact Rt.lc h (lc_some (lc_some (lc_none (lc_none (lc_some (lc_some (lc_some (lc_some lc_nil))))))))
    · replace h := h.2 c2
      refine s_iconst (v := 0) dX0_run_57 (by decide) ?_
      exact t_iret dX0_run_58 (NR_i rfl _) h
theorem bX0_run_91 {g : Gt} {d : Nat} {t : Tt} {Q : Option Value → Tt → Prop} {x1 : Int32} {x4 : Int32} {x5 : Int32} {x6 : Int32} {x7 : Int32} (h : vp_in x6 8 ∧ ((0 ≤ (tabA x6.toNatClampNeg) → vp_in x6 8 ∧ Rt g d mX0_work 0 [some (.ref 27), some (.int x7), some (.int x1), some (.int (tabA x6.toNatClampNeg)), some (.int x4), some (.int x5), none, none] [] (pI t 27 2 ((t.1 27 2) + 1)) (QI (fun v5 t4 => Q (some (.int v5)) t4))) ∧ (¬ 0 ≤ (tabA x6.toNatClampNeg) → Rt g d mX0_rootWork 0 [some (.ref 27), some (.int x7), some (.int x1), some (.int x4), some (.int x5), none, none] [] (pI t 27 2 ((t.1 27 2) + 1)) (QI (fun v7 t6 => Q (some (.int v7)) t6))))) : Rt g (d + 1) mX0_run 91 [some (.ref 27), some (.int x1), none, none, some (.int x4), some (.int x5), some (.int x6), some (.int x7)] [] t Q := by
  refine s_aload_n dX0_run_91 rfl rfl ?_
  refine s_dup dX0_run_92 rfl ?_
  refine t_getI dX0_run_93 fl_X0_25 rfl (by decide) rfl ?_
  refine s_iconst (v := 1) dX0_run_96 (by decide) ?_
  refine s_iadd dX0_run_97 ?_
  refine t_putI dX0_run_98 fl_X0_25 rfl (by decide) rfl rfl rfl rfl ?_
  refine s_gsA dX0_run_101 sf_X0_22 ?_
  refine s_iload dX0_run_104 rfl ?_
  obtain ⟨g1, h⟩ := h
  refine s_tabA dX0_run_106 g1 ?_
  refine s_if_ge (tgt := 124) dX0_run_107 (by decide) (fun c2 => ?_) (fun c2 => ?_)
  · replace h := h.1 c2
    refine s_aload_n dX0_run_124 rfl rfl ?_
    refine s_iload dX0_run_125 rfl ?_
    refine s_iload_n dX0_run_127 rfl rfl ?_
    refine s_gsA dX0_run_128 sf_X0_22 ?_
    refine s_iload dX0_run_131 rfl ?_
    obtain ⟨g3, h⟩ := h
    refine s_tabA dX0_run_133 g3 ?_
    refine s_iload dX0_run_134 rfl ?_
    refine s_iload dX0_run_136 rfl ?_
    refine t_callV (M' := mX0_work) (k := 2) (As := [.int x7, .int x1, .int (tabA x6.toNatClampNeg), .int x4, .int x5]) (rest := []) dX0_run_138 ml_X0_49 miX0_work msX0_work rfl (by decide) rfl rfl (Nat.le_of_ble_eq_true rfl) (Nat.le_of_ble_eq_true rfl) rfl h (fun rv t4 q => ?_)
    obtain ⟨v5, rfl, h⟩ := q
    show Rt g (d + 1) mX0_run 141 [some (.ref 27), some (.int x1), none, none, some (.int x4), some (.int x5), some (.int x6), some (.int x7)] [.int v5] t4 Q
    exact t_iret dX0_run_141 (NR_i rfl _) h
  · replace h := h.2 c2
    refine s_aload_n dX0_run_110 rfl rfl ?_
    refine s_iload dX0_run_111 rfl ?_
    refine s_iload_n dX0_run_113 rfl rfl ?_
    refine s_iload dX0_run_114 rfl ?_
    refine s_iload dX0_run_116 rfl ?_
    refine t_callV (M' := mX0_rootWork) (k := 2) (As := [.int x7, .int x1, .int x4, .int x5]) (rest := []) dX0_run_118 ml_X0_45 miX0_rootWork msX0_rootWork rfl (by decide) rfl rfl (Nat.le_of_ble_eq_true rfl) (Nat.le_of_ble_eq_true rfl) rfl h (fun rv t6 q => ?_)
    obtain ⟨v7, rfl, h⟩ := q
    show Rt g (d + 1) mX0_run 121 [some (.ref 27), some (.int x1), none, none, some (.int x4), some (.int x5), some (.int x6), some (.int x7)] [.int v7] t6 Q
    refine s_goto (tgt := 141) dX0_run_121 (by decide) ?_
    exact t_iret dX0_run_141 (NR_i rfl _) h
theorem bX0_rootWork_0 {g : Gt} {d : Nat} {t : Tt} {Q : Option Value → Tt → Prop} {p0 : Int32} {p1 : Int32} {p2 : Int32} {p3 : Int32} (h : vp_in p1 50 ∧ (∀ z2 : Int32, z2 = (t.1 28 p1.toNatClampNeg) → ∀ z3 : Int32, z3 = (p3 + 1) → (p0 = 1 → Q (some (.int (p2 + p1))) t) ∧ (¬ p0 = 1 → (p0 = 2 → Rt g d mX0_run 0 [some (.ref 27), some (.int p1), some (.int z2), some (.int 1), some (.int p2), some (.int z3), none, none] [] t (QI (fun v7 t6 => Rt g d mX0_run 0 [some (.ref 27), some (.int p1), some (.int z2), some (.int 2), some (.int 1), some (.int z3), none, none] [] t6 (QI (fun v9 t8 => Q (some (.int (v7 - v9))) t8))))) ∧ (¬ p0 = 2 → (p0 = 10 → Rt g d mX0_run 0 [some (.ref 27), some (.int p1), some (.int z2), some (.int 0), some (.int p2), some (.int z3), none, none] [] t (QI (fun v12 t11 => Q (some (.int (v12 * 2))) t11))) ∧ (¬ p0 = 10 → (p0 = 11 → Q (some (.int (p2 ^^^ p1))) t) ∧ (¬ p0 = 11 → Q (some (.int 0)) t)))))) : Rt g (d + 1) mX0_rootWork 0 [some (.ref 27), some (.int p0), some (.int p1), some (.int p2), some (.int p3), none, none] [] t Q := by
  refine s_aload_n dX0_rootWork_0 rfl rfl ?_
  refine t_getR (o' := 28) dX0_rootWork_1 fl_X0_11 rfl (by decide) rfl rfl ?_
  refine s_iload_n dX0_rootWork_4 rfl rfl ?_
  obtain ⟨g1, h⟩ := h
  refine t_iald dX0_rootWork_5 rfl (by decide) g1 ?_
  refine t_nmI (fun z2 ez2 => ?_)
  replace h := h z2 ez2
  refine s_istore dX0_rootWork_6 (by decide) rfl (L9 := [some (.ref 27), some (.int p0), some (.int p1), some (.int p2), some (.int p3), some (.int z2), none]) rfl ?_
  refine s_iload dX0_rootWork_8 rfl ?_
  refine s_iconst (v := 1) dX0_rootWork_10 (by decide) ?_
  refine s_iadd dX0_rootWork_11 ?_
  refine t_nmI (fun z3 ez3 => ?_)
  replace h := h z3 ez3
  refine s_istore dX0_rootWork_12 (by decide) rfl (L9 := [some (.ref 27), some (.int p0), some (.int p1), some (.int p2), some (.int p3), some (.int z2), some (.int z3)]) rfl ?_
  refine s_iload_n dX0_rootWork_14 rfl rfl ?_
  by_cases c4 : p0 = 1
  · replace h := h.1 c4
    refine s_lsw (off := 41) (tgt := 56) dX0_rootWork_15 (by decide) (by rw [c4]; rfl) (by decide) ?_
    refine s_iload_n dX0_rootWork_56 rfl rfl ?_
    refine s_iload_n dX0_rootWork_57 rfl rfl ?_
    refine s_iadd dX0_rootWork_58 ?_
    exact t_iret dX0_rootWork_59 (NR_i rfl _) h
  · replace h := h.2 c4
    by_cases c5 : p0 = 2
    · replace h := h.1 c5
      refine s_lsw (off := 63) (tgt := 78) dX0_rootWork_15 (by decide) (by rw [c5]; rfl) (by decide) ?_
      refine s_aload_n dX0_rootWork_78 rfl rfl ?_
      refine s_iload_n dX0_rootWork_79 rfl rfl ?_
      refine s_iload dX0_rootWork_80 rfl ?_
      refine s_iconst (v := 1) dX0_rootWork_82 (by decide) ?_
      refine s_iload_n dX0_rootWork_83 rfl rfl ?_
      refine s_iload dX0_rootWork_84 rfl ?_
      refine t_callV (M' := mX0_run) (k := 2) (As := [.int p1, .int z2, .int 1, .int p2, .int z3]) (rest := []) dX0_rootWork_86 ml_X0_38 miX0_run msX0_run rfl (by decide) rfl rfl (Nat.le_of_ble_eq_true rfl) (Nat.le_of_ble_eq_true rfl) rfl h (fun rv t6 q => ?_)
      obtain ⟨v7, rfl, h⟩ := q
      show Rt g (d + 1) mX0_rootWork 89 [some (.ref 27), some (.int p0), some (.int p1), some (.int p2), some (.int p3), some (.int z2), some (.int z3)] [.int v7] t6 Q
      refine s_aload_n dX0_rootWork_89 rfl rfl ?_
      refine s_iload_n dX0_rootWork_90 rfl rfl ?_
      refine s_iload dX0_rootWork_91 rfl ?_
      refine s_iconst (v := 2) dX0_rootWork_93 (by decide) ?_
      refine s_iconst (v := 1) dX0_rootWork_94 (by decide) ?_
      refine s_iload dX0_rootWork_95 rfl ?_
      refine t_callV (M' := mX0_run) (k := 2) (As := [.int p1, .int z2, .int 2, .int 1, .int z3]) (rest := [.int v7]) dX0_rootWork_97 ml_X0_38 miX0_run msX0_run rfl (by decide) rfl rfl (Nat.le_of_ble_eq_true rfl) (Nat.le_of_ble_eq_true rfl) rfl h (fun rv t8 q => ?_)
      obtain ⟨v9, rfl, h⟩ := q
      show Rt g (d + 1) mX0_rootWork 100 [some (.ref 27), some (.int p0), some (.int p1), some (.int p2), some (.int p3), some (.int z2), some (.int z3)] [.int v9, .int v7] t8 Q
      refine s_isub dX0_rootWork_100 ?_
      exact t_iret dX0_rootWork_101 (NR_i rfl _) h
    · replace h := h.2 c5
      by_cases c10 : p0 = 10
      · replace h := h.1 c10
        refine s_lsw (off := 45) (tgt := 60) dX0_rootWork_15 (by decide) (by rw [c10]; rfl) (by decide) ?_
        refine s_aload_n dX0_rootWork_60 rfl rfl ?_
        refine s_iload_n dX0_rootWork_61 rfl rfl ?_
        refine s_iload dX0_rootWork_62 rfl ?_
        refine s_iconst (v := 0) dX0_rootWork_64 (by decide) ?_
        refine s_iload_n dX0_rootWork_65 rfl rfl ?_
        refine s_iload dX0_rootWork_66 rfl ?_
        refine t_callV (M' := mX0_run) (k := 2) (As := [.int p1, .int z2, .int 0, .int p2, .int z3]) (rest := []) dX0_rootWork_68 ml_X0_38 miX0_run msX0_run rfl (by decide) rfl rfl (Nat.le_of_ble_eq_true rfl) (Nat.le_of_ble_eq_true rfl) rfl h (fun rv t11 q => ?_)
        obtain ⟨v12, rfl, h⟩ := q
        show Rt g (d + 1) mX0_rootWork 71 [some (.ref 27), some (.int p0), some (.int p1), some (.int p2), some (.int p3), some (.int z2), some (.int z3)] [.int v12] t11 Q
        refine s_iconst (v := 2) dX0_rootWork_71 (by decide) ?_
        refine s_imul dX0_rootWork_72 ?_
        exact t_iret dX0_rootWork_73 (NR_i rfl _) h
      · replace h := h.2 c10
        by_cases c13 : p0 = 11
        · replace h := h.1 c13
          refine s_lsw (off := 59) (tgt := 74) dX0_rootWork_15 (by decide) (by rw [c13]; rfl) (by decide) ?_
          refine s_iload_n dX0_rootWork_74 rfl rfl ?_
          refine s_iload_n dX0_rootWork_75 rfl rfl ?_
          refine s_ixor dX0_rootWork_76 ?_
          exact t_iret dX0_rootWork_77 (NR_i rfl _) h
        · replace h := h.2 c13
          refine s_lsw (off := 87) (tgt := 102) dX0_rootWork_15 (by decide) ((lv_osw c4 rfl).trans ((lv_osw c5 rfl).trans ((lv_osw c10 rfl).trans ((lv_osw c13 rfl).trans rfl)))) (by decide) ?_
          refine s_iconst (v := 0) dX0_rootWork_102 (by decide) ?_
          exact t_iret dX0_rootWork_103 (NR_i rfl _) h
theorem bX0_work_0 {g : Gt} {d : Nat} {t : Tt} {Q : Option Value → Tt → Prop} {p0 : Int32} {p1 : Int32} {p2 : Int32} {p3 : Int32} {p4 : Int32} (h : vp_in p1 50 ∧ (∀ z2 : Int32, z2 = (t.1 28 p1.toNatClampNeg) → ∀ z3 : Int32, z3 = (p4 + 1) → (p0 = 20 → Rt g d mX0_run 0 [some (.ref 27), some (.int p1), some (.int p2), some (.int 0), some (.int p3), some (.int z3), none, none] [] t (QI (fun v6 t5 => Q (some (.int (v6 + 3))) t5))) ∧ (¬ p0 = 20 → (p0 = 30 → Rt g d mX0_run 0 [some (.ref 27), some (.int p1), some (.int p2), some (.int 1), some (.int p3), some (.int z3), none, none] [] t (QI (fun v9 t8 => Q (some (.int (-v9))) t8))) ∧ (¬ p0 = 30 → (p0 = 40 → Rt g d mX0_run 0 [some (.ref 27), some (.int p1), some (.int p2), some (.int 2), some (.int p3), some (.int z3), none, none] [] t (QI (fun v12 t11 => Q (some (.int (v12 * 3))) t11))) ∧ (¬ p0 = 40 → (p0 = 41 → Rt g d mX0_run 0 [some (.ref 27), some (.int p1), some (.int p2), some (.int 1), some (.int (p3 + 1)), some (.int z3), none, none] [] t (QI (fun v15 t14 => Q (some (.int v15)) t14))) ∧ (¬ p0 = 41 → (p0 = 50 → Rt g d mX0_run 0 [some (.ref 27), some (.int p1), some (.int p2), some (.int 3), some (.int p3), some (.int z3), none, none] [] t (QI (fun v18 t17 => Q (some (.int (v18 ^^^ 5))) t17))) ∧ (¬ p0 = 50 → (p0 = 60 → Rt g d mX0_run 0 [some (.ref 27), some (.int p1), some (.int p2), some (.int 2), some (.int p3), some (.int z3), none, none] [] t (QI (fun v21 t20 => Rt g d mX0_run 0 [some (.ref 27), some (.int p1), some (.int z2), some (.int 0), some (.int 2), some (.int z3), none, none] [] t20 (QI (fun v23 t22 => Q (some (.int (v21 - v23))) t22))))) ∧ (¬ p0 = 60 → (p0 = 61 → Rt g d mX0_run 0 [some (.ref 27), some (.int p1), some (.int p2), some (.int 3), some (.int p3), some (.int z3), none, none] [] t (QI (fun v26 t25 => Q (some (.int (v26 + 1))) t25))) ∧ (¬ p0 = 61 → (p0 = 70 → Rt g d mX0_run 0 [some (.ref 27), some (.int p1), some (.int p2), some (.int 0), some (.int p3), some (.int z3), none, none] [] t (QI (fun v29 t28 => Q (some (.int (v29 * 2))) t28))) ∧ (¬ p0 = 70 → (p0 = 80 → Rt g d mX0_run 0 [some (.ref 27), some (.int p1), some (.int p2), some (.int 1), some (.int p3), some (.int z3), none, none] [] t (QI (fun v32 t31 => Rt g d mX0_run 0 [some (.ref 27), some (.int p1), some (.int z2), some (.int 2), some (.int 2), some (.int z3), none, none] [] t31 (QI (fun v34 t33 => Q (some (.int (v32 + v34))) t33))))) ∧ (¬ p0 = 80 → (p0 = 81 → Rt g d mX0_run 0 [some (.ref 27), some (.int p1), some (.int p2), some (.int 0), some (.int p3), some (.int z3), none, none] [] t (QI (fun v37 t36 => Q (some (.int (v37 - 1))) t36))) ∧ (¬ p0 = 81 → Q (some (.int 0)) t)))))))))))) : Rt g (d + 1) mX0_work 0 [some (.ref 27), some (.int p0), some (.int p1), some (.int p2), some (.int p3), some (.int p4), none, none] [] t Q := by
  refine s_aload_n dX0_work_0 rfl rfl ?_
  refine t_getR (o' := 28) dX0_work_1 fl_X0_11 rfl (by decide) rfl rfl ?_
  refine s_iload_n dX0_work_4 rfl rfl ?_
  obtain ⟨g1, h⟩ := h
  refine t_iald dX0_work_5 rfl (by decide) g1 ?_
  refine t_nmI (fun z2 ez2 => ?_)
  replace h := h z2 ez2
  refine s_istore dX0_work_6 (by decide) rfl (L9 := [some (.ref 27), some (.int p0), some (.int p1), some (.int p2), some (.int p3), some (.int p4), some (.int z2), none]) rfl ?_
  refine s_iload dX0_work_8 rfl ?_
  refine s_iconst (v := 1) dX0_work_10 (by decide) ?_
  refine s_iadd dX0_work_11 ?_
  refine t_nmI (fun z3 ez3 => ?_)
  replace h := h z3 ez3
  refine s_istore dX0_work_12 (by decide) rfl (L9 := [some (.ref 27), some (.int p0), some (.int p1), some (.int p2), some (.int p3), some (.int p4), some (.int z2), some (.int z3)]) rfl ?_
  refine s_iload_n dX0_work_14 rfl rfl ?_
  by_cases c4 : p0 = 20
  · replace h := h.1 c4
    refine s_lsw (off := 89) (tgt := 104) dX0_work_15 (by decide) (by rw [c4]; rfl) (by decide) ?_
    refine s_aload_n dX0_work_104 rfl rfl ?_
    refine s_iload_n dX0_work_105 rfl rfl ?_
    refine s_iload_n dX0_work_106 rfl rfl ?_
    refine s_iconst (v := 0) dX0_work_107 (by decide) ?_
    refine s_iload dX0_work_108 rfl ?_
    refine s_iload dX0_work_110 rfl ?_
    refine t_callV (M' := mX0_run) (k := 2) (As := [.int p1, .int p2, .int 0, .int p3, .int z3]) (rest := []) dX0_work_112 ml_X0_38 miX0_run msX0_run rfl (by decide) rfl rfl (Nat.le_of_ble_eq_true rfl) (Nat.le_of_ble_eq_true rfl) rfl h (fun rv t5 q => ?_)
    obtain ⟨v6, rfl, h⟩ := q
    show Rt g (d + 1) mX0_work 115 [some (.ref 27), some (.int p0), some (.int p1), some (.int p2), some (.int p3), some (.int p4), some (.int z2), some (.int z3)] [.int v6] t5 Q
    refine s_iconst (v := 3) dX0_work_115 (by decide) ?_
    refine s_iadd dX0_work_116 ?_
    exact t_iret dX0_work_117 (NR_i rfl _) h
  · replace h := h.2 c4
    by_cases c7 : p0 = 30
    · replace h := h.1 c7
      refine s_lsw (off := 103) (tgt := 118) dX0_work_15 (by decide) (by rw [c7]; rfl) (by decide) ?_
      refine s_aload_n dX0_work_118 rfl rfl ?_
      refine s_iload_n dX0_work_119 rfl rfl ?_
      refine s_iload_n dX0_work_120 rfl rfl ?_
      refine s_iconst (v := 1) dX0_work_121 (by decide) ?_
      refine s_iload dX0_work_122 rfl ?_
      refine s_iload dX0_work_124 rfl ?_
      refine t_callV (M' := mX0_run) (k := 2) (As := [.int p1, .int p2, .int 1, .int p3, .int z3]) (rest := []) dX0_work_126 ml_X0_38 miX0_run msX0_run rfl (by decide) rfl rfl (Nat.le_of_ble_eq_true rfl) (Nat.le_of_ble_eq_true rfl) rfl h (fun rv t8 q => ?_)
      obtain ⟨v9, rfl, h⟩ := q
      show Rt g (d + 1) mX0_work 129 [some (.ref 27), some (.int p0), some (.int p1), some (.int p2), some (.int p3), some (.int p4), some (.int z2), some (.int z3)] [.int v9] t8 Q
      refine s_ineg dX0_work_129 ?_
      exact t_iret dX0_work_130 (NR_i rfl _) h
    · replace h := h.2 c7
      by_cases c10 : p0 = 40
      · replace h := h.1 c10
        refine s_lsw (off := 116) (tgt := 131) dX0_work_15 (by decide) (by rw [c10]; rfl) (by decide) ?_
        refine s_aload_n dX0_work_131 rfl rfl ?_
        refine s_iload_n dX0_work_132 rfl rfl ?_
        refine s_iload_n dX0_work_133 rfl rfl ?_
        refine s_iconst (v := 2) dX0_work_134 (by decide) ?_
        refine s_iload dX0_work_135 rfl ?_
        refine s_iload dX0_work_137 rfl ?_
        refine t_callV (M' := mX0_run) (k := 2) (As := [.int p1, .int p2, .int 2, .int p3, .int z3]) (rest := []) dX0_work_139 ml_X0_38 miX0_run msX0_run rfl (by decide) rfl rfl (Nat.le_of_ble_eq_true rfl) (Nat.le_of_ble_eq_true rfl) rfl h (fun rv t11 q => ?_)
        obtain ⟨v12, rfl, h⟩ := q
        show Rt g (d + 1) mX0_work 142 [some (.ref 27), some (.int p0), some (.int p1), some (.int p2), some (.int p3), some (.int p4), some (.int z2), some (.int z3)] [.int v12] t11 Q
        refine s_iconst (v := 3) dX0_work_142 (by decide) ?_
        refine s_imul dX0_work_143 ?_
        exact t_iret dX0_work_144 (NR_i rfl _) h
      · replace h := h.2 c10
        by_cases c13 : p0 = 41
        · replace h := h.1 c13
          refine s_lsw (off := 130) (tgt := 145) dX0_work_15 (by decide) (by rw [c13]; rfl) (by decide) ?_
          refine s_aload_n dX0_work_145 rfl rfl ?_
          refine s_iload_n dX0_work_146 rfl rfl ?_
          refine s_iload_n dX0_work_147 rfl rfl ?_
          refine s_iconst (v := 1) dX0_work_148 (by decide) ?_
          refine s_iload dX0_work_149 rfl ?_
          refine s_iconst (v := 1) dX0_work_151 (by decide) ?_
          refine s_iadd dX0_work_152 ?_
          refine s_iload dX0_work_153 rfl ?_
          refine t_callV (M' := mX0_run) (k := 2) (As := [.int p1, .int p2, .int 1, .int (p3 + 1), .int z3]) (rest := []) dX0_work_155 ml_X0_38 miX0_run msX0_run rfl (by decide) rfl rfl (Nat.le_of_ble_eq_true rfl) (Nat.le_of_ble_eq_true rfl) rfl h (fun rv t14 q => ?_)
          obtain ⟨v15, rfl, h⟩ := q
          show Rt g (d + 1) mX0_work 158 [some (.ref 27), some (.int p0), some (.int p1), some (.int p2), some (.int p3), some (.int p4), some (.int z2), some (.int z3)] [.int v15] t14 Q
          exact t_iret dX0_work_158 (NR_i rfl _) h
        · replace h := h.2 c13
          by_cases c16 : p0 = 50
          · replace h := h.1 c16
            refine s_lsw (off := 144) (tgt := 159) dX0_work_15 (by decide) (by rw [c16]; rfl) (by decide) ?_
            refine s_aload_n dX0_work_159 rfl rfl ?_
            refine s_iload_n dX0_work_160 rfl rfl ?_
            refine s_iload_n dX0_work_161 rfl rfl ?_
            refine s_iconst (v := 3) dX0_work_162 (by decide) ?_
            refine s_iload dX0_work_163 rfl ?_
            refine s_iload dX0_work_165 rfl ?_
            refine t_callV (M' := mX0_run) (k := 2) (As := [.int p1, .int p2, .int 3, .int p3, .int z3]) (rest := []) dX0_work_167 ml_X0_38 miX0_run msX0_run rfl (by decide) rfl rfl (Nat.le_of_ble_eq_true rfl) (Nat.le_of_ble_eq_true rfl) rfl h (fun rv t17 q => ?_)
            obtain ⟨v18, rfl, h⟩ := q
            show Rt g (d + 1) mX0_work 170 [some (.ref 27), some (.int p0), some (.int p1), some (.int p2), some (.int p3), some (.int p4), some (.int z2), some (.int z3)] [.int v18] t17 Q
            refine s_iconst (v := 5) dX0_work_170 (by decide) ?_
            refine s_ixor dX0_work_171 ?_
            exact t_iret dX0_work_172 (NR_i rfl _) h
          · replace h := h.2 c16
            by_cases c19 : p0 = 60
            · replace h := h.1 c19
              refine s_lsw (off := 158) (tgt := 173) dX0_work_15 (by decide) (by rw [c19]; rfl) (by decide) ?_
              refine s_aload_n dX0_work_173 rfl rfl ?_
              refine s_iload_n dX0_work_174 rfl rfl ?_
              refine s_iload_n dX0_work_175 rfl rfl ?_
              refine s_iconst (v := 2) dX0_work_176 (by decide) ?_
              refine s_iload dX0_work_177 rfl ?_
              refine s_iload dX0_work_179 rfl ?_
              refine t_callV (M' := mX0_run) (k := 2) (As := [.int p1, .int p2, .int 2, .int p3, .int z3]) (rest := []) dX0_work_181 ml_X0_38 miX0_run msX0_run rfl (by decide) rfl rfl (Nat.le_of_ble_eq_true rfl) (Nat.le_of_ble_eq_true rfl) rfl h (fun rv t20 q => ?_)
              obtain ⟨v21, rfl, h⟩ := q
              show Rt g (d + 1) mX0_work 184 [some (.ref 27), some (.int p0), some (.int p1), some (.int p2), some (.int p3), some (.int p4), some (.int z2), some (.int z3)] [.int v21] t20 Q
              refine s_aload_n dX0_work_184 rfl rfl ?_
              refine s_iload_n dX0_work_185 rfl rfl ?_
              refine s_iload dX0_work_186 rfl ?_
              refine s_iconst (v := 0) dX0_work_188 (by decide) ?_
              refine s_iconst (v := 2) dX0_work_189 (by decide) ?_
              refine s_iload dX0_work_190 rfl ?_
              refine t_callV (M' := mX0_run) (k := 2) (As := [.int p1, .int z2, .int 0, .int 2, .int z3]) (rest := [.int v21]) dX0_work_192 ml_X0_38 miX0_run msX0_run rfl (by decide) rfl rfl (Nat.le_of_ble_eq_true rfl) (Nat.le_of_ble_eq_true rfl) rfl h (fun rv t22 q => ?_)
              obtain ⟨v23, rfl, h⟩ := q
              show Rt g (d + 1) mX0_work 195 [some (.ref 27), some (.int p0), some (.int p1), some (.int p2), some (.int p3), some (.int p4), some (.int z2), some (.int z3)] [.int v23, .int v21] t22 Q
              refine s_isub dX0_work_195 ?_
              exact t_iret dX0_work_196 (NR_i rfl _) h
            · replace h := h.2 c19
              by_cases c24 : p0 = 61
              · replace h := h.1 c24
                refine s_lsw (off := 182) (tgt := 197) dX0_work_15 (by decide) (by rw [c24]; rfl) (by decide) ?_
                refine s_aload_n dX0_work_197 rfl rfl ?_
                refine s_iload_n dX0_work_198 rfl rfl ?_
                refine s_iload_n dX0_work_199 rfl rfl ?_
                refine s_iconst (v := 3) dX0_work_200 (by decide) ?_
                refine s_iload dX0_work_201 rfl ?_
                refine s_iload dX0_work_203 rfl ?_
                refine t_callV (M' := mX0_run) (k := 2) (As := [.int p1, .int p2, .int 3, .int p3, .int z3]) (rest := []) dX0_work_205 ml_X0_38 miX0_run msX0_run rfl (by decide) rfl rfl (Nat.le_of_ble_eq_true rfl) (Nat.le_of_ble_eq_true rfl) rfl h (fun rv t25 q => ?_)
                obtain ⟨v26, rfl, h⟩ := q
                show Rt g (d + 1) mX0_work 208 [some (.ref 27), some (.int p0), some (.int p1), some (.int p2), some (.int p3), some (.int p4), some (.int z2), some (.int z3)] [.int v26] t25 Q
                refine s_iconst (v := 1) dX0_work_208 (by decide) ?_
                refine s_iadd dX0_work_209 ?_
                exact t_iret dX0_work_210 (NR_i rfl _) h
              · replace h := h.2 c24
                by_cases c27 : p0 = 70
                · replace h := h.1 c27
                  refine s_lsw (off := 196) (tgt := 211) dX0_work_15 (by decide) (by rw [c27]; rfl) (by decide) ?_
                  refine s_aload_n dX0_work_211 rfl rfl ?_
                  refine s_iload_n dX0_work_212 rfl rfl ?_
                  refine s_iload_n dX0_work_213 rfl rfl ?_
                  refine s_iconst (v := 0) dX0_work_214 (by decide) ?_
                  refine s_iload dX0_work_215 rfl ?_
                  refine s_iload dX0_work_217 rfl ?_
                  refine t_callV (M' := mX0_run) (k := 2) (As := [.int p1, .int p2, .int 0, .int p3, .int z3]) (rest := []) dX0_work_219 ml_X0_38 miX0_run msX0_run rfl (by decide) rfl rfl (Nat.le_of_ble_eq_true rfl) (Nat.le_of_ble_eq_true rfl) rfl h (fun rv t28 q => ?_)
                  obtain ⟨v29, rfl, h⟩ := q
                  show Rt g (d + 1) mX0_work 222 [some (.ref 27), some (.int p0), some (.int p1), some (.int p2), some (.int p3), some (.int p4), some (.int z2), some (.int z3)] [.int v29] t28 Q
                  refine s_iconst (v := 2) dX0_work_222 (by decide) ?_
                  refine s_imul dX0_work_223 ?_
                  exact t_iret dX0_work_224 (NR_i rfl _) h
                · replace h := h.2 c27
                  by_cases c30 : p0 = 80
                  · replace h := h.1 c30
                    refine s_lsw (off := 210) (tgt := 225) dX0_work_15 (by decide) (by rw [c30]; rfl) (by decide) ?_
                    refine s_aload_n dX0_work_225 rfl rfl ?_
                    refine s_iload_n dX0_work_226 rfl rfl ?_
                    refine s_iload_n dX0_work_227 rfl rfl ?_
                    refine s_iconst (v := 1) dX0_work_228 (by decide) ?_
                    refine s_iload dX0_work_229 rfl ?_
                    refine s_iload dX0_work_231 rfl ?_
                    refine t_callV (M' := mX0_run) (k := 2) (As := [.int p1, .int p2, .int 1, .int p3, .int z3]) (rest := []) dX0_work_233 ml_X0_38 miX0_run msX0_run rfl (by decide) rfl rfl (Nat.le_of_ble_eq_true rfl) (Nat.le_of_ble_eq_true rfl) rfl h (fun rv t31 q => ?_)
                    obtain ⟨v32, rfl, h⟩ := q
                    show Rt g (d + 1) mX0_work 236 [some (.ref 27), some (.int p0), some (.int p1), some (.int p2), some (.int p3), some (.int p4), some (.int z2), some (.int z3)] [.int v32] t31 Q
                    refine s_aload_n dX0_work_236 rfl rfl ?_
                    refine s_iload_n dX0_work_237 rfl rfl ?_
                    refine s_iload dX0_work_238 rfl ?_
                    refine s_iconst (v := 2) dX0_work_240 (by decide) ?_
                    refine s_iconst (v := 2) dX0_work_241 (by decide) ?_
                    refine s_iload dX0_work_242 rfl ?_
                    refine t_callV (M' := mX0_run) (k := 2) (As := [.int p1, .int z2, .int 2, .int 2, .int z3]) (rest := [.int v32]) dX0_work_244 ml_X0_38 miX0_run msX0_run rfl (by decide) rfl rfl (Nat.le_of_ble_eq_true rfl) (Nat.le_of_ble_eq_true rfl) rfl h (fun rv t33 q => ?_)
                    obtain ⟨v34, rfl, h⟩ := q
                    show Rt g (d + 1) mX0_work 247 [some (.ref 27), some (.int p0), some (.int p1), some (.int p2), some (.int p3), some (.int p4), some (.int z2), some (.int z3)] [.int v34, .int v32] t33 Q
                    refine s_iadd dX0_work_247 ?_
                    exact t_iret dX0_work_248 (NR_i rfl _) h
                  · replace h := h.2 c30
                    by_cases c35 : p0 = 81
                    · replace h := h.1 c35
                      refine s_lsw (off := 234) (tgt := 249) dX0_work_15 (by decide) (by rw [c35]; rfl) (by decide) ?_
                      refine s_aload_n dX0_work_249 rfl rfl ?_
                      refine s_iload_n dX0_work_250 rfl rfl ?_
                      refine s_iload_n dX0_work_251 rfl rfl ?_
                      refine s_iconst (v := 0) dX0_work_252 (by decide) ?_
                      refine s_iload dX0_work_253 rfl ?_
                      refine s_iload dX0_work_255 rfl ?_
                      refine t_callV (M' := mX0_run) (k := 2) (As := [.int p1, .int p2, .int 0, .int p3, .int z3]) (rest := []) dX0_work_257 ml_X0_38 miX0_run msX0_run rfl (by decide) rfl rfl (Nat.le_of_ble_eq_true rfl) (Nat.le_of_ble_eq_true rfl) rfl h (fun rv t36 q => ?_)
                      obtain ⟨v37, rfl, h⟩ := q
                      show Rt g (d + 1) mX0_work 260 [some (.ref 27), some (.int p0), some (.int p1), some (.int p2), some (.int p3), some (.int p4), some (.int z2), some (.int z3)] [.int v37] t36 Q
                      refine s_iconst (v := 1) dX0_work_260 (by decide) ?_
                      refine s_isub dX0_work_261 ?_
                      exact t_iret dX0_work_262 (NR_i rfl _) h
                    · replace h := h.2 c35
                      refine s_lsw (off := 248) (tgt := 263) dX0_work_15 (by decide) ((lv_osw c4 rfl).trans ((lv_osw c7 rfl).trans ((lv_osw c10 rfl).trans ((lv_osw c13 rfl).trans ((lv_osw c16 rfl).trans ((lv_osw c19 rfl).trans ((lv_osw c24 rfl).trans ((lv_osw c27 rfl).trans ((lv_osw c30 rfl).trans ((lv_osw c35 rfl).trans rfl)))))))))) (by decide) ?_
                      refine s_iconst (v := 0) dX0_work_263 (by decide) ?_
                      exact t_iret dX0_work_264 (NR_i rfl _) h
theorem bX1_note_0 {g : Gt} {d : Nat} {t : Tt} {Q : Option Value → Tt → Prop} {p0 : Int32} {p1 : Int32} {p2 : Int32} {p3 : Int32} (h : ((t.1 22 0) < 40 → Rt g (d + 1) mX1_note 13 [some (.ref 22), some (.int p0), some (.int p1), some (.int p2), some (.int p3)] [] t Q) ∧ (¬ (t.1 22 0) < 40 → Rt g d mX1_dropOldest 0 [some (.ref 22)] [] t (QV (fun t2 => Rt g (d + 1) mX1_note 13 [some (.ref 22), some (.int p0), some (.int p1), some (.int p2), some (.int p3)] [] t2 Q)))) : Rt g (d + 1) mX1_note 0 [some (.ref 22), some (.int p0), some (.int p1), some (.int p2), some (.int p3)] [] t Q := by
  refine s_aload_n dX1_note_0 rfl rfl ?_
  refine t_getI dX1_note_1 fl_X1_22 rfl (by decide) rfl ?_
  refine s_bipush (v := 40) dX1_note_4 (by decide) ?_
  refine s_icmp_lt (tgt := 13) dX1_note_6 (by decide) (fun c1 => ?_) (fun c1 => ?_)
  · replace h := h.1 c1
    exact h
  · replace h := h.2 c1
    refine s_aload_n dX1_note_9 rfl rfl ?_
    refine t_callV (M' := mX1_dropOldest) (k := 0) (As := []) (rest := []) dX1_note_10 ml_X1_26 miX1_dropOldest msX1_dropOldest rfl (by decide) rfl rfl (Nat.le_of_ble_eq_true rfl) (Nat.le_of_ble_eq_true rfl) rfl h (fun rv t2 q => ?_)
    obtain ⟨rfl, h⟩ := q
    show Rt g (d + 1) mX1_note 13 [some (.ref 22), some (.int p0), some (.int p1), some (.int p2), some (.int p3)] [] t2 Q
    exact h
theorem bX1_note_13 {g : Gt} {d : Nat} {t : Tt} {Q : Option Value → Tt → Prop} {x1 : Int32} {x2 : Int32} {x3 : Int32} {x4 : Int32} (h : vp_in (t.1 22 0) 40 ∧ (vp_in ((pI t 23 (t.1 22 0).toNatClampNeg x1).1 22 0) 40 ∧ (vp_in ((pI (pI t 23 (t.1 22 0).toNatClampNeg x1) 24 ((pI t 23 (t.1 22 0).toNatClampNeg x1).1 22 0).toNatClampNeg x2).1 22 0) 40 ∧ (vp_in ((pI (pI (pI t 23 (t.1 22 0).toNatClampNeg x1) 24 ((pI t 23 (t.1 22 0).toNatClampNeg x1).1 22 0).toNatClampNeg x2) 25 ((pI (pI t 23 (t.1 22 0).toNatClampNeg x1) 24 ((pI t 23 (t.1 22 0).toNatClampNeg x1).1 22 0).toNatClampNeg x2).1 22 0).toNatClampNeg x3).1 22 0) 40 ∧ Q none (pI (pI (pI (pI (pI (pI t 23 (t.1 22 0).toNatClampNeg x1) 24 ((pI t 23 (t.1 22 0).toNatClampNeg x1).1 22 0).toNatClampNeg x2) 25 ((pI (pI t 23 (t.1 22 0).toNatClampNeg x1) 24 ((pI t 23 (t.1 22 0).toNatClampNeg x1).1 22 0).toNatClampNeg x2).1 22 0).toNatClampNeg x3) 26 ((pI (pI (pI t 23 (t.1 22 0).toNatClampNeg x1) 24 ((pI t 23 (t.1 22 0).toNatClampNeg x1).1 22 0).toNatClampNeg x2) 25 ((pI (pI t 23 (t.1 22 0).toNatClampNeg x1) 24 ((pI t 23 (t.1 22 0).toNatClampNeg x1).1 22 0).toNatClampNeg x2).1 22 0).toNatClampNeg x3).1 22 0).toNatClampNeg x4) 22 0 (((pI (pI (pI (pI t 23 (t.1 22 0).toNatClampNeg x1) 24 ((pI t 23 (t.1 22 0).toNatClampNeg x1).1 22 0).toNatClampNeg x2) 25 ((pI (pI t 23 (t.1 22 0).toNatClampNeg x1) 24 ((pI t 23 (t.1 22 0).toNatClampNeg x1).1 22 0).toNatClampNeg x2).1 22 0).toNatClampNeg x3) 26 ((pI (pI (pI t 23 (t.1 22 0).toNatClampNeg x1) 24 ((pI t 23 (t.1 22 0).toNatClampNeg x1).1 22 0).toNatClampNeg x2) 25 ((pI (pI t 23 (t.1 22 0).toNatClampNeg x1) 24 ((pI t 23 (t.1 22 0).toNatClampNeg x1).1 22 0).toNatClampNeg x2).1 22 0).toNatClampNeg x3).1 22 0).toNatClampNeg x4).1 22 0) + 1)) 22 1 ((pI (pI (pI (pI (pI t 23 (t.1 22 0).toNatClampNeg x1) 24 ((pI t 23 (t.1 22 0).toNatClampNeg x1).1 22 0).toNatClampNeg x2) 25 ((pI (pI t 23 (t.1 22 0).toNatClampNeg x1) 24 ((pI t 23 (t.1 22 0).toNatClampNeg x1).1 22 0).toNatClampNeg x2).1 22 0).toNatClampNeg x3) 26 ((pI (pI (pI t 23 (t.1 22 0).toNatClampNeg x1) 24 ((pI t 23 (t.1 22 0).toNatClampNeg x1).1 22 0).toNatClampNeg x2) 25 ((pI (pI t 23 (t.1 22 0).toNatClampNeg x1) 24 ((pI t 23 (t.1 22 0).toNatClampNeg x1).1 22 0).toNatClampNeg x2).1 22 0).toNatClampNeg x3).1 22 0).toNatClampNeg x4) 22 0 (((pI (pI (pI (pI t 23 (t.1 22 0).toNatClampNeg x1) 24 ((pI t 23 (t.1 22 0).toNatClampNeg x1).1 22 0).toNatClampNeg x2) 25 ((pI (pI t 23 (t.1 22 0).toNatClampNeg x1) 24 ((pI t 23 (t.1 22 0).toNatClampNeg x1).1 22 0).toNatClampNeg x2).1 22 0).toNatClampNeg x3) 26 ((pI (pI (pI t 23 (t.1 22 0).toNatClampNeg x1) 24 ((pI t 23 (t.1 22 0).toNatClampNeg x1).1 22 0).toNatClampNeg x2) 25 ((pI (pI t 23 (t.1 22 0).toNatClampNeg x1) 24 ((pI t 23 (t.1 22 0).toNatClampNeg x1).1 22 0).toNatClampNeg x2).1 22 0).toNatClampNeg x3).1 22 0).toNatClampNeg x4).1 22 0) + 1)).1 22 0)))))) : Rt g (d + 1) mX1_note 13 [some (.ref 22), some (.int x1), some (.int x2), some (.int x3), some (.int x4)] [] t Q := by
  refine s_aload_n dX1_note_13 rfl rfl ?_
  refine t_getR (o' := 23) dX1_note_14 fl_X1_9 rfl (by decide) rfl rfl ?_
  refine s_aload_n dX1_note_17 rfl rfl ?_
  refine t_getI dX1_note_18 fl_X1_22 rfl (by decide) rfl ?_
  refine s_iload_n dX1_note_21 rfl rfl ?_
  obtain ⟨g1, h⟩ := h
  refine t_iast dX1_note_22 rfl (by decide) g1 ?_
  refine s_aload_n dX1_note_23 rfl rfl ?_
  refine t_getR (o' := 24) dX1_note_24 fl_X1_13 rfl (by decide) rfl rfl ?_
  refine s_aload_n dX1_note_27 rfl rfl ?_
  refine t_getI dX1_note_28 fl_X1_22 rfl (by decide) rfl ?_
  refine s_iload_n dX1_note_31 rfl rfl ?_
  obtain ⟨g2, h⟩ := h
  refine t_iast dX1_note_32 rfl (by decide) g2 ?_
  refine s_aload_n dX1_note_33 rfl rfl ?_
  refine t_getR (o' := 25) dX1_note_34 fl_X1_16 rfl (by decide) rfl rfl ?_
  refine s_aload_n dX1_note_37 rfl rfl ?_
  refine t_getI dX1_note_38 fl_X1_22 rfl (by decide) rfl ?_
  refine s_iload_n dX1_note_41 rfl rfl ?_
  obtain ⟨g3, h⟩ := h
  refine t_iast dX1_note_42 rfl (by decide) g3 ?_
  refine s_aload_n dX1_note_43 rfl rfl ?_
  refine t_getR (o' := 26) dX1_note_44 fl_X1_19 rfl (by decide) rfl rfl ?_
  refine s_aload_n dX1_note_47 rfl rfl ?_
  refine t_getI dX1_note_48 fl_X1_22 rfl (by decide) rfl ?_
  refine s_iload dX1_note_51 rfl ?_
  obtain ⟨g4, h⟩ := h
  refine t_iast dX1_note_53 rfl (by decide) g4 ?_
  refine s_aload_n dX1_note_54 rfl rfl ?_
  refine s_dup dX1_note_55 rfl ?_
  refine t_getI dX1_note_56 fl_X1_22 rfl (by decide) rfl ?_
  refine s_iconst (v := 1) dX1_note_59 (by decide) ?_
  refine s_iadd dX1_note_60 ?_
  refine t_putI dX1_note_61 fl_X1_22 rfl (by decide) rfl rfl rfl rfl ?_
  refine s_aload_n dX1_note_64 rfl rfl ?_
  refine s_aload_n dX1_note_65 rfl rfl ?_
  refine t_getI dX1_note_66 fl_X1_22 rfl (by decide) rfl ?_
  refine t_putI dX1_note_69 fl_X1_29 rfl (by decide) rfl rfl rfl rfl ?_
  exact t_vret dX1_note_72 rfl h
theorem bX1_dropOldest_0 {g : Gt} {d : Nat} {t : Tt} {Q : Option Value → Tt → Prop} (h : ¬ ((pI t 22 0 39).1 22 0) < 0 ∧ ((1 : Int32).toNatClampNeg + ((pI t 22 0 39).1 22 0).toNatClampNeg ≤ 40 ∧ ((0 : Int32).toNatClampNeg + ((pI t 22 0 39).1 22 0).toNatClampNeg ≤ 40 ∧ (¬ ((cI (pI t 22 0 39) 23 23 (1 : Int32).toNatClampNeg (0 : Int32).toNatClampNeg ((pI t 22 0 39).1 22 0).toNatClampNeg).1 22 0) < 0 ∧ ((1 : Int32).toNatClampNeg + ((cI (pI t 22 0 39) 23 23 (1 : Int32).toNatClampNeg (0 : Int32).toNatClampNeg ((pI t 22 0 39).1 22 0).toNatClampNeg).1 22 0).toNatClampNeg ≤ 40 ∧ ((0 : Int32).toNatClampNeg + ((cI (pI t 22 0 39) 23 23 (1 : Int32).toNatClampNeg (0 : Int32).toNatClampNeg ((pI t 22 0 39).1 22 0).toNatClampNeg).1 22 0).toNatClampNeg ≤ 40 ∧ (¬ ((cI (cI (pI t 22 0 39) 23 23 (1 : Int32).toNatClampNeg (0 : Int32).toNatClampNeg ((pI t 22 0 39).1 22 0).toNatClampNeg) 24 24 (1 : Int32).toNatClampNeg (0 : Int32).toNatClampNeg ((cI (pI t 22 0 39) 23 23 (1 : Int32).toNatClampNeg (0 : Int32).toNatClampNeg ((pI t 22 0 39).1 22 0).toNatClampNeg).1 22 0).toNatClampNeg).1 22 0) < 0 ∧ ((1 : Int32).toNatClampNeg + ((cI (cI (pI t 22 0 39) 23 23 (1 : Int32).toNatClampNeg (0 : Int32).toNatClampNeg ((pI t 22 0 39).1 22 0).toNatClampNeg) 24 24 (1 : Int32).toNatClampNeg (0 : Int32).toNatClampNeg ((cI (pI t 22 0 39) 23 23 (1 : Int32).toNatClampNeg (0 : Int32).toNatClampNeg ((pI t 22 0 39).1 22 0).toNatClampNeg).1 22 0).toNatClampNeg).1 22 0).toNatClampNeg ≤ 40 ∧ ((0 : Int32).toNatClampNeg + ((cI (cI (pI t 22 0 39) 23 23 (1 : Int32).toNatClampNeg (0 : Int32).toNatClampNeg ((pI t 22 0 39).1 22 0).toNatClampNeg) 24 24 (1 : Int32).toNatClampNeg (0 : Int32).toNatClampNeg ((cI (pI t 22 0 39) 23 23 (1 : Int32).toNatClampNeg (0 : Int32).toNatClampNeg ((pI t 22 0 39).1 22 0).toNatClampNeg).1 22 0).toNatClampNeg).1 22 0).toNatClampNeg ≤ 40 ∧ (¬ ((cI (cI (cI (pI t 22 0 39) 23 23 (1 : Int32).toNatClampNeg (0 : Int32).toNatClampNeg ((pI t 22 0 39).1 22 0).toNatClampNeg) 24 24 (1 : Int32).toNatClampNeg (0 : Int32).toNatClampNeg ((cI (pI t 22 0 39) 23 23 (1 : Int32).toNatClampNeg (0 : Int32).toNatClampNeg ((pI t 22 0 39).1 22 0).toNatClampNeg).1 22 0).toNatClampNeg) 25 25 (1 : Int32).toNatClampNeg (0 : Int32).toNatClampNeg ((cI (cI (pI t 22 0 39) 23 23 (1 : Int32).toNatClampNeg (0 : Int32).toNatClampNeg ((pI t 22 0 39).1 22 0).toNatClampNeg) 24 24 (1 : Int32).toNatClampNeg (0 : Int32).toNatClampNeg ((cI (pI t 22 0 39) 23 23 (1 : Int32).toNatClampNeg (0 : Int32).toNatClampNeg ((pI t 22 0 39).1 22 0).toNatClampNeg).1 22 0).toNatClampNeg).1 22 0).toNatClampNeg).1 22 0) < 0 ∧ ((1 : Int32).toNatClampNeg + ((cI (cI (cI (pI t 22 0 39) 23 23 (1 : Int32).toNatClampNeg (0 : Int32).toNatClampNeg ((pI t 22 0 39).1 22 0).toNatClampNeg) 24 24 (1 : Int32).toNatClampNeg (0 : Int32).toNatClampNeg ((cI (pI t 22 0 39) 23 23 (1 : Int32).toNatClampNeg (0 : Int32).toNatClampNeg ((pI t 22 0 39).1 22 0).toNatClampNeg).1 22 0).toNatClampNeg) 25 25 (1 : Int32).toNatClampNeg (0 : Int32).toNatClampNeg ((cI (cI (pI t 22 0 39) 23 23 (1 : Int32).toNatClampNeg (0 : Int32).toNatClampNeg ((pI t 22 0 39).1 22 0).toNatClampNeg) 24 24 (1 : Int32).toNatClampNeg (0 : Int32).toNatClampNeg ((cI (pI t 22 0 39) 23 23 (1 : Int32).toNatClampNeg (0 : Int32).toNatClampNeg ((pI t 22 0 39).1 22 0).toNatClampNeg).1 22 0).toNatClampNeg).1 22 0).toNatClampNeg).1 22 0).toNatClampNeg ≤ 40 ∧ ((0 : Int32).toNatClampNeg + ((cI (cI (cI (pI t 22 0 39) 23 23 (1 : Int32).toNatClampNeg (0 : Int32).toNatClampNeg ((pI t 22 0 39).1 22 0).toNatClampNeg) 24 24 (1 : Int32).toNatClampNeg (0 : Int32).toNatClampNeg ((cI (pI t 22 0 39) 23 23 (1 : Int32).toNatClampNeg (0 : Int32).toNatClampNeg ((pI t 22 0 39).1 22 0).toNatClampNeg).1 22 0).toNatClampNeg) 25 25 (1 : Int32).toNatClampNeg (0 : Int32).toNatClampNeg ((cI (cI (pI t 22 0 39) 23 23 (1 : Int32).toNatClampNeg (0 : Int32).toNatClampNeg ((pI t 22 0 39).1 22 0).toNatClampNeg) 24 24 (1 : Int32).toNatClampNeg (0 : Int32).toNatClampNeg ((cI (pI t 22 0 39) 23 23 (1 : Int32).toNatClampNeg (0 : Int32).toNatClampNeg ((pI t 22 0 39).1 22 0).toNatClampNeg).1 22 0).toNatClampNeg).1 22 0).toNatClampNeg).1 22 0).toNatClampNeg ≤ 40 ∧ Q none (cI (cI (cI (cI (pI t 22 0 39) 23 23 (1 : Int32).toNatClampNeg (0 : Int32).toNatClampNeg ((pI t 22 0 39).1 22 0).toNatClampNeg) 24 24 (1 : Int32).toNatClampNeg (0 : Int32).toNatClampNeg ((cI (pI t 22 0 39) 23 23 (1 : Int32).toNatClampNeg (0 : Int32).toNatClampNeg ((pI t 22 0 39).1 22 0).toNatClampNeg).1 22 0).toNatClampNeg) 25 25 (1 : Int32).toNatClampNeg (0 : Int32).toNatClampNeg ((cI (cI (pI t 22 0 39) 23 23 (1 : Int32).toNatClampNeg (0 : Int32).toNatClampNeg ((pI t 22 0 39).1 22 0).toNatClampNeg) 24 24 (1 : Int32).toNatClampNeg (0 : Int32).toNatClampNeg ((cI (pI t 22 0 39) 23 23 (1 : Int32).toNatClampNeg (0 : Int32).toNatClampNeg ((pI t 22 0 39).1 22 0).toNatClampNeg).1 22 0).toNatClampNeg).1 22 0).toNatClampNeg) 26 26 (1 : Int32).toNatClampNeg (0 : Int32).toNatClampNeg ((cI (cI (cI (pI t 22 0 39) 23 23 (1 : Int32).toNatClampNeg (0 : Int32).toNatClampNeg ((pI t 22 0 39).1 22 0).toNatClampNeg) 24 24 (1 : Int32).toNatClampNeg (0 : Int32).toNatClampNeg ((cI (pI t 22 0 39) 23 23 (1 : Int32).toNatClampNeg (0 : Int32).toNatClampNeg ((pI t 22 0 39).1 22 0).toNatClampNeg).1 22 0).toNatClampNeg) 25 25 (1 : Int32).toNatClampNeg (0 : Int32).toNatClampNeg ((cI (cI (pI t 22 0 39) 23 23 (1 : Int32).toNatClampNeg (0 : Int32).toNatClampNeg ((pI t 22 0 39).1 22 0).toNatClampNeg) 24 24 (1 : Int32).toNatClampNeg (0 : Int32).toNatClampNeg ((cI (pI t 22 0 39) 23 23 (1 : Int32).toNatClampNeg (0 : Int32).toNatClampNeg ((pI t 22 0 39).1 22 0).toNatClampNeg).1 22 0).toNatClampNeg).1 22 0).toNatClampNeg).1 22 0).toNatClampNeg))))))))))))) : Rt g (d + 1) mX1_dropOldest 0 [some (.ref 22)] [] t Q := by
  refine s_aload_n dX1_dropOldest_0 rfl rfl ?_
  refine s_bipush (v := 39) dX1_dropOldest_1 (by decide) ?_
  refine t_putI dX1_dropOldest_3 fl_X1_22 rfl (by decide) rfl rfl rfl rfl ?_
  refine s_aload_n dX1_dropOldest_6 rfl rfl ?_
  refine t_getR (o' := 23) dX1_dropOldest_7 fl_X1_9 rfl (by decide) rfl rfl ?_
  refine s_iconst (v := 1) dX1_dropOldest_10 (by decide) ?_
  refine s_aload_n dX1_dropOldest_11 rfl rfl ?_
  refine t_getR (o' := 23) dX1_dropOldest_12 fl_X1_9 rfl (by decide) rfl rfl ?_
  refine s_iconst (v := 0) dX1_dropOldest_15 (by decide) ?_
  refine s_aload_n dX1_dropOldest_16 rfl rfl ?_
  refine t_getI dX1_dropOldest_17 fl_X1_22 rfl (by decide) rfl ?_
  obtain ⟨g1, h⟩ := h
  obtain ⟨g2, h⟩ := h
  obtain ⟨g3, h⟩ := h
  refine t_cpyI dX1_dropOldest_20 ac_X1_32 rfl (by decide) rfl (by decide) (by decide) (by decide) g1 g2 g3 (Nat.le_of_ble_eq_true rfl) ?_
  refine s_aload_n dX1_dropOldest_23 rfl rfl ?_
  refine t_getR (o' := 24) dX1_dropOldest_24 fl_X1_13 rfl (by decide) rfl rfl ?_
  refine s_iconst (v := 1) dX1_dropOldest_27 (by decide) ?_
  refine s_aload_n dX1_dropOldest_28 rfl rfl ?_
  refine t_getR (o' := 24) dX1_dropOldest_29 fl_X1_13 rfl (by decide) rfl rfl ?_
  refine s_iconst (v := 0) dX1_dropOldest_32 (by decide) ?_
  refine s_aload_n dX1_dropOldest_33 rfl rfl ?_
  refine t_getI dX1_dropOldest_34 fl_X1_22 rfl (by decide) rfl ?_
  obtain ⟨g4, h⟩ := h
  obtain ⟨g5, h⟩ := h
  obtain ⟨g6, h⟩ := h
  refine t_cpyI dX1_dropOldest_37 ac_X1_32 rfl (by decide) rfl (by decide) (by decide) (by decide) g4 g5 g6 (Nat.le_of_ble_eq_true rfl) ?_
  refine s_aload_n dX1_dropOldest_40 rfl rfl ?_
  refine t_getR (o' := 25) dX1_dropOldest_41 fl_X1_16 rfl (by decide) rfl rfl ?_
  refine s_iconst (v := 1) dX1_dropOldest_44 (by decide) ?_
  refine s_aload_n dX1_dropOldest_45 rfl rfl ?_
  refine t_getR (o' := 25) dX1_dropOldest_46 fl_X1_16 rfl (by decide) rfl rfl ?_
  refine s_iconst (v := 0) dX1_dropOldest_49 (by decide) ?_
  refine s_aload_n dX1_dropOldest_50 rfl rfl ?_
  refine t_getI dX1_dropOldest_51 fl_X1_22 rfl (by decide) rfl ?_
  obtain ⟨g7, h⟩ := h
  obtain ⟨g8, h⟩ := h
  obtain ⟨g9, h⟩ := h
  refine t_cpyI dX1_dropOldest_54 ac_X1_32 rfl (by decide) rfl (by decide) (by decide) (by decide) g7 g8 g9 (Nat.le_of_ble_eq_true rfl) ?_
  refine s_aload_n dX1_dropOldest_57 rfl rfl ?_
  refine t_getR (o' := 26) dX1_dropOldest_58 fl_X1_19 rfl (by decide) rfl rfl ?_
  refine s_iconst (v := 1) dX1_dropOldest_61 (by decide) ?_
  refine s_aload_n dX1_dropOldest_62 rfl rfl ?_
  refine t_getR (o' := 26) dX1_dropOldest_63 fl_X1_19 rfl (by decide) rfl rfl ?_
  refine s_iconst (v := 0) dX1_dropOldest_66 (by decide) ?_
  refine s_aload_n dX1_dropOldest_67 rfl rfl ?_
  refine t_getI dX1_dropOldest_68 fl_X1_22 rfl (by decide) rfl ?_
  obtain ⟨g10, h⟩ := h
  obtain ⟨g11, h⟩ := h
  obtain ⟨g12, h⟩ := h
  refine t_cpyI dX1_dropOldest_71 ac_X1_32 rfl (by decide) rfl (by decide) (by decide) (by decide) g10 g11 g12 (Nat.le_of_ble_eq_true rfl) ?_
  exact t_vret dX1_dropOldest_74 rfl h
theorem bX2_summon_0 {g : Gt} {d : Nat} {t : Tt} {Q : Option Value → Tt → Prop} {o0 : Nat} (ho0 : isSh o0) {p1 : Int32} (h : Rt g d mX2_summon 7 [some (.ref 13), some (.ref o0), some (.int p1), some (.int 0), none, none, none, none, none, none, none, none, none, none] [] (pI t 13 0 0) Q) : Rt g d mX2_summon 0 [some (.ref 13), some (.ref o0), some (.int p1), none, none, none, none, none, none, none, none, none, none, none] [] t Q := by
  refine s_aload_n dX2_summon_0 rfl rfl ?_
  refine s_iconst (v := 0) dX2_summon_1 (by decide) ?_
  refine t_putI dX2_summon_2 fl_X2_31 rfl (by decide) rfl rfl rfl rfl ?_
  refine s_iconst (v := 0) dX2_summon_5 (by decide) ?_
  refine s_istore_n dX2_summon_6 rfl (by decide) rfl (L9 := [some (.ref 13), some (.ref o0), some (.int p1), some (.int 0), none, none, none, none, none, none, none, none, none, none]) rfl ?_
  exact h
theorem bX2_summon_7 {g : Gt} {d : Nat} {t : Tt} {Q : Option Value → Tt → Prop} {o0 : Nat} (ho0 : isSh o0) {x2 : Int32} {x3 : Int32} (h : ((t.1 o0 1) < (x3 + 4) → Q none t) ∧ (¬ (t.1 o0 1) < (x3 + 4) → (15 ≤ (t.1 13 0) → Q none t) ∧ (¬ 15 ≤ (t.1 13 0) → vp_in x3 60 ∧ (∀ z4 : Int64, z4 = (t.2.1 (o0 + 1) x3.toNatClampNeg) → vp_in (x3 + 1) 60 ∧ (∀ z6 : Int64, z6 = (t.2.1 (o0 + 1) (x3 + 1).toNatClampNeg) → vp_in (x3 + 2) 60 ∧ (∀ z8 : Int64, z8 = (t.2.1 (o0 + 1) (x3 + 2).toNatClampNeg) → vp_in (x3 + 3) 60 ∧ (∀ z10 : Int64, z10 = (t.2.1 (o0 + 1) (x3 + 3).toNatClampNeg) → (z4 < 0 → Rt g d mX2_summon 83 [some (.ref 13), some (.ref o0), some (.int x2), some (.int x3), some (.long z4), none, some (.long z6), none, some (.long z8), none, some (.long z10), none, none, none] [] t Q) ∧ (¬ z4 < 0 → ((x2.toInt64) ≤ z4 → Rt g d mX2_summon 83 [some (.ref 13), some (.ref o0), some (.int x2), some (.int x3), some (.long z4), none, some (.long z6), none, some (.long z8), none, some (.long z10), none, none, none] [] t Q) ∧ (¬ (x2.toInt64) ≤ z4 → Rt g d mX2_summon 84 [some (.ref 13), some (.ref o0), some (.int x2), some (.int x3), some (.long z4), none, some (.long z6), none, some (.long z8), none, some (.long z10), none, none, none] [.int 1] t Q))))))))) : Rt g d mX2_summon 7 [some (.ref 13), some (.ref o0), some (.int x2), some (.int x3), none, none, none, none, none, none, none, none, none, none] [] t Q := by
  refine s_iload_n dX2_summon_7 rfl rfl ?_
  refine s_iconst (v := 4) dX2_summon_8 (by decide) ?_
  refine s_iadd dX2_summon_9 ?_
  refine s_aload_n dX2_summon_10 rfl rfl ?_
  refine t_getI dX2_summon_11 fl_X2_35 (isSh_k ho0) (isSh_z ho0) rfl ?_
  refine s_icmp_gt (tgt := 209) dX2_summon_14 (by decide) (fun c1 => ?_) (fun c1 => ?_)
  · replace h := h.1 c1
    exact t_vret dX2_summon_209 rfl h
  · replace h := h.2 c1
    refine s_aload_n dX2_summon_17 rfl rfl ?_
    refine t_getI dX2_summon_18 fl_X2_31 rfl (by decide) rfl ?_
    refine s_bipush (v := 15) dX2_summon_21 (by decide) ?_
    refine s_icmp_ge (tgt := 209) dX2_summon_23 (by decide) (fun c2 => ?_) (fun c2 => ?_)
    · replace h := h.1 c2
      exact t_vret dX2_summon_209 rfl h
    · replace h := h.2 c2
      refine s_aload_n dX2_summon_26 rfl rfl ?_
      refine t_getR dX2_summon_27 fl_X2_40 (isSh_k ho0) (isSh_z ho0) rfl (isSh_r3 _ ho0) ?_
      refine s_iload_n dX2_summon_30 rfl rfl ?_
      obtain ⟨g3, h⟩ := h
      refine t_lald dX2_summon_31 (isSh_k3 ho0) (isSh_z3 ho0) g3 ?_
      refine t_nmJ (fun z4 ez4 => ?_)
      replace h := h z4 ez4
      refine s_lstore dX2_summon_32 (by decide) rfl (L9 := [some (.ref 13), some (.ref o0), some (.int x2), some (.int x3), some (.long z4), none, none, none, none, none, none, none, none, none]) rfl ?_
      refine s_aload_n dX2_summon_34 rfl rfl ?_
      refine t_getR dX2_summon_35 fl_X2_40 (isSh_k ho0) (isSh_z ho0) rfl (isSh_r3 _ ho0) ?_
      refine s_iload_n dX2_summon_38 rfl rfl ?_
      refine s_iconst (v := 1) dX2_summon_39 (by decide) ?_
      refine s_iadd dX2_summon_40 ?_
      obtain ⟨g5, h⟩ := h
      refine t_lald dX2_summon_41 (isSh_k3 ho0) (isSh_z3 ho0) g5 ?_
      refine t_nmJ (fun z6 ez6 => ?_)
      replace h := h z6 ez6
      refine s_lstore dX2_summon_42 (by decide) rfl (L9 := [some (.ref 13), some (.ref o0), some (.int x2), some (.int x3), some (.long z4), none, some (.long z6), none, none, none, none, none, none, none]) rfl ?_
      refine s_aload_n dX2_summon_44 rfl rfl ?_
      refine t_getR dX2_summon_45 fl_X2_40 (isSh_k ho0) (isSh_z ho0) rfl (isSh_r3 _ ho0) ?_
      refine s_iload_n dX2_summon_48 rfl rfl ?_
      refine s_iconst (v := 2) dX2_summon_49 (by decide) ?_
      refine s_iadd dX2_summon_50 ?_
      obtain ⟨g7, h⟩ := h
      refine t_lald dX2_summon_51 (isSh_k3 ho0) (isSh_z3 ho0) g7 ?_
      refine t_nmJ (fun z8 ez8 => ?_)
      replace h := h z8 ez8
      refine s_lstore dX2_summon_52 (by decide) rfl (L9 := [some (.ref 13), some (.ref o0), some (.int x2), some (.int x3), some (.long z4), none, some (.long z6), none, some (.long z8), none, none, none, none, none]) rfl ?_
      refine s_aload_n dX2_summon_54 rfl rfl ?_
      refine t_getR dX2_summon_55 fl_X2_40 (isSh_k ho0) (isSh_z ho0) rfl (isSh_r3 _ ho0) ?_
      refine s_iload_n dX2_summon_58 rfl rfl ?_
      refine s_iconst (v := 3) dX2_summon_59 (by decide) ?_
      refine s_iadd dX2_summon_60 ?_
      obtain ⟨g9, h⟩ := h
      refine t_lald dX2_summon_61 (isSh_k3 ho0) (isSh_z3 ho0) g9 ?_
      refine t_nmJ (fun z10 ez10 => ?_)
      replace h := h z10 ez10
      refine s_lstore dX2_summon_62 (by decide) rfl (L9 := [some (.ref 13), some (.ref o0), some (.int x2), some (.int x3), some (.long z4), none, some (.long z6), none, some (.long z8), none, some (.long z10), none, none, none]) rfl ?_
      refine s_lload dX2_summon_64 rfl ?_
      refine s_lconst (v := 0) dX2_summon_66 rfl ?_
      refine t_cmp_lt (tgt := 83) dX2_summon_67 dX2_summon_68 (by decide) (fun c11 => ?_) (fun c11 => ?_)
      · replace h := h.1 c11
        exact h
      · replace h := h.2 c11
        refine s_lload dX2_summon_71 rfl ?_
        refine s_iload_n dX2_summon_73 rfl rfl ?_
        refine s_i2l dX2_summon_74 ?_
        refine t_cmp_ge (tgt := 83) dX2_summon_75 dX2_summon_76 (by decide) (fun c12 => ?_) (fun c12 => ?_)
        · replace h := h.1 c12
          exact h
        · replace h := h.2 c12
          refine s_iconst (v := 1) dX2_summon_79 (by decide) ?_
          refine s_goto (tgt := 84) dX2_summon_80 (by decide) ?_
          exact h
theorem bX2_summon_83 {g : Gt} {d : Nat} {t : Tt} {Q : Option Value → Tt → Prop} {o0 : Nat} (ho0 : isSh o0) {x2 : Int32} {x3 : Int32} {x4 : Int64} {x6 : Int64} {x8 : Int64} {x10 : Int64} (h : Rt g d mX2_summon 84 [some (.ref 13), some (.ref o0), some (.int x2), some (.int x3), some (.long x4), none, some (.long x6), none, some (.long x8), none, some (.long x10), none, none, none] [.int 0] t Q) : Rt g d mX2_summon 83 [some (.ref 13), some (.ref o0), some (.int x2), some (.int x3), some (.long x4), none, some (.long x6), none, some (.long x8), none, some (.long x10), none, none, none] [] t Q := by
  refine s_iconst (v := 0) dX2_summon_83 (by decide) ?_
  exact h
theorem bX2_summon_84 {g : Gt} {d : Nat} {t : Tt} {Q : Option Value → Tt → Prop} {o0 : Nat} (ho0 : isSh o0) {x2 : Int32} {x3 : Int32} {x4 : Int64} {x6 : Int64} {x8 : Int64} {x10 : Int64} {s0 : Int32} (h : (x6 < 0 → Rt g d mX2_summon 120 [some (.ref 13), some (.ref o0), some (.int x2), some (.int x3), some (.long x4), none, some (.long x6), none, some (.long x8), none, some (.long x10), none, some (.int s0), none] [] t Q) ∧ (¬ x6 < 0 → (10 ≤ x6 → Rt g d mX2_summon 120 [some (.ref 13), some (.ref o0), some (.int x2), some (.int x3), some (.long x4), none, some (.long x6), none, some (.long x8), none, some (.long x10), none, some (.int s0), none] [] t Q) ∧ (¬ 10 ≤ x6 → (x8 < 0 → Rt g d mX2_summon 120 [some (.ref 13), some (.ref o0), some (.int x2), some (.int x3), some (.long x4), none, some (.long x6), none, some (.long x8), none, some (.long x10), none, some (.int s0), none] [] t Q) ∧ (¬ x8 < 0 → (1 < x8 → Rt g d mX2_summon 120 [some (.ref 13), some (.ref o0), some (.int x2), some (.int x3), some (.long x4), none, some (.long x6), none, some (.long x8), none, some (.long x10), none, some (.int s0), none] [] t Q) ∧ (¬ 1 < x8 → Rt g d mX2_summon 121 [some (.ref 13), some (.ref o0), some (.int x2), some (.int x3), some (.long x4), none, some (.long x6), none, some (.long x8), none, some (.long x10), none, some (.int s0), none] [.int 1] t Q))))) : Rt g d mX2_summon 84 [some (.ref 13), some (.ref o0), some (.int x2), some (.int x3), some (.long x4), none, some (.long x6), none, some (.long x8), none, some (.long x10), none, none, none] [.int s0] t Q := by
  refine s_istore dX2_summon_84 (by decide) rfl (L9 := [some (.ref 13), some (.ref o0), some (.int x2), some (.int x3), some (.long x4), none, some (.long x6), none, some (.long x8), none, some (.long x10), none, some (.int s0), none]) rfl ?_
  refine s_lload dX2_summon_86 rfl ?_
  refine s_lconst (v := 0) dX2_summon_88 rfl ?_
  refine t_cmp_lt (tgt := 120) dX2_summon_89 dX2_summon_90 (by decide) (fun c1 => ?_) (fun c1 => ?_)
  · replace h := h.1 c1
    exact h
  · replace h := h.2 c1
    refine s_lload dX2_summon_93 rfl ?_
    refine s_ldc2 (v := 10) dX2_summon_95 cl_X2_44 ?_
    refine t_cmp_ge (tgt := 120) dX2_summon_98 dX2_summon_99 (by decide) (fun c2 => ?_) (fun c2 => ?_)
    · replace h := h.1 c2
      exact h
    · replace h := h.2 c2
      refine s_lload dX2_summon_102 rfl ?_
      refine s_lconst (v := 0) dX2_summon_104 rfl ?_
      refine t_cmp_lt (tgt := 120) dX2_summon_105 dX2_summon_106 (by decide) (fun c3 => ?_) (fun c3 => ?_)
      · replace h := h.1 c3
        exact h
      · replace h := h.2 c3
        refine s_lload dX2_summon_109 rfl ?_
        refine s_lconst (v := 1) dX2_summon_111 rfl ?_
        refine t_cmp_gt (tgt := 120) dX2_summon_112 dX2_summon_113 (by decide) (fun c4 => ?_) (fun c4 => ?_)
        · replace h := h.1 c4
          exact h
        · replace h := h.2 c4
          refine s_iconst (v := 1) dX2_summon_116 (by decide) ?_
          refine s_goto (tgt := 121) dX2_summon_117 (by decide) ?_
          exact h
theorem bX2_summon_120 {g : Gt} {d : Nat} {t : Tt} {Q : Option Value → Tt → Prop} {o0 : Nat} (ho0 : isSh o0) {x2 : Int32} {x3 : Int32} {x4 : Int64} {x6 : Int64} {x8 : Int64} {x10 : Int64} {x12 : Int32} (h : Rt g d mX2_summon 121 [some (.ref 13), some (.ref o0), some (.int x2), some (.int x3), some (.long x4), none, some (.long x6), none, some (.long x8), none, some (.long x10), none, some (.int x12), none] [.int 0] t Q) : Rt g d mX2_summon 120 [some (.ref 13), some (.ref o0), some (.int x2), some (.int x3), some (.long x4), none, some (.long x6), none, some (.long x8), none, some (.long x10), none, some (.int x12), none] [] t Q := by
  refine s_iconst (v := 0) dX2_summon_120 (by decide) ?_
  exact h
theorem bX2_summon_121 {g : Gt} {d : Nat} {t : Tt} {Q : Option Value → Tt → Prop} {o0 : Nat} (ho0 : isSh o0) {x2 : Int32} {x3 : Int32} {x4 : Int64} {x6 : Int64} {x8 : Int64} {x10 : Int64} {x12 : Int32} {s0 : Int32} (h : (x12 = 0 → Q none t) ∧ (¬ x12 = 0 → (s0 = 0 → Q none t) ∧ (¬ s0 = 0 → (x10 < 0 → Q none t) ∧ (¬ x10 < 0 → (x10 < 10 → vp_in (t.1 13 0) 15 ∧ (vp_in ((pI t 14 (t.1 13 0).toNatClampNeg (x4.toInt32)).1 13 0) 15 ∧ (vp_in ((pI (pI t 14 (t.1 13 0).toNatClampNeg (x4.toInt32)) 15 ((pI t 14 (t.1 13 0).toNatClampNeg (x4.toInt32)).1 13 0).toNatClampNeg (((x6 * 2) + x8).toInt32)).1 13 0) 15 ∧ Rt g d mX2_summon 7 [some (.ref 13), some (.ref o0), some (.int x2), some (.int (x3 + 4)), none, none, none, none, none, none, none, none, none, none] [] (pI (pI (pI (pI t 14 (t.1 13 0).toNatClampNeg (x4.toInt32)) 15 ((pI t 14 (t.1 13 0).toNatClampNeg (x4.toInt32)).1 13 0).toNatClampNeg (((x6 * 2) + x8).toInt32)) 16 ((pI (pI t 14 (t.1 13 0).toNatClampNeg (x4.toInt32)) 15 ((pI t 14 (t.1 13 0).toNatClampNeg (x4.toInt32)).1 13 0).toNatClampNeg (((x6 * 2) + x8).toInt32)).1 13 0).toNatClampNeg (x10.toInt32)) 13 0 (((pI (pI (pI t 14 (t.1 13 0).toNatClampNeg (x4.toInt32)) 15 ((pI t 14 (t.1 13 0).toNatClampNeg (x4.toInt32)).1 13 0).toNatClampNeg (((x6 * 2) + x8).toInt32)) 16 ((pI (pI t 14 (t.1 13 0).toNatClampNeg (x4.toInt32)) 15 ((pI t 14 (t.1 13 0).toNatClampNeg (x4.toInt32)).1 13 0).toNatClampNeg (((x6 * 2) + x8).toInt32)).1 13 0).toNatClampNeg (x10.toInt32)).1 13 0) + 1)) Q))) ∧ (¬ x10 < 10 → Q none t))))) : Rt g d mX2_summon 121 [some (.ref 13), some (.ref o0), some (.int x2), some (.int x3), some (.long x4), none, some (.long x6), none, some (.long x8), none, some (.long x10), none, some (.int x12), none] [.int s0] t Q := by
  refine s_istore dX2_summon_121 (by decide) rfl (L9 := [some (.ref 13), some (.ref o0), some (.int x2), some (.int x3), some (.long x4), none, some (.long x6), none, some (.long x8), none, some (.long x10), none, some (.int x12), some (.int s0)]) rfl ?_
  refine s_iload dX2_summon_123 rfl ?_
  refine s_if_eq (tgt := 149) dX2_summon_125 (by decide) (fun c1 => ?_) (fun c1 => ?_)
  · replace h := h.1 c1
    exact t_vret dX2_summon_149 rfl h
  · replace h := h.2 c1
    refine s_iload dX2_summon_128 rfl ?_
    refine s_if_eq (tgt := 149) dX2_summon_130 (by decide) (fun c2 => ?_) (fun c2 => ?_)
    · replace h := h.1 c2
      exact t_vret dX2_summon_149 rfl h
    · replace h := h.2 c2
      refine s_lload dX2_summon_133 rfl ?_
      refine s_lconst (v := 0) dX2_summon_135 rfl ?_
      refine t_cmp_lt (tgt := 149) dX2_summon_136 dX2_summon_137 (by decide) (fun c3 => ?_) (fun c3 => ?_)
      · replace h := h.1 c3
        exact t_vret dX2_summon_149 rfl h
      · replace h := h.2 c3
        refine s_lload dX2_summon_140 rfl ?_
        refine s_ldc2 (v := 10) dX2_summon_142 cl_X2_44 ?_
        refine t_cmp_lt (tgt := 150) dX2_summon_145 dX2_summon_146 (by decide) (fun c4 => ?_) (fun c4 => ?_)
        · replace h := h.1 c4
          refine s_aload_n dX2_summon_150 rfl rfl ?_
          refine t_getR (o' := 14) dX2_summon_151 fl_X2_11 rfl (by decide) rfl rfl ?_
          refine s_aload_n dX2_summon_154 rfl rfl ?_
          refine t_getI dX2_summon_155 fl_X2_31 rfl (by decide) rfl ?_
          refine s_lload dX2_summon_158 rfl ?_
          refine s_l2i dX2_summon_160 ?_
          obtain ⟨g5, h⟩ := h
          refine t_iast dX2_summon_161 rfl (by decide) g5 ?_
          refine s_aload_n dX2_summon_162 rfl rfl ?_
          refine t_getR (o' := 15) dX2_summon_163 fl_X2_15 rfl (by decide) rfl rfl ?_
          refine s_aload_n dX2_summon_166 rfl rfl ?_
          refine t_getI dX2_summon_167 fl_X2_31 rfl (by decide) rfl ?_
          refine s_lload dX2_summon_170 rfl ?_
          refine s_ldc2 (v := 2) dX2_summon_172 cl_X2_46 ?_
          refine s_lmul dX2_summon_175 ?_
          refine s_lload dX2_summon_176 rfl ?_
          refine s_ladd dX2_summon_178 ?_
          refine s_l2i dX2_summon_179 ?_
          obtain ⟨g6, h⟩ := h
          refine t_iast dX2_summon_180 rfl (by decide) g6 ?_
          refine s_aload_n dX2_summon_181 rfl rfl ?_
          refine t_getR (o' := 16) dX2_summon_182 fl_X2_18 rfl (by decide) rfl rfl ?_
          refine s_aload_n dX2_summon_185 rfl rfl ?_
          refine t_getI dX2_summon_186 fl_X2_31 rfl (by decide) rfl ?_
          refine s_lload dX2_summon_189 rfl ?_
          refine s_l2i dX2_summon_191 ?_
          obtain ⟨g7, h⟩ := h
          refine t_iast dX2_summon_192 rfl (by decide) g7 ?_
          refine s_aload_n dX2_summon_193 rfl rfl ?_
          refine s_dup dX2_summon_194 rfl ?_
          refine t_getI dX2_summon_195 fl_X2_31 rfl (by decide) rfl ?_
          refine s_iconst (v := 1) dX2_summon_198 (by decide) ?_
          refine s_iadd dX2_summon_199 ?_
          refine t_putI dX2_summon_200 fl_X2_31 rfl (by decide) rfl rfl rfl rfl ?_
          refine s_iinc (w := x3 + 4) dX2_summon_203 rfl (by rfl) (by decide) rfl (L9 := [some (.ref 13), some (.ref o0), some (.int x2), some (.int (x3 + 4)), some (.long x4), none, some (.long x6), none, some (.long x8), none, some (.long x10), none, some (.int x12), some (.int s0)]) rfl ?_
          refine s_goto (tgt := 7) dX2_summon_206 (by decide) ?_
          exact Rt.lc h (lc_some (lc_some (lc_some (lc_some (lc_none (lc_none (lc_none (lc_none (lc_none (lc_none (lc_none (lc_none (lc_none (lc_none lc_nil))))))))))))))
        · replace h := h.2 c4
          exact t_vret dX2_summon_149 rfl h
theorem bX2_hold_0 {g : Gt} {d : Nat} {t : Tt} {Q : Option Value → Tt → Prop} {o0 : Nat} (ho0 : isMo o0) {o1 : Nat} (ho1 : isLw o1) {p2 : Int32} {p3 : Int32} (h : Rt g d mX5_copyFrom 0 [some (.ref 17), some (.ref o0)] [] t (QV (fun t1 => Rt g (d + 1) mX2_hold 11 [some (.ref 13), none, some (.ref o1), some (.int p2), some (.int p3), some (.int 0)] [] t1 Q))) : Rt g (d + 1) mX2_hold 0 [some (.ref 13), some (.ref o0), some (.ref o1), some (.int p2), some (.int p3), none] [] t Q := by
  refine s_aload_n dX2_hold_0 rfl rfl ?_
  refine t_getR (o' := 17) dX2_hold_1 fl_X2_24 rfl (by decide) rfl rfl ?_
  refine s_aload_n dX2_hold_4 rfl rfl ?_
  refine t_callV (M' := mX5_copyFrom) (k := 0) (As := [.ref o0]) (rest := []) dX2_hold_5 ml_X2_48 miX5_copyFrom msX5_copyFrom rfl (by decide) rfl rfl (Nat.le_of_ble_eq_true rfl) (Nat.le_of_ble_eq_true rfl) rfl h (fun rv t1 q => ?_)
  obtain ⟨rfl, h⟩ := q
  show Rt g (d + 1) mX2_hold 8 [some (.ref 13), some (.ref o0), some (.ref o1), some (.int p2), some (.int p3), none] [] t1 Q
  refine s_iconst (v := 0) dX2_hold_8 (by decide) ?_
  refine s_istore dX2_hold_9 (by decide) rfl (L9 := [some (.ref 13), some (.ref o0), some (.ref o1), some (.int p2), some (.int p3), some (.int 0)]) rfl ?_
  exact Rt.lc h (lc_some (lc_none (lc_some (lc_some (lc_some (lc_some lc_nil))))))
theorem bX2_hold_11 {g : Gt} {d : Nat} {t : Tt} {Q : Option Value → Tt → Prop} {o1 : Nat} (ho1 : isLw o1) {x3 : Int32} {x4 : Int32} {x5 : Int32} (h : (70 ≤ x5 → Rt g (d + 1) mX2_hold 54 [some (.ref 13), none, some (.ref o1), some (.int x3), some (.int x4), some (.int 0)] [] (pI (pI (pI t 13 6 0) 13 7 0) 13 8 (-2)) Q) ∧ (¬ 70 ≤ x5 → vp_in x5 70 ∧ Rt g (d + 1) mX2_hold 11 [some (.ref 13), none, some (.ref o1), some (.int x3), some (.int x4), some (.int (x5 + 1))] [] (pI t 21 x5.toNatClampNeg (-1)) Q)) : Rt g (d + 1) mX2_hold 11 [some (.ref 13), none, some (.ref o1), some (.int x3), some (.int x4), some (.int x5)] [] t Q := by
  refine s_iload dX2_hold_11 rfl ?_
  refine s_aload_n dX2_hold_13 rfl rfl ?_
  refine t_getR (o' := 21) dX2_hold_14 fl_X2_28 rfl (by decide) rfl rfl ?_
  refine s_alen (v := 70) dX2_hold_17 rfl (Or.inl ⟨rfl, by decide⟩) (by decide) rfl ?_
  refine s_icmp_ge (tgt := 35) dX2_hold_18 (by decide) (fun c1 => ?_) (fun c1 => ?_)
  · replace h := h.1 c1
    refine s_aload_n dX2_hold_35 rfl rfl ?_
    refine s_iconst (v := 0) dX2_hold_36 (by decide) ?_
    refine t_putI dX2_hold_37 fl_X2_52 rfl (by decide) rfl rfl rfl rfl ?_
    refine s_aload_n dX2_hold_40 rfl rfl ?_
    refine s_iconst (v := 0) dX2_hold_41 (by decide) ?_
    refine t_putI dX2_hold_42 fl_X2_55 rfl (by decide) rfl rfl rfl rfl ?_
    refine s_aload_n dX2_hold_45 rfl rfl ?_
    refine s_bipush (v := (-2)) dX2_hold_46 (by decide) ?_
    refine t_putI dX2_hold_48 fl_X2_58 rfl (by decide) rfl rfl rfl rfl ?_
    refine s_iconst (v := 0) dX2_hold_51 (by decide) ?_
    refine s_istore dX2_hold_52 (by decide) rfl (L9 := [some (.ref 13), none, some (.ref o1), some (.int x3), some (.int x4), some (.int 0)]) rfl ?_
    exact h
  · replace h := h.2 c1
    refine s_aload_n dX2_hold_21 rfl rfl ?_
    refine t_getR (o' := 21) dX2_hold_22 fl_X2_28 rfl (by decide) rfl rfl ?_
    refine s_iload dX2_hold_25 rfl ?_
    refine s_iconst (v := (-1)) dX2_hold_27 (by decide) ?_
    obtain ⟨g2, h⟩ := h
    refine t_iast dX2_hold_28 rfl (by decide) g2 ?_
    refine s_iinc (w := x5 + 1) dX2_hold_29 rfl (by rfl) (by decide) rfl (L9 := [some (.ref 13), none, some (.ref o1), some (.int x3), some (.int x4), some (.int (x5 + 1))]) rfl ?_
    refine s_goto (tgt := 11) dX2_hold_32 (by decide) ?_
    exact h
theorem bX2_hold_54 {g : Gt} {d : Nat} {t : Tt} {Q : Option Value → Tt → Prop} {o1 : Nat} (ho1 : isLw o1) {x3 : Int32} {x4 : Int32} {x5 : Int32} (h : ((t.1 13 0) ≤ x5 → Q none t) ∧ (¬ (t.1 13 0) ≤ x5 → vp_in x5 15 ∧ (vp_in x5 15 ∧ (vp_in x5 15 ∧ (Rt g d mX2_speak 0 [some (.ref 13), some (.ref o1), some (.int x3), some (.int (t.1 14 x5.toNatClampNeg)), some (.int ((t.1 15 x5.toNatClampNeg) ^^^ ((jsr x4 x5) &&& 1))), some (.int (t.1 16 x5.toNatClampNeg)), none, none] [] t (QI (fun v6 t5 => (¬ (t5.1 13 8) = (-2) → Rt g (d + 1) mX2_hold 131 [some (.ref 13), none, some (.ref o1), some (.int x3), some (.int x4), some (.int x5)] [] t5 Q) ∧ ((t5.1 13 8) = (-2) → vp_in x5 15 ∧ (Rt g d mX5_isGone 0 [some (.ref 17), some (.int (t5.1 14 x5.toNatClampNeg))] [] t5 (QI (fun v10 t9 => (v10 = 0 → Rt g (d + 1) mX2_hold 131 [some (.ref 13), none, some (.ref o1), some (.int x3), some (.int x4), some (.int x5)] [] t9 Q) ∧ (¬ v10 = 0 → Rt g (d + 1) mX2_hold 131 [some (.ref 13), none, some (.ref o1), some (.int x3), some (.int x4), some (.int x5)] [] (pI t9 13 8 x5) Q)))))))))))) : Rt g (d + 1) mX2_hold 54 [some (.ref 13), none, some (.ref o1), some (.int x3), some (.int x4), some (.int x5)] [] t Q := by
  refine s_iload dX2_hold_54 rfl ?_
  refine s_aload_n dX2_hold_56 rfl rfl ?_
  refine t_getI dX2_hold_57 fl_X2_31 rfl (by decide) rfl ?_
  refine s_icmp_ge (tgt := 137) dX2_hold_60 (by decide) (fun c1 => ?_) (fun c1 => ?_)
  · replace h := h.1 c1
    exact t_vret dX2_hold_137 rfl h
  · replace h := h.2 c1
    refine s_aload_n dX2_hold_63 rfl rfl ?_
    refine s_aload_n dX2_hold_64 rfl rfl ?_
    refine s_iload_n dX2_hold_65 rfl rfl ?_
    refine s_aload_n dX2_hold_66 rfl rfl ?_
    refine t_getR (o' := 14) dX2_hold_67 fl_X2_11 rfl (by decide) rfl rfl ?_
    refine s_iload dX2_hold_70 rfl ?_
    obtain ⟨g2, h⟩ := h
    refine t_iald dX2_hold_72 rfl (by decide) g2 ?_
    refine s_aload_n dX2_hold_73 rfl rfl ?_
    refine t_getR (o' := 15) dX2_hold_74 fl_X2_15 rfl (by decide) rfl rfl ?_
    refine s_iload dX2_hold_77 rfl ?_
    obtain ⟨g3, h⟩ := h
    refine t_iald dX2_hold_79 rfl (by decide) g3 ?_
    refine s_iload dX2_hold_80 rfl ?_
    refine s_iload dX2_hold_82 rfl ?_
    refine s_ishr dX2_hold_84 ?_
    refine s_iconst (v := 1) dX2_hold_85 (by decide) ?_
    refine s_iand dX2_hold_86 ?_
    refine s_ixor dX2_hold_87 ?_
    refine s_aload_n dX2_hold_88 rfl rfl ?_
    refine t_getR (o' := 16) dX2_hold_89 fl_X2_18 rfl (by decide) rfl rfl ?_
    refine s_iload dX2_hold_92 rfl ?_
    obtain ⟨g4, h⟩ := h
    refine t_iald dX2_hold_94 rfl (by decide) g4 ?_
    refine t_callV (M' := mX2_speak) (k := 2) (As := [.ref o1, .int x3, .int (t.1 14 x5.toNatClampNeg), .int ((t.1 15 x5.toNatClampNeg) ^^^ ((jsr x4 x5) &&& 1)), .int (t.1 16 x5.toNatClampNeg)]) (rest := []) dX2_hold_95 ml_X2_61 miX2_speak msX2_speak rfl (by decide) rfl rfl (Nat.le_of_ble_eq_true rfl) (Nat.le_of_ble_eq_true rfl) rfl h (fun rv t5 q => ?_)
    obtain ⟨v6, rfl, h⟩ := q
    show Rt g (d + 1) mX2_hold 98 [some (.ref 13), none, some (.ref o1), some (.int x3), some (.int x4), some (.int x5)] [.int v6] t5 Q
    refine s_pop dX2_hold_98 rfl ?_
    refine s_aload_n dX2_hold_99 rfl rfl ?_
    refine t_getI dX2_hold_100 fl_X2_58 rfl (by decide) rfl ?_
    refine s_bipush (v := (-2)) dX2_hold_103 (by decide) ?_
    refine s_icmp_ne (tgt := 131) dX2_hold_105 (by decide) (fun c7 => ?_) (fun c7 => ?_)
    · replace h := h.1 c7
      exact h
    · replace h := h.2 c7
      refine s_aload_n dX2_hold_108 rfl rfl ?_
      refine t_getR (o' := 17) dX2_hold_109 fl_X2_24 rfl (by decide) rfl rfl ?_
      refine s_aload_n dX2_hold_112 rfl rfl ?_
      refine t_getR (o' := 14) dX2_hold_113 fl_X2_11 rfl (by decide) rfl rfl ?_
      refine s_iload dX2_hold_116 rfl ?_
      obtain ⟨g8, h⟩ := h
      refine t_iald dX2_hold_118 rfl (by decide) g8 ?_
      refine t_callV (M' := mX5_isGone) (k := 0) (As := [.int (t5.1 14 x5.toNatClampNeg)]) (rest := []) dX2_hold_119 ml_X2_65 miX5_isGone msX5_isGone rfl (by decide) rfl rfl (Nat.le_of_ble_eq_true rfl) (Nat.le_of_ble_eq_true rfl) rfl h (fun rv t9 q => ?_)
      obtain ⟨v10, rfl, h⟩ := q
      show Rt g (d + 1) mX2_hold 122 [some (.ref 13), none, some (.ref o1), some (.int x3), some (.int x4), some (.int x5)] [.int v10] t9 Q
      refine s_if_eq (tgt := 131) dX2_hold_122 (by decide) (fun c11 => ?_) (fun c11 => ?_)
      · replace h := h.1 c11
        exact h
      · replace h := h.2 c11
        refine s_aload_n dX2_hold_125 rfl rfl ?_
        refine s_iload dX2_hold_126 rfl ?_
        refine t_putI dX2_hold_128 fl_X2_58 rfl (by decide) rfl rfl rfl rfl ?_
        exact h
theorem bX2_hold_131 {g : Gt} {d : Nat} {t : Tt} {Q : Option Value → Tt → Prop} {o1 : Nat} (ho1 : isLw o1) {x3 : Int32} {x4 : Int32} {x5 : Int32} (h : Rt g (d + 1) mX2_hold 54 [some (.ref 13), none, some (.ref o1), some (.int x3), some (.int x4), some (.int (x5 + 1))] [] t Q) : Rt g (d + 1) mX2_hold 131 [some (.ref 13), none, some (.ref o1), some (.int x3), some (.int x4), some (.int x5)] [] t Q := by
  refine s_iinc (w := x5 + 1) dX2_hold_131 rfl (by rfl) (by decide) rfl (L9 := [some (.ref 13), none, some (.ref o1), some (.int x3), some (.int x4), some (.int (x5 + 1))]) rfl ?_
  refine s_goto (tgt := 54) dX2_hold_134 (by decide) ?_
  exact h
theorem bX2_speak_0 {g : Gt} {d : Nat} {t : Tt} {Q : Option Value → Tt → Prop} {o0 : Nat} (ho0 : isLw o0) {p1 : Int32} {p2 : Int32} {p3 : Int32} {p4 : Int32} (h : ∀ z1 : Int32, z1 = (p3 / 2) → ∀ z2 : Int32, z2 = (jr p3 2) → vp_in ((p2 * 10) + z1) 70 ∧ (Rt g d mX7_isLie 0 [some (.int p1), some (.int z1), some (.int z2)] [] (pI (pI t 21 ((p2 * 10) + z1).toNatClampNeg z2) 13 7 (((pI t 21 ((p2 * 10) + z1).toNatClampNeg z2).1 13 7) ||| (jsl 1 z1))) (QI (fun v5 t4 => (¬ v5 = 0 → Rt g d mX5_lie 0 [some (.ref 17), some (.ref o0), some (.int p2), some (.int z1), some (.int p4), none, none, none, none, none, none] [] (pI t4 13 6 ((t4.1 13 6) ||| (jsl 1 p2))) (QI (fun v8 t7 => Q (some (.int v8)) t7))) ∧ (v5 = 0 → Q (some (.int 0)) t4))))) : Rt g (d + 1) mX2_speak 0 [some (.ref 13), some (.ref o0), some (.int p1), some (.int p2), some (.int p3), some (.int p4), none, none] [] t Q := by
  refine s_iload dX2_speak_0 rfl ?_
  refine s_iconst (v := 2) dX2_speak_2 (by decide) ?_
  refine s_idiv dX2_speak_3 (by decide) ?_
  refine t_nmI (fun z1 ez1 => ?_)
  replace h := h z1 ez1
  refine s_istore dX2_speak_4 (by decide) rfl (L9 := [some (.ref 13), some (.ref o0), some (.int p1), some (.int p2), some (.int p3), some (.int p4), some (.int z1), none]) rfl ?_
  refine s_iload dX2_speak_6 rfl ?_
  refine s_iconst (v := 2) dX2_speak_8 (by decide) ?_
  refine s_irem dX2_speak_9 (by decide) ?_
  refine t_nmI (fun z2 ez2 => ?_)
  replace h := h z2 ez2
  refine s_istore dX2_speak_10 (by decide) rfl (L9 := [some (.ref 13), some (.ref o0), some (.int p1), some (.int p2), some (.int p3), some (.int p4), some (.int z1), some (.int z2)]) rfl ?_
  refine s_aload_n dX2_speak_12 rfl rfl ?_
  refine t_getR (o' := 21) dX2_speak_13 fl_X2_28 rfl (by decide) rfl rfl ?_
  refine s_iload_n dX2_speak_16 rfl rfl ?_
  refine s_bipush (v := 10) dX2_speak_17 (by decide) ?_
  refine s_imul dX2_speak_19 ?_
  refine s_iload dX2_speak_20 rfl ?_
  refine s_iadd dX2_speak_22 ?_
  refine s_iload dX2_speak_23 rfl ?_
  obtain ⟨g3, h⟩ := h
  refine t_iast dX2_speak_25 rfl (by decide) g3 ?_
  refine s_aload_n dX2_speak_26 rfl rfl ?_
  refine s_dup dX2_speak_27 rfl ?_
  refine t_getI dX2_speak_28 fl_X2_55 rfl (by decide) rfl ?_
  refine s_iconst (v := 1) dX2_speak_31 (by decide) ?_
  refine s_iload dX2_speak_32 rfl ?_
  refine s_ishl dX2_speak_34 ?_
  refine s_ior dX2_speak_35 ?_
  refine t_putI dX2_speak_36 fl_X2_55 rfl (by decide) rfl rfl rfl rfl ?_
  refine s_iload_n dX2_speak_39 rfl rfl ?_
  refine s_iload dX2_speak_40 rfl ?_
  refine s_iload dX2_speak_42 rfl ?_
  refine t_callS (M' := mX7_isLie) (k := 0) (As := [.int p1, .int z1, .int z2]) (rest := []) dX2_speak_44 ml_X2_69 mstX7_isLie rfl (Nat.le_of_ble_eq_true rfl) (Nat.le_of_ble_eq_true rfl) rfl h (fun rv t4 q => ?_)
  obtain ⟨v5, rfl, h⟩ := q
  show Rt g (d + 1) mX2_speak 47 [some (.ref 13), some (.ref o0), some (.int p1), some (.int p2), some (.int p3), some (.int p4), some (.int z1), some (.int z2)] [.int v5] t4 Q
  refine s_if_ne (tgt := 52) dX2_speak_47 (by decide) (fun c6 => ?_) (fun c6 => ?_)
  · replace h := h.1 c6
    refine s_aload_n dX2_speak_52 rfl rfl ?_
    refine s_dup dX2_speak_53 rfl ?_
    refine t_getI dX2_speak_54 fl_X2_52 rfl (by decide) rfl ?_
    refine s_iconst (v := 1) dX2_speak_57 (by decide) ?_
    refine s_iload_n dX2_speak_58 rfl rfl ?_
    refine s_ishl dX2_speak_59 ?_
    refine s_ior dX2_speak_60 ?_
    refine t_putI dX2_speak_61 fl_X2_52 rfl (by decide) rfl rfl rfl rfl ?_
    refine s_aload_n dX2_speak_64 rfl rfl ?_
    refine t_getR (o' := 17) dX2_speak_65 fl_X2_24 rfl (by decide) rfl rfl ?_
    refine s_aload_n dX2_speak_68 rfl rfl ?_
    refine s_iload_n dX2_speak_69 rfl rfl ?_
    refine s_iload dX2_speak_70 rfl ?_
    refine s_iload dX2_speak_72 rfl ?_
    refine t_callV (M' := mX5_lie) (k := 6) (As := [.ref o0, .int p2, .int z1, .int p4]) (rest := []) dX2_speak_74 ml_X2_73 miX5_lie msX5_lie rfl (by decide) rfl rfl (Nat.le_of_ble_eq_true rfl) (Nat.le_of_ble_eq_true rfl) rfl h (fun rv t7 q => ?_)
    obtain ⟨v8, rfl, h⟩ := q
    show Rt g (d + 1) mX2_speak 77 [some (.ref 13), some (.ref o0), some (.int p1), some (.int p2), some (.int p3), some (.int p4), some (.int z1), some (.int z2)] [.int v8] t7 Q
    exact t_iret dX2_speak_77 (NR_i rfl _) h
  · replace h := h.2 c6
    refine s_iconst (v := 0) dX2_speak_50 (by decide) ?_
    exact t_iret dX2_speak_51 (NR_i rfl _) h
theorem bX2_beliefIn_0 {g : Gt} {d : Nat} {t : Tt} {Q : Option Value → Tt → Prop} {p0 : Int32} (h : Rt g (d + 1) mX2_beliefIn 4 [some (.ref 13), some (.int p0), some (.int 0), some (.int 0), none] [] t Q) : Rt g (d + 1) mX2_beliefIn 0 [some (.ref 13), some (.int p0), none, none, none] [] t Q := by
  refine s_iconst (v := 0) dX2_beliefIn_0 (by decide) ?_
  refine s_istore_n dX2_beliefIn_1 rfl (by decide) rfl (L9 := [some (.ref 13), some (.int p0), some (.int 0), none, none]) rfl ?_
  refine s_iconst (v := 0) dX2_beliefIn_2 (by decide) ?_
  refine s_istore_n dX2_beliefIn_3 rfl (by decide) rfl (L9 := [some (.ref 13), some (.int p0), some (.int 0), some (.int 0), none]) rfl ?_
  exact h
theorem bX2_beliefIn_4 {g : Gt} {d : Nat} {t : Tt} {Q : Option Value → Tt → Prop} {x1 : Int32} {x2 : Int32} {x3 : Int32} (h : ((t.1 17 0) ≤ x3 → (¬ x2 = 0 → (x2 ≤ 0 → Q (some (.int 0)) t) ∧ (¬ x2 ≤ 0 → Q (some (.int 1)) t)) ∧ (x2 = 0 → Q (some (.int (-2))) t)) ∧ (¬ (t.1 17 0) ≤ x3 → vp_in ((x3 * 10) + x1) 70 ∧ (∀ z5 : Int32, z5 = (t.1 21 ((x3 * 10) + x1).toNatClampNeg) → (z5 = (-1) → Rt g (d + 1) mX2_beliefIn 63 [some (.ref 13), some (.int x1), some (.int x2), some (.int x3), none] [] t Q) ∧ (¬ z5 = (-1) → (¬ z5 = 1 → Rt g d mX5_worthOf 0 [some (.ref 17), some (.int x3)] [] t (QI (fun v9 t8 => Rt g (d + 1) mX2_beliefIn 61 [some (.ref 13), some (.int x1), none, some (.int x3), none] [.int (-v9), .int x2] t8 Q))) ∧ (z5 = 1 → Rt g d mX5_worthOf 0 [some (.ref 17), some (.int x3)] [] t (QI (fun v11 t10 => Rt g (d + 1) mX2_beliefIn 61 [some (.ref 13), some (.int x1), none, some (.int x3), none] [.int v11, .int x2] t10 Q))))))) : Rt g (d + 1) mX2_beliefIn 4 [some (.ref 13), some (.int x1), some (.int x2), some (.int x3), none] [] t Q := by
  refine s_iload_n dX2_beliefIn_4 rfl rfl ?_
  refine s_aload_n dX2_beliefIn_5 rfl rfl ?_
  refine t_getR (o' := 17) dX2_beliefIn_6 fl_X2_24 rfl (by decide) rfl rfl ?_
  refine t_getI dX2_beliefIn_9 fl_X2_77 rfl (by decide) rfl ?_
  refine s_icmp_ge (tgt := 69) dX2_beliefIn_12 (by decide) (fun c1 => ?_) (fun c1 => ?_)
  · replace h := h.1 c1
    refine s_iload_n dX2_beliefIn_69 rfl rfl ?_
    refine s_if_ne (tgt := 76) dX2_beliefIn_70 (by decide) (fun c2 => ?_) (fun c2 => ?_)
    · replace h := h.1 c2
      refine s_iload_n dX2_beliefIn_76 rfl rfl ?_
      refine s_if_le (tgt := 84) dX2_beliefIn_77 (by decide) (fun c3 => ?_) (fun c3 => ?_)
      · replace h := h.1 c3
        refine s_iconst (v := 0) dX2_beliefIn_84 (by decide) ?_
        exact t_iret dX2_beliefIn_85 (NR_i rfl _) h
      · replace h := h.2 c3
        refine s_iconst (v := 1) dX2_beliefIn_80 (by decide) ?_
        refine s_goto (tgt := 85) dX2_beliefIn_81 (by decide) ?_
        exact t_iret dX2_beliefIn_85 (NR_i rfl _) h
    · replace h := h.2 c2
      refine s_bipush (v := (-2)) dX2_beliefIn_73 (by decide) ?_
      exact t_iret dX2_beliefIn_75 (NR_i rfl _) h
  · replace h := h.2 c1
    refine s_aload_n dX2_beliefIn_15 rfl rfl ?_
    refine t_getR (o' := 21) dX2_beliefIn_16 fl_X2_28 rfl (by decide) rfl rfl ?_
    refine s_iload_n dX2_beliefIn_19 rfl rfl ?_
    refine s_bipush (v := 10) dX2_beliefIn_20 (by decide) ?_
    refine s_imul dX2_beliefIn_22 ?_
    refine s_iload_n dX2_beliefIn_23 rfl rfl ?_
    refine s_iadd dX2_beliefIn_24 ?_
    obtain ⟨g4, h⟩ := h
    refine t_iald dX2_beliefIn_25 rfl (by decide) g4 ?_
    refine t_nmI (fun z5 ez5 => ?_)
    replace h := h z5 ez5
    refine s_istore dX2_beliefIn_26 (by decide) rfl (L9 := [some (.ref 13), some (.int x1), some (.int x2), some (.int x3), some (.int z5)]) rfl ?_
    refine s_iload dX2_beliefIn_28 rfl ?_
    refine s_iconst (v := (-1)) dX2_beliefIn_30 (by decide) ?_
    refine s_icmp_eq (tgt := 63) dX2_beliefIn_31 (by decide) (fun c6 => ?_) (fun c6 => ?_)
    · replace h := h.1 c6
      exact Rt.lc h (lc_some (lc_some (lc_some (lc_some (lc_none lc_nil)))))
    · replace h := h.2 c6
      refine s_iload_n dX2_beliefIn_34 rfl rfl ?_
      refine s_iload dX2_beliefIn_35 rfl ?_
      refine s_iconst (v := 1) dX2_beliefIn_37 (by decide) ?_
      refine s_icmp_ne (tgt := 52) dX2_beliefIn_38 (by decide) (fun c7 => ?_) (fun c7 => ?_)
      · replace h := h.1 c7
        refine s_aload_n dX2_beliefIn_52 rfl rfl ?_
        refine t_getR (o' := 17) dX2_beliefIn_53 fl_X2_24 rfl (by decide) rfl rfl ?_
        refine s_iload_n dX2_beliefIn_56 rfl rfl ?_
        refine t_callV (M' := mX5_worthOf) (k := 0) (As := [.int x3]) (rest := [.int x2]) dX2_beliefIn_57 ml_X2_80 miX5_worthOf msX5_worthOf rfl (by decide) rfl rfl (Nat.le_of_ble_eq_true rfl) (Nat.le_of_ble_eq_true rfl) rfl h (fun rv t8 q => ?_)
        obtain ⟨v9, rfl, h⟩ := q
        show Rt g (d + 1) mX2_beliefIn 60 [some (.ref 13), some (.int x1), some (.int x2), some (.int x3), some (.int z5)] [.int v9, .int x2] t8 Q
        refine s_ineg dX2_beliefIn_60 ?_
        exact Rt.lc h (lc_some (lc_some (lc_none (lc_some (lc_none lc_nil)))))
      · replace h := h.2 c7
        refine s_aload_n dX2_beliefIn_41 rfl rfl ?_
        refine t_getR (o' := 17) dX2_beliefIn_42 fl_X2_24 rfl (by decide) rfl rfl ?_
        refine s_iload_n dX2_beliefIn_45 rfl rfl ?_
        refine t_callV (M' := mX5_worthOf) (k := 0) (As := [.int x3]) (rest := [.int x2]) dX2_beliefIn_46 ml_X2_80 miX5_worthOf msX5_worthOf rfl (by decide) rfl rfl (Nat.le_of_ble_eq_true rfl) (Nat.le_of_ble_eq_true rfl) rfl h (fun rv t10 q => ?_)
        obtain ⟨v11, rfl, h⟩ := q
        show Rt g (d + 1) mX2_beliefIn 49 [some (.ref 13), some (.int x1), some (.int x2), some (.int x3), some (.int z5)] [.int v11, .int x2] t10 Q
        refine s_goto (tgt := 61) dX2_beliefIn_49 (by decide) ?_
        exact Rt.lc h (lc_some (lc_some (lc_none (lc_some (lc_none lc_nil)))))
theorem bX2_beliefIn_63 {g : Gt} {d : Nat} {t : Tt} {Q : Option Value → Tt → Prop} {x1 : Int32} {x2 : Int32} {x3 : Int32} (h : Rt g (d + 1) mX2_beliefIn 4 [some (.ref 13), some (.int x1), some (.int x2), some (.int (x3 + 1)), none] [] t Q) : Rt g (d + 1) mX2_beliefIn 63 [some (.ref 13), some (.int x1), some (.int x2), some (.int x3), none] [] t Q := by
  refine s_iinc (w := x3 + 1) dX2_beliefIn_63 rfl (by rfl) (by decide) rfl (L9 := [some (.ref 13), some (.int x1), some (.int x2), some (.int (x3 + 1)), none]) rfl ?_
  refine s_goto (tgt := 4) dX2_beliefIn_66 (by decide) ?_
  exact h
theorem bX2_beliefIn_61 {g : Gt} {d : Nat} {t : Tt} {Q : Option Value → Tt → Prop} {x1 : Int32} {x3 : Int32} {s0 : Int32} {s1 : Int32} (h : ∀ z1 : Int32, z1 = (s1 + s0) → Rt g (d + 1) mX2_beliefIn 63 [some (.ref 13), some (.int x1), some (.int z1), some (.int x3), none] [] t Q) : Rt g (d + 1) mX2_beliefIn 61 [some (.ref 13), some (.int x1), none, some (.int x3), none] [.int s0, .int s1] t Q := by
  refine s_iadd dX2_beliefIn_61 ?_
  refine t_nmI (fun z1 ez1 => ?_)
  replace h := h z1 ez1
  refine s_istore_n dX2_beliefIn_62 rfl (by decide) rfl (L9 := [some (.ref 13), some (.int x1), some (.int z1), some (.int x3), none]) rfl ?_
  exact h
theorem bX2_wrongBeliefs_0 {g : Gt} {d : Nat} {t : Tt} {Q : Option Value → Tt → Prop} {p0 : Int32} (h : Rt g (d + 1) mX2_wrongBeliefs 4 [some (.ref 13), some (.int p0), some (.int 0), some (.int 0), none] [] t Q) : Rt g (d + 1) mX2_wrongBeliefs 0 [some (.ref 13), some (.int p0), none, none, none] [] t Q := by
  refine s_iconst (v := 0) dX2_wrongBeliefs_0 (by decide) ?_
  refine s_istore_n dX2_wrongBeliefs_1 rfl (by decide) rfl (L9 := [some (.ref 13), some (.int p0), some (.int 0), none, none]) rfl ?_
  refine s_iconst (v := 0) dX2_wrongBeliefs_2 (by decide) ?_
  refine s_istore_n dX2_wrongBeliefs_3 rfl (by decide) rfl (L9 := [some (.ref 13), some (.int p0), some (.int 0), some (.int 0), none]) rfl ?_
  exact h
theorem bX2_wrongBeliefs_4 {g : Gt} {d : Nat} {t : Tt} {Q : Option Value → Tt → Prop} {x1 : Int32} {x2 : Int32} {x3 : Int32} (h : (10 ≤ x3 → Q (some (.int x2)) t) ∧ (¬ 10 ≤ x3 → Rt g d mX2_beliefIn 0 [some (.ref 13), some (.int x3), none, none, none] [] t (QI (fun v3 t2 => (v3 = (-2) → Rt g (d + 1) mX2_wrongBeliefs 37 [some (.ref 13), some (.int x1), some (.int x2), some (.int x3), none] [] t2 Q) ∧ (¬ v3 = (-2) → Rt g d mX7_isLie 0 [some (.int x1), some (.int x3), some (.int v3)] [] t2 (QI (fun v6 t5 => (v6 = 0 → Rt g (d + 1) mX2_wrongBeliefs 37 [some (.ref 13), some (.int x1), some (.int x2), some (.int x3), none] [] t5 Q) ∧ (¬ v6 = 0 → Rt g (d + 1) mX2_wrongBeliefs 37 [some (.ref 13), some (.int x1), some (.int (x2 + 1)), some (.int x3), none] [] t5 Q)))))))) : Rt g (d + 1) mX2_wrongBeliefs 4 [some (.ref 13), some (.int x1), some (.int x2), some (.int x3), none] [] t Q := by
  refine s_iload_n dX2_wrongBeliefs_4 rfl rfl ?_
  refine s_bipush (v := 10) dX2_wrongBeliefs_5 (by decide) ?_
  refine s_icmp_ge (tgt := 43) dX2_wrongBeliefs_7 (by decide) (fun c1 => ?_) (fun c1 => ?_)
  · replace h := h.1 c1
    refine s_iload_n dX2_wrongBeliefs_43 rfl rfl ?_
    exact t_iret dX2_wrongBeliefs_44 (NR_i rfl _) h
  · replace h := h.2 c1
    refine s_aload_n dX2_wrongBeliefs_10 rfl rfl ?_
    refine s_iload_n dX2_wrongBeliefs_11 rfl rfl ?_
    refine t_callV (M' := mX2_beliefIn) (k := 3) (As := [.int x3]) (rest := []) dX2_wrongBeliefs_12 ml_X2_84 miX2_beliefIn msX2_beliefIn rfl (by decide) rfl rfl (Nat.le_of_ble_eq_true rfl) (Nat.le_of_ble_eq_true rfl) rfl h (fun rv t2 q => ?_)
    obtain ⟨v3, rfl, h⟩ := q
    show Rt g (d + 1) mX2_wrongBeliefs 15 [some (.ref 13), some (.int x1), some (.int x2), some (.int x3), none] [.int v3] t2 Q
    refine s_istore dX2_wrongBeliefs_15 (by decide) rfl (L9 := [some (.ref 13), some (.int x1), some (.int x2), some (.int x3), some (.int v3)]) rfl ?_
    refine s_iload dX2_wrongBeliefs_17 rfl ?_
    refine s_bipush (v := (-2)) dX2_wrongBeliefs_19 (by decide) ?_
    refine s_icmp_eq (tgt := 37) dX2_wrongBeliefs_21 (by decide) (fun c4 => ?_) (fun c4 => ?_)
    · replace h := h.1 c4
      exact Rt.lc h (lc_some (lc_some (lc_some (lc_some (lc_none lc_nil)))))
    · replace h := h.2 c4
      refine s_iload_n dX2_wrongBeliefs_24 rfl rfl ?_
      refine s_iload_n dX2_wrongBeliefs_25 rfl rfl ?_
      refine s_iload dX2_wrongBeliefs_26 rfl ?_
      refine t_callS (M' := mX7_isLie) (k := 0) (As := [.int x1, .int x3, .int v3]) (rest := []) dX2_wrongBeliefs_28 ml_X2_69 mstX7_isLie rfl (Nat.le_of_ble_eq_true rfl) (Nat.le_of_ble_eq_true rfl) rfl h (fun rv t5 q => ?_)
      obtain ⟨v6, rfl, h⟩ := q
      show Rt g (d + 1) mX2_wrongBeliefs 31 [some (.ref 13), some (.int x1), some (.int x2), some (.int x3), some (.int v3)] [.int v6] t5 Q
      refine s_if_eq (tgt := 37) dX2_wrongBeliefs_31 (by decide) (fun c7 => ?_) (fun c7 => ?_)
      · replace h := h.1 c7
        exact Rt.lc h (lc_some (lc_some (lc_some (lc_some (lc_none lc_nil)))))
      · replace h := h.2 c7
        refine s_iinc (w := x2 + 1) dX2_wrongBeliefs_34 rfl (by rfl) (by decide) rfl (L9 := [some (.ref 13), some (.int x1), some (.int (x2 + 1)), some (.int x3), some (.int v3)]) rfl ?_
        exact Rt.lc h (lc_some (lc_some (lc_some (lc_some (lc_none lc_nil)))))
theorem bX2_wrongBeliefs_37 {g : Gt} {d : Nat} {t : Tt} {Q : Option Value → Tt → Prop} {x1 : Int32} {x2 : Int32} {x3 : Int32} (h : Rt g (d + 1) mX2_wrongBeliefs 4 [some (.ref 13), some (.int x1), some (.int x2), some (.int (x3 + 1)), none] [] t Q) : Rt g (d + 1) mX2_wrongBeliefs 37 [some (.ref 13), some (.int x1), some (.int x2), some (.int x3), none] [] t Q := by
  refine s_iinc (w := x3 + 1) dX2_wrongBeliefs_37 rfl (by rfl) (by decide) rfl (L9 := [some (.ref 13), some (.int x1), some (.int x2), some (.int (x3 + 1)), none]) rfl ?_
  refine s_goto (tgt := 4) dX2_wrongBeliefs_40 (by decide) ?_
  exact h
theorem bX2_asWorthyAs_0 {g : Gt} {d : Nat} {t : Tt} {Q : Option Value → Tt → Prop} {o0 : Nat} (ho0 : isMo o0) (h : Rt g (d + 1) mX2_asWorthyAs 4 [some (.ref 13), some (.ref o0), some (.int 0), some (.int 0)] [] t Q) : Rt g (d + 1) mX2_asWorthyAs 0 [some (.ref 13), some (.ref o0), none, none] [] t Q := by
  refine s_iconst (v := 0) dX2_asWorthyAs_0 (by decide) ?_
  refine s_istore_n dX2_asWorthyAs_1 rfl (by decide) rfl (L9 := [some (.ref 13), some (.ref o0), some (.int 0), none]) rfl ?_
  refine s_iconst (v := 0) dX2_asWorthyAs_2 (by decide) ?_
  refine s_istore_n dX2_asWorthyAs_3 rfl (by decide) rfl (L9 := [some (.ref 13), some (.ref o0), some (.int 0), some (.int 0)]) rfl ?_
  exact h
theorem bX2_asWorthyAs_4 {g : Gt} {d : Nat} {t : Tt} {Q : Option Value → Tt → Prop} {o0 : Nat} (ho0 : isMo o0) {x2 : Int32} {x3 : Int32} (h : ((t.1 o0 0) ≤ x3 → Q (some (.int x2)) t) ∧ (¬ (t.1 o0 0) ≤ x3 → Rt g d mX5_worthOf 0 [some (.ref 17), some (.int x3)] [] t (QI (fun v3 t2 => Rt g d mX5_worthOf 0 [some (.ref o0), some (.int x3)] [] t2 (QI (fun v5 t4 => (¬ v3 = v5 → Rt g (d + 1) mX2_asWorthyAs 34 [some (.ref 13), some (.ref o0), some (.int x2), some (.int x3)] [] t4 Q) ∧ (v3 = v5 → ∀ z7 : Int32, z7 = (x2 ||| (jsl 1 x3)) → Rt g (d + 1) mX2_asWorthyAs 34 [some (.ref 13), some (.ref o0), some (.int z7), some (.int x3)] [] t4 Q))))))) : Rt g (d + 1) mX2_asWorthyAs 4 [some (.ref 13), some (.ref o0), some (.int x2), some (.int x3)] [] t Q := by
  refine s_iload_n dX2_asWorthyAs_4 rfl rfl ?_
  refine s_aload_n dX2_asWorthyAs_5 rfl rfl ?_
  refine t_getI dX2_asWorthyAs_6 fl_X2_77 (isMo_k ho0) (isMo_z ho0) rfl ?_
  refine s_icmp_ge (tgt := 40) dX2_asWorthyAs_9 (by decide) (fun c1 => ?_) (fun c1 => ?_)
  · replace h := h.1 c1
    refine s_iload_n dX2_asWorthyAs_40 rfl rfl ?_
    exact t_iret dX2_asWorthyAs_41 (NR_i rfl _) h
  · replace h := h.2 c1
    refine s_aload_n dX2_asWorthyAs_12 rfl rfl ?_
    refine t_getR (o' := 17) dX2_asWorthyAs_13 fl_X2_24 rfl (by decide) rfl rfl ?_
    refine s_iload_n dX2_asWorthyAs_16 rfl rfl ?_
    refine t_callV (M' := mX5_worthOf) (k := 0) (As := [.int x3]) (rest := []) dX2_asWorthyAs_17 ml_X2_80 miX5_worthOf msX5_worthOf rfl (by decide) rfl rfl (Nat.le_of_ble_eq_true rfl) (Nat.le_of_ble_eq_true rfl) rfl h (fun rv t2 q => ?_)
    obtain ⟨v3, rfl, h⟩ := q
    show Rt g (d + 1) mX2_asWorthyAs 20 [some (.ref 13), some (.ref o0), some (.int x2), some (.int x3)] [.int v3] t2 Q
    refine s_aload_n dX2_asWorthyAs_20 rfl rfl ?_
    refine s_iload_n dX2_asWorthyAs_21 rfl rfl ?_
    refine t_callV (M' := mX5_worthOf) (k := 0) (As := [.int x3]) (rest := [.int v3]) dX2_asWorthyAs_22 ml_X2_80 miX5_worthOf msX5_worthOf (isMo_k ho0) (isMo_z ho0) rfl rfl (Nat.le_of_ble_eq_true rfl) (Nat.le_of_ble_eq_true rfl) rfl h (fun rv t4 q => ?_)
    obtain ⟨v5, rfl, h⟩ := q
    show Rt g (d + 1) mX2_asWorthyAs 25 [some (.ref 13), some (.ref o0), some (.int x2), some (.int x3)] [.int v5, .int v3] t4 Q
    refine s_icmp_ne (tgt := 34) dX2_asWorthyAs_25 (by decide) (fun c6 => ?_) (fun c6 => ?_)
    · replace h := h.1 c6
      exact h
    · replace h := h.2 c6
      refine s_iload_n dX2_asWorthyAs_28 rfl rfl ?_
      refine s_iconst (v := 1) dX2_asWorthyAs_29 (by decide) ?_
      refine s_iload_n dX2_asWorthyAs_30 rfl rfl ?_
      refine s_ishl dX2_asWorthyAs_31 ?_
      refine s_ior dX2_asWorthyAs_32 ?_
      refine t_nmI (fun z7 ez7 => ?_)
      replace h := h z7 ez7
      refine s_istore_n dX2_asWorthyAs_33 rfl (by decide) rfl (L9 := [some (.ref 13), some (.ref o0), some (.int z7), some (.int x3)]) rfl ?_
      exact h
theorem bX2_asWorthyAs_34 {g : Gt} {d : Nat} {t : Tt} {Q : Option Value → Tt → Prop} {o0 : Nat} (ho0 : isMo o0) {x2 : Int32} {x3 : Int32} (h : Rt g (d + 1) mX2_asWorthyAs 4 [some (.ref 13), some (.ref o0), some (.int x2), some (.int (x3 + 1))] [] t Q) : Rt g (d + 1) mX2_asWorthyAs 34 [some (.ref 13), some (.ref o0), some (.int x2), some (.int x3)] [] t Q := by
  refine s_iinc (w := x3 + 1) dX2_asWorthyAs_34 rfl (by rfl) (by decide) rfl (L9 := [some (.ref 13), some (.ref o0), some (.int x2), some (.int (x3 + 1))]) rfl ?_
  refine s_goto (tgt := 4) dX2_asWorthyAs_37 (by decide) ?_
  exact h
theorem bX3_add_0 {g : Gt} {d : Nat} {t : Tt} {Q : Option Value → Tt → Prop} {o : Nat} (ho : isLw o) {p0 : Int32} {p1 : Int32} (h : (128 ≤ (t.1 o 4) → Q none t) ∧ (¬ 128 ≤ (t.1 o 4) → vp_in (t.1 o 4) 128 ∧ (vp_in ((pI t (o + 1) (t.1 o 4).toNatClampNeg p0).1 o 4) 128 ∧ Q none (pI (pI (pI t (o + 1) (t.1 o 4).toNatClampNeg p0) (o + 2) ((pI t (o + 1) (t.1 o 4).toNatClampNeg p0).1 o 4).toNatClampNeg p1) o 4 (((pI (pI t (o + 1) (t.1 o 4).toNatClampNeg p0) (o + 2) ((pI t (o + 1) (t.1 o 4).toNatClampNeg p0).1 o 4).toNatClampNeg p1).1 o 4) + 1))))) : Rt g d mX3_add 0 [some (.ref o), some (.int p0), some (.int p1)] [] t Q := by
  refine s_aload_n dX3_add_0 rfl rfl ?_
  refine t_getI dX3_add_1 fl_X3_24 (isLw_k ho) (isLw_z ho) rfl ?_
  refine s_sipush (v := 128) dX3_add_4 (by decide) ?_
  refine s_icmp_ge (tgt := 40) dX3_add_7 (by decide) (fun c1 => ?_) (fun c1 => ?_)
  · replace h := h.1 c1
    exact t_vret dX3_add_40 rfl h
  · replace h := h.2 c1
    refine s_aload_n dX3_add_10 rfl rfl ?_
    refine t_getR dX3_add_11 fl_X3_11 (isLw_k ho) (isLw_z ho) rfl (isLw_r0 _ ho) ?_
    refine s_aload_n dX3_add_14 rfl rfl ?_
    refine t_getI dX3_add_15 fl_X3_24 (isLw_k ho) (isLw_z ho) rfl ?_
    refine s_iload_n dX3_add_18 rfl rfl ?_
    obtain ⟨g2, h⟩ := h
    refine t_iast dX3_add_19 (isLw_k0 ho) (isLw_z0 ho) g2 ?_
    refine s_aload_n dX3_add_20 rfl rfl ?_
    refine t_getR dX3_add_21 fl_X3_15 (isLw_k ho) (isLw_z ho) rfl (isLw_r1 _ ho) ?_
    refine s_aload_n dX3_add_24 rfl rfl ?_
    refine t_getI dX3_add_25 fl_X3_24 (isLw_k ho) (isLw_z ho) rfl ?_
    refine s_iload_n dX3_add_28 rfl rfl ?_
    obtain ⟨g3, h⟩ := h
    refine t_iast dX3_add_29 (isLw_k1 ho) (isLw_z1 ho) g3 ?_
    refine s_aload_n dX3_add_30 rfl rfl ?_
    refine s_dup dX3_add_31 rfl ?_
    refine t_getI dX3_add_32 fl_X3_24 (isLw_k ho) (isLw_z ho) rfl ?_
    refine s_iconst (v := 1) dX3_add_35 (by decide) ?_
    refine s_iadd dX3_add_36 ?_
    refine t_putI dX3_add_37 fl_X3_24 (isLw_k ho) (isLw_z ho) rfl rfl rfl rfl ?_
    exact t_vret dX3_add_40 rfl h
theorem bX3_skipToHere_0 {g : Gt} {d : Nat} {t : Tt} {Q : Option Value → Tt → Prop} {o : Nat} (ho : isLw o) {p0 : Int32} (h : (p0 < 0 → Q none t) ∧ (¬ p0 < 0 → ((t.1 o 4) ≤ p0 → Q none t) ∧ (¬ (t.1 o 4) ≤ p0 → vp_in p0 128 ∧ Q none (pI t (o + 2) p0.toNatClampNeg (t.1 o 4))))) : Rt g d mX3_skipToHere 0 [some (.ref o), some (.int p0)] [] t Q := by
  refine s_iload_n dX3_skipToHere_0 rfl rfl ?_
  refine s_if_lt (tgt := 22) dX3_skipToHere_1 (by decide) (fun c1 => ?_) (fun c1 => ?_)
  · replace h := h.1 c1
    exact t_vret dX3_skipToHere_22 rfl h
  · replace h := h.2 c1
    refine s_iload_n dX3_skipToHere_4 rfl rfl ?_
    refine s_aload_n dX3_skipToHere_5 rfl rfl ?_
    refine t_getI dX3_skipToHere_6 fl_X3_24 (isLw_k ho) (isLw_z ho) rfl ?_
    refine s_icmp_ge (tgt := 22) dX3_skipToHere_9 (by decide) (fun c2 => ?_) (fun c2 => ?_)
    · replace h := h.1 c2
      exact t_vret dX3_skipToHere_22 rfl h
    · replace h := h.2 c2
      refine s_aload_n dX3_skipToHere_12 rfl rfl ?_
      refine t_getR dX3_skipToHere_13 fl_X3_15 (isLw_k ho) (isLw_z ho) rfl (isLw_r1 _ ho) ?_
      refine s_iload_n dX3_skipToHere_16 rfl rfl ?_
      refine s_aload_n dX3_skipToHere_17 rfl rfl ?_
      refine t_getI dX3_skipToHere_18 fl_X3_24 (isLw_k ho) (isLw_z ho) rfl ?_
      obtain ⟨g3, h⟩ := h
      refine t_iast dX3_skipToHere_21 (isLw_k1 ho) (isLw_z1 ho) g3 ?_
      exact t_vret dX3_skipToHere_22 rfl h
theorem bX3_priceOf_0 {g : Gt} {d : Nat} {t : Tt} {Q : Option Value → Tt → Prop} {o : Nat} (ho : isLw o) {o0 : Nat} (ho0 : isMo o0) {p1 : Int32} {p2 : Int32} {p3 : Int32} (h : (¬ (t.1 o 4) = 0 → ∀ z2 : Int32, z2 = (jr p3 8) → vp_in p1 7 ∧ (Rt g d mX5_worthOf 0 [some (.ref o0), some (.int p1)] [] (pI (pI t (o + 4) 0 p3) (o + 4) 1 ((pI t (o + 4) 0 p3).1 (o0 + 3) p1.toNatClampNeg)) (QI (fun v5 t4 => Rt g d mX5_isCapped 0 [some (.ref o0), some (.int p1), some (.int z2)] [] (pI (pI t4 (o + 4) 2 v5) (o + 4) 3 z2) (QI (fun v7 t6 => (v7 = 0 → Rt g (d + 1) mX3_priceOf 80 [some (.ref o), none, none, some (.int p2), none, none] [.int 0, .int 4, .ref (o + 4)] t6 Q) ∧ (¬ v7 = 0 → Rt g (d + 1) mX3_priceOf 80 [some (.ref o), none, none, some (.int p2), none, none] [.int 1, .int 4, .ref (o + 4)] t6 Q))))))) ∧ ((t.1 o 4) = 0 → Q (some (.int (1 + (p3 / 2)))) t)) : Rt g (d + 1) mX3_priceOf 0 [some (.ref o), some (.ref o0), some (.int p1), some (.int p2), some (.int p3), none] [] t Q := by
  refine s_aload_n dX3_priceOf_0 rfl rfl ?_
  refine t_getI dX3_priceOf_1 fl_X3_24 (isLw_k ho) (isLw_z ho) rfl ?_
  refine s_if_ne (tgt := 14) dX3_priceOf_4 (by decide) (fun c1 => ?_) (fun c1 => ?_)
  · replace h := h.1 c1
    refine s_iload dX3_priceOf_14 rfl ?_
    refine s_bipush (v := 8) dX3_priceOf_16 (by decide) ?_
    refine s_irem dX3_priceOf_18 (by decide) ?_
    refine t_nmI (fun z2 ez2 => ?_)
    replace h := h z2 ez2
    refine s_istore dX3_priceOf_19 (by decide) rfl (L9 := [some (.ref o), some (.ref o0), some (.int p1), some (.int p2), some (.int p3), some (.int z2)]) rfl ?_
    refine s_aload_n dX3_priceOf_21 rfl rfl ?_
    refine t_getR dX3_priceOf_22 fl_X3_21 (isLw_k ho) (isLw_z ho) rfl (isLw_r3 _ ho) ?_
    refine s_iconst (v := 0) dX3_priceOf_25 (by decide) ?_
    refine s_iload dX3_priceOf_26 rfl ?_
    refine t_iast dX3_priceOf_28 (isLw_k3 ho) (isLw_z3 ho) (show vp_in 0 6 from by unfold vp_in; decide) ?_
    refine s_aload_n dX3_priceOf_29 rfl rfl ?_
    refine t_getR dX3_priceOf_30 fl_X3_21 (isLw_k ho) (isLw_z ho) rfl (isLw_r3 _ ho) ?_
    refine s_iconst (v := 1) dX3_priceOf_33 (by decide) ?_
    refine s_aload_n dX3_priceOf_34 rfl rfl ?_
    refine t_getR dX3_priceOf_35 fl_X3_28 (isMo_k ho0) (isMo_z ho0) rfl (isMo_r4 _ ho0) ?_
    refine s_iload_n dX3_priceOf_38 rfl rfl ?_
    obtain ⟨g3, h⟩ := h
    refine t_iald dX3_priceOf_39 (isMo_k4 ho0) (isMo_z4 ho0) g3 ?_
    refine t_iast dX3_priceOf_40 (isLw_k3 ho) (isLw_z3 ho) (show vp_in 1 6 from by unfold vp_in; decide) ?_
    refine s_aload_n dX3_priceOf_41 rfl rfl ?_
    refine t_getR dX3_priceOf_42 fl_X3_21 (isLw_k ho) (isLw_z ho) rfl (isLw_r3 _ ho) ?_
    refine s_iconst (v := 2) dX3_priceOf_45 (by decide) ?_
    refine s_aload_n dX3_priceOf_46 rfl rfl ?_
    refine s_iload_n dX3_priceOf_47 rfl rfl ?_
    refine t_callV (M' := mX5_worthOf) (k := 0) (As := [.int p1]) (rest := [.int 2, .ref (o + 4)]) dX3_priceOf_48 ml_X3_33 miX5_worthOf msX5_worthOf (isMo_k ho0) (isMo_z ho0) rfl rfl (Nat.le_of_ble_eq_true rfl) (Nat.le_of_ble_eq_true rfl) rfl h (fun rv t4 q => ?_)
    obtain ⟨v5, rfl, h⟩ := q
    show Rt g (d + 1) mX3_priceOf 51 [some (.ref o), some (.ref o0), some (.int p1), some (.int p2), some (.int p3), some (.int z2)] [.int v5, .int 2, .ref (o + 4)] t4 Q
    refine t_iast dX3_priceOf_51 (isLw_k3 ho) (isLw_z3 ho) (show vp_in 2 6 from by unfold vp_in; decide) ?_
    refine s_aload_n dX3_priceOf_52 rfl rfl ?_
    refine t_getR dX3_priceOf_53 fl_X3_21 (isLw_k ho) (isLw_z ho) rfl (isLw_r3 _ ho) ?_
    refine s_iconst (v := 3) dX3_priceOf_56 (by decide) ?_
    refine s_iload dX3_priceOf_57 rfl ?_
    refine t_iast dX3_priceOf_59 (isLw_k3 ho) (isLw_z3 ho) (show vp_in 3 6 from by unfold vp_in; decide) ?_
    refine s_aload_n dX3_priceOf_60 rfl rfl ?_
    refine t_getR dX3_priceOf_61 fl_X3_21 (isLw_k ho) (isLw_z ho) rfl (isLw_r3 _ ho) ?_
    refine s_iconst (v := 4) dX3_priceOf_64 (by decide) ?_
    refine s_aload_n dX3_priceOf_65 rfl rfl ?_
    refine s_iload_n dX3_priceOf_66 rfl rfl ?_
    refine s_iload dX3_priceOf_67 rfl ?_
    refine t_callV (M' := mX5_isCapped) (k := 0) (As := [.int p1, .int z2]) (rest := [.int 4, .ref (o + 4)]) dX3_priceOf_69 ml_X3_37 miX5_isCapped msX5_isCapped (isMo_k ho0) (isMo_z ho0) rfl rfl (Nat.le_of_ble_eq_true rfl) (Nat.le_of_ble_eq_true rfl) rfl h (fun rv t6 q => ?_)
    obtain ⟨v7, rfl, h⟩ := q
    show Rt g (d + 1) mX3_priceOf 72 [some (.ref o), some (.ref o0), some (.int p1), some (.int p2), some (.int p3), some (.int z2)] [.int v7, .int 4, .ref (o + 4)] t6 Q
    refine s_if_eq (tgt := 79) dX3_priceOf_72 (by decide) (fun c8 => ?_) (fun c8 => ?_)
    · replace h := h.1 c8
      refine s_iconst (v := 0) dX3_priceOf_79 (by decide) ?_
      exact Rt.lc h (lc_some (lc_none (lc_none (lc_some (lc_none (lc_none lc_nil))))))
    · replace h := h.2 c8
      refine s_iconst (v := 1) dX3_priceOf_75 (by decide) ?_
      refine s_goto (tgt := 80) dX3_priceOf_76 (by decide) ?_
      exact Rt.lc h (lc_some (lc_none (lc_none (lc_some (lc_none (lc_none lc_nil))))))
  · replace h := h.2 c1
    refine s_iconst (v := 1) dX3_priceOf_7 (by decide) ?_
    refine s_iload dX3_priceOf_8 rfl ?_
    refine s_iconst (v := 2) dX3_priceOf_10 (by decide) ?_
    refine s_idiv dX3_priceOf_11 (by decide) ?_
    refine s_iadd dX3_priceOf_12 ?_
    exact t_iret dX3_priceOf_13 (NR_i rfl _) h
theorem bX3_priceOf_80 {g : Gt} {d : Nat} {t : Tt} {Q : Option Value → Tt → Prop} {o : Nat} (ho : isLw o) {x3 : Int32} {s0 : Int32} {s1 : Int32} (h : vp_in s1 6 ∧ Rt g d mX3_workedOut 0 [some (.ref o), none, none, none, none, none] [] (pI (pI t (o + 4) s1.toNatClampNeg s0) (o + 4) 5 x3) (QI (fun v3 t2 => Q (some (.int (imax 0 (imin 99 v3)))) t2))) : Rt g (d + 1) mX3_priceOf 80 [some (.ref o), none, none, some (.int x3), none, none] [.int s0, .int s1, .ref (o + 4)] t Q := by
  obtain ⟨g1, h⟩ := h
  refine t_iast dX3_priceOf_80 (isLw_k3 ho) (isLw_z3 ho) g1 ?_
  refine s_aload_n dX3_priceOf_81 rfl rfl ?_
  refine t_getR dX3_priceOf_82 fl_X3_21 (isLw_k ho) (isLw_z ho) rfl (isLw_r3 _ ho) ?_
  refine s_iconst (v := 5) dX3_priceOf_85 (by decide) ?_
  refine s_iload_n dX3_priceOf_86 rfl rfl ?_
  refine t_iast dX3_priceOf_87 (isLw_k3 ho) (isLw_z3 ho) (show vp_in 5 6 from by unfold vp_in; decide) ?_
  refine s_iconst (v := 0) dX3_priceOf_88 (by decide) ?_
  refine s_bipush (v := 99) dX3_priceOf_89 (by decide) ?_
  refine s_aload_n dX3_priceOf_91 rfl rfl ?_
  refine t_callV (M' := mX3_workedOut) (k := 5) (As := []) (rest := [.int 99, .int 0]) dX3_priceOf_92 ml_X3_41 miX3_workedOut msX3_workedOut (isLw_k ho) (isLw_z ho) rfl rfl (Nat.le_of_ble_eq_true rfl) (Nat.le_of_ble_eq_true rfl) rfl h (fun rv t2 q => ?_)
  obtain ⟨v3, rfl, h⟩ := q
  show Rt g (d + 1) mX3_priceOf 95 [some (.ref o), none, none, some (.int x3), none, none] [.int v3, .int 99, .int 0] t2 Q
  refine t_min dX3_priceOf_95 mmin_X3_45 (Nat.le_of_ble_eq_true rfl) ?_
  refine t_max dX3_priceOf_98 mmax_X3_51 (Nat.le_of_ble_eq_true rfl) ?_
  exact t_iret dX3_priceOf_101 (NR_i rfl _) h
theorem bX3_workedOut_0 {g : Gt} {d : Nat} {t : Tt} {Q : Option Value → Tt → Prop} {o : Nat} (ho : isLw o) (h : Rt g (d + 1) mX3_workedOut 9 [some (.ref o), some (.int 0), some (.int 0), none, none, none] [] (pI t o 5 0) Q) : Rt g (d + 1) mX3_workedOut 0 [some (.ref o), none, none, none, none, none] [] t Q := by
  refine s_aload_n dX3_workedOut_0 rfl rfl ?_
  refine s_iconst (v := 0) dX3_workedOut_1 (by decide) ?_
  refine t_putI dX3_workedOut_2 fl_X3_54 (isLw_k ho) (isLw_z ho) rfl rfl rfl rfl ?_
  refine s_iconst (v := 0) dX3_workedOut_5 (by decide) ?_
  refine s_istore_n dX3_workedOut_6 rfl (by decide) rfl (L9 := [some (.ref o), some (.int 0), none, none, none, none]) rfl ?_
  refine s_iconst (v := 0) dX3_workedOut_7 (by decide) ?_
  refine s_istore_n dX3_workedOut_8 rfl (by decide) rfl (L9 := [some (.ref o), some (.int 0), some (.int 0), none, none, none]) rfl ?_
  exact h
theorem bX3_workedOut_9 {g : Gt} {d : Nat} {t : Tt} {Q : Option Value → Tt → Prop} {o : Nat} (ho : isLw o) {x1 : Int32} {x2 : Int32} (h : ((t.1 o 4) ≤ x2 → Q (some (.int 0)) t) ∧ (¬ (t.1 o 4) ≤ x2 → (x1 < 0 → Q (some (.int 0)) t) ∧ (¬ x1 < 0 → ((t.1 o 4) ≤ x1 → Q (some (.int 0)) t) ∧ (¬ (t.1 o 4) ≤ x1 → vp_in x1 128 ∧ (∀ z5 : Int32, z5 = (t.1 (o + 1) x1.toNatClampNeg) → vp_in x1 128 ∧ (∀ z7 : Int32, z7 = (t.1 (o + 2) x1.toNatClampNeg) → (z5 = (-45) → Rt g d mX3_pop 0 [some (.ref o)] [] t (QI (fun v10 t9 => Rt g d mX3_push 0 [some (.ref o), some (.int (-v10))] [] t9 (QV (fun t11 => Rt g (d + 1) mX3_workedOut 220 [some (.ref o), some (.int (x1 + 1)), some (.int x2), none, none, none] [] t11 Q))))) ∧ (¬ z5 = (-45) → (z5 = (-33) → Rt g d mX3_pop 0 [some (.ref o)] [] t (QI (fun v14 t13 => (¬ v14 = 0 → Rt g (d + 1) mX3_workedOut 182 [some (.ref o), some (.int (x1 + 1)), some (.int x2), none, none, none] [.int 0, .ref o] t13 Q) ∧ (v14 = 0 → Rt g (d + 1) mX3_workedOut 182 [some (.ref o), some (.int (x1 + 1)), some (.int x2), none, none, none] [.int 1, .ref o] t13 Q)))) ∧ (¬ z5 = (-33) → (z5 = 0 → Rt g d mX3_push 0 [some (.ref o), some (.int z7)] [] t (QV (fun t17 => Rt g (d + 1) mX3_workedOut 220 [some (.ref o), some (.int (x1 + 1)), some (.int x2), none, none, none] [] t17 Q))) ∧ (¬ z5 = 0 → (z5 = 1 → (z7 < 0 → Rt g (d + 1) mX3_workedOut 140 [some (.ref o), some (.int (x1 + 1)), some (.int x2), none, none, none] [.ref o] t Q) ∧ (¬ z7 < 0 → (6 ≤ z7 → Rt g (d + 1) mX3_workedOut 140 [some (.ref o), some (.int (x1 + 1)), some (.int x2), none, none, none] [.ref o] t Q) ∧ (¬ 6 ≤ z7 → vp_in z7 6 ∧ Rt g (d + 1) mX3_workedOut 141 [some (.ref o), some (.int (x1 + 1)), some (.int x2), none, none, none] [.int (t.1 (o + 4) z7.toNatClampNeg), .ref o] t Q))) ∧ (¬ z5 = 1 → (z5 = 2 → Rt g d mX3_pop 0 [some (.ref o)] [] t (QI (fun v24 t23 => Q (some (.int v24)) t23))) ∧ (¬ z5 = 2 → (z5 = 3 → Rt g d mX3_pop 0 [some (.ref o)] [] t (QI (fun v27 t26 => (¬ v27 = 0 → Rt g (d + 1) mX3_workedOut 165 [some (.ref o), none, some (.int x2), none, none, none] [.int (x1 + 1)] t26 Q) ∧ (v27 = 0 → Rt g (d + 1) mX3_workedOut 165 [some (.ref o), none, some (.int x2), none, none, none] [.int z7] t26 Q)))) ∧ (¬ z5 = 3 → Rt g d mX3_pop 0 [some (.ref o)] [] t (QI (fun v30 t29 => Rt g d mX3_pop 0 [some (.ref o)] [] t29 (QI (fun v32 t31 => Rt g d mX3_together 0 [some (.int z5), some (.int v32), some (.int v30)] [] t31 (QI (fun v34 t33 => Rt g d mX3_push 0 [some (.ref o), some (.int v34)] [] t33 (QV (fun t35 => Rt g (d + 1) mX3_workedOut 220 [some (.ref o), some (.int (x1 + 1)), some (.int x2), none, none, none] [] t35 Q)))))))))))))))))))) : Rt g (d + 1) mX3_workedOut 9 [some (.ref o), some (.int x1), some (.int x2), none, none, none] [] t Q := by
  refine s_iload_n dX3_workedOut_9 rfl rfl ?_
  refine s_aload_n dX3_workedOut_10 rfl rfl ?_
  refine t_getI dX3_workedOut_11 fl_X3_24 (isLw_k ho) (isLw_z ho) rfl ?_
  refine s_icmp_ge (tgt := 226) dX3_workedOut_14 (by decide) (fun c1 => ?_) (fun c1 => ?_)
  · replace h := h.1 c1
    refine s_iconst (v := 0) dX3_workedOut_226 (by decide) ?_
    exact t_iret dX3_workedOut_227 (NR_i rfl _) h
  · replace h := h.2 c1
    refine s_iload_n dX3_workedOut_17 rfl rfl ?_
    refine s_if_lt (tgt := 226) dX3_workedOut_18 (by decide) (fun c2 => ?_) (fun c2 => ?_)
    · replace h := h.1 c2
      refine s_iconst (v := 0) dX3_workedOut_226 (by decide) ?_
      exact t_iret dX3_workedOut_227 (NR_i rfl _) h
    · replace h := h.2 c2
      refine s_iload_n dX3_workedOut_21 rfl rfl ?_
      refine s_aload_n dX3_workedOut_22 rfl rfl ?_
      refine t_getI dX3_workedOut_23 fl_X3_24 (isLw_k ho) (isLw_z ho) rfl ?_
      refine s_icmp_ge (tgt := 226) dX3_workedOut_26 (by decide) (fun c3 => ?_) (fun c3 => ?_)
      · replace h := h.1 c3
        refine s_iconst (v := 0) dX3_workedOut_226 (by decide) ?_
        exact t_iret dX3_workedOut_227 (NR_i rfl _) h
      · replace h := h.2 c3
        refine s_aload_n dX3_workedOut_29 rfl rfl ?_
        refine t_getR dX3_workedOut_30 fl_X3_11 (isLw_k ho) (isLw_z ho) rfl (isLw_r0 _ ho) ?_
        refine s_iload_n dX3_workedOut_33 rfl rfl ?_
        obtain ⟨g4, h⟩ := h
        refine t_iald dX3_workedOut_34 (isLw_k0 ho) (isLw_z0 ho) g4 ?_
        refine t_nmI (fun z5 ez5 => ?_)
        replace h := h z5 ez5
        refine s_istore_n dX3_workedOut_35 rfl (by decide) rfl (L9 := [some (.ref o), some (.int x1), some (.int x2), some (.int z5), none, none]) rfl ?_
        refine s_aload_n dX3_workedOut_36 rfl rfl ?_
        refine t_getR dX3_workedOut_37 fl_X3_15 (isLw_k ho) (isLw_z ho) rfl (isLw_r1 _ ho) ?_
        refine s_iload_n dX3_workedOut_40 rfl rfl ?_
        obtain ⟨g6, h⟩ := h
        refine t_iald dX3_workedOut_41 (isLw_k1 ho) (isLw_z1 ho) g6 ?_
        refine t_nmI (fun z7 ez7 => ?_)
        replace h := h z7 ez7
        refine s_istore dX3_workedOut_42 (by decide) rfl (L9 := [some (.ref o), some (.int x1), some (.int x2), some (.int z5), some (.int z7), none]) rfl ?_
        refine s_iinc (w := x1 + 1) dX3_workedOut_44 rfl (by rfl) (by decide) rfl (L9 := [some (.ref o), some (.int (x1 + 1)), some (.int x2), some (.int z5), some (.int z7), none]) rfl ?_
        refine s_iload_n dX3_workedOut_47 rfl rfl ?_
        by_cases c8 : z5 = (-45)
        · replace h := h.1 c8
          refine s_lsw (off := 140) (tgt := 188) dX3_workedOut_48 (by decide) (by rw [c8]; rfl) (by decide) ?_
          refine s_aload_n dX3_workedOut_188 rfl rfl ?_
          refine s_aload_n dX3_workedOut_189 rfl rfl ?_
          refine t_callV (M' := mX3_pop) (k := 0) (As := []) (rest := [.ref o]) dX3_workedOut_190 ml_X3_61 miX3_pop msX3_pop (isLw_k ho) (isLw_z ho) rfl rfl (Nat.le_of_ble_eq_true rfl) (Nat.le_of_ble_eq_true rfl) rfl h (fun rv t9 q => ?_)
          obtain ⟨v10, rfl, h⟩ := q
          show Rt g (d + 1) mX3_workedOut 193 [some (.ref o), some (.int (x1 + 1)), some (.int x2), some (.int z5), some (.int z7), none] [.int v10, .ref o] t9 Q
          refine s_ineg dX3_workedOut_193 ?_
          refine t_callV (M' := mX3_push) (k := 0) (As := [.int (-v10)]) (rest := []) dX3_workedOut_194 ml_X3_57 miX3_push msX3_push (isLw_k ho) (isLw_z ho) rfl rfl (Nat.le_of_ble_eq_true rfl) (Nat.le_of_ble_eq_true rfl) rfl h (fun rv t11 q => ?_)
          obtain ⟨rfl, h⟩ := q
          show Rt g (d + 1) mX3_workedOut 197 [some (.ref o), some (.int (x1 + 1)), some (.int x2), some (.int z5), some (.int z7), none] [] t11 Q
          refine s_goto (tgt := 220) dX3_workedOut_197 (by decide) ?_
          exact Rt.lc h (lc_some (lc_some (lc_some (lc_none (lc_none (lc_none lc_nil))))))
        · replace h := h.2 c8
          by_cases c12 : z5 = (-33)
          · replace h := h.1 c12
            refine s_lsw (off := 121) (tgt := 169) dX3_workedOut_48 (by decide) (by rw [c12]; rfl) (by decide) ?_
            refine s_aload_n dX3_workedOut_169 rfl rfl ?_
            refine s_aload_n dX3_workedOut_170 rfl rfl ?_
            refine t_callV (M' := mX3_pop) (k := 0) (As := []) (rest := [.ref o]) dX3_workedOut_171 ml_X3_61 miX3_pop msX3_pop (isLw_k ho) (isLw_z ho) rfl rfl (Nat.le_of_ble_eq_true rfl) (Nat.le_of_ble_eq_true rfl) rfl h (fun rv t13 q => ?_)
            obtain ⟨v14, rfl, h⟩ := q
            show Rt g (d + 1) mX3_workedOut 174 [some (.ref o), some (.int (x1 + 1)), some (.int x2), some (.int z5), some (.int z7), none] [.int v14, .ref o] t13 Q
            refine s_if_ne (tgt := 181) dX3_workedOut_174 (by decide) (fun c15 => ?_) (fun c15 => ?_)
            · replace h := h.1 c15
              refine s_iconst (v := 0) dX3_workedOut_181 (by decide) ?_
              exact Rt.lc h (lc_some (lc_some (lc_some (lc_none (lc_none (lc_none lc_nil))))))
            · replace h := h.2 c15
              refine s_iconst (v := 1) dX3_workedOut_177 (by decide) ?_
              refine s_goto (tgt := 182) dX3_workedOut_178 (by decide) ?_
              exact Rt.lc h (lc_some (lc_some (lc_some (lc_none (lc_none (lc_none lc_nil))))))
          · replace h := h.2 c12
            by_cases c16 : z5 = 0
            · replace h := h.1 c16
              refine s_lsw (off := 60) (tgt := 108) dX3_workedOut_48 (by decide) (by rw [c16]; rfl) (by decide) ?_
              refine s_aload_n dX3_workedOut_108 rfl rfl ?_
              refine s_iload dX3_workedOut_109 rfl ?_
              refine t_callV (M' := mX3_push) (k := 0) (As := [.int z7]) (rest := []) dX3_workedOut_111 ml_X3_57 miX3_push msX3_push (isLw_k ho) (isLw_z ho) rfl rfl (Nat.le_of_ble_eq_true rfl) (Nat.le_of_ble_eq_true rfl) rfl h (fun rv t17 q => ?_)
              obtain ⟨rfl, h⟩ := q
              show Rt g (d + 1) mX3_workedOut 114 [some (.ref o), some (.int (x1 + 1)), some (.int x2), some (.int z5), some (.int z7), none] [] t17 Q
              refine s_goto (tgt := 220) dX3_workedOut_114 (by decide) ?_
              exact Rt.lc h (lc_some (lc_some (lc_some (lc_none (lc_none (lc_none lc_nil))))))
            · replace h := h.2 c16
              by_cases c18 : z5 = 1
              · replace h := h.1 c18
                refine s_lsw (off := 69) (tgt := 117) dX3_workedOut_48 (by decide) (by rw [c18]; rfl) (by decide) ?_
                refine s_aload_n dX3_workedOut_117 rfl rfl ?_
                refine s_iload dX3_workedOut_118 rfl ?_
                refine s_if_lt (tgt := 140) dX3_workedOut_120 (by decide) (fun c19 => ?_) (fun c19 => ?_)
                · replace h := h.1 c19
                  exact Rt.lc h (lc_some (lc_some (lc_some (lc_none (lc_none (lc_none lc_nil))))))
                · replace h := h.2 c19
                  refine s_iload dX3_workedOut_123 rfl ?_
                  refine s_bipush (v := 6) dX3_workedOut_125 (by decide) ?_
                  refine s_icmp_ge (tgt := 140) dX3_workedOut_127 (by decide) (fun c20 => ?_) (fun c20 => ?_)
                  · replace h := h.1 c20
                    exact Rt.lc h (lc_some (lc_some (lc_some (lc_none (lc_none (lc_none lc_nil))))))
                  · replace h := h.2 c20
                    refine s_aload_n dX3_workedOut_130 rfl rfl ?_
                    refine t_getR dX3_workedOut_131 fl_X3_21 (isLw_k ho) (isLw_z ho) rfl (isLw_r3 _ ho) ?_
                    refine s_iload dX3_workedOut_134 rfl ?_
                    obtain ⟨g21, h⟩ := h
                    refine t_iald dX3_workedOut_136 (isLw_k3 ho) (isLw_z3 ho) g21 ?_
                    refine s_goto (tgt := 141) dX3_workedOut_137 (by decide) ?_
                    exact Rt.lc h (lc_some (lc_some (lc_some (lc_none (lc_none (lc_none lc_nil))))))
              · replace h := h.2 c18
                by_cases c22 : z5 = 2
                · replace h := h.1 c22
                  refine s_lsw (off := 99) (tgt := 147) dX3_workedOut_48 (by decide) (by rw [c22]; rfl) (by decide) ?_
                  refine s_aload_n dX3_workedOut_147 rfl rfl ?_
                  refine t_callV (M' := mX3_pop) (k := 0) (As := []) (rest := []) dX3_workedOut_148 ml_X3_61 miX3_pop msX3_pop (isLw_k ho) (isLw_z ho) rfl rfl (Nat.le_of_ble_eq_true rfl) (Nat.le_of_ble_eq_true rfl) rfl h (fun rv t23 q => ?_)
                  obtain ⟨v24, rfl, h⟩ := q
                  show Rt g (d + 1) mX3_workedOut 151 [some (.ref o), some (.int (x1 + 1)), some (.int x2), some (.int z5), some (.int z7), none] [.int v24] t23 Q
                  exact t_iret dX3_workedOut_151 (NR_i rfl _) h
                · replace h := h.2 c22
                  by_cases c25 : z5 = 3
                  · replace h := h.1 c25
                    refine s_lsw (off := 104) (tgt := 152) dX3_workedOut_48 (by decide) (by rw [c25]; rfl) (by decide) ?_
                    refine s_aload_n dX3_workedOut_152 rfl rfl ?_
                    refine t_callV (M' := mX3_pop) (k := 0) (As := []) (rest := []) dX3_workedOut_153 ml_X3_61 miX3_pop msX3_pop (isLw_k ho) (isLw_z ho) rfl rfl (Nat.le_of_ble_eq_true rfl) (Nat.le_of_ble_eq_true rfl) rfl h (fun rv t26 q => ?_)
                    obtain ⟨v27, rfl, h⟩ := q
                    show Rt g (d + 1) mX3_workedOut 156 [some (.ref o), some (.int (x1 + 1)), some (.int x2), some (.int z5), some (.int z7), none] [.int v27] t26 Q
                    refine s_if_ne (tgt := 164) dX3_workedOut_156 (by decide) (fun c28 => ?_) (fun c28 => ?_)
                    · replace h := h.1 c28
                      refine s_iload_n dX3_workedOut_164 rfl rfl ?_
                      exact Rt.lc h (lc_some (lc_none (lc_some (lc_none (lc_none (lc_none lc_nil))))))
                    · replace h := h.2 c28
                      refine s_iload dX3_workedOut_159 rfl ?_
                      refine s_goto (tgt := 165) dX3_workedOut_161 (by decide) ?_
                      exact Rt.lc h (lc_some (lc_none (lc_some (lc_none (lc_none (lc_none lc_nil))))))
                  · replace h := h.2 c25
                    refine s_lsw (off := 152) (tgt := 200) dX3_workedOut_48 (by decide) ((lv_osw c8 rfl).trans ((lv_osw c12 rfl).trans ((lv_osw c16 rfl).trans ((lv_osw c18 rfl).trans ((lv_osw c22 rfl).trans ((lv_osw c25 rfl).trans rfl)))))) (by decide) ?_
                    refine s_aload_n dX3_workedOut_200 rfl rfl ?_
                    refine t_callV (M' := mX3_pop) (k := 0) (As := []) (rest := []) dX3_workedOut_201 ml_X3_61 miX3_pop msX3_pop (isLw_k ho) (isLw_z ho) rfl rfl (Nat.le_of_ble_eq_true rfl) (Nat.le_of_ble_eq_true rfl) rfl h (fun rv t29 q => ?_)
                    obtain ⟨v30, rfl, h⟩ := q
                    show Rt g (d + 1) mX3_workedOut 204 [some (.ref o), some (.int (x1 + 1)), some (.int x2), some (.int z5), some (.int z7), none] [.int v30] t29 Q
                    refine s_istore dX3_workedOut_204 (by decide) rfl (L9 := [some (.ref o), some (.int (x1 + 1)), some (.int x2), some (.int z5), some (.int z7), some (.int v30)]) rfl ?_
                    refine s_aload_n dX3_workedOut_206 rfl rfl ?_
                    refine s_iload_n dX3_workedOut_207 rfl rfl ?_
                    refine s_aload_n dX3_workedOut_208 rfl rfl ?_
                    refine t_callV (M' := mX3_pop) (k := 0) (As := []) (rest := [.int z5, .ref o]) dX3_workedOut_209 ml_X3_61 miX3_pop msX3_pop (isLw_k ho) (isLw_z ho) rfl rfl (Nat.le_of_ble_eq_true rfl) (Nat.le_of_ble_eq_true rfl) rfl h (fun rv t31 q => ?_)
                    obtain ⟨v32, rfl, h⟩ := q
                    show Rt g (d + 1) mX3_workedOut 212 [some (.ref o), some (.int (x1 + 1)), some (.int x2), some (.int z5), some (.int z7), some (.int v30)] [.int v32, .int z5, .ref o] t31 Q
                    refine s_iload dX3_workedOut_212 rfl ?_
                    refine t_callS (M' := mX3_together) (k := 0) (As := [.int z5, .int v32, .int v30]) (rest := [.ref o]) dX3_workedOut_214 ml_X3_64 mstX3_together rfl (Nat.le_of_ble_eq_true rfl) (Nat.le_of_ble_eq_true rfl) rfl h (fun rv t33 q => ?_)
                    obtain ⟨v34, rfl, h⟩ := q
                    show Rt g (d + 1) mX3_workedOut 217 [some (.ref o), some (.int (x1 + 1)), some (.int x2), some (.int z5), some (.int z7), some (.int v30)] [.int v34, .ref o] t33 Q
                    refine t_callV (M' := mX3_push) (k := 0) (As := [.int v34]) (rest := []) dX3_workedOut_217 ml_X3_57 miX3_push msX3_push (isLw_k ho) (isLw_z ho) rfl rfl (Nat.le_of_ble_eq_true rfl) (Nat.le_of_ble_eq_true rfl) rfl h (fun rv t35 q => ?_)
                    obtain ⟨rfl, h⟩ := q
                    show Rt g (d + 1) mX3_workedOut 220 [some (.ref o), some (.int (x1 + 1)), some (.int x2), some (.int z5), some (.int z7), some (.int v30)] [] t35 Q
                    exact Rt.lc h (lc_some (lc_some (lc_some (lc_none (lc_none (lc_none lc_nil))))))
theorem bX3_workedOut_220 {g : Gt} {d : Nat} {t : Tt} {Q : Option Value → Tt → Prop} {o : Nat} (ho : isLw o) {x1 : Int32} {x2 : Int32} (h : Rt g (d + 1) mX3_workedOut 9 [some (.ref o), some (.int x1), some (.int (x2 + 1)), none, none, none] [] t Q) : Rt g (d + 1) mX3_workedOut 220 [some (.ref o), some (.int x1), some (.int x2), none, none, none] [] t Q := by
  refine s_iinc (w := x2 + 1) dX3_workedOut_220 rfl (by rfl) (by decide) rfl (L9 := [some (.ref o), some (.int x1), some (.int (x2 + 1)), none, none, none]) rfl ?_
  refine s_goto (tgt := 9) dX3_workedOut_223 (by decide) ?_
  exact h
theorem bX3_workedOut_182 {g : Gt} {d : Nat} {t : Tt} {Q : Option Value → Tt → Prop} {o : Nat} (ho : isLw o) {x1 : Int32} {x2 : Int32} {s0 : Int32} (h : Rt g d mX3_push 0 [some (.ref o), some (.int s0)] [] t (QV (fun t1 => Rt g (d + 1) mX3_workedOut 220 [some (.ref o), some (.int x1), some (.int x2), none, none, none] [] t1 Q))) : Rt g (d + 1) mX3_workedOut 182 [some (.ref o), some (.int x1), some (.int x2), none, none, none] [.int s0, .ref o] t Q := by
  refine t_callV (M' := mX3_push) (k := 0) (As := [.int s0]) (rest := []) dX3_workedOut_182 ml_X3_57 miX3_push msX3_push (isLw_k ho) (isLw_z ho) rfl rfl (Nat.le_of_ble_eq_true rfl) (Nat.le_of_ble_eq_true rfl) rfl h (fun rv t1 q => ?_)
  obtain ⟨rfl, h⟩ := q
  show Rt g (d + 1) mX3_workedOut 185 [some (.ref o), some (.int x1), some (.int x2), none, none, none] [] t1 Q
  refine s_goto (tgt := 220) dX3_workedOut_185 (by decide) ?_
  exact h
theorem bX3_workedOut_140 {g : Gt} {d : Nat} {t : Tt} {Q : Option Value → Tt → Prop} {o : Nat} (ho : isLw o) {x1 : Int32} {x2 : Int32} (h : Rt g (d + 1) mX3_workedOut 141 [some (.ref o), some (.int x1), some (.int x2), none, none, none] [.int 0, .ref o] t Q) : Rt g (d + 1) mX3_workedOut 140 [some (.ref o), some (.int x1), some (.int x2), none, none, none] [.ref o] t Q := by
  refine s_iconst (v := 0) dX3_workedOut_140 (by decide) ?_
  exact h
theorem bX3_workedOut_141 {g : Gt} {d : Nat} {t : Tt} {Q : Option Value → Tt → Prop} {o : Nat} (ho : isLw o) {x1 : Int32} {x2 : Int32} {s0 : Int32} (h : Rt g d mX3_push 0 [some (.ref o), some (.int s0)] [] t (QV (fun t1 => Rt g (d + 1) mX3_workedOut 220 [some (.ref o), some (.int x1), some (.int x2), none, none, none] [] t1 Q))) : Rt g (d + 1) mX3_workedOut 141 [some (.ref o), some (.int x1), some (.int x2), none, none, none] [.int s0, .ref o] t Q := by
  refine t_callV (M' := mX3_push) (k := 0) (As := [.int s0]) (rest := []) dX3_workedOut_141 ml_X3_57 miX3_push msX3_push (isLw_k ho) (isLw_z ho) rfl rfl (Nat.le_of_ble_eq_true rfl) (Nat.le_of_ble_eq_true rfl) rfl h (fun rv t1 q => ?_)
  obtain ⟨rfl, h⟩ := q
  show Rt g (d + 1) mX3_workedOut 144 [some (.ref o), some (.int x1), some (.int x2), none, none, none] [] t1 Q
  refine s_goto (tgt := 220) dX3_workedOut_144 (by decide) ?_
  exact h
theorem bX3_workedOut_165 {g : Gt} {d : Nat} {t : Tt} {Q : Option Value → Tt → Prop} {o : Nat} (ho : isLw o) {x2 : Int32} {s0 : Int32} (h : Rt g (d + 1) mX3_workedOut 220 [some (.ref o), some (.int s0), some (.int x2), none, none, none] [] t Q) : Rt g (d + 1) mX3_workedOut 165 [some (.ref o), none, some (.int x2), none, none, none] [.int s0] t Q := by
  refine s_istore_n dX3_workedOut_165 rfl (by decide) rfl (L9 := [some (.ref o), some (.int s0), some (.int x2), none, none, none]) rfl ?_
  refine s_goto (tgt := 220) dX3_workedOut_166 (by decide) ?_
  exact h
theorem bX3_together_0 {g : Gt} {d : Nat} {t : Tt} {Q : Option Value → Tt → Prop} {p0 : Int32} {p1 : Int32} {p2 : Int32} (h : (p0 = 37 → (¬ p2 = 0 → ¬ p2 = 0 ∧ Q (some (.int (jr p1 p2))) t) ∧ (p2 = 0 → Q (some (.int 0)) t)) ∧ (¬ p0 = 37 → (p0 = 38 → (p1 = 0 → Q (some (.int 0)) t) ∧ (¬ p1 = 0 → (p2 = 0 → Q (some (.int 0)) t) ∧ (¬ p2 = 0 → Q (some (.int 1)) t))) ∧ (¬ p0 = 38 → (p0 = 42 → Q (some (.int (p1 * p2))) t) ∧ (¬ p0 = 42 → (p0 = 43 → Q (some (.int (p1 + p2))) t) ∧ (¬ p0 = 43 → (p0 = 45 → Q (some (.int (p1 - p2))) t) ∧ (¬ p0 = 45 → (p0 = 47 → (¬ p2 = 0 → ¬ p2 = 0 ∧ Q (some (.int (p1 / p2))) t) ∧ (p2 = 0 → Q (some (.int 0)) t)) ∧ (¬ p0 = 47 → (p0 = 60 → (p2 ≤ p1 → Q (some (.int 0)) t) ∧ (¬ p2 ≤ p1 → Q (some (.int 1)) t)) ∧ (¬ p0 = 60 → (p0 = 61 → (¬ p1 = p2 → Q (some (.int 0)) t) ∧ (p1 = p2 → Q (some (.int 1)) t)) ∧ (¬ p0 = 61 → (p0 = 62 → (p1 ≤ p2 → Q (some (.int 0)) t) ∧ (¬ p1 ≤ p2 → Q (some (.int 1)) t)) ∧ (¬ p0 = 62 → (p0 = 124 → (¬ p1 = 0 → Rt g d mX3_together 100 [none, none, none] [] t Q) ∧ (p1 = 0 → (p2 = 0 → Q (some (.int 0)) t) ∧ (¬ p2 = 0 → Rt g d mX3_together 100 [none, none, none] [] t Q))) ∧ (¬ p0 = 124 → Q (some (.int 0)) t))))))))))) : Rt g d mX3_together 0 [some (.int p0), some (.int p1), some (.int p2)] [] t Q := by
  refine s_iload_n dX3_together_0 rfl rfl ?_
  by_cases c1 : p0 = 37
  · replace h := h.1 c1
    refine s_lsw (off := 176) (tgt := 177) dX3_together_1 (by decide) (by rw [c1]; rfl) (by decide) ?_
    refine s_iload_n dX3_together_177 rfl rfl ?_
    refine s_if_ne (tgt := 185) dX3_together_178 (by decide) (fun c2 => ?_) (fun c2 => ?_)
    · replace h := h.1 c2
      refine s_iload_n dX3_together_185 rfl rfl ?_
      refine s_iload_n dX3_together_186 rfl rfl ?_
      obtain ⟨g3, h⟩ := h
      refine s_irem dX3_together_187 g3 ?_
      exact t_iret dX3_together_188 (NR_i rfl _) h
    · replace h := h.2 c2
      refine s_iconst (v := 0) dX3_together_181 (by decide) ?_
      refine s_goto (tgt := 188) dX3_together_182 (by decide) ?_
      exact t_iret dX3_together_188 (NR_i rfl _) h
  · replace h := h.2 c1
    by_cases c4 : p0 = 38
    · replace h := h.1 c4
      refine s_lsw (off := 105) (tgt := 106) dX3_together_1 (by decide) (by rw [c4]; rfl) (by decide) ?_
      refine s_iload_n dX3_together_106 rfl rfl ?_
      refine s_if_eq (tgt := 118) dX3_together_107 (by decide) (fun c5 => ?_) (fun c5 => ?_)
      · replace h := h.1 c5
        refine s_iconst (v := 0) dX3_together_118 (by decide) ?_
        exact t_iret dX3_together_119 (NR_i rfl _) h
      · replace h := h.2 c5
        refine s_iload_n dX3_together_110 rfl rfl ?_
        refine s_if_eq (tgt := 118) dX3_together_111 (by decide) (fun c6 => ?_) (fun c6 => ?_)
        · replace h := h.1 c6
          refine s_iconst (v := 0) dX3_together_118 (by decide) ?_
          exact t_iret dX3_together_119 (NR_i rfl _) h
        · replace h := h.2 c6
          refine s_iconst (v := 1) dX3_together_114 (by decide) ?_
          refine s_goto (tgt := 119) dX3_together_115 (by decide) ?_
          exact t_iret dX3_together_119 (NR_i rfl _) h
    · replace h := h.2 c4
      by_cases c7 : p0 = 42
      · replace h := h.1 c7
        refine s_lsw (off := 160) (tgt := 161) dX3_together_1 (by decide) (by rw [c7]; rfl) (by decide) ?_
        refine s_iload_n dX3_together_161 rfl rfl ?_
        refine s_iload_n dX3_together_162 rfl rfl ?_
        refine s_imul dX3_together_163 ?_
        exact t_iret dX3_together_164 (NR_i rfl _) h
      · replace h := h.2 c7
        by_cases c8 : p0 = 43
        · replace h := h.1 c8
          refine s_lsw (off := 152) (tgt := 153) dX3_together_1 (by decide) (by rw [c8]; rfl) (by decide) ?_
          refine s_iload_n dX3_together_153 rfl rfl ?_
          refine s_iload_n dX3_together_154 rfl rfl ?_
          refine s_iadd dX3_together_155 ?_
          exact t_iret dX3_together_156 (NR_i rfl _) h
        · replace h := h.2 c8
          by_cases c9 : p0 = 45
          · replace h := h.1 c9
            refine s_lsw (off := 156) (tgt := 157) dX3_together_1 (by decide) (by rw [c9]; rfl) (by decide) ?_
            refine s_iload_n dX3_together_157 rfl rfl ?_
            refine s_iload_n dX3_together_158 rfl rfl ?_
            refine s_isub dX3_together_159 ?_
            exact t_iret dX3_together_160 (NR_i rfl _) h
          · replace h := h.2 c9
            by_cases c10 : p0 = 47
            · replace h := h.1 c10
              refine s_lsw (off := 164) (tgt := 165) dX3_together_1 (by decide) (by rw [c10]; rfl) (by decide) ?_
              refine s_iload_n dX3_together_165 rfl rfl ?_
              refine s_if_ne (tgt := 173) dX3_together_166 (by decide) (fun c11 => ?_) (fun c11 => ?_)
              · replace h := h.1 c11
                refine s_iload_n dX3_together_173 rfl rfl ?_
                refine s_iload_n dX3_together_174 rfl rfl ?_
                obtain ⟨g12, h⟩ := h
                refine s_idiv dX3_together_175 g12 ?_
                exact t_iret dX3_together_176 (NR_i rfl _) h
              · replace h := h.2 c11
                refine s_iconst (v := 0) dX3_together_169 (by decide) ?_
                refine s_goto (tgt := 176) dX3_together_170 (by decide) ?_
                exact t_iret dX3_together_176 (NR_i rfl _) h
            · replace h := h.2 c10
              by_cases c13 : p0 = 60
              · replace h := h.1 c13
                refine s_lsw (off := 119) (tgt := 120) dX3_together_1 (by decide) (by rw [c13]; rfl) (by decide) ?_
                refine s_iload_n dX3_together_120 rfl rfl ?_
                refine s_iload_n dX3_together_121 rfl rfl ?_
                refine s_icmp_ge (tgt := 129) dX3_together_122 (by decide) (fun c14 => ?_) (fun c14 => ?_)
                · replace h := h.1 c14
                  refine s_iconst (v := 0) dX3_together_129 (by decide) ?_
                  exact t_iret dX3_together_130 (NR_i rfl _) h
                · replace h := h.2 c14
                  refine s_iconst (v := 1) dX3_together_125 (by decide) ?_
                  refine s_goto (tgt := 130) dX3_together_126 (by decide) ?_
                  exact t_iret dX3_together_130 (NR_i rfl _) h
              · replace h := h.2 c13
                by_cases c15 : p0 = 61
                · replace h := h.1 c15
                  refine s_lsw (off := 130) (tgt := 131) dX3_together_1 (by decide) (by rw [c15]; rfl) (by decide) ?_
                  refine s_iload_n dX3_together_131 rfl rfl ?_
                  refine s_iload_n dX3_together_132 rfl rfl ?_
                  refine s_icmp_ne (tgt := 140) dX3_together_133 (by decide) (fun c16 => ?_) (fun c16 => ?_)
                  · replace h := h.1 c16
                    refine s_iconst (v := 0) dX3_together_140 (by decide) ?_
                    exact t_iret dX3_together_141 (NR_i rfl _) h
                  · replace h := h.2 c16
                    refine s_iconst (v := 1) dX3_together_136 (by decide) ?_
                    refine s_goto (tgt := 141) dX3_together_137 (by decide) ?_
                    exact t_iret dX3_together_141 (NR_i rfl _) h
                · replace h := h.2 c15
                  by_cases c17 : p0 = 62
                  · replace h := h.1 c17
                    refine s_lsw (off := 141) (tgt := 142) dX3_together_1 (by decide) (by rw [c17]; rfl) (by decide) ?_
                    refine s_iload_n dX3_together_142 rfl rfl ?_
                    refine s_iload_n dX3_together_143 rfl rfl ?_
                    refine s_icmp_le (tgt := 151) dX3_together_144 (by decide) (fun c18 => ?_) (fun c18 => ?_)
                    · replace h := h.1 c18
                      refine s_iconst (v := 0) dX3_together_151 (by decide) ?_
                      exact t_iret dX3_together_152 (NR_i rfl _) h
                    · replace h := h.2 c18
                      refine s_iconst (v := 1) dX3_together_147 (by decide) ?_
                      refine s_goto (tgt := 152) dX3_together_148 (by decide) ?_
                      exact t_iret dX3_together_152 (NR_i rfl _) h
                  · replace h := h.2 c17
                    by_cases c19 : p0 = 124
                    · replace h := h.1 c19
                      refine s_lsw (off := 91) (tgt := 92) dX3_together_1 (by decide) (by rw [c19]; rfl) (by decide) ?_
                      refine s_iload_n dX3_together_92 rfl rfl ?_
                      refine s_if_ne (tgt := 100) dX3_together_93 (by decide) (fun c20 => ?_) (fun c20 => ?_)
                      · replace h := h.1 c20
                        exact Rt.lc h (lc_none (lc_none (lc_none lc_nil)))
                      · replace h := h.2 c20
                        refine s_iload_n dX3_together_96 rfl rfl ?_
                        refine s_if_eq (tgt := 104) dX3_together_97 (by decide) (fun c21 => ?_) (fun c21 => ?_)
                        · replace h := h.1 c21
                          refine s_iconst (v := 0) dX3_together_104 (by decide) ?_
                          exact t_iret dX3_together_105 (NR_i rfl _) h
                        · replace h := h.2 c21
                          exact Rt.lc h (lc_none (lc_none (lc_none lc_nil)))
                    · replace h := h.2 c19
                      refine s_lsw (off := 188) (tgt := 189) dX3_together_1 (by decide) ((lv_osw c1 rfl).trans ((lv_osw c4 rfl).trans ((lv_osw c7 rfl).trans ((lv_osw c8 rfl).trans ((lv_osw c9 rfl).trans ((lv_osw c10 rfl).trans ((lv_osw c13 rfl).trans ((lv_osw c15 rfl).trans ((lv_osw c17 rfl).trans ((lv_osw c19 rfl).trans rfl)))))))))) (by decide) ?_
                      refine s_iconst (v := 0) dX3_together_189 (by decide) ?_
                      exact t_iret dX3_together_190 (NR_i rfl _) h
theorem bX3_together_100 {g : Gt} {d : Nat} {t : Tt} {Q : Option Value → Tt → Prop} (h : Q (some (.int 1)) t) : Rt g d mX3_together 100 [none, none, none] [] t Q := by
  refine s_iconst (v := 1) dX3_together_100 (by decide) ?_
  refine s_goto (tgt := 105) dX3_together_101 (by decide) ?_
  exact t_iret dX3_together_105 (NR_i rfl _) h
theorem bX3_push_0 {g : Gt} {d : Nat} {t : Tt} {Q : Option Value → Tt → Prop} {o : Nat} (ho : isLw o) {p0 : Int32} (h : (128 ≤ (t.1 o 5) → Q none t) ∧ (¬ 128 ≤ (t.1 o 5) → vp_in (t.1 o 5) 128 ∧ Q none (pI (pI t (o + 3) (t.1 o 5).toNatClampNeg p0) o 5 (((pI t (o + 3) (t.1 o 5).toNatClampNeg p0).1 o 5) + 1)))) : Rt g d mX3_push 0 [some (.ref o), some (.int p0)] [] t Q := by
  refine s_aload_n dX3_push_0 rfl rfl ?_
  refine t_getI dX3_push_1 fl_X3_54 (isLw_k ho) (isLw_z ho) rfl ?_
  refine s_sipush (v := 128) dX3_push_4 (by decide) ?_
  refine s_icmp_ge (tgt := 30) dX3_push_7 (by decide) (fun c1 => ?_) (fun c1 => ?_)
  · replace h := h.1 c1
    exact t_vret dX3_push_30 rfl h
  · replace h := h.2 c1
    refine s_aload_n dX3_push_10 rfl rfl ?_
    refine t_getR dX3_push_11 fl_X3_18 (isLw_k ho) (isLw_z ho) rfl (isLw_r2 _ ho) ?_
    refine s_aload_n dX3_push_14 rfl rfl ?_
    refine t_getI dX3_push_15 fl_X3_54 (isLw_k ho) (isLw_z ho) rfl ?_
    refine s_iload_n dX3_push_18 rfl rfl ?_
    obtain ⟨g2, h⟩ := h
    refine t_iast dX3_push_19 (isLw_k2 ho) (isLw_z2 ho) g2 ?_
    refine s_aload_n dX3_push_20 rfl rfl ?_
    refine s_dup dX3_push_21 rfl ?_
    refine t_getI dX3_push_22 fl_X3_54 (isLw_k ho) (isLw_z ho) rfl ?_
    refine s_iconst (v := 1) dX3_push_25 (by decide) ?_
    refine s_iadd dX3_push_26 ?_
    refine t_putI dX3_push_27 fl_X3_54 (isLw_k ho) (isLw_z ho) rfl rfl rfl rfl ?_
    exact t_vret dX3_push_30 rfl h
theorem bX3_pop_0 {g : Gt} {d : Nat} {t : Tt} {Q : Option Value → Tt → Prop} {o : Nat} (ho : isLw o) (h : (1 ≤ (t.1 o 5) → vp_in ((pI t o 5 ((t.1 o 5) - 1)).1 o 5) 128 ∧ Q (some (.int ((pI t o 5 ((t.1 o 5) - 1)).1 (o + 3) ((pI t o 5 ((t.1 o 5) - 1)).1 o 5).toNatClampNeg))) (pI t o 5 ((t.1 o 5) - 1))) ∧ (¬ 1 ≤ (t.1 o 5) → Q (some (.int 0)) t)) : Rt g d mX3_pop 0 [some (.ref o)] [] t Q := by
  refine s_aload_n dX3_pop_0 rfl rfl ?_
  refine t_getI dX3_pop_1 fl_X3_54 (isLw_k ho) (isLw_z ho) rfl ?_
  refine s_iconst (v := 1) dX3_pop_4 (by decide) ?_
  refine s_icmp_ge (tgt := 10) dX3_pop_5 (by decide) (fun c1 => ?_) (fun c1 => ?_)
  · replace h := h.1 c1
    refine s_aload_n dX3_pop_10 rfl rfl ?_
    refine s_dup dX3_pop_11 rfl ?_
    refine t_getI dX3_pop_12 fl_X3_54 (isLw_k ho) (isLw_z ho) rfl ?_
    refine s_iconst (v := 1) dX3_pop_15 (by decide) ?_
    refine s_isub dX3_pop_16 ?_
    refine t_putI dX3_pop_17 fl_X3_54 (isLw_k ho) (isLw_z ho) rfl rfl rfl rfl ?_
    refine s_aload_n dX3_pop_20 rfl rfl ?_
    refine t_getR dX3_pop_21 fl_X3_18 (isLw_k ho) (isLw_z ho) rfl (isLw_r2 _ ho) ?_
    refine s_aload_n dX3_pop_24 rfl rfl ?_
    refine t_getI dX3_pop_25 fl_X3_54 (isLw_k ho) (isLw_z ho) rfl ?_
    obtain ⟨g2, h⟩ := h
    refine t_iald dX3_pop_28 (isLw_k2 ho) (isLw_z2 ho) g2 ?_
    exact t_iret dX3_pop_29 (NR_i rfl _) h
  · replace h := h.2 c1
    refine s_iconst (v := 0) dX3_pop_8 (by decide) ?_
    exact t_iret dX3_pop_9 (NR_i rfl _) h
theorem bX4_take_0 {g : Gt} {d : Nat} {t : Tt} {Q : Option Value → Tt → Prop} {p0 : Int32} (h : ((t.1 33 1) < 120 → vp_in (t.1 33 1) 120 ∧ Q (some (.int ((pI (pI t 34 (t.1 33 1).toNatClampNeg p0) 33 1 (((pI t 34 (t.1 33 1).toNatClampNeg p0).1 33 1) + 1)).1 33 1))) (pI (pI t 34 (t.1 33 1).toNatClampNeg p0) 33 1 (((pI t 34 (t.1 33 1).toNatClampNeg p0).1 33 1) + 1))) ∧ (¬ (t.1 33 1) < 120 → Q (some (.int (-3))) t)) : Rt g d mX4_take 0 [some (.ref 33), some (.int p0)] [] t Q := by
  refine s_aload_n dX4_take_0 rfl rfl ?_
  refine t_getI dX4_take_1 fl_X4_22 rfl (by decide) rfl ?_
  refine s_bipush (v := 120) dX4_take_4 (by decide) ?_
  refine s_icmp_lt (tgt := 12) dX4_take_6 (by decide) (fun c1 => ?_) (fun c1 => ?_)
  · replace h := h.1 c1
    refine s_aload_n dX4_take_12 rfl rfl ?_
    refine t_getR (o' := 34) dX4_take_13 fl_X4_9 rfl (by decide) rfl rfl ?_
    refine s_aload_n dX4_take_16 rfl rfl ?_
    refine t_getI dX4_take_17 fl_X4_22 rfl (by decide) rfl ?_
    refine s_iload_n dX4_take_20 rfl rfl ?_
    obtain ⟨g2, h⟩ := h
    refine t_iast dX4_take_21 rfl (by decide) g2 ?_
    refine s_aload_n dX4_take_22 rfl rfl ?_
    refine s_dup dX4_take_23 rfl ?_
    refine t_getI dX4_take_24 fl_X4_22 rfl (by decide) rfl ?_
    refine s_iconst (v := 1) dX4_take_27 (by decide) ?_
    refine s_iadd dX4_take_28 ?_
    refine t_putI dX4_take_29 fl_X4_22 rfl (by decide) rfl rfl rfl rfl ?_
    refine s_aload_n dX4_take_32 rfl rfl ?_
    refine t_getI dX4_take_33 fl_X4_22 rfl (by decide) rfl ?_
    exact t_iret dX4_take_36 (NR_i rfl _) h
  · replace h := h.2 c1
    refine s_bipush (v := (-3)) dX4_take_9 (by decide) ?_
    exact t_iret dX4_take_11 (NR_i rfl _) h
theorem bX4_exchangeFor_0 {g : Gt} {d : Nat} {t : Tt} {Q : Option Value → Tt → Prop} {o0 : Nat} (ho0 : isLw o0) (h : isLw t.2.2.2 ∧ Q (some (.ref t.2.2.2)) (t.1, t.2.1, t.2.2.1, o0)) : Rt g d mX4_exchangeFor 0 [some (.ref 33), some (.ref o0), none] [] t Q := by
  refine s_aload_n dX4_exchangeFor_0 rfl rfl ?_
  obtain ⟨g1, h⟩ := h
  refine t_getR dX4_exchangeFor_1 fl_X4_18 rfl (by decide) rfl rfl ?_
  refine s_astore_n dX4_exchangeFor_4 rfl (by decide) rfl (L9 := [some (.ref 33), some (.ref o0), some (.ref t.2.2.2)]) rfl ?_
  refine s_aload_n dX4_exchangeFor_5 rfl rfl ?_
  refine s_aload_n dX4_exchangeFor_6 rfl rfl ?_
  refine t_putRdl dX4_exchangeFor_7 fl_X4_18 ?_
  refine s_aload_n dX4_exchangeFor_10 rfl rfl ?_
  exact t_aret dX4_exchangeFor_11 rfl h
theorem bX4_read_0 {g : Gt} {d : Nat} {t : Tt} {Q : Option Value → Tt → Prop} (h : isLw t.2.2.2 ∧ Rt g d mX4_readLine 0 [some (.ref 33), none, none] [] (pI (pI t t.2.2.2 4 0) 33 3 0) (QI (fun v3 t2 => Rt g (d + 1) mX4_read 20 [some (.ref 33), some (.int v3), some (.int 0)] [] t2 Q))) : Rt g (d + 1) mX4_read 0 [some (.ref 33), none, none] [] t Q := by
  refine s_aload_n dX4_read_0 rfl rfl ?_
  obtain ⟨g1, h⟩ := h
  refine t_getR dX4_read_1 fl_X4_18 rfl (by decide) rfl rfl ?_
  refine s_iconst (v := 0) dX4_read_4 (by decide) ?_
  refine t_putI dX4_read_5 fl_X4_26 (isLw_k g1) (isLw_z g1) rfl rfl rfl rfl ?_
  refine s_aload_n dX4_read_8 rfl rfl ?_
  refine s_iconst (v := 0) dX4_read_9 (by decide) ?_
  refine t_putI dX4_read_10 fl_X4_29 rfl (by decide) rfl rfl rfl rfl ?_
  refine s_aload_n dX4_read_13 rfl rfl ?_
  refine t_callV (M' := mX4_readLine) (k := 2) (As := []) (rest := []) dX4_read_14 ml_X4_32 miX4_readLine msX4_readLine rfl (by decide) rfl rfl (Nat.le_of_ble_eq_true rfl) (Nat.le_of_ble_eq_true rfl) rfl h (fun rv t2 q => ?_)
  obtain ⟨v3, rfl, h⟩ := q
  show Rt g (d + 1) mX4_read 17 [some (.ref 33), none, none] [.int v3] t2 Q
  refine s_istore_n dX4_read_17 rfl (by decide) rfl (L9 := [some (.ref 33), some (.int v3), none]) rfl ?_
  refine s_iconst (v := 0) dX4_read_18 (by decide) ?_
  refine s_istore_n dX4_read_19 rfl (by decide) rfl (L9 := [some (.ref 33), some (.int v3), some (.int 0)]) rfl ?_
  exact h
theorem bX4_read_20 {g : Gt} {d : Nat} {t : Tt} {Q : Option Value → Tt → Prop} {x1 : Int32} {x2 : Int32} (h : (120 ≤ x2 → Rt g (d + 1) mX4_read 60 [some (.ref 33), some (.int x1), none] [] t Q) ∧ (¬ 120 ≤ x2 → (x1 = 0 → Rt g (d + 1) mX4_read 60 [some (.ref 33), some (.int x1), none] [] t Q) ∧ (¬ x1 = 0 → Rt g d mX4_next 0 [some (.ref 33)] [] t (QI (fun v4 t3 => (¬ v4 = 59 → Rt g (d + 1) mX4_read 60 [some (.ref 33), some (.int x1), none] [] t3 Q) ∧ (v4 = 59 → Rt g d mX4_readLine 0 [some (.ref 33), none, none] [] (pI t3 33 3 ((t3.1 33 3) + 1)) (QI (fun v7 t6 => Rt g (d + 1) mX4_read 20 [some (.ref 33), some (.int v7), some (.int (x2 + 1))] [] t6 Q)))))))) : Rt g (d + 1) mX4_read 20 [some (.ref 33), some (.int x1), some (.int x2)] [] t Q := by
  refine s_iload_n dX4_read_20 rfl rfl ?_
  refine s_bipush (v := 120) dX4_read_21 (by decide) ?_
  refine s_icmp_ge (tgt := 60) dX4_read_23 (by decide) (fun c1 => ?_) (fun c1 => ?_)
  · replace h := h.1 c1
    exact Rt.lc h (lc_some (lc_some (lc_none lc_nil)))
  · replace h := h.2 c1
    refine s_iload_n dX4_read_26 rfl rfl ?_
    refine s_if_eq (tgt := 60) dX4_read_27 (by decide) (fun c2 => ?_) (fun c2 => ?_)
    · replace h := h.1 c2
      exact Rt.lc h (lc_some (lc_some (lc_none lc_nil)))
    · replace h := h.2 c2
      refine s_aload_n dX4_read_30 rfl rfl ?_
      refine t_callV (M' := mX4_next) (k := 0) (As := []) (rest := []) dX4_read_31 ml_X4_36 miX4_next msX4_next rfl (by decide) rfl rfl (Nat.le_of_ble_eq_true rfl) (Nat.le_of_ble_eq_true rfl) rfl h (fun rv t3 q => ?_)
      obtain ⟨v4, rfl, h⟩ := q
      show Rt g (d + 1) mX4_read 34 [some (.ref 33), some (.int x1), some (.int x2)] [.int v4] t3 Q
      refine s_bipush (v := 59) dX4_read_34 (by decide) ?_
      refine s_icmp_ne (tgt := 60) dX4_read_36 (by decide) (fun c5 => ?_) (fun c5 => ?_)
      · replace h := h.1 c5
        exact Rt.lc h (lc_some (lc_some (lc_none lc_nil)))
      · replace h := h.2 c5
        refine s_aload_n dX4_read_39 rfl rfl ?_
        refine s_dup dX4_read_40 rfl ?_
        refine t_getI dX4_read_41 fl_X4_29 rfl (by decide) rfl ?_
        refine s_iconst (v := 1) dX4_read_44 (by decide) ?_
        refine s_iadd dX4_read_45 ?_
        refine t_putI dX4_read_46 fl_X4_29 rfl (by decide) rfl rfl rfl rfl ?_
        refine s_aload_n dX4_read_49 rfl rfl ?_
        refine t_callV (M' := mX4_readLine) (k := 2) (As := []) (rest := []) dX4_read_50 ml_X4_32 miX4_readLine msX4_readLine rfl (by decide) rfl rfl (Nat.le_of_ble_eq_true rfl) (Nat.le_of_ble_eq_true rfl) rfl h (fun rv t6 q => ?_)
        obtain ⟨v7, rfl, h⟩ := q
        show Rt g (d + 1) mX4_read 53 [some (.ref 33), some (.int x1), some (.int x2)] [.int v7] t6 Q
        refine s_istore_n dX4_read_53 rfl (by decide) rfl (L9 := [some (.ref 33), some (.int v7), some (.int x2)]) rfl ?_
        refine s_iinc (w := x2 + 1) dX4_read_54 rfl (by rfl) (by decide) rfl (L9 := [some (.ref 33), some (.int v7), some (.int (x2 + 1))]) rfl ?_
        refine s_goto (tgt := 20) dX4_read_57 (by decide) ?_
        exact h
theorem bX4_read_60 {g : Gt} {d : Nat} {t : Tt} {Q : Option Value → Tt → Prop} {x1 : Int32} (h : (x1 = 0 → Q (some (.int (t.1 33 3))) t) ∧ (¬ x1 = 0 → (¬ (t.1 33 3) = (t.1 33 1) → Q (some (.int (t.1 33 3))) t) ∧ ((t.1 33 3) = (t.1 33 1) → Q (some (.int (-1))) t))) : Rt g (d + 1) mX4_read 60 [some (.ref 33), some (.int x1), none] [] t Q := by
  refine s_iload_n dX4_read_60 rfl rfl ?_
  refine s_if_eq (tgt := 79) dX4_read_61 (by decide) (fun c1 => ?_) (fun c1 => ?_)
  · replace h := h.1 c1
    refine s_aload_n dX4_read_79 rfl rfl ?_
    refine t_getI dX4_read_80 fl_X4_29 rfl (by decide) rfl ?_
    exact t_iret dX4_read_83 (NR_i rfl _) h
  · replace h := h.2 c1
    refine s_aload_n dX4_read_64 rfl rfl ?_
    refine t_getI dX4_read_65 fl_X4_29 rfl (by decide) rfl ?_
    refine s_aload_n dX4_read_68 rfl rfl ?_
    refine t_getI dX4_read_69 fl_X4_22 rfl (by decide) rfl ?_
    refine s_icmp_ne (tgt := 79) dX4_read_72 (by decide) (fun c2 => ?_) (fun c2 => ?_)
    · replace h := h.1 c2
      refine s_aload_n dX4_read_79 rfl rfl ?_
      refine t_getI dX4_read_80 fl_X4_29 rfl (by decide) rfl ?_
      exact t_iret dX4_read_83 (NR_i rfl _) h
    · replace h := h.2 c2
      refine s_iconst (v := (-1)) dX4_read_75 (by decide) ?_
      refine s_goto (tgt := 83) dX4_read_76 (by decide) ?_
      exact t_iret dX4_read_83 (NR_i rfl _) h
theorem bX4_next_0 {g : Gt} {d : Nat} {t : Tt} {Q : Option Value → Tt → Prop} (h : ((t.1 33 1) ≤ (t.1 33 3) → Q (some (.int (-1))) t) ∧ (¬ (t.1 33 1) ≤ (t.1 33 3) → vp_in (t.1 33 3) 120 ∧ Q (some (.int (t.1 34 (t.1 33 3).toNatClampNeg))) t)) : Rt g d mX4_next 0 [some (.ref 33)] [] t Q := by
  refine s_aload_n dX4_next_0 rfl rfl ?_
  refine t_getI dX4_next_1 fl_X4_29 rfl (by decide) rfl ?_
  refine s_aload_n dX4_next_4 rfl rfl ?_
  refine t_getI dX4_next_5 fl_X4_22 rfl (by decide) rfl ?_
  refine s_icmp_ge (tgt := 23) dX4_next_8 (by decide) (fun c1 => ?_) (fun c1 => ?_)
  · replace h := h.1 c1
    refine s_iconst (v := (-1)) dX4_next_23 (by decide) ?_
    exact t_iret dX4_next_24 (NR_i rfl _) h
  · replace h := h.2 c1
    refine s_aload_n dX4_next_11 rfl rfl ?_
    refine t_getR (o' := 34) dX4_next_12 fl_X4_9 rfl (by decide) rfl rfl ?_
    refine s_aload_n dX4_next_15 rfl rfl ?_
    refine t_getI dX4_next_16 fl_X4_29 rfl (by decide) rfl ?_
    obtain ⟨g2, h⟩ := h
    refine t_iald dX4_next_19 rfl (by decide) g2 ?_
    refine s_goto (tgt := 24) dX4_next_20 (by decide) ?_
    exact t_iret dX4_next_24 (NR_i rfl _) h
theorem bX4_readLine_0 {g : Gt} {d : Nat} {t : Tt} {Q : Option Value → Tt → Prop} (h : Rt g d mX4_readAny 0 [some (.ref 33), some (.int 0), none, none] [] t (QI (fun v2 t1 => (v2 = 0 → Rt g (d + 1) mX4_readLine 54 [some (.ref 33), some (.int v2), some (.int (-1))] [] t1 Q) ∧ (¬ v2 = 0 → Rt g d mX4_next 0 [some (.ref 33)] [] t1 (QI (fun v5 t4 => (¬ v5 = 63 → Rt g (d + 1) mX4_readLine 54 [some (.ref 33), some (.int v2), some (.int (-1))] [] t4 Q) ∧ (v5 = 63 → isLw t4.2.2.2 ∧ (∀ z8 : Int32, z8 = ((pI t4 33 3 ((t4.1 33 3) + 1)).1 t4.2.2.2 4) → isLw t4.2.2.2 ∧ Rt g d mX3_add 0 [some (.ref t4.2.2.2), some (.int 3), some (.int 0)] [] (pI t4 33 3 ((t4.1 33 3) + 1)) (QV (fun t10 => Rt g d mX4_readAny 0 [some (.ref 33), some (.int 0), none, none] [] t10 (QI (fun v12 t11 => Rt g (d + 1) mX4_readLine 54 [some (.ref 33), some (.int v12), some (.int z8)] [] t11 Q)))))))))))) : Rt g (d + 1) mX4_readLine 0 [some (.ref 33), none, none] [] t Q := by
  refine s_aload_n dX4_readLine_0 rfl rfl ?_
  refine s_iconst (v := 0) dX4_readLine_1 (by decide) ?_
  refine t_callV (M' := mX4_readAny) (k := 2) (As := [.int 0]) (rest := []) dX4_readLine_2 ml_X4_40 miX4_readAny msX4_readAny rfl (by decide) rfl rfl (Nat.le_of_ble_eq_true rfl) (Nat.le_of_ble_eq_true rfl) rfl h (fun rv t1 q => ?_)
  obtain ⟨v2, rfl, h⟩ := q
  show Rt g (d + 1) mX4_readLine 5 [some (.ref 33), none, none] [.int v2] t1 Q
  refine s_istore_n dX4_readLine_5 rfl (by decide) rfl (L9 := [some (.ref 33), some (.int v2), none]) rfl ?_
  refine s_iconst (v := (-1)) dX4_readLine_6 (by decide) ?_
  refine s_istore_n dX4_readLine_7 rfl (by decide) rfl (L9 := [some (.ref 33), some (.int v2), some (.int (-1))]) rfl ?_
  refine s_iload_n dX4_readLine_8 rfl rfl ?_
  refine s_if_eq (tgt := 54) dX4_readLine_9 (by decide) (fun c3 => ?_) (fun c3 => ?_)
  · replace h := h.1 c3
    exact h
  · replace h := h.2 c3
    refine s_aload_n dX4_readLine_12 rfl rfl ?_
    refine t_callV (M' := mX4_next) (k := 0) (As := []) (rest := []) dX4_readLine_13 ml_X4_36 miX4_next msX4_next rfl (by decide) rfl rfl (Nat.le_of_ble_eq_true rfl) (Nat.le_of_ble_eq_true rfl) rfl h (fun rv t4 q => ?_)
    obtain ⟨v5, rfl, h⟩ := q
    show Rt g (d + 1) mX4_readLine 16 [some (.ref 33), some (.int v2), some (.int (-1))] [.int v5] t4 Q
    refine s_bipush (v := 63) dX4_readLine_16 (by decide) ?_
    refine s_icmp_ne (tgt := 54) dX4_readLine_18 (by decide) (fun c6 => ?_) (fun c6 => ?_)
    · replace h := h.1 c6
      exact h
    · replace h := h.2 c6
      refine s_aload_n dX4_readLine_21 rfl rfl ?_
      refine s_dup dX4_readLine_22 rfl ?_
      refine t_getI dX4_readLine_23 fl_X4_29 rfl (by decide) rfl ?_
      refine s_iconst (v := 1) dX4_readLine_26 (by decide) ?_
      refine s_iadd dX4_readLine_27 ?_
      refine t_putI dX4_readLine_28 fl_X4_29 rfl (by decide) rfl rfl rfl rfl ?_
      refine s_aload_n dX4_readLine_31 rfl rfl ?_
      obtain ⟨g7, h⟩ := h
      refine t_getR dX4_readLine_32 fl_X4_18 rfl (by decide) rfl rfl ?_
      refine t_getI dX4_readLine_35 fl_X4_26 (isLw_k g7) (isLw_z g7) rfl ?_
      refine t_nmI (fun z8 ez8 => ?_)
      replace h := h z8 ez8
      refine s_istore_n dX4_readLine_38 rfl (by decide) rfl (L9 := [some (.ref 33), some (.int v2), some (.int z8)]) rfl ?_
      refine s_aload_n dX4_readLine_39 rfl rfl ?_
      obtain ⟨g9, h⟩ := h
      refine t_getR dX4_readLine_40 fl_X4_18 rfl (by decide) rfl rfl ?_
      refine s_iconst (v := 3) dX4_readLine_43 (by decide) ?_
      refine s_iconst (v := 0) dX4_readLine_44 (by decide) ?_
      refine t_callV (M' := mX3_add) (k := 0) (As := [.int 3, .int 0]) (rest := []) dX4_readLine_45 ml_X4_44 miX3_add msX3_add (isLw_k g9) (isLw_z g9) rfl rfl (Nat.le_of_ble_eq_true rfl) (Nat.le_of_ble_eq_true rfl) rfl h (fun rv t10 q => ?_)
      obtain ⟨rfl, h⟩ := q
      show Rt g (d + 1) mX4_readLine 48 [some (.ref 33), some (.int v2), some (.int z8)] [] t10 Q
      refine s_aload_n dX4_readLine_48 rfl rfl ?_
      refine s_iconst (v := 0) dX4_readLine_49 (by decide) ?_
      refine t_callV (M' := mX4_readAny) (k := 2) (As := [.int 0]) (rest := []) dX4_readLine_50 ml_X4_40 miX4_readAny msX4_readAny rfl (by decide) rfl rfl (Nat.le_of_ble_eq_true rfl) (Nat.le_of_ble_eq_true rfl) rfl h (fun rv t11 q => ?_)
      obtain ⟨v12, rfl, h⟩ := q
      show Rt g (d + 1) mX4_readLine 53 [some (.ref 33), some (.int v2), some (.int z8)] [.int v12] t11 Q
      refine s_istore_n dX4_readLine_53 rfl (by decide) rfl (L9 := [some (.ref 33), some (.int v12), some (.int z8)]) rfl ?_
      exact h
theorem bX4_readLine_54 {g : Gt} {d : Nat} {t : Tt} {Q : Option Value → Tt → Prop} {x1 : Int32} {x2 : Int32} (h : isLw t.2.2.2 ∧ (Rt g d mX3_add 0 [some (.ref t.2.2.2), some (.int 2), some (.int 0)] [] t (QV (fun t2 => isLw t2.2.2.2 ∧ (Rt g d mX3_skipToHere 0 [some (.ref t2.2.2.2), some (.int x2)] [] t2 (QV (fun t4 => (x1 = 0 ∨ x1 = 1) ∧ Q (some (.int x1)) t4))))))) : Rt g (d + 1) mX4_readLine 54 [some (.ref 33), some (.int x1), some (.int x2)] [] t Q := by
  refine s_aload_n dX4_readLine_54 rfl rfl ?_
  obtain ⟨g1, h⟩ := h
  refine t_getR dX4_readLine_55 fl_X4_18 rfl (by decide) rfl rfl ?_
  refine s_iconst (v := 2) dX4_readLine_58 (by decide) ?_
  refine s_iconst (v := 0) dX4_readLine_59 (by decide) ?_
  refine t_callV (M' := mX3_add) (k := 0) (As := [.int 2, .int 0]) (rest := []) dX4_readLine_60 ml_X4_44 miX3_add msX3_add (isLw_k g1) (isLw_z g1) rfl rfl (Nat.le_of_ble_eq_true rfl) (Nat.le_of_ble_eq_true rfl) rfl h (fun rv t2 q => ?_)
  obtain ⟨rfl, h⟩ := q
  show Rt g (d + 1) mX4_readLine 63 [some (.ref 33), some (.int x1), some (.int x2)] [] t2 Q
  refine s_aload_n dX4_readLine_63 rfl rfl ?_
  obtain ⟨g3, h⟩ := h
  refine t_getR dX4_readLine_64 fl_X4_18 rfl (by decide) rfl rfl ?_
  refine s_iload_n dX4_readLine_67 rfl rfl ?_
  refine t_callV (M' := mX3_skipToHere) (k := 0) (As := [.int x2]) (rest := []) dX4_readLine_68 ml_X4_48 miX3_skipToHere msX3_skipToHere (isLw_k g3) (isLw_z g3) rfl rfl (Nat.le_of_ble_eq_true rfl) (Nat.le_of_ble_eq_true rfl) rfl h (fun rv t4 q => ?_)
  obtain ⟨rfl, h⟩ := q
  show Rt g (d + 1) mX4_readLine 71 [some (.ref 33), some (.int x1), some (.int x2)] [] t4 Q
  refine s_iload_n dX4_readLine_71 rfl rfl ?_
  exact t_iret dX4_readLine_72 (NR_z rfl h.1) h.2
theorem bX4_readAny_0 {g : Gt} {d : Nat} {t : Tt} {Q : Option Value → Tt → Prop} {p0 : Int32} (h : Rt g d mX4_readAll 0 [some (.ref 33), some (.int p0), none, none] [] t (QI (fun v2 t1 => Rt g (d + 1) mX4_readAny 8 [some (.ref 33), some (.int p0), some (.int v2), some (.int 0)] [] t1 Q))) : Rt g (d + 1) mX4_readAny 0 [some (.ref 33), some (.int p0), none, none] [] t Q := by
  refine s_aload_n dX4_readAny_0 rfl rfl ?_
  refine s_iload_n dX4_readAny_1 rfl rfl ?_
  refine t_callV (M' := mX4_readAll) (k := 2) (As := [.int p0]) (rest := []) dX4_readAny_2 ml_X4_52 miX4_readAll msX4_readAll rfl (by decide) rfl rfl (Nat.le_of_ble_eq_true rfl) (Nat.le_of_ble_eq_true rfl) rfl h (fun rv t1 q => ?_)
  obtain ⟨v2, rfl, h⟩ := q
  show Rt g (d + 1) mX4_readAny 5 [some (.ref 33), some (.int p0), none, none] [.int v2] t1 Q
  refine s_istore_n dX4_readAny_5 rfl (by decide) rfl (L9 := [some (.ref 33), some (.int p0), some (.int v2), none]) rfl ?_
  refine s_iconst (v := 0) dX4_readAny_6 (by decide) ?_
  refine s_istore_n dX4_readAny_7 rfl (by decide) rfl (L9 := [some (.ref 33), some (.int p0), some (.int v2), some (.int 0)]) rfl ?_
  exact h
theorem bX4_readAny_8 {g : Gt} {d : Nat} {t : Tt} {Q : Option Value → Tt → Prop} {x1 : Int32} {x2 : Int32} {x3 : Int32} (h : (120 ≤ x3 → (x2 = 0 ∨ x2 = 1) ∧ Q (some (.int x2)) t) ∧ (¬ 120 ≤ x3 → (x2 = 0 → (x2 = 0 ∨ x2 = 1) ∧ Q (some (.int x2)) t) ∧ (¬ x2 = 0 → Rt g d mX4_next 0 [some (.ref 33)] [] t (QI (fun v4 t3 => (¬ v4 = 124 → (x2 = 0 ∨ x2 = 1) ∧ Q (some (.int x2)) t3) ∧ (v4 = 124 → Rt g d mX4_readAll 0 [some (.ref 33), some (.int x1), none, none] [] (pI t3 33 3 ((t3.1 33 3) + 1)) (QI (fun v7 t6 => isLw t6.2.2.2 ∧ Rt g d mX3_add 0 [some (.ref t6.2.2.2), some (.int 124), some (.int 0)] [] t6 (QV (fun t9 => Rt g (d + 1) mX4_readAny 8 [some (.ref 33), some (.int x1), some (.int v7), some (.int (x3 + 1))] [] t9 Q)))))))))) : Rt g (d + 1) mX4_readAny 8 [some (.ref 33), some (.int x1), some (.int x2), some (.int x3)] [] t Q := by
  refine s_iload_n dX4_readAny_8 rfl rfl ?_
  refine s_bipush (v := 120) dX4_readAny_9 (by decide) ?_
  refine s_icmp_ge (tgt := 59) dX4_readAny_11 (by decide) (fun c1 => ?_) (fun c1 => ?_)
  · replace h := h.1 c1
    refine s_iload_n dX4_readAny_59 rfl rfl ?_
    exact t_iret dX4_readAny_60 (NR_z rfl h.1) h.2
  · replace h := h.2 c1
    refine s_iload_n dX4_readAny_14 rfl rfl ?_
    refine s_if_eq (tgt := 59) dX4_readAny_15 (by decide) (fun c2 => ?_) (fun c2 => ?_)
    · replace h := h.1 c2
      refine s_iload_n dX4_readAny_59 rfl rfl ?_
      exact t_iret dX4_readAny_60 (NR_z rfl h.1) h.2
    · replace h := h.2 c2
      refine s_aload_n dX4_readAny_18 rfl rfl ?_
      refine t_callV (M' := mX4_next) (k := 0) (As := []) (rest := []) dX4_readAny_19 ml_X4_36 miX4_next msX4_next rfl (by decide) rfl rfl (Nat.le_of_ble_eq_true rfl) (Nat.le_of_ble_eq_true rfl) rfl h (fun rv t3 q => ?_)
      obtain ⟨v4, rfl, h⟩ := q
      show Rt g (d + 1) mX4_readAny 22 [some (.ref 33), some (.int x1), some (.int x2), some (.int x3)] [.int v4] t3 Q
      refine s_bipush (v := 124) dX4_readAny_22 (by decide) ?_
      refine s_icmp_ne (tgt := 59) dX4_readAny_24 (by decide) (fun c5 => ?_) (fun c5 => ?_)
      · replace h := h.1 c5
        refine s_iload_n dX4_readAny_59 rfl rfl ?_
        exact t_iret dX4_readAny_60 (NR_z rfl h.1) h.2
      · replace h := h.2 c5
        refine s_aload_n dX4_readAny_27 rfl rfl ?_
        refine s_dup dX4_readAny_28 rfl ?_
        refine t_getI dX4_readAny_29 fl_X4_29 rfl (by decide) rfl ?_
        refine s_iconst (v := 1) dX4_readAny_32 (by decide) ?_
        refine s_iadd dX4_readAny_33 ?_
        refine t_putI dX4_readAny_34 fl_X4_29 rfl (by decide) rfl rfl rfl rfl ?_
        refine s_aload_n dX4_readAny_37 rfl rfl ?_
        refine s_iload_n dX4_readAny_38 rfl rfl ?_
        refine t_callV (M' := mX4_readAll) (k := 2) (As := [.int x1]) (rest := []) dX4_readAny_39 ml_X4_52 miX4_readAll msX4_readAll rfl (by decide) rfl rfl (Nat.le_of_ble_eq_true rfl) (Nat.le_of_ble_eq_true rfl) rfl h (fun rv t6 q => ?_)
        obtain ⟨v7, rfl, h⟩ := q
        show Rt g (d + 1) mX4_readAny 42 [some (.ref 33), some (.int x1), some (.int x2), some (.int x3)] [.int v7] t6 Q
        refine s_istore_n dX4_readAny_42 rfl (by decide) rfl (L9 := [some (.ref 33), some (.int x1), some (.int v7), some (.int x3)]) rfl ?_
        refine s_aload_n dX4_readAny_43 rfl rfl ?_
        obtain ⟨g8, h⟩ := h
        refine t_getR dX4_readAny_44 fl_X4_18 rfl (by decide) rfl rfl ?_
        refine s_bipush (v := 124) dX4_readAny_47 (by decide) ?_
        refine s_iconst (v := 0) dX4_readAny_49 (by decide) ?_
        refine t_callV (M' := mX3_add) (k := 0) (As := [.int 124, .int 0]) (rest := []) dX4_readAny_50 ml_X4_44 miX3_add msX3_add (isLw_k g8) (isLw_z g8) rfl rfl (Nat.le_of_ble_eq_true rfl) (Nat.le_of_ble_eq_true rfl) rfl h (fun rv t9 q => ?_)
        obtain ⟨rfl, h⟩ := q
        show Rt g (d + 1) mX4_readAny 53 [some (.ref 33), some (.int x1), some (.int v7), some (.int x3)] [] t9 Q
        refine s_iinc (w := x3 + 1) dX4_readAny_53 rfl (by rfl) (by decide) rfl (L9 := [some (.ref 33), some (.int x1), some (.int v7), some (.int (x3 + 1))]) rfl ?_
        refine s_goto (tgt := 8) dX4_readAny_56 (by decide) ?_
        exact h
theorem bX4_readAll_0 {g : Gt} {d : Nat} {t : Tt} {Q : Option Value → Tt → Prop} {p0 : Int32} (h : Rt g d mX4_readCompared 0 [some (.ref 33), some (.int p0), none, none] [] t (QI (fun v2 t1 => Rt g (d + 1) mX4_readAll 8 [some (.ref 33), some (.int p0), some (.int v2), some (.int 0)] [] t1 Q))) : Rt g (d + 1) mX4_readAll 0 [some (.ref 33), some (.int p0), none, none] [] t Q := by
  refine s_aload_n dX4_readAll_0 rfl rfl ?_
  refine s_iload_n dX4_readAll_1 rfl rfl ?_
  refine t_callV (M' := mX4_readCompared) (k := 2) (As := [.int p0]) (rest := []) dX4_readAll_2 ml_X4_55 miX4_readCompared msX4_readCompared rfl (by decide) rfl rfl (Nat.le_of_ble_eq_true rfl) (Nat.le_of_ble_eq_true rfl) rfl h (fun rv t1 q => ?_)
  obtain ⟨v2, rfl, h⟩ := q
  show Rt g (d + 1) mX4_readAll 5 [some (.ref 33), some (.int p0), none, none] [.int v2] t1 Q
  refine s_istore_n dX4_readAll_5 rfl (by decide) rfl (L9 := [some (.ref 33), some (.int p0), some (.int v2), none]) rfl ?_
  refine s_iconst (v := 0) dX4_readAll_6 (by decide) ?_
  refine s_istore_n dX4_readAll_7 rfl (by decide) rfl (L9 := [some (.ref 33), some (.int p0), some (.int v2), some (.int 0)]) rfl ?_
  exact h
theorem bX4_readAll_8 {g : Gt} {d : Nat} {t : Tt} {Q : Option Value → Tt → Prop} {x1 : Int32} {x2 : Int32} {x3 : Int32} (h : (120 ≤ x3 → (x2 = 0 ∨ x2 = 1) ∧ Q (some (.int x2)) t) ∧ (¬ 120 ≤ x3 → (x2 = 0 → (x2 = 0 ∨ x2 = 1) ∧ Q (some (.int x2)) t) ∧ (¬ x2 = 0 → Rt g d mX4_next 0 [some (.ref 33)] [] t (QI (fun v4 t3 => (¬ v4 = 38 → (x2 = 0 ∨ x2 = 1) ∧ Q (some (.int x2)) t3) ∧ (v4 = 38 → Rt g d mX4_readCompared 0 [some (.ref 33), some (.int x1), none, none] [] (pI t3 33 3 ((t3.1 33 3) + 1)) (QI (fun v7 t6 => isLw t6.2.2.2 ∧ Rt g d mX3_add 0 [some (.ref t6.2.2.2), some (.int 38), some (.int 0)] [] t6 (QV (fun t9 => Rt g (d + 1) mX4_readAll 8 [some (.ref 33), some (.int x1), some (.int v7), some (.int (x3 + 1))] [] t9 Q)))))))))) : Rt g (d + 1) mX4_readAll 8 [some (.ref 33), some (.int x1), some (.int x2), some (.int x3)] [] t Q := by
  refine s_iload_n dX4_readAll_8 rfl rfl ?_
  refine s_bipush (v := 120) dX4_readAll_9 (by decide) ?_
  refine s_icmp_ge (tgt := 59) dX4_readAll_11 (by decide) (fun c1 => ?_) (fun c1 => ?_)
  · replace h := h.1 c1
    refine s_iload_n dX4_readAll_59 rfl rfl ?_
    exact t_iret dX4_readAll_60 (NR_z rfl h.1) h.2
  · replace h := h.2 c1
    refine s_iload_n dX4_readAll_14 rfl rfl ?_
    refine s_if_eq (tgt := 59) dX4_readAll_15 (by decide) (fun c2 => ?_) (fun c2 => ?_)
    · replace h := h.1 c2
      refine s_iload_n dX4_readAll_59 rfl rfl ?_
      exact t_iret dX4_readAll_60 (NR_z rfl h.1) h.2
    · replace h := h.2 c2
      refine s_aload_n dX4_readAll_18 rfl rfl ?_
      refine t_callV (M' := mX4_next) (k := 0) (As := []) (rest := []) dX4_readAll_19 ml_X4_36 miX4_next msX4_next rfl (by decide) rfl rfl (Nat.le_of_ble_eq_true rfl) (Nat.le_of_ble_eq_true rfl) rfl h (fun rv t3 q => ?_)
      obtain ⟨v4, rfl, h⟩ := q
      show Rt g (d + 1) mX4_readAll 22 [some (.ref 33), some (.int x1), some (.int x2), some (.int x3)] [.int v4] t3 Q
      refine s_bipush (v := 38) dX4_readAll_22 (by decide) ?_
      refine s_icmp_ne (tgt := 59) dX4_readAll_24 (by decide) (fun c5 => ?_) (fun c5 => ?_)
      · replace h := h.1 c5
        refine s_iload_n dX4_readAll_59 rfl rfl ?_
        exact t_iret dX4_readAll_60 (NR_z rfl h.1) h.2
      · replace h := h.2 c5
        refine s_aload_n dX4_readAll_27 rfl rfl ?_
        refine s_dup dX4_readAll_28 rfl ?_
        refine t_getI dX4_readAll_29 fl_X4_29 rfl (by decide) rfl ?_
        refine s_iconst (v := 1) dX4_readAll_32 (by decide) ?_
        refine s_iadd dX4_readAll_33 ?_
        refine t_putI dX4_readAll_34 fl_X4_29 rfl (by decide) rfl rfl rfl rfl ?_
        refine s_aload_n dX4_readAll_37 rfl rfl ?_
        refine s_iload_n dX4_readAll_38 rfl rfl ?_
        refine t_callV (M' := mX4_readCompared) (k := 2) (As := [.int x1]) (rest := []) dX4_readAll_39 ml_X4_55 miX4_readCompared msX4_readCompared rfl (by decide) rfl rfl (Nat.le_of_ble_eq_true rfl) (Nat.le_of_ble_eq_true rfl) rfl h (fun rv t6 q => ?_)
        obtain ⟨v7, rfl, h⟩ := q
        show Rt g (d + 1) mX4_readAll 42 [some (.ref 33), some (.int x1), some (.int x2), some (.int x3)] [.int v7] t6 Q
        refine s_istore_n dX4_readAll_42 rfl (by decide) rfl (L9 := [some (.ref 33), some (.int x1), some (.int v7), some (.int x3)]) rfl ?_
        refine s_aload_n dX4_readAll_43 rfl rfl ?_
        obtain ⟨g8, h⟩ := h
        refine t_getR dX4_readAll_44 fl_X4_18 rfl (by decide) rfl rfl ?_
        refine s_bipush (v := 38) dX4_readAll_47 (by decide) ?_
        refine s_iconst (v := 0) dX4_readAll_49 (by decide) ?_
        refine t_callV (M' := mX3_add) (k := 0) (As := [.int 38, .int 0]) (rest := []) dX4_readAll_50 ml_X4_44 miX3_add msX3_add (isLw_k g8) (isLw_z g8) rfl rfl (Nat.le_of_ble_eq_true rfl) (Nat.le_of_ble_eq_true rfl) rfl h (fun rv t9 q => ?_)
        obtain ⟨rfl, h⟩ := q
        show Rt g (d + 1) mX4_readAll 53 [some (.ref 33), some (.int x1), some (.int v7), some (.int x3)] [] t9 Q
        refine s_iinc (w := x3 + 1) dX4_readAll_53 rfl (by rfl) (by decide) rfl (L9 := [some (.ref 33), some (.int x1), some (.int v7), some (.int (x3 + 1))]) rfl ?_
        refine s_goto (tgt := 8) dX4_readAll_56 (by decide) ?_
        exact h
theorem bX4_readCompared_0 {g : Gt} {d : Nat} {t : Tt} {Q : Option Value → Tt → Prop} {p0 : Int32} (h : Rt g d mX4_readSum 0 [some (.ref 33), some (.int p0), none, none, none] [] t (QI (fun v2 t1 => Rt g d mX4_next 0 [some (.ref 33)] [] t1 (QI (fun v4 t3 => (v2 = 0 → (v2 = 0 ∨ v2 = 1) ∧ Q (some (.int v2)) t3) ∧ (¬ v2 = 0 → (v4 = 60 → Rt g (d + 1) mX4_readCompared 33 [some (.ref 33), some (.int p0), none, some (.int v4)] [] t3 Q) ∧ (¬ v4 = 60 → (v4 = 61 → Rt g (d + 1) mX4_readCompared 33 [some (.ref 33), some (.int p0), none, some (.int v4)] [] t3 Q) ∧ (¬ v4 = 61 → (¬ v4 = 62 → (v2 = 0 ∨ v2 = 1) ∧ Q (some (.int v2)) t3) ∧ (v4 = 62 → Rt g (d + 1) mX4_readCompared 33 [some (.ref 33), some (.int p0), none, some (.int v4)] [] t3 Q))))))))) : Rt g (d + 1) mX4_readCompared 0 [some (.ref 33), some (.int p0), none, none] [] t Q := by
  refine s_aload_n dX4_readCompared_0 rfl rfl ?_
  refine s_iload_n dX4_readCompared_1 rfl rfl ?_
  refine t_callV (M' := mX4_readSum) (k := 3) (As := [.int p0]) (rest := []) dX4_readCompared_2 ml_X4_58 miX4_readSum msX4_readSum rfl (by decide) rfl rfl (Nat.le_of_ble_eq_true rfl) (Nat.le_of_ble_eq_true rfl) rfl h (fun rv t1 q => ?_)
  obtain ⟨v2, rfl, h⟩ := q
  show Rt g (d + 1) mX4_readCompared 5 [some (.ref 33), some (.int p0), none, none] [.int v2] t1 Q
  refine s_istore_n dX4_readCompared_5 rfl (by decide) rfl (L9 := [some (.ref 33), some (.int p0), some (.int v2), none]) rfl ?_
  refine s_aload_n dX4_readCompared_6 rfl rfl ?_
  refine t_callV (M' := mX4_next) (k := 0) (As := []) (rest := []) dX4_readCompared_7 ml_X4_36 miX4_next msX4_next rfl (by decide) rfl rfl (Nat.le_of_ble_eq_true rfl) (Nat.le_of_ble_eq_true rfl) rfl h (fun rv t3 q => ?_)
  obtain ⟨v4, rfl, h⟩ := q
  show Rt g (d + 1) mX4_readCompared 10 [some (.ref 33), some (.int p0), some (.int v2), none] [.int v4] t3 Q
  refine s_istore_n dX4_readCompared_10 rfl (by decide) rfl (L9 := [some (.ref 33), some (.int p0), some (.int v2), some (.int v4)]) rfl ?_
  refine s_iload_n dX4_readCompared_11 rfl rfl ?_
  refine s_if_eq (tgt := 58) dX4_readCompared_12 (by decide) (fun c5 => ?_) (fun c5 => ?_)
  · replace h := h.1 c5
    refine s_iload_n dX4_readCompared_58 rfl rfl ?_
    exact t_iret dX4_readCompared_59 (NR_z rfl h.1) h.2
  · replace h := h.2 c5
    refine s_iload_n dX4_readCompared_15 rfl rfl ?_
    refine s_bipush (v := 60) dX4_readCompared_16 (by decide) ?_
    refine s_icmp_eq (tgt := 33) dX4_readCompared_18 (by decide) (fun c6 => ?_) (fun c6 => ?_)
    · replace h := h.1 c6
      exact Rt.lc h (lc_some (lc_some (lc_none (lc_some lc_nil))))
    · replace h := h.2 c6
      refine s_iload_n dX4_readCompared_21 rfl rfl ?_
      refine s_bipush (v := 61) dX4_readCompared_22 (by decide) ?_
      refine s_icmp_eq (tgt := 33) dX4_readCompared_24 (by decide) (fun c7 => ?_) (fun c7 => ?_)
      · replace h := h.1 c7
        exact Rt.lc h (lc_some (lc_some (lc_none (lc_some lc_nil))))
      · replace h := h.2 c7
        refine s_iload_n dX4_readCompared_27 rfl rfl ?_
        refine s_bipush (v := 62) dX4_readCompared_28 (by decide) ?_
        refine s_icmp_ne (tgt := 58) dX4_readCompared_30 (by decide) (fun c8 => ?_) (fun c8 => ?_)
        · replace h := h.1 c8
          refine s_iload_n dX4_readCompared_58 rfl rfl ?_
          exact t_iret dX4_readCompared_59 (NR_z rfl h.1) h.2
        · replace h := h.2 c8
          exact Rt.lc h (lc_some (lc_some (lc_none (lc_some lc_nil))))
theorem bX4_readCompared_33 {g : Gt} {d : Nat} {t : Tt} {Q : Option Value → Tt → Prop} {x1 : Int32} {x3 : Int32} (h : Rt g d mX4_readSum 0 [some (.ref 33), some (.int x1), none, none, none] [] (pI t 33 3 ((t.1 33 3) + 1)) (QI (fun v2 t1 => isLw t1.2.2.2 ∧ (Rt g d mX3_add 0 [some (.ref t1.2.2.2), some (.int x3), some (.int 0)] [] t1 (QV (fun t4 => (v2 = 0 ∨ v2 = 1) ∧ Q (some (.int v2)) t4)))))) : Rt g (d + 1) mX4_readCompared 33 [some (.ref 33), some (.int x1), none, some (.int x3)] [] t Q := by
  refine s_aload_n dX4_readCompared_33 rfl rfl ?_
  refine s_dup dX4_readCompared_34 rfl ?_
  refine t_getI dX4_readCompared_35 fl_X4_29 rfl (by decide) rfl ?_
  refine s_iconst (v := 1) dX4_readCompared_38 (by decide) ?_
  refine s_iadd dX4_readCompared_39 ?_
  refine t_putI dX4_readCompared_40 fl_X4_29 rfl (by decide) rfl rfl rfl rfl ?_
  refine s_aload_n dX4_readCompared_43 rfl rfl ?_
  refine s_iload_n dX4_readCompared_44 rfl rfl ?_
  refine t_callV (M' := mX4_readSum) (k := 3) (As := [.int x1]) (rest := []) dX4_readCompared_45 ml_X4_58 miX4_readSum msX4_readSum rfl (by decide) rfl rfl (Nat.le_of_ble_eq_true rfl) (Nat.le_of_ble_eq_true rfl) rfl h (fun rv t1 q => ?_)
  obtain ⟨v2, rfl, h⟩ := q
  show Rt g (d + 1) mX4_readCompared 48 [some (.ref 33), some (.int x1), none, some (.int x3)] [.int v2] t1 Q
  refine s_istore_n dX4_readCompared_48 rfl (by decide) rfl (L9 := [some (.ref 33), some (.int x1), some (.int v2), some (.int x3)]) rfl ?_
  refine s_aload_n dX4_readCompared_49 rfl rfl ?_
  obtain ⟨g3, h⟩ := h
  refine t_getR dX4_readCompared_50 fl_X4_18 rfl (by decide) rfl rfl ?_
  refine s_iload_n dX4_readCompared_53 rfl rfl ?_
  refine s_iconst (v := 0) dX4_readCompared_54 (by decide) ?_
  refine t_callV (M' := mX3_add) (k := 0) (As := [.int x3, .int 0]) (rest := []) dX4_readCompared_55 ml_X4_44 miX3_add msX3_add (isLw_k g3) (isLw_z g3) rfl rfl (Nat.le_of_ble_eq_true rfl) (Nat.le_of_ble_eq_true rfl) rfl h (fun rv t4 q => ?_)
  obtain ⟨rfl, h⟩ := q
  show Rt g (d + 1) mX4_readCompared 58 [some (.ref 33), some (.int x1), some (.int v2), some (.int x3)] [] t4 Q
  refine s_iload_n dX4_readCompared_58 rfl rfl ?_
  exact t_iret dX4_readCompared_59 (NR_z rfl h.1) h.2
theorem bX4_readSum_0 {g : Gt} {d : Nat} {t : Tt} {Q : Option Value → Tt → Prop} {p0 : Int32} (h : Rt g d mX4_readProduct 0 [some (.ref 33), some (.int p0), none, none, none] [] t (QI (fun v2 t1 => Rt g d mX4_next 0 [some (.ref 33)] [] t1 (QI (fun v4 t3 => Rt g (d + 1) mX4_readSum 14 [some (.ref 33), some (.int p0), some (.int v2), some (.int v4), some (.int 0)] [] t3 Q))))) : Rt g (d + 1) mX4_readSum 0 [some (.ref 33), some (.int p0), none, none, none] [] t Q := by
  refine s_aload_n dX4_readSum_0 rfl rfl ?_
  refine s_iload_n dX4_readSum_1 rfl rfl ?_
  refine t_callV (M' := mX4_readProduct) (k := 3) (As := [.int p0]) (rest := []) dX4_readSum_2 ml_X4_61 miX4_readProduct msX4_readProduct rfl (by decide) rfl rfl (Nat.le_of_ble_eq_true rfl) (Nat.le_of_ble_eq_true rfl) rfl h (fun rv t1 q => ?_)
  obtain ⟨v2, rfl, h⟩ := q
  show Rt g (d + 1) mX4_readSum 5 [some (.ref 33), some (.int p0), none, none, none] [.int v2] t1 Q
  refine s_istore_n dX4_readSum_5 rfl (by decide) rfl (L9 := [some (.ref 33), some (.int p0), some (.int v2), none, none]) rfl ?_
  refine s_aload_n dX4_readSum_6 rfl rfl ?_
  refine t_callV (M' := mX4_next) (k := 0) (As := []) (rest := []) dX4_readSum_7 ml_X4_36 miX4_next msX4_next rfl (by decide) rfl rfl (Nat.le_of_ble_eq_true rfl) (Nat.le_of_ble_eq_true rfl) rfl h (fun rv t3 q => ?_)
  obtain ⟨v4, rfl, h⟩ := q
  show Rt g (d + 1) mX4_readSum 10 [some (.ref 33), some (.int p0), some (.int v2), none, none] [.int v4] t3 Q
  refine s_istore_n dX4_readSum_10 rfl (by decide) rfl (L9 := [some (.ref 33), some (.int p0), some (.int v2), some (.int v4), none]) rfl ?_
  refine s_iconst (v := 0) dX4_readSum_11 (by decide) ?_
  refine s_istore dX4_readSum_12 (by decide) rfl (L9 := [some (.ref 33), some (.int p0), some (.int v2), some (.int v4), some (.int 0)]) rfl ?_
  exact h
theorem bX4_readSum_14 {g : Gt} {d : Nat} {t : Tt} {Q : Option Value → Tt → Prop} {x1 : Int32} {x2 : Int32} {x3 : Int32} {x4 : Int32} (h : (120 ≤ x4 → (x2 = 0 ∨ x2 = 1) ∧ Q (some (.int x2)) t) ∧ (¬ 120 ≤ x4 → (x2 = 0 → (x2 = 0 ∨ x2 = 1) ∧ Q (some (.int x2)) t) ∧ (¬ x2 = 0 → (x3 = 43 → Rt g (d + 1) mX4_readSum 37 [some (.ref 33), some (.int x1), none, some (.int x3), some (.int x4)] [] t Q) ∧ (¬ x3 = 43 → (¬ x3 = 45 → (x2 = 0 ∨ x2 = 1) ∧ Q (some (.int x2)) t) ∧ (x3 = 45 → Rt g (d + 1) mX4_readSum 37 [some (.ref 33), some (.int x1), none, some (.int x3), some (.int x4)] [] t Q))))) : Rt g (d + 1) mX4_readSum 14 [some (.ref 33), some (.int x1), some (.int x2), some (.int x3), some (.int x4)] [] t Q := by
  refine s_iload dX4_readSum_14 rfl ?_
  refine s_bipush (v := 120) dX4_readSum_16 (by decide) ?_
  refine s_icmp_ge (tgt := 73) dX4_readSum_18 (by decide) (fun c1 => ?_) (fun c1 => ?_)
  · replace h := h.1 c1
    refine s_iload_n dX4_readSum_73 rfl rfl ?_
    exact t_iret dX4_readSum_74 (NR_z rfl h.1) h.2
  · replace h := h.2 c1
    refine s_iload_n dX4_readSum_21 rfl rfl ?_
    refine s_if_eq (tgt := 73) dX4_readSum_22 (by decide) (fun c2 => ?_) (fun c2 => ?_)
    · replace h := h.1 c2
      refine s_iload_n dX4_readSum_73 rfl rfl ?_
      exact t_iret dX4_readSum_74 (NR_z rfl h.1) h.2
    · replace h := h.2 c2
      refine s_iload_n dX4_readSum_25 rfl rfl ?_
      refine s_bipush (v := 43) dX4_readSum_26 (by decide) ?_
      refine s_icmp_eq (tgt := 37) dX4_readSum_28 (by decide) (fun c3 => ?_) (fun c3 => ?_)
      · replace h := h.1 c3
        exact Rt.lc h (lc_some (lc_some (lc_none (lc_some (lc_some lc_nil)))))
      · replace h := h.2 c3
        refine s_iload_n dX4_readSum_31 rfl rfl ?_
        refine s_bipush (v := 45) dX4_readSum_32 (by decide) ?_
        refine s_icmp_ne (tgt := 73) dX4_readSum_34 (by decide) (fun c4 => ?_) (fun c4 => ?_)
        · replace h := h.1 c4
          refine s_iload_n dX4_readSum_73 rfl rfl ?_
          exact t_iret dX4_readSum_74 (NR_z rfl h.1) h.2
        · replace h := h.2 c4
          exact Rt.lc h (lc_some (lc_some (lc_none (lc_some (lc_some lc_nil)))))
theorem bX4_readSum_37 {g : Gt} {d : Nat} {t : Tt} {Q : Option Value → Tt → Prop} {x1 : Int32} {x3 : Int32} {x4 : Int32} (h : Rt g d mX4_readProduct 0 [some (.ref 33), some (.int x1), none, none, none] [] (pI t 33 3 ((t.1 33 3) + 1)) (QI (fun v2 t1 => isLw t1.2.2.2 ∧ Rt g d mX3_add 0 [some (.ref t1.2.2.2), some (.int x3), some (.int 0)] [] t1 (QV (fun t4 => Rt g d mX4_next 0 [some (.ref 33)] [] t4 (QI (fun v6 t5 => Rt g (d + 1) mX4_readSum 14 [some (.ref 33), some (.int x1), some (.int v2), some (.int v6), some (.int (x4 + 1))] [] t5 Q))))))) : Rt g (d + 1) mX4_readSum 37 [some (.ref 33), some (.int x1), none, some (.int x3), some (.int x4)] [] t Q := by
  refine s_aload_n dX4_readSum_37 rfl rfl ?_
  refine s_dup dX4_readSum_38 rfl ?_
  refine t_getI dX4_readSum_39 fl_X4_29 rfl (by decide) rfl ?_
  refine s_iconst (v := 1) dX4_readSum_42 (by decide) ?_
  refine s_iadd dX4_readSum_43 ?_
  refine t_putI dX4_readSum_44 fl_X4_29 rfl (by decide) rfl rfl rfl rfl ?_
  refine s_aload_n dX4_readSum_47 rfl rfl ?_
  refine s_iload_n dX4_readSum_48 rfl rfl ?_
  refine t_callV (M' := mX4_readProduct) (k := 3) (As := [.int x1]) (rest := []) dX4_readSum_49 ml_X4_61 miX4_readProduct msX4_readProduct rfl (by decide) rfl rfl (Nat.le_of_ble_eq_true rfl) (Nat.le_of_ble_eq_true rfl) rfl h (fun rv t1 q => ?_)
  obtain ⟨v2, rfl, h⟩ := q
  show Rt g (d + 1) mX4_readSum 52 [some (.ref 33), some (.int x1), none, some (.int x3), some (.int x4)] [.int v2] t1 Q
  refine s_istore_n dX4_readSum_52 rfl (by decide) rfl (L9 := [some (.ref 33), some (.int x1), some (.int v2), some (.int x3), some (.int x4)]) rfl ?_
  refine s_aload_n dX4_readSum_53 rfl rfl ?_
  obtain ⟨g3, h⟩ := h
  refine t_getR dX4_readSum_54 fl_X4_18 rfl (by decide) rfl rfl ?_
  refine s_iload_n dX4_readSum_57 rfl rfl ?_
  refine s_iconst (v := 0) dX4_readSum_58 (by decide) ?_
  refine t_callV (M' := mX3_add) (k := 0) (As := [.int x3, .int 0]) (rest := []) dX4_readSum_59 ml_X4_44 miX3_add msX3_add (isLw_k g3) (isLw_z g3) rfl rfl (Nat.le_of_ble_eq_true rfl) (Nat.le_of_ble_eq_true rfl) rfl h (fun rv t4 q => ?_)
  obtain ⟨rfl, h⟩ := q
  show Rt g (d + 1) mX4_readSum 62 [some (.ref 33), some (.int x1), some (.int v2), some (.int x3), some (.int x4)] [] t4 Q
  refine s_aload_n dX4_readSum_62 rfl rfl ?_
  refine t_callV (M' := mX4_next) (k := 0) (As := []) (rest := []) dX4_readSum_63 ml_X4_36 miX4_next msX4_next rfl (by decide) rfl rfl (Nat.le_of_ble_eq_true rfl) (Nat.le_of_ble_eq_true rfl) rfl h (fun rv t5 q => ?_)
  obtain ⟨v6, rfl, h⟩ := q
  show Rt g (d + 1) mX4_readSum 66 [some (.ref 33), some (.int x1), some (.int v2), some (.int x3), some (.int x4)] [.int v6] t5 Q
  refine s_istore_n dX4_readSum_66 rfl (by decide) rfl (L9 := [some (.ref 33), some (.int x1), some (.int v2), some (.int v6), some (.int x4)]) rfl ?_
  refine s_iinc (w := x4 + 1) dX4_readSum_67 rfl (by rfl) (by decide) rfl (L9 := [some (.ref 33), some (.int x1), some (.int v2), some (.int v6), some (.int (x4 + 1))]) rfl ?_
  refine s_goto (tgt := 14) dX4_readSum_70 (by decide) ?_
  exact h
theorem bX4_readProduct_0 {g : Gt} {d : Nat} {t : Tt} {Q : Option Value → Tt → Prop} {p0 : Int32} (h : Rt g d mX4_readOperand 0 [some (.ref 33), some (.int p0), none, none] [] t (QI (fun v2 t1 => Rt g d mX4_next 0 [some (.ref 33)] [] t1 (QI (fun v4 t3 => Rt g (d + 1) mX4_readProduct 14 [some (.ref 33), some (.int p0), some (.int v2), some (.int v4), some (.int 0)] [] t3 Q))))) : Rt g (d + 1) mX4_readProduct 0 [some (.ref 33), some (.int p0), none, none, none] [] t Q := by
  refine s_aload_n dX4_readProduct_0 rfl rfl ?_
  refine s_iload_n dX4_readProduct_1 rfl rfl ?_
  refine t_callV (M' := mX4_readOperand) (k := 2) (As := [.int p0]) (rest := []) dX4_readProduct_2 ml_X4_64 miX4_readOperand msX4_readOperand rfl (by decide) rfl rfl (Nat.le_of_ble_eq_true rfl) (Nat.le_of_ble_eq_true rfl) rfl h (fun rv t1 q => ?_)
  obtain ⟨v2, rfl, h⟩ := q
  show Rt g (d + 1) mX4_readProduct 5 [some (.ref 33), some (.int p0), none, none, none] [.int v2] t1 Q
  refine s_istore_n dX4_readProduct_5 rfl (by decide) rfl (L9 := [some (.ref 33), some (.int p0), some (.int v2), none, none]) rfl ?_
  refine s_aload_n dX4_readProduct_6 rfl rfl ?_
  refine t_callV (M' := mX4_next) (k := 0) (As := []) (rest := []) dX4_readProduct_7 ml_X4_36 miX4_next msX4_next rfl (by decide) rfl rfl (Nat.le_of_ble_eq_true rfl) (Nat.le_of_ble_eq_true rfl) rfl h (fun rv t3 q => ?_)
  obtain ⟨v4, rfl, h⟩ := q
  show Rt g (d + 1) mX4_readProduct 10 [some (.ref 33), some (.int p0), some (.int v2), none, none] [.int v4] t3 Q
  refine s_istore_n dX4_readProduct_10 rfl (by decide) rfl (L9 := [some (.ref 33), some (.int p0), some (.int v2), some (.int v4), none]) rfl ?_
  refine s_iconst (v := 0) dX4_readProduct_11 (by decide) ?_
  refine s_istore dX4_readProduct_12 (by decide) rfl (L9 := [some (.ref 33), some (.int p0), some (.int v2), some (.int v4), some (.int 0)]) rfl ?_
  exact h
theorem bX4_readProduct_14 {g : Gt} {d : Nat} {t : Tt} {Q : Option Value → Tt → Prop} {x1 : Int32} {x2 : Int32} {x3 : Int32} {x4 : Int32} (h : (120 ≤ x4 → (x2 = 0 ∨ x2 = 1) ∧ Q (some (.int x2)) t) ∧ (¬ 120 ≤ x4 → (x2 = 0 → (x2 = 0 ∨ x2 = 1) ∧ Q (some (.int x2)) t) ∧ (¬ x2 = 0 → (x3 = 42 → Rt g (d + 1) mX4_readProduct 43 [some (.ref 33), some (.int x1), none, some (.int x3), some (.int x4)] [] t Q) ∧ (¬ x3 = 42 → (x3 = 47 → Rt g (d + 1) mX4_readProduct 43 [some (.ref 33), some (.int x1), none, some (.int x3), some (.int x4)] [] t Q) ∧ (¬ x3 = 47 → (¬ x3 = 37 → (x2 = 0 ∨ x2 = 1) ∧ Q (some (.int x2)) t) ∧ (x3 = 37 → Rt g (d + 1) mX4_readProduct 43 [some (.ref 33), some (.int x1), none, some (.int x3), some (.int x4)] [] t Q)))))) : Rt g (d + 1) mX4_readProduct 14 [some (.ref 33), some (.int x1), some (.int x2), some (.int x3), some (.int x4)] [] t Q := by
  refine s_iload dX4_readProduct_14 rfl ?_
  refine s_bipush (v := 120) dX4_readProduct_16 (by decide) ?_
  refine s_icmp_ge (tgt := 79) dX4_readProduct_18 (by decide) (fun c1 => ?_) (fun c1 => ?_)
  · replace h := h.1 c1
    refine s_iload_n dX4_readProduct_79 rfl rfl ?_
    exact t_iret dX4_readProduct_80 (NR_z rfl h.1) h.2
  · replace h := h.2 c1
    refine s_iload_n dX4_readProduct_21 rfl rfl ?_
    refine s_if_eq (tgt := 79) dX4_readProduct_22 (by decide) (fun c2 => ?_) (fun c2 => ?_)
    · replace h := h.1 c2
      refine s_iload_n dX4_readProduct_79 rfl rfl ?_
      exact t_iret dX4_readProduct_80 (NR_z rfl h.1) h.2
    · replace h := h.2 c2
      refine s_iload_n dX4_readProduct_25 rfl rfl ?_
      refine s_bipush (v := 42) dX4_readProduct_26 (by decide) ?_
      refine s_icmp_eq (tgt := 43) dX4_readProduct_28 (by decide) (fun c3 => ?_) (fun c3 => ?_)
      · replace h := h.1 c3
        exact Rt.lc h (lc_some (lc_some (lc_none (lc_some (lc_some lc_nil)))))
      · replace h := h.2 c3
        refine s_iload_n dX4_readProduct_31 rfl rfl ?_
        refine s_bipush (v := 47) dX4_readProduct_32 (by decide) ?_
        refine s_icmp_eq (tgt := 43) dX4_readProduct_34 (by decide) (fun c4 => ?_) (fun c4 => ?_)
        · replace h := h.1 c4
          exact Rt.lc h (lc_some (lc_some (lc_none (lc_some (lc_some lc_nil)))))
        · replace h := h.2 c4
          refine s_iload_n dX4_readProduct_37 rfl rfl ?_
          refine s_bipush (v := 37) dX4_readProduct_38 (by decide) ?_
          refine s_icmp_ne (tgt := 79) dX4_readProduct_40 (by decide) (fun c5 => ?_) (fun c5 => ?_)
          · replace h := h.1 c5
            refine s_iload_n dX4_readProduct_79 rfl rfl ?_
            exact t_iret dX4_readProduct_80 (NR_z rfl h.1) h.2
          · replace h := h.2 c5
            exact Rt.lc h (lc_some (lc_some (lc_none (lc_some (lc_some lc_nil)))))
theorem bX4_readProduct_43 {g : Gt} {d : Nat} {t : Tt} {Q : Option Value → Tt → Prop} {x1 : Int32} {x3 : Int32} {x4 : Int32} (h : Rt g d mX4_readOperand 0 [some (.ref 33), some (.int x1), none, none] [] (pI t 33 3 ((t.1 33 3) + 1)) (QI (fun v2 t1 => isLw t1.2.2.2 ∧ Rt g d mX3_add 0 [some (.ref t1.2.2.2), some (.int x3), some (.int 0)] [] t1 (QV (fun t4 => Rt g d mX4_next 0 [some (.ref 33)] [] t4 (QI (fun v6 t5 => Rt g (d + 1) mX4_readProduct 14 [some (.ref 33), some (.int x1), some (.int v2), some (.int v6), some (.int (x4 + 1))] [] t5 Q))))))) : Rt g (d + 1) mX4_readProduct 43 [some (.ref 33), some (.int x1), none, some (.int x3), some (.int x4)] [] t Q := by
  refine s_aload_n dX4_readProduct_43 rfl rfl ?_
  refine s_dup dX4_readProduct_44 rfl ?_
  refine t_getI dX4_readProduct_45 fl_X4_29 rfl (by decide) rfl ?_
  refine s_iconst (v := 1) dX4_readProduct_48 (by decide) ?_
  refine s_iadd dX4_readProduct_49 ?_
  refine t_putI dX4_readProduct_50 fl_X4_29 rfl (by decide) rfl rfl rfl rfl ?_
  refine s_aload_n dX4_readProduct_53 rfl rfl ?_
  refine s_iload_n dX4_readProduct_54 rfl rfl ?_
  refine t_callV (M' := mX4_readOperand) (k := 2) (As := [.int x1]) (rest := []) dX4_readProduct_55 ml_X4_64 miX4_readOperand msX4_readOperand rfl (by decide) rfl rfl (Nat.le_of_ble_eq_true rfl) (Nat.le_of_ble_eq_true rfl) rfl h (fun rv t1 q => ?_)
  obtain ⟨v2, rfl, h⟩ := q
  show Rt g (d + 1) mX4_readProduct 58 [some (.ref 33), some (.int x1), none, some (.int x3), some (.int x4)] [.int v2] t1 Q
  refine s_istore_n dX4_readProduct_58 rfl (by decide) rfl (L9 := [some (.ref 33), some (.int x1), some (.int v2), some (.int x3), some (.int x4)]) rfl ?_
  refine s_aload_n dX4_readProduct_59 rfl rfl ?_
  obtain ⟨g3, h⟩ := h
  refine t_getR dX4_readProduct_60 fl_X4_18 rfl (by decide) rfl rfl ?_
  refine s_iload_n dX4_readProduct_63 rfl rfl ?_
  refine s_iconst (v := 0) dX4_readProduct_64 (by decide) ?_
  refine t_callV (M' := mX3_add) (k := 0) (As := [.int x3, .int 0]) (rest := []) dX4_readProduct_65 ml_X4_44 miX3_add msX3_add (isLw_k g3) (isLw_z g3) rfl rfl (Nat.le_of_ble_eq_true rfl) (Nat.le_of_ble_eq_true rfl) rfl h (fun rv t4 q => ?_)
  obtain ⟨rfl, h⟩ := q
  show Rt g (d + 1) mX4_readProduct 68 [some (.ref 33), some (.int x1), some (.int v2), some (.int x3), some (.int x4)] [] t4 Q
  refine s_aload_n dX4_readProduct_68 rfl rfl ?_
  refine t_callV (M' := mX4_next) (k := 0) (As := []) (rest := []) dX4_readProduct_69 ml_X4_36 miX4_next msX4_next rfl (by decide) rfl rfl (Nat.le_of_ble_eq_true rfl) (Nat.le_of_ble_eq_true rfl) rfl h (fun rv t5 q => ?_)
  obtain ⟨v6, rfl, h⟩ := q
  show Rt g (d + 1) mX4_readProduct 72 [some (.ref 33), some (.int x1), some (.int v2), some (.int x3), some (.int x4)] [.int v6] t5 Q
  refine s_istore_n dX4_readProduct_72 rfl (by decide) rfl (L9 := [some (.ref 33), some (.int x1), some (.int v2), some (.int v6), some (.int x4)]) rfl ?_
  refine s_iinc (w := x4 + 1) dX4_readProduct_73 rfl (by rfl) (by decide) rfl (L9 := [some (.ref 33), some (.int x1), some (.int v2), some (.int v6), some (.int (x4 + 1))]) rfl ?_
  refine s_goto (tgt := 14) dX4_readProduct_76 (by decide) ?_
  exact h
theorem bX4_readOperand_0 {g : Gt} {d : Nat} {t : Tt} {Q : Option Value → Tt → Prop} {p0 : Int32} (h : Rt g d mX4_next 0 [some (.ref 33)] [] t (QI (fun v2 t1 => Rt g d mX4_isDigit 0 [some (.int v2)] [] t1 (QI (fun v4 t3 => (v4 = 0 → (0 ≤ v2 → Rt g d mJ0_indexOf_0f7a4 0 [some (.ref 1003), some (.int ((v2.toUInt32 % 65536).toInt32))] [] t3 (QI (fun v8 t7 => Rt g (d + 1) mX4_readOperand 33 [some (.ref 33), some (.int p0), some (.int v2), none] [.int v8] t7 Q))) ∧ (¬ 0 ≤ v2 → Rt g (d + 1) mX4_readOperand 33 [some (.ref 33), some (.int p0), some (.int v2), none] [.int (-1)] t3 Q)) ∧ (¬ v4 = 0 → Rt g d mX4_readNumber 0 [some (.ref 33), none, none] [] t3 (QV (fun t9 => Q (some (.int 1)) t9)))))))) : Rt g (d + 1) mX4_readOperand 0 [some (.ref 33), some (.int p0), none, none] [] t Q := by
  refine s_aload_n dX4_readOperand_0 rfl rfl ?_
  refine t_callV (M' := mX4_next) (k := 0) (As := []) (rest := []) dX4_readOperand_1 ml_X4_36 miX4_next msX4_next rfl (by decide) rfl rfl (Nat.le_of_ble_eq_true rfl) (Nat.le_of_ble_eq_true rfl) rfl h (fun rv t1 q => ?_)
  obtain ⟨v2, rfl, h⟩ := q
  show Rt g (d + 1) mX4_readOperand 4 [some (.ref 33), some (.int p0), none, none] [.int v2] t1 Q
  refine s_istore_n dX4_readOperand_4 rfl (by decide) rfl (L9 := [some (.ref 33), some (.int p0), some (.int v2), none]) rfl ?_
  refine s_iload_n dX4_readOperand_5 rfl rfl ?_
  refine t_callS (M' := mX4_isDigit) (k := 0) (As := [.int v2]) (rest := []) dX4_readOperand_6 ml_X4_67 mstX4_isDigit rfl (Nat.le_of_ble_eq_true rfl) (Nat.le_of_ble_eq_true rfl) rfl h (fun rv t3 q => ?_)
  obtain ⟨v4, rfl, h⟩ := q
  show Rt g (d + 1) mX4_readOperand 9 [some (.ref 33), some (.int p0), some (.int v2), none] [.int v4] t3 Q
  refine s_if_eq (tgt := 18) dX4_readOperand_9 (by decide) (fun c5 => ?_) (fun c5 => ?_)
  · replace h := h.1 c5
    refine s_iload_n dX4_readOperand_18 rfl rfl ?_
    refine s_if_ge (tgt := 26) dX4_readOperand_19 (by decide) (fun c6 => ?_) (fun c6 => ?_)
    · replace h := h.1 c6
      refine s_ldcS dX4_readOperand_26 rfl ?_
      refine s_iload_n dX4_readOperand_28 rfl rfl ?_
      refine s_i2c dX4_readOperand_29 ?_
      refine t_callStr (M' := mJ0_indexOf_0f7a4) (k := 0) (As := [.int ((v2.toUInt32 % 65536).toInt32)]) (rest := []) dX4_readOperand_30 ml_X4_75 miJ0_indexOf_0f7a4 msJ0_indexOf_0f7a4 rfl rfl (Nat.le_of_ble_eq_true rfl) (Nat.le_of_ble_eq_true rfl) rfl h (fun rv t7 q => ?_)
      obtain ⟨v8, rfl, h⟩ := q
      show Rt g (d + 1) mX4_readOperand 33 [some (.ref 33), some (.int p0), some (.int v2), none] [.int v8] t7 Q
      exact h
    · replace h := h.2 c6
      refine s_iconst (v := (-1)) dX4_readOperand_22 (by decide) ?_
      refine s_goto (tgt := 33) dX4_readOperand_23 (by decide) ?_
      exact h
  · replace h := h.2 c5
    refine s_aload_n dX4_readOperand_12 rfl rfl ?_
    refine t_callV (M' := mX4_readNumber) (k := 2) (As := []) (rest := []) dX4_readOperand_13 ml_X4_70 miX4_readNumber msX4_readNumber rfl (by decide) rfl rfl (Nat.le_of_ble_eq_true rfl) (Nat.le_of_ble_eq_true rfl) rfl h (fun rv t9 q => ?_)
    obtain ⟨rfl, h⟩ := q
    show Rt g (d + 1) mX4_readOperand 16 [some (.ref 33), some (.int p0), some (.int v2), none] [] t9 Q
    refine s_iconst (v := 1) dX4_readOperand_16 (by decide) ?_
    exact t_iret dX4_readOperand_17 (NR_z rfl (Or.inr rfl)) h
theorem bX4_readOperand_33 {g : Gt} {d : Nat} {t : Tt} {Q : Option Value → Tt → Prop} {x1 : Int32} {x2 : Int32} {s0 : Int32} (h : (s0 < 0 → (6 ≤ x1 → Q (some (.int 0)) t) ∧ (¬ 6 ≤ x1 → Rt g d mX4_readOpened 0 [some (.ref 33), some (.int x2), some (.int (x1 + 1)), none] [] t (QI (fun v4 t3 => (v4 = 0 → Q (some (.int 0)) t3) ∧ (¬ v4 = 0 → Q (some (.int 1)) t3))))) ∧ (¬ s0 < 0 → isLw t.2.2.2 ∧ Rt g d mX3_add 0 [some (.ref t.2.2.2), some (.int 1), some (.int s0)] [] (pI t 33 3 ((t.1 33 3) + 1)) (QV (fun t7 => Q (some (.int 1)) t7)))) : Rt g (d + 1) mX4_readOperand 33 [some (.ref 33), some (.int x1), some (.int x2), none] [.int s0] t Q := by
  refine s_istore_n dX4_readOperand_33 rfl (by decide) rfl (L9 := [some (.ref 33), some (.int x1), some (.int x2), some (.int s0)]) rfl ?_
  refine s_iload_n dX4_readOperand_34 rfl rfl ?_
  refine s_if_lt (tgt := 59) dX4_readOperand_35 (by decide) (fun c1 => ?_) (fun c1 => ?_)
  · replace h := h.1 c1
    refine s_iload_n dX4_readOperand_59 rfl rfl ?_
    refine s_bipush (v := 6) dX4_readOperand_60 (by decide) ?_
    refine s_icmp_ge (tgt := 80) dX4_readOperand_62 (by decide) (fun c2 => ?_) (fun c2 => ?_)
    · replace h := h.1 c2
      refine s_iconst (v := 0) dX4_readOperand_80 (by decide) ?_
      exact t_iret dX4_readOperand_81 (NR_z rfl (Or.inl rfl)) h
    · replace h := h.2 c2
      refine s_aload_n dX4_readOperand_65 rfl rfl ?_
      refine s_iload_n dX4_readOperand_66 rfl rfl ?_
      refine s_iload_n dX4_readOperand_67 rfl rfl ?_
      refine s_iconst (v := 1) dX4_readOperand_68 (by decide) ?_
      refine s_iadd dX4_readOperand_69 ?_
      refine t_callV (M' := mX4_readOpened) (k := 1) (As := [.int x2, .int (x1 + 1)]) (rest := []) dX4_readOperand_70 ml_X4_81 miX4_readOpened msX4_readOpened rfl (by decide) rfl rfl (Nat.le_of_ble_eq_true rfl) (Nat.le_of_ble_eq_true rfl) rfl h (fun rv t3 q => ?_)
      obtain ⟨v4, rfl, h⟩ := q
      show Rt g (d + 1) mX4_readOperand 73 [some (.ref 33), some (.int x1), some (.int x2), some (.int s0)] [.int v4] t3 Q
      refine s_if_eq (tgt := 80) dX4_readOperand_73 (by decide) (fun c5 => ?_) (fun c5 => ?_)
      · replace h := h.1 c5
        refine s_iconst (v := 0) dX4_readOperand_80 (by decide) ?_
        exact t_iret dX4_readOperand_81 (NR_z rfl (Or.inl rfl)) h
      · replace h := h.2 c5
        refine s_iconst (v := 1) dX4_readOperand_76 (by decide) ?_
        refine s_goto (tgt := 81) dX4_readOperand_77 (by decide) ?_
        exact t_iret dX4_readOperand_81 (NR_z rfl (Or.inr rfl)) h
  · replace h := h.2 c1
    refine s_aload_n dX4_readOperand_38 rfl rfl ?_
    refine s_dup dX4_readOperand_39 rfl ?_
    refine t_getI dX4_readOperand_40 fl_X4_29 rfl (by decide) rfl ?_
    refine s_iconst (v := 1) dX4_readOperand_43 (by decide) ?_
    refine s_iadd dX4_readOperand_44 ?_
    refine t_putI dX4_readOperand_45 fl_X4_29 rfl (by decide) rfl rfl rfl rfl ?_
    refine s_aload_n dX4_readOperand_48 rfl rfl ?_
    obtain ⟨g6, h⟩ := h
    refine t_getR dX4_readOperand_49 fl_X4_18 rfl (by decide) rfl rfl ?_
    refine s_iconst (v := 1) dX4_readOperand_52 (by decide) ?_
    refine s_iload_n dX4_readOperand_53 rfl rfl ?_
    refine t_callV (M' := mX3_add) (k := 0) (As := [.int 1, .int s0]) (rest := []) dX4_readOperand_54 ml_X4_44 miX3_add msX3_add (isLw_k g6) (isLw_z g6) rfl rfl (Nat.le_of_ble_eq_true rfl) (Nat.le_of_ble_eq_true rfl) rfl h (fun rv t7 q => ?_)
    obtain ⟨rfl, h⟩ := q
    show Rt g (d + 1) mX4_readOperand 57 [some (.ref 33), some (.int x1), some (.int x2), some (.int s0)] [] t7 Q
    refine s_iconst (v := 1) dX4_readOperand_57 (by decide) ?_
    exact t_iret dX4_readOperand_58 (NR_z rfl (Or.inr rfl)) h
theorem bX4_readOpened_0 {g : Gt} {d : Nat} {t : Tt} {Q : Option Value → Tt → Prop} {p0 : Int32} {p1 : Int32} (h : (¬ p0 = 40 → (p0 = 33 → Rt g (d + 1) mX4_readOpened 59 [some (.ref 33), some (.int p0), some (.int p1), none] [] t Q) ∧ (¬ p0 = 33 → (¬ p0 = 45 → Q (some (.int 0)) t) ∧ (p0 = 45 → Rt g (d + 1) mX4_readOpened 59 [some (.ref 33), some (.int p0), some (.int p1), none] [] t Q))) ∧ (p0 = 40 → Rt g d mX4_readAny 0 [some (.ref 33), some (.int p1), none, none] [] (pI t 33 3 ((t.1 33 3) + 1)) (QI (fun v5 t4 => (v5 = 0 → Q (some (.int 0)) t4) ∧ (¬ v5 = 0 → Rt g d mX4_next 0 [some (.ref 33)] [] t4 (QI (fun v8 t7 => (v8 = 41 → Q (some (.int 1)) (pI t7 33 3 ((t7.1 33 3) + 1))) ∧ (¬ v8 = 41 → Q (some (.int 0)) t7)))))))) : Rt g (d + 1) mX4_readOpened 0 [some (.ref 33), some (.int p0), some (.int p1), none] [] t Q := by
  refine s_iload_n dX4_readOpened_0 rfl rfl ?_
  refine s_bipush (v := 40) dX4_readOpened_1 (by decide) ?_
  refine s_icmp_ne (tgt := 47) dX4_readOpened_3 (by decide) (fun c1 => ?_) (fun c1 => ?_)
  · replace h := h.1 c1
    refine s_iload_n dX4_readOpened_47 rfl rfl ?_
    refine s_bipush (v := 33) dX4_readOpened_48 (by decide) ?_
    refine s_icmp_eq (tgt := 59) dX4_readOpened_50 (by decide) (fun c2 => ?_) (fun c2 => ?_)
    · replace h := h.1 c2
      exact h
    · replace h := h.2 c2
      refine s_iload_n dX4_readOpened_53 rfl rfl ?_
      refine s_bipush (v := 45) dX4_readOpened_54 (by decide) ?_
      refine s_icmp_ne (tgt := 87) dX4_readOpened_56 (by decide) (fun c3 => ?_) (fun c3 => ?_)
      · replace h := h.1 c3
        refine s_iconst (v := 0) dX4_readOpened_87 (by decide) ?_
        exact t_iret dX4_readOpened_88 (NR_z rfl (Or.inl rfl)) h
      · replace h := h.2 c3
        exact h
  · replace h := h.2 c1
    refine s_aload_n dX4_readOpened_6 rfl rfl ?_
    refine s_dup dX4_readOpened_7 rfl ?_
    refine t_getI dX4_readOpened_8 fl_X4_29 rfl (by decide) rfl ?_
    refine s_iconst (v := 1) dX4_readOpened_11 (by decide) ?_
    refine s_iadd dX4_readOpened_12 ?_
    refine t_putI dX4_readOpened_13 fl_X4_29 rfl (by decide) rfl rfl rfl rfl ?_
    refine s_aload_n dX4_readOpened_16 rfl rfl ?_
    refine s_iload_n dX4_readOpened_17 rfl rfl ?_
    refine t_callV (M' := mX4_readAny) (k := 2) (As := [.int p1]) (rest := []) dX4_readOpened_18 ml_X4_40 miX4_readAny msX4_readAny rfl (by decide) rfl rfl (Nat.le_of_ble_eq_true rfl) (Nat.le_of_ble_eq_true rfl) rfl h (fun rv t4 q => ?_)
    obtain ⟨v5, rfl, h⟩ := q
    show Rt g (d + 1) mX4_readOpened 21 [some (.ref 33), some (.int p0), some (.int p1), none] [.int v5] t4 Q
    refine s_if_eq (tgt := 33) dX4_readOpened_21 (by decide) (fun c6 => ?_) (fun c6 => ?_)
    · replace h := h.1 c6
      refine s_iconst (v := 0) dX4_readOpened_33 (by decide) ?_
      exact t_iret dX4_readOpened_34 (NR_z rfl (Or.inl rfl)) h
    · replace h := h.2 c6
      refine s_aload_n dX4_readOpened_24 rfl rfl ?_
      refine t_callV (M' := mX4_next) (k := 0) (As := []) (rest := []) dX4_readOpened_25 ml_X4_36 miX4_next msX4_next rfl (by decide) rfl rfl (Nat.le_of_ble_eq_true rfl) (Nat.le_of_ble_eq_true rfl) rfl h (fun rv t7 q => ?_)
      obtain ⟨v8, rfl, h⟩ := q
      show Rt g (d + 1) mX4_readOpened 28 [some (.ref 33), some (.int p0), some (.int p1), none] [.int v8] t7 Q
      refine s_bipush (v := 41) dX4_readOpened_28 (by decide) ?_
      refine s_icmp_eq (tgt := 35) dX4_readOpened_30 (by decide) (fun c9 => ?_) (fun c9 => ?_)
      · replace h := h.1 c9
        refine s_aload_n dX4_readOpened_35 rfl rfl ?_
        refine s_dup dX4_readOpened_36 rfl ?_
        refine t_getI dX4_readOpened_37 fl_X4_29 rfl (by decide) rfl ?_
        refine s_iconst (v := 1) dX4_readOpened_40 (by decide) ?_
        refine s_iadd dX4_readOpened_41 ?_
        refine t_putI dX4_readOpened_42 fl_X4_29 rfl (by decide) rfl rfl rfl rfl ?_
        refine s_iconst (v := 1) dX4_readOpened_45 (by decide) ?_
        exact t_iret dX4_readOpened_46 (NR_z rfl (Or.inr rfl)) h
      · replace h := h.2 c9
        refine s_iconst (v := 0) dX4_readOpened_33 (by decide) ?_
        exact t_iret dX4_readOpened_34 (NR_z rfl (Or.inl rfl)) h
theorem bX4_readOpened_59 {g : Gt} {d : Nat} {t : Tt} {Q : Option Value → Tt → Prop} {x1 : Int32} {x2 : Int32} (h : Rt g d mX4_readOperand 0 [some (.ref 33), some (.int x2), none, none] [] (pI t 33 3 ((t.1 33 3) + 1)) (QI (fun v2 t1 => isLw t1.2.2.2 ∧ (Rt g d mX3_add 0 [some (.ref t1.2.2.2), some (.int (-x1)), some (.int 0)] [] t1 (QV (fun t4 => (v2 = 0 ∨ v2 = 1) ∧ Q (some (.int v2)) t4)))))) : Rt g (d + 1) mX4_readOpened 59 [some (.ref 33), some (.int x1), some (.int x2), none] [] t Q := by
  refine s_aload_n dX4_readOpened_59 rfl rfl ?_
  refine s_dup dX4_readOpened_60 rfl ?_
  refine t_getI dX4_readOpened_61 fl_X4_29 rfl (by decide) rfl ?_
  refine s_iconst (v := 1) dX4_readOpened_64 (by decide) ?_
  refine s_iadd dX4_readOpened_65 ?_
  refine t_putI dX4_readOpened_66 fl_X4_29 rfl (by decide) rfl rfl rfl rfl ?_
  refine s_aload_n dX4_readOpened_69 rfl rfl ?_
  refine s_iload_n dX4_readOpened_70 rfl rfl ?_
  refine t_callV (M' := mX4_readOperand) (k := 2) (As := [.int x2]) (rest := []) dX4_readOpened_71 ml_X4_64 miX4_readOperand msX4_readOperand rfl (by decide) rfl rfl (Nat.le_of_ble_eq_true rfl) (Nat.le_of_ble_eq_true rfl) rfl h (fun rv t1 q => ?_)
  obtain ⟨v2, rfl, h⟩ := q
  show Rt g (d + 1) mX4_readOpened 74 [some (.ref 33), some (.int x1), some (.int x2), none] [.int v2] t1 Q
  refine s_istore_n dX4_readOpened_74 rfl (by decide) rfl (L9 := [some (.ref 33), some (.int x1), some (.int x2), some (.int v2)]) rfl ?_
  refine s_aload_n dX4_readOpened_75 rfl rfl ?_
  obtain ⟨g3, h⟩ := h
  refine t_getR dX4_readOpened_76 fl_X4_18 rfl (by decide) rfl rfl ?_
  refine s_iload_n dX4_readOpened_79 rfl rfl ?_
  refine s_ineg dX4_readOpened_80 ?_
  refine s_iconst (v := 0) dX4_readOpened_81 (by decide) ?_
  refine t_callV (M' := mX3_add) (k := 0) (As := [.int (-x1), .int 0]) (rest := []) dX4_readOpened_82 ml_X4_44 miX3_add msX3_add (isLw_k g3) (isLw_z g3) rfl rfl (Nat.le_of_ble_eq_true rfl) (Nat.le_of_ble_eq_true rfl) rfl h (fun rv t4 q => ?_)
  obtain ⟨rfl, h⟩ := q
  show Rt g (d + 1) mX4_readOpened 85 [some (.ref 33), some (.int x1), some (.int x2), some (.int v2)] [] t4 Q
  refine s_iload_n dX4_readOpened_85 rfl rfl ?_
  exact t_iret dX4_readOpened_86 (NR_z rfl h.1) h.2
theorem bX4_readNumber_0 {g : Gt} {d : Nat} {t : Tt} {Q : Option Value → Tt → Prop} (h : Rt g (d + 1) mX4_readNumber 4 [some (.ref 33), some (.int 0), some (.int 0)] [] t Q) : Rt g (d + 1) mX4_readNumber 0 [some (.ref 33), none, none] [] t Q := by
  refine s_iconst (v := 0) dX4_readNumber_0 (by decide) ?_
  refine s_istore_n dX4_readNumber_1 rfl (by decide) rfl (L9 := [some (.ref 33), some (.int 0), none]) rfl ?_
  refine s_iconst (v := 0) dX4_readNumber_2 (by decide) ?_
  refine s_istore_n dX4_readNumber_3 rfl (by decide) rfl (L9 := [some (.ref 33), some (.int 0), some (.int 0)]) rfl ?_
  exact h
theorem bX4_readNumber_4 {g : Gt} {d : Nat} {t : Tt} {Q : Option Value → Tt → Prop} {x1 : Int32} {x2 : Int32} (h : (4 ≤ x2 → Rt g (d + 1) mX4_readNumber 48 [some (.ref 33), some (.int x1), none] [] t Q) ∧ (¬ 4 ≤ x2 → Rt g d mX4_next 0 [some (.ref 33)] [] t (QI (fun v3 t2 => Rt g d mX4_isDigit 0 [some (.int v3)] [] t2 (QI (fun v5 t4 => (v5 = 0 → Rt g (d + 1) mX4_readNumber 48 [some (.ref 33), some (.int x1), none] [] t4 Q) ∧ (¬ v5 = 0 → Rt g d mX4_next 0 [some (.ref 33)] [] t4 (QI (fun v8 t7 => ∀ z9 : Int32, z9 = (((x1 * 10) + v8) - 48) → Rt g (d + 1) mX4_readNumber 4 [some (.ref 33), some (.int z9), some (.int (x2 + 1))] [] (pI t7 33 3 ((t7.1 33 3) + 1)) Q))))))))) : Rt g (d + 1) mX4_readNumber 4 [some (.ref 33), some (.int x1), some (.int x2)] [] t Q := by
  refine s_iload_n dX4_readNumber_4 rfl rfl ?_
  refine s_iconst (v := 4) dX4_readNumber_5 (by decide) ?_
  refine s_icmp_ge (tgt := 48) dX4_readNumber_6 (by decide) (fun c1 => ?_) (fun c1 => ?_)
  · replace h := h.1 c1
    exact Rt.lc h (lc_some (lc_some (lc_none lc_nil)))
  · replace h := h.2 c1
    refine s_aload_n dX4_readNumber_9 rfl rfl ?_
    refine t_callV (M' := mX4_next) (k := 0) (As := []) (rest := []) dX4_readNumber_10 ml_X4_36 miX4_next msX4_next rfl (by decide) rfl rfl (Nat.le_of_ble_eq_true rfl) (Nat.le_of_ble_eq_true rfl) rfl h (fun rv t2 q => ?_)
    obtain ⟨v3, rfl, h⟩ := q
    show Rt g (d + 1) mX4_readNumber 13 [some (.ref 33), some (.int x1), some (.int x2)] [.int v3] t2 Q
    refine t_callS (M' := mX4_isDigit) (k := 0) (As := [.int v3]) (rest := []) dX4_readNumber_13 ml_X4_67 mstX4_isDigit rfl (Nat.le_of_ble_eq_true rfl) (Nat.le_of_ble_eq_true rfl) rfl h (fun rv t4 q => ?_)
    obtain ⟨v5, rfl, h⟩ := q
    show Rt g (d + 1) mX4_readNumber 16 [some (.ref 33), some (.int x1), some (.int x2)] [.int v5] t4 Q
    refine s_if_eq (tgt := 48) dX4_readNumber_16 (by decide) (fun c6 => ?_) (fun c6 => ?_)
    · replace h := h.1 c6
      exact Rt.lc h (lc_some (lc_some (lc_none lc_nil)))
    · replace h := h.2 c6
      refine s_iload_n dX4_readNumber_19 rfl rfl ?_
      refine s_bipush (v := 10) dX4_readNumber_20 (by decide) ?_
      refine s_imul dX4_readNumber_22 ?_
      refine s_aload_n dX4_readNumber_23 rfl rfl ?_
      refine t_callV (M' := mX4_next) (k := 0) (As := []) (rest := [.int (x1 * 10)]) dX4_readNumber_24 ml_X4_36 miX4_next msX4_next rfl (by decide) rfl rfl (Nat.le_of_ble_eq_true rfl) (Nat.le_of_ble_eq_true rfl) rfl h (fun rv t7 q => ?_)
      obtain ⟨v8, rfl, h⟩ := q
      show Rt g (d + 1) mX4_readNumber 27 [some (.ref 33), some (.int x1), some (.int x2)] [.int v8, .int (x1 * 10)] t7 Q
      refine s_iadd dX4_readNumber_27 ?_
      refine s_bipush (v := 48) dX4_readNumber_28 (by decide) ?_
      refine s_isub dX4_readNumber_30 ?_
      refine t_nmI (fun z9 ez9 => ?_)
      replace h := h z9 ez9
      refine s_istore_n dX4_readNumber_31 rfl (by decide) rfl (L9 := [some (.ref 33), some (.int z9), some (.int x2)]) rfl ?_
      refine s_aload_n dX4_readNumber_32 rfl rfl ?_
      refine s_dup dX4_readNumber_33 rfl ?_
      refine t_getI dX4_readNumber_34 fl_X4_29 rfl (by decide) rfl ?_
      refine s_iconst (v := 1) dX4_readNumber_37 (by decide) ?_
      refine s_iadd dX4_readNumber_38 ?_
      refine t_putI dX4_readNumber_39 fl_X4_29 rfl (by decide) rfl rfl rfl rfl ?_
      refine s_iinc (w := x2 + 1) dX4_readNumber_42 rfl (by rfl) (by decide) rfl (L9 := [some (.ref 33), some (.int z9), some (.int (x2 + 1))]) rfl ?_
      refine s_goto (tgt := 4) dX4_readNumber_45 (by decide) ?_
      exact h
theorem bX4_readNumber_48 {g : Gt} {d : Nat} {t : Tt} {Q : Option Value → Tt → Prop} {x1 : Int32} (h : isLw t.2.2.2 ∧ Rt g d mX3_add 0 [some (.ref t.2.2.2), some (.int 0), some (.int x1)] [] t (QV (fun t2 => Q none t2))) : Rt g (d + 1) mX4_readNumber 48 [some (.ref 33), some (.int x1), none] [] t Q := by
  refine s_aload_n dX4_readNumber_48 rfl rfl ?_
  obtain ⟨g1, h⟩ := h
  refine t_getR dX4_readNumber_49 fl_X4_18 rfl (by decide) rfl rfl ?_
  refine s_iconst (v := 0) dX4_readNumber_52 (by decide) ?_
  refine s_iload_n dX4_readNumber_53 rfl rfl ?_
  refine t_callV (M' := mX3_add) (k := 0) (As := [.int 0, .int x1]) (rest := []) dX4_readNumber_54 ml_X4_44 miX3_add msX3_add (isLw_k g1) (isLw_z g1) rfl rfl (Nat.le_of_ble_eq_true rfl) (Nat.le_of_ble_eq_true rfl) rfl h (fun rv t2 q => ?_)
  obtain ⟨rfl, h⟩ := q
  show Rt g (d + 1) mX4_readNumber 57 [some (.ref 33), some (.int x1), none] [] t2 Q
  exact t_vret dX4_readNumber_57 rfl h
theorem bX4_isDigit_0 {g : Gt} {d : Nat} {t : Tt} {Q : Option Value → Tt → Prop} {p0 : Int32} (h : (p0 < 48 → Q (some (.int 0)) t) ∧ (¬ p0 < 48 → (57 < p0 → Q (some (.int 0)) t) ∧ (¬ 57 < p0 → Q (some (.int 1)) t))) : Rt g d mX4_isDigit 0 [some (.int p0)] [] t Q := by
  refine s_iload_n dX4_isDigit_0 rfl rfl ?_
  refine s_bipush (v := 48) dX4_isDigit_1 (by decide) ?_
  refine s_icmp_lt (tgt := 16) dX4_isDigit_3 (by decide) (fun c1 => ?_) (fun c1 => ?_)
  · replace h := h.1 c1
    refine s_iconst (v := 0) dX4_isDigit_16 (by decide) ?_
    exact t_iret dX4_isDigit_17 (NR_z rfl (Or.inl rfl)) h
  · replace h := h.2 c1
    refine s_iload_n dX4_isDigit_6 rfl rfl ?_
    refine s_bipush (v := 57) dX4_isDigit_7 (by decide) ?_
    refine s_icmp_gt (tgt := 16) dX4_isDigit_9 (by decide) (fun c2 => ?_) (fun c2 => ?_)
    · replace h := h.1 c2
      refine s_iconst (v := 0) dX4_isDigit_16 (by decide) ?_
      exact t_iret dX4_isDigit_17 (NR_z rfl (Or.inl rfl)) h
    · replace h := h.2 c2
      refine s_iconst (v := 1) dX4_isDigit_12 (by decide) ?_
      refine s_goto (tgt := 17) dX4_isDigit_13 (by decide) ?_
      exact t_iret dX4_isDigit_17 (NR_z rfl (Or.inr rfl)) h
theorem bX5_newcomer_0 {g : Gt} {d : Nat} {t : Tt} {Q : Option Value → Tt → Prop} {o : Nat} (ho : isMo o) {p0 : Int32} (h : ∀ z1 : Int32, z1 = (t.1 o 0) → vp_in z1 7 ∧ (vp_in z1 7 ∧ Q (some (.int z1)) (pI (pI (pI t (o + 2) z1.toNatClampNeg p0) (o + 3) z1.toNatClampNeg 0) o 0 (((pI (pI t (o + 2) z1.toNatClampNeg p0) (o + 3) z1.toNatClampNeg 0).1 o 0) + 1)))) : Rt g d mX5_newcomer 0 [some (.ref o), some (.int p0), none] [] t Q := by
  refine s_aload_n dX5_newcomer_0 rfl rfl ?_
  refine t_getI dX5_newcomer_1 fl_X5_25 (isMo_k ho) (isMo_z ho) rfl ?_
  refine t_nmI (fun z1 ez1 => ?_)
  replace h := h z1 ez1
  refine s_istore_n dX5_newcomer_4 rfl (by decide) rfl (L9 := [some (.ref o), some (.int p0), some (.int z1)]) rfl ?_
  refine s_aload_n dX5_newcomer_5 rfl rfl ?_
  refine t_getR dX5_newcomer_6 fl_X5_19 (isMo_k ho) (isMo_z ho) rfl (isMo_r3 _ ho) ?_
  refine s_iload_n dX5_newcomer_9 rfl rfl ?_
  refine s_iload_n dX5_newcomer_10 rfl rfl ?_
  obtain ⟨g2, h⟩ := h
  refine t_iast dX5_newcomer_11 (isMo_k3 ho) (isMo_z3 ho) g2 ?_
  refine s_aload_n dX5_newcomer_12 rfl rfl ?_
  refine t_getR dX5_newcomer_13 fl_X5_22 (isMo_k ho) (isMo_z ho) rfl (isMo_r4 _ ho) ?_
  refine s_iload_n dX5_newcomer_16 rfl rfl ?_
  refine s_iconst (v := 0) dX5_newcomer_17 (by decide) ?_
  obtain ⟨g3, h⟩ := h
  refine t_iast dX5_newcomer_18 (isMo_k4 ho) (isMo_z4 ho) g3 ?_
  refine s_aload_n dX5_newcomer_19 rfl rfl ?_
  refine s_dup dX5_newcomer_20 rfl ?_
  refine t_getI dX5_newcomer_21 fl_X5_25 (isMo_k ho) (isMo_z ho) rfl ?_
  refine s_iconst (v := 1) dX5_newcomer_24 (by decide) ?_
  refine s_iadd dX5_newcomer_25 ?_
  refine t_putI dX5_newcomer_26 fl_X5_25 (isMo_k ho) (isMo_z ho) rfl rfl rfl rfl ?_
  refine s_iload_n dX5_newcomer_29 rfl rfl ?_
  exact t_iret dX5_newcomer_30 (NR_i rfl _) h
theorem bX5_copyFrom_0 {g : Gt} {d : Nat} {t : Tt} {Q : Option Value → Tt → Prop} {o : Nat} (ho : isMo o) {o0 : Nat} (ho0 : isMo o0) (h : Q none (cI (cI (cI (pI (pI t o 0 (t.1 o0 0)) o 1 ((pI t o 0 (t.1 o0 0)).1 o0 1)) (o0 + 1) (o + 1) (0 : Int32).toNatClampNeg (0 : Int32).toNatClampNeg (56 : Int32).toNatClampNeg) (o0 + 2) (o + 2) (0 : Int32).toNatClampNeg (0 : Int32).toNatClampNeg (7 : Int32).toNatClampNeg) (o0 + 3) (o + 3) (0 : Int32).toNatClampNeg (0 : Int32).toNatClampNeg (7 : Int32).toNatClampNeg)) : Rt g (d + 1) mX5_copyFrom 0 [some (.ref o), some (.ref o0)] [] t Q := by
  refine s_aload_n dX5_copyFrom_0 rfl rfl ?_
  refine s_aload_n dX5_copyFrom_1 rfl rfl ?_
  refine t_getI dX5_copyFrom_2 fl_X5_25 (isMo_k ho0) (isMo_z ho0) rfl ?_
  refine t_putI dX5_copyFrom_5 fl_X5_25 (isMo_k ho) (isMo_z ho) rfl rfl rfl rfl ?_
  refine s_aload_n dX5_copyFrom_8 rfl rfl ?_
  refine s_aload_n dX5_copyFrom_9 rfl rfl ?_
  refine t_getI dX5_copyFrom_10 fl_X5_9 (isMo_k ho0) (isMo_z ho0) rfl ?_
  refine t_putI dX5_copyFrom_13 fl_X5_9 (isMo_k ho) (isMo_z ho) rfl rfl rfl rfl ?_
  refine s_aload_n dX5_copyFrom_16 rfl rfl ?_
  refine t_getR dX5_copyFrom_17 fl_X5_15 (isMo_k ho0) (isMo_z ho0) rfl (isMo_r2 _ ho0) ?_
  refine s_iconst (v := 0) dX5_copyFrom_20 (by decide) ?_
  refine s_aload_n dX5_copyFrom_21 rfl rfl ?_
  refine t_getR dX5_copyFrom_22 fl_X5_15 (isMo_k ho) (isMo_z ho) rfl (isMo_r2 _ ho) ?_
  refine s_iconst (v := 0) dX5_copyFrom_25 (by decide) ?_
  refine s_aload_n dX5_copyFrom_26 rfl rfl ?_
  refine t_getR dX5_copyFrom_27 fl_X5_15 (isMo_k ho) (isMo_z ho) rfl (isMo_r2 _ ho) ?_
  refine s_alen (v := 56) dX5_copyFrom_30 (isMo_k2 ho) (Or.inl ⟨rfl, by decide⟩) (isMo_z2 ho) rfl ?_
  refine t_cpyI dX5_copyFrom_31 ac_X5_28 (isMo_k2 ho0) (isMo_z2 ho0) (isMo_k2 ho) (isMo_z2 ho) (by decide) (by decide) (by decide) (by decide) (by decide) (Nat.le_of_ble_eq_true rfl) ?_
  refine s_aload_n dX5_copyFrom_34 rfl rfl ?_
  refine t_getR dX5_copyFrom_35 fl_X5_19 (isMo_k ho0) (isMo_z ho0) rfl (isMo_r3 _ ho0) ?_
  refine s_iconst (v := 0) dX5_copyFrom_38 (by decide) ?_
  refine s_aload_n dX5_copyFrom_39 rfl rfl ?_
  refine t_getR dX5_copyFrom_40 fl_X5_19 (isMo_k ho) (isMo_z ho) rfl (isMo_r3 _ ho) ?_
  refine s_iconst (v := 0) dX5_copyFrom_43 (by decide) ?_
  refine s_aload_n dX5_copyFrom_44 rfl rfl ?_
  refine t_getR dX5_copyFrom_45 fl_X5_19 (isMo_k ho) (isMo_z ho) rfl (isMo_r3 _ ho) ?_
  refine s_alen (v := 7) dX5_copyFrom_48 (isMo_k3 ho) (Or.inl ⟨rfl, by decide⟩) (isMo_z3 ho) rfl ?_
  refine t_cpyI dX5_copyFrom_49 ac_X5_28 (isMo_k3 ho0) (isMo_z3 ho0) (isMo_k3 ho) (isMo_z3 ho) (by decide) (by decide) (by decide) (by decide) (by decide) (Nat.le_of_ble_eq_true rfl) ?_
  refine s_aload_n dX5_copyFrom_52 rfl rfl ?_
  refine t_getR dX5_copyFrom_53 fl_X5_22 (isMo_k ho0) (isMo_z ho0) rfl (isMo_r4 _ ho0) ?_
  refine s_iconst (v := 0) dX5_copyFrom_56 (by decide) ?_
  refine s_aload_n dX5_copyFrom_57 rfl rfl ?_
  refine t_getR dX5_copyFrom_58 fl_X5_22 (isMo_k ho) (isMo_z ho) rfl (isMo_r4 _ ho) ?_
  refine s_iconst (v := 0) dX5_copyFrom_61 (by decide) ?_
  refine s_aload_n dX5_copyFrom_62 rfl rfl ?_
  refine t_getR dX5_copyFrom_63 fl_X5_22 (isMo_k ho) (isMo_z ho) rfl (isMo_r4 _ ho) ?_
  refine s_alen (v := 7) dX5_copyFrom_66 (isMo_k4 ho) (Or.inl ⟨rfl, by decide⟩) (isMo_z4 ho) rfl ?_
  refine t_cpyI dX5_copyFrom_67 ac_X5_28 (isMo_k4 ho0) (isMo_z4 ho0) (isMo_k4 ho) (isMo_z4 ho) (by decide) (by decide) (by decide) (by decide) (by decide) (Nat.le_of_ble_eq_true rfl) ?_
  exact t_vret dX5_copyFrom_70 rfl h
theorem bX5_layBack_0 {g : Gt} {d : Nat} {t : Tt} {Q : Option Value → Tt → Prop} {o : Nat} (ho : isMo o) {o0 : Nat} (ho0 : isMo o0) (h : Rt g (d + 1) mX5_layBack 2 [some (.ref o), some (.ref o0), some (.int 0)] [] t Q) : Rt g (d + 1) mX5_layBack 0 [some (.ref o), some (.ref o0), none] [] t Q := by
  refine s_iconst (v := 0) dX5_layBack_0 (by decide) ?_
  refine s_istore_n dX5_layBack_1 rfl (by decide) rfl (L9 := [some (.ref o), some (.ref o0), some (.int 0)]) rfl ?_
  exact h
theorem bX5_layBack_2 {g : Gt} {d : Nat} {t : Tt} {Q : Option Value → Tt → Prop} {o : Nat} (ho : isMo o) {o0 : Nat} (ho0 : isMo o0) {x2 : Int32} (h : ((t.1 o 0) ≤ x2 → Q none t) ∧ (¬ (t.1 o 0) ≤ x2 → ((t.1 o0 0) ≤ x2 → vp_in x2 7 ∧ Rt g (d + 1) mX5_layBack 73 [some (.ref o), some (.ref o0), some (.int x2)] [] (pI t (o + 3) x2.toNatClampNeg 0) Q) ∧ (¬ (t.1 o0 0) ≤ x2 → ¬ (x2 * 8) < 0 ∧ (¬ (x2 * 8) < 0 ∧ ((x2 * 8).toNatClampNeg + (8 : Int32).toNatClampNeg ≤ 56 ∧ ((x2 * 8).toNatClampNeg + (8 : Int32).toNatClampNeg ≤ 56 ∧ (vp_in x2 7 ∧ (vp_in x2 7 ∧ (vp_in x2 7 ∧ (vp_in x2 7 ∧ Rt g (d + 1) mX5_layBack 73 [some (.ref o), some (.ref o0), some (.int x2)] [] (pI (pI (cI t (o0 + 1) (o + 1) (x2 * 8).toNatClampNeg (x2 * 8).toNatClampNeg (8 : Int32).toNatClampNeg) (o + 2) x2.toNatClampNeg ((cI t (o0 + 1) (o + 1) (x2 * 8).toNatClampNeg (x2 * 8).toNatClampNeg (8 : Int32).toNatClampNeg).1 (o0 + 2) x2.toNatClampNeg)) (o + 3) x2.toNatClampNeg ((pI (cI t (o0 + 1) (o + 1) (x2 * 8).toNatClampNeg (x2 * 8).toNatClampNeg (8 : Int32).toNatClampNeg) (o + 2) x2.toNatClampNeg ((cI t (o0 + 1) (o + 1) (x2 * 8).toNatClampNeg (x2 * 8).toNatClampNeg (8 : Int32).toNatClampNeg).1 (o0 + 2) x2.toNatClampNeg)).1 (o0 + 3) x2.toNatClampNeg)) Q)))))))))) : Rt g (d + 1) mX5_layBack 2 [some (.ref o), some (.ref o0), some (.int x2)] [] t Q := by
  refine s_iload_n dX5_layBack_2 rfl rfl ?_
  refine s_aload_n dX5_layBack_3 rfl rfl ?_
  refine t_getI dX5_layBack_4 fl_X5_25 (isMo_k ho) (isMo_z ho) rfl ?_
  refine s_icmp_ge (tgt := 79) dX5_layBack_7 (by decide) (fun c1 => ?_) (fun c1 => ?_)
  · replace h := h.1 c1
    exact t_vret dX5_layBack_79 rfl h
  · replace h := h.2 c1
    refine s_iload_n dX5_layBack_10 rfl rfl ?_
    refine s_aload_n dX5_layBack_11 rfl rfl ?_
    refine t_getI dX5_layBack_12 fl_X5_25 (isMo_k ho0) (isMo_z ho0) rfl ?_
    refine s_icmp_ge (tgt := 66) dX5_layBack_15 (by decide) (fun c2 => ?_) (fun c2 => ?_)
    · replace h := h.1 c2
      refine s_aload_n dX5_layBack_66 rfl rfl ?_
      refine t_getR dX5_layBack_67 fl_X5_22 (isMo_k ho) (isMo_z ho) rfl (isMo_r4 _ ho) ?_
      refine s_iload_n dX5_layBack_70 rfl rfl ?_
      refine s_iconst (v := 0) dX5_layBack_71 (by decide) ?_
      obtain ⟨g3, h⟩ := h
      refine t_iast dX5_layBack_72 (isMo_k4 ho) (isMo_z4 ho) g3 ?_
      exact h
    · replace h := h.2 c2
      refine s_aload_n dX5_layBack_18 rfl rfl ?_
      refine t_getR dX5_layBack_19 fl_X5_15 (isMo_k ho0) (isMo_z ho0) rfl (isMo_r2 _ ho0) ?_
      refine s_iload_n dX5_layBack_22 rfl rfl ?_
      refine s_bipush (v := 8) dX5_layBack_23 (by decide) ?_
      refine s_imul dX5_layBack_25 ?_
      refine s_aload_n dX5_layBack_26 rfl rfl ?_
      refine t_getR dX5_layBack_27 fl_X5_15 (isMo_k ho) (isMo_z ho) rfl (isMo_r2 _ ho) ?_
      refine s_iload_n dX5_layBack_30 rfl rfl ?_
      refine s_bipush (v := 8) dX5_layBack_31 (by decide) ?_
      refine s_imul dX5_layBack_33 ?_
      refine s_bipush (v := 8) dX5_layBack_34 (by decide) ?_
      obtain ⟨g4, h⟩ := h
      obtain ⟨g5, h⟩ := h
      obtain ⟨g6, h⟩ := h
      obtain ⟨g7, h⟩ := h
      refine t_cpyI dX5_layBack_36 ac_X5_28 (isMo_k2 ho0) (isMo_z2 ho0) (isMo_k2 ho) (isMo_z2 ho) g4 g5 (by decide) g6 g7 (Nat.le_of_ble_eq_true rfl) ?_
      refine s_aload_n dX5_layBack_39 rfl rfl ?_
      refine t_getR dX5_layBack_40 fl_X5_19 (isMo_k ho) (isMo_z ho) rfl (isMo_r3 _ ho) ?_
      refine s_iload_n dX5_layBack_43 rfl rfl ?_
      refine s_aload_n dX5_layBack_44 rfl rfl ?_
      refine t_getR dX5_layBack_45 fl_X5_19 (isMo_k ho0) (isMo_z ho0) rfl (isMo_r3 _ ho0) ?_
      refine s_iload_n dX5_layBack_48 rfl rfl ?_
      obtain ⟨g8, h⟩ := h
      refine t_iald dX5_layBack_49 (isMo_k3 ho0) (isMo_z3 ho0) g8 ?_
      obtain ⟨g9, h⟩ := h
      refine t_iast dX5_layBack_50 (isMo_k3 ho) (isMo_z3 ho) g9 ?_
      refine s_aload_n dX5_layBack_51 rfl rfl ?_
      refine t_getR dX5_layBack_52 fl_X5_22 (isMo_k ho) (isMo_z ho) rfl (isMo_r4 _ ho) ?_
      refine s_iload_n dX5_layBack_55 rfl rfl ?_
      refine s_aload_n dX5_layBack_56 rfl rfl ?_
      refine t_getR dX5_layBack_57 fl_X5_22 (isMo_k ho0) (isMo_z ho0) rfl (isMo_r4 _ ho0) ?_
      refine s_iload_n dX5_layBack_60 rfl rfl ?_
      obtain ⟨g10, h⟩ := h
      refine t_iald dX5_layBack_61 (isMo_k4 ho0) (isMo_z4 ho0) g10 ?_
      obtain ⟨g11, h⟩ := h
      refine t_iast dX5_layBack_62 (isMo_k4 ho) (isMo_z4 ho) g11 ?_
      refine s_goto (tgt := 73) dX5_layBack_63 (by decide) ?_
      exact h
theorem bX5_layBack_73 {g : Gt} {d : Nat} {t : Tt} {Q : Option Value → Tt → Prop} {o : Nat} (ho : isMo o) {o0 : Nat} (ho0 : isMo o0) {x2 : Int32} (h : Rt g (d + 1) mX5_layBack 2 [some (.ref o), some (.ref o0), some (.int (x2 + 1))] [] t Q) : Rt g (d + 1) mX5_layBack 73 [some (.ref o), some (.ref o0), some (.int x2)] [] t Q := by
  refine s_iinc (w := x2 + 1) dX5_layBack_73 rfl (by rfl) (by decide) rfl (L9 := [some (.ref o), some (.ref o0), some (.int (x2 + 1))]) rfl ?_
  refine s_goto (tgt := 2) dX5_layBack_76 (by decide) ?_
  exact h
theorem bX5_flakesOf_0 {g : Gt} {d : Nat} {t : Tt} {Q : Option Value → Tt → Prop} {o : Nat} (ho : isMo o) {p0 : Int32} (h : Rt g d mX5_flakesOf 4 [some (.ref o), some (.int p0), some (.int 0), some (.int 0)] [] t Q) : Rt g d mX5_flakesOf 0 [some (.ref o), some (.int p0), none, none] [] t Q := by
  refine s_iconst (v := 0) dX5_flakesOf_0 (by decide) ?_
  refine s_istore_n dX5_flakesOf_1 rfl (by decide) rfl (L9 := [some (.ref o), some (.int p0), some (.int 0), none]) rfl ?_
  refine s_iconst (v := 0) dX5_flakesOf_2 (by decide) ?_
  refine s_istore_n dX5_flakesOf_3 rfl (by decide) rfl (L9 := [some (.ref o), some (.int p0), some (.int 0), some (.int 0)]) rfl ?_
  exact h
theorem bX5_flakesOf_4 {g : Gt} {d : Nat} {t : Tt} {Q : Option Value → Tt → Prop} {o : Nat} (ho : isMo o) {x1 : Int32} {x2 : Int32} {x3 : Int32} (h : (8 ≤ x3 → Q (some (.int x2)) t) ∧ (¬ 8 ≤ x3 → vp_in ((x1 * 8) + x3) 56 ∧ (∀ z3 : Int32, z3 = (x2 + (t.1 (o + 1) ((x1 * 8) + x3).toNatClampNeg)) → Rt g d mX5_flakesOf 4 [some (.ref o), some (.int x1), some (.int z3), some (.int (x3 + 1))] [] t Q))) : Rt g d mX5_flakesOf 4 [some (.ref o), some (.int x1), some (.int x2), some (.int x3)] [] t Q := by
  refine s_iload_n dX5_flakesOf_4 rfl rfl ?_
  refine s_bipush (v := 8) dX5_flakesOf_5 (by decide) ?_
  refine s_icmp_ge (tgt := 30) dX5_flakesOf_7 (by decide) (fun c1 => ?_) (fun c1 => ?_)
  · replace h := h.1 c1
    refine s_iload_n dX5_flakesOf_30 rfl rfl ?_
    exact t_iret dX5_flakesOf_31 (NR_i rfl _) h
  · replace h := h.2 c1
    refine s_iload_n dX5_flakesOf_10 rfl rfl ?_
    refine s_aload_n dX5_flakesOf_11 rfl rfl ?_
    refine t_getR dX5_flakesOf_12 fl_X5_15 (isMo_k ho) (isMo_z ho) rfl (isMo_r2 _ ho) ?_
    refine s_iload_n dX5_flakesOf_15 rfl rfl ?_
    refine s_bipush (v := 8) dX5_flakesOf_16 (by decide) ?_
    refine s_imul dX5_flakesOf_18 ?_
    refine s_iload_n dX5_flakesOf_19 rfl rfl ?_
    refine s_iadd dX5_flakesOf_20 ?_
    obtain ⟨g2, h⟩ := h
    refine t_iald dX5_flakesOf_21 (isMo_k2 ho) (isMo_z2 ho) g2 ?_
    refine s_iadd dX5_flakesOf_22 ?_
    refine t_nmI (fun z3 ez3 => ?_)
    replace h := h z3 ez3
    refine s_istore_n dX5_flakesOf_23 rfl (by decide) rfl (L9 := [some (.ref o), some (.int x1), some (.int z3), some (.int x3)]) rfl ?_
    refine s_iinc (w := x3 + 1) dX5_flakesOf_24 rfl (by rfl) (by decide) rfl (L9 := [some (.ref o), some (.int x1), some (.int z3), some (.int (x3 + 1))]) rfl ?_
    refine s_goto (tgt := 4) dX5_flakesOf_27 (by decide) ?_
    exact h
theorem bX5_flakesOfAll_0 {g : Gt} {d : Nat} {t : Tt} {Q : Option Value → Tt → Prop} {o : Nat} (ho : isMo o) (h : Rt g (d + 1) mX5_flakesOfAll 4 [some (.ref o), some (.int 0), some (.int 0)] [] t Q) : Rt g (d + 1) mX5_flakesOfAll 0 [some (.ref o), none, none] [] t Q := by
  refine s_iconst (v := 0) dX5_flakesOfAll_0 (by decide) ?_
  refine s_istore_n dX5_flakesOfAll_1 rfl (by decide) rfl (L9 := [some (.ref o), some (.int 0), none]) rfl ?_
  refine s_iconst (v := 0) dX5_flakesOfAll_2 (by decide) ?_
  refine s_istore_n dX5_flakesOfAll_3 rfl (by decide) rfl (L9 := [some (.ref o), some (.int 0), some (.int 0)]) rfl ?_
  exact h
theorem bX5_flakesOfAll_4 {g : Gt} {d : Nat} {t : Tt} {Q : Option Value → Tt → Prop} {o : Nat} (ho : isMo o) {x1 : Int32} {x2 : Int32} (h : ((t.1 o 0) ≤ x2 → Q (some (.int x1)) t) ∧ (¬ (t.1 o 0) ≤ x2 → Rt g d mX5_flakesOf 0 [some (.ref o), some (.int x2), none, none] [] t (QI (fun v3 t2 => ∀ z4 : Int32, z4 = (x1 + v3) → Rt g (d + 1) mX5_flakesOfAll 4 [some (.ref o), some (.int z4), some (.int (x2 + 1))] [] t2 Q)))) : Rt g (d + 1) mX5_flakesOfAll 4 [some (.ref o), some (.int x1), some (.int x2)] [] t Q := by
  refine s_iload_n dX5_flakesOfAll_4 rfl rfl ?_
  refine s_aload_n dX5_flakesOfAll_5 rfl rfl ?_
  refine t_getI dX5_flakesOfAll_6 fl_X5_25 (isMo_k ho) (isMo_z ho) rfl ?_
  refine s_icmp_ge (tgt := 26) dX5_flakesOfAll_9 (by decide) (fun c1 => ?_) (fun c1 => ?_)
  · replace h := h.1 c1
    refine s_iload_n dX5_flakesOfAll_26 rfl rfl ?_
    exact t_iret dX5_flakesOfAll_27 (NR_i rfl _) h
  · replace h := h.2 c1
    refine s_iload_n dX5_flakesOfAll_12 rfl rfl ?_
    refine s_aload_n dX5_flakesOfAll_13 rfl rfl ?_
    refine s_iload_n dX5_flakesOfAll_14 rfl rfl ?_
    refine t_callV (M' := mX5_flakesOf) (k := 2) (As := [.int x2]) (rest := [.int x1]) dX5_flakesOfAll_15 ml_X5_34 miX5_flakesOf msX5_flakesOf (isMo_k ho) (isMo_z ho) rfl rfl (Nat.le_of_ble_eq_true rfl) (Nat.le_of_ble_eq_true rfl) rfl h (fun rv t2 q => ?_)
    obtain ⟨v3, rfl, h⟩ := q
    show Rt g (d + 1) mX5_flakesOfAll 18 [some (.ref o), some (.int x1), some (.int x2)] [.int v3, .int x1] t2 Q
    refine s_iadd dX5_flakesOfAll_18 ?_
    refine t_nmI (fun z4 ez4 => ?_)
    replace h := h z4 ez4
    refine s_istore_n dX5_flakesOfAll_19 rfl (by decide) rfl (L9 := [some (.ref o), some (.int z4), some (.int x2)]) rfl ?_
    refine s_iinc (w := x2 + 1) dX5_flakesOfAll_20 rfl (by rfl) (by decide) rfl (L9 := [some (.ref o), some (.int z4), some (.int (x2 + 1))]) rfl ?_
    refine s_goto (tgt := 4) dX5_flakesOfAll_23 (by decide) ?_
    exact h
theorem bX5_worthOf_0 {g : Gt} {d : Nat} {t : Tt} {Q : Option Value → Tt → Prop} {o : Nat} (ho : isMo o) {p0 : Int32} (h : Rt g d mX5_flakesOf 0 [some (.ref o), some (.int p0), none, none] [] t (QI (fun v2 t1 => vp_in p0 7 ∧ Rt g d mJ6_bitCount_0f7a4 0 [some (.int (t1.1 (o + 2) p0.toNatClampNeg))] [] t1 (QI (fun v5 t4 => Q (some (.int (v2 + ((t1.1 o 1) * v5)))) t4))))) : Rt g (d + 1) mX5_worthOf 0 [some (.ref o), some (.int p0)] [] t Q := by
  refine s_aload_n dX5_worthOf_0 rfl rfl ?_
  refine s_iload_n dX5_worthOf_1 rfl rfl ?_
  refine t_callV (M' := mX5_flakesOf) (k := 2) (As := [.int p0]) (rest := []) dX5_worthOf_2 ml_X5_34 miX5_flakesOf msX5_flakesOf (isMo_k ho) (isMo_z ho) rfl rfl (Nat.le_of_ble_eq_true rfl) (Nat.le_of_ble_eq_true rfl) rfl h (fun rv t1 q => ?_)
  obtain ⟨v2, rfl, h⟩ := q
  show Rt g (d + 1) mX5_worthOf 5 [some (.ref o), some (.int p0)] [.int v2] t1 Q
  refine s_aload_n dX5_worthOf_5 rfl rfl ?_
  refine t_getI dX5_worthOf_6 fl_X5_9 (isMo_k ho) (isMo_z ho) rfl ?_
  refine s_aload_n dX5_worthOf_9 rfl rfl ?_
  refine t_getR dX5_worthOf_10 fl_X5_19 (isMo_k ho) (isMo_z ho) rfl (isMo_r3 _ ho) ?_
  refine s_iload_n dX5_worthOf_13 rfl rfl ?_
  obtain ⟨g3, h⟩ := h
  refine t_iald dX5_worthOf_14 (isMo_k3 ho) (isMo_z3 ho) g3 ?_
  refine t_callS (M' := mJ6_bitCount_0f7a4) (k := 0) (As := [.int (t1.1 (o + 2) p0.toNatClampNeg)]) (rest := [.int (t1.1 o 1), .int v2]) dX5_worthOf_15 ml_X5_38 mstJ6_bitCount_0f7a4 rfl (Nat.le_of_ble_eq_true rfl) (Nat.le_of_ble_eq_true rfl) rfl h (fun rv t4 q => ?_)
  obtain ⟨v5, rfl, h⟩ := q
  show Rt g (d + 1) mX5_worthOf 18 [some (.ref o), some (.int p0)] [.int v5, .int (t1.1 o 1), .int v2] t4 Q
  refine s_imul dX5_worthOf_18 ?_
  refine s_iadd dX5_worthOf_19 ?_
  exact t_iret dX5_worthOf_20 (NR_i rfl _) h
theorem bX5_worthTogether_0 {g : Gt} {d : Nat} {t : Tt} {Q : Option Value → Tt → Prop} {o : Nat} (ho : isMo o) {p0 : Int32} (h : Rt g (d + 1) mX5_worthTogether 4 [some (.ref o), some (.int p0), some (.int 0), some (.int 0)] [] t Q) : Rt g (d + 1) mX5_worthTogether 0 [some (.ref o), some (.int p0), none, none] [] t Q := by
  refine s_iconst (v := 0) dX5_worthTogether_0 (by decide) ?_
  refine s_istore_n dX5_worthTogether_1 rfl (by decide) rfl (L9 := [some (.ref o), some (.int p0), some (.int 0), none]) rfl ?_
  refine s_iconst (v := 0) dX5_worthTogether_2 (by decide) ?_
  refine s_istore_n dX5_worthTogether_3 rfl (by decide) rfl (L9 := [some (.ref o), some (.int p0), some (.int 0), some (.int 0)]) rfl ?_
  exact h
theorem bX5_worthTogether_4 {g : Gt} {d : Nat} {t : Tt} {Q : Option Value → Tt → Prop} {o : Nat} (ho : isMo o) {x1 : Int32} {x2 : Int32} {x3 : Int32} (h : ((t.1 o 0) ≤ x3 → Q (some (.int x2)) t) ∧ (¬ (t.1 o 0) ≤ x3 → (¬ ((jsr x1 x3) &&& 1) = 1 → Rt g (d + 1) mX5_worthTogether 29 [some (.ref o), some (.int x1), some (.int x2), some (.int x3)] [] t Q) ∧ (((jsr x1 x3) &&& 1) = 1 → Rt g d mX5_worthOf 0 [some (.ref o), some (.int x3)] [] t (QI (fun v4 t3 => ∀ z5 : Int32, z5 = (x2 + v4) → Rt g (d + 1) mX5_worthTogether 29 [some (.ref o), some (.int x1), some (.int z5), some (.int x3)] [] t3 Q))))) : Rt g (d + 1) mX5_worthTogether 4 [some (.ref o), some (.int x1), some (.int x2), some (.int x3)] [] t Q := by
  refine s_iload_n dX5_worthTogether_4 rfl rfl ?_
  refine s_aload_n dX5_worthTogether_5 rfl rfl ?_
  refine t_getI dX5_worthTogether_6 fl_X5_25 (isMo_k ho) (isMo_z ho) rfl ?_
  refine s_icmp_ge (tgt := 35) dX5_worthTogether_9 (by decide) (fun c1 => ?_) (fun c1 => ?_)
  · replace h := h.1 c1
    refine s_iload_n dX5_worthTogether_35 rfl rfl ?_
    exact t_iret dX5_worthTogether_36 (NR_i rfl _) h
  · replace h := h.2 c1
    refine s_iload_n dX5_worthTogether_12 rfl rfl ?_
    refine s_iload_n dX5_worthTogether_13 rfl rfl ?_
    refine s_ishr dX5_worthTogether_14 ?_
    refine s_iconst (v := 1) dX5_worthTogether_15 (by decide) ?_
    refine s_iand dX5_worthTogether_16 ?_
    refine s_iconst (v := 1) dX5_worthTogether_17 (by decide) ?_
    refine s_icmp_ne (tgt := 29) dX5_worthTogether_18 (by decide) (fun c2 => ?_) (fun c2 => ?_)
    · replace h := h.1 c2
      exact h
    · replace h := h.2 c2
      refine s_iload_n dX5_worthTogether_21 rfl rfl ?_
      refine s_aload_n dX5_worthTogether_22 rfl rfl ?_
      refine s_iload_n dX5_worthTogether_23 rfl rfl ?_
      refine t_callV (M' := mX5_worthOf) (k := 0) (As := [.int x3]) (rest := [.int x2]) dX5_worthTogether_24 ml_X5_43 miX5_worthOf msX5_worthOf (isMo_k ho) (isMo_z ho) rfl rfl (Nat.le_of_ble_eq_true rfl) (Nat.le_of_ble_eq_true rfl) rfl h (fun rv t3 q => ?_)
      obtain ⟨v4, rfl, h⟩ := q
      show Rt g (d + 1) mX5_worthTogether 27 [some (.ref o), some (.int x1), some (.int x2), some (.int x3)] [.int v4, .int x2] t3 Q
      refine s_iadd dX5_worthTogether_27 ?_
      refine t_nmI (fun z5 ez5 => ?_)
      replace h := h z5 ez5
      refine s_istore_n dX5_worthTogether_28 rfl (by decide) rfl (L9 := [some (.ref o), some (.int x1), some (.int z5), some (.int x3)]) rfl ?_
      exact h
theorem bX5_worthTogether_29 {g : Gt} {d : Nat} {t : Tt} {Q : Option Value → Tt → Prop} {o : Nat} (ho : isMo o) {x1 : Int32} {x2 : Int32} {x3 : Int32} (h : Rt g (d + 1) mX5_worthTogether 4 [some (.ref o), some (.int x1), some (.int x2), some (.int (x3 + 1))] [] t Q) : Rt g (d + 1) mX5_worthTogether 29 [some (.ref o), some (.int x1), some (.int x2), some (.int x3)] [] t Q := by
  refine s_iinc (w := x3 + 1) dX5_worthTogether_29 rfl (by rfl) (by decide) rfl (L9 := [some (.ref o), some (.int x1), some (.int x2), some (.int (x3 + 1))]) rfl ?_
  refine s_goto (tgt := 4) dX5_worthTogether_32 (by decide) ?_
  exact h
theorem bX5_isGone_0 {g : Gt} {d : Nat} {t : Tt} {Q : Option Value → Tt → Prop} {o : Nat} (ho : isMo o) {p0 : Int32} (h : Rt g d mX5_flakesOf 0 [some (.ref o), some (.int p0), none, none] [] t (QI (fun v2 t1 => (¬ v2 = 0 → Q (some (.int 0)) t1) ∧ (v2 = 0 → Q (some (.int 1)) t1)))) : Rt g (d + 1) mX5_isGone 0 [some (.ref o), some (.int p0)] [] t Q := by
  refine s_aload_n dX5_isGone_0 rfl rfl ?_
  refine s_iload_n dX5_isGone_1 rfl rfl ?_
  refine t_callV (M' := mX5_flakesOf) (k := 2) (As := [.int p0]) (rest := []) dX5_isGone_2 ml_X5_34 miX5_flakesOf msX5_flakesOf (isMo_k ho) (isMo_z ho) rfl rfl (Nat.le_of_ble_eq_true rfl) (Nat.le_of_ble_eq_true rfl) rfl h (fun rv t1 q => ?_)
  obtain ⟨v2, rfl, h⟩ := q
  show Rt g (d + 1) mX5_isGone 5 [some (.ref o), some (.int p0)] [.int v2] t1 Q
  refine s_if_ne (tgt := 12) dX5_isGone_5 (by decide) (fun c3 => ?_) (fun c3 => ?_)
  · replace h := h.1 c3
    refine s_iconst (v := 0) dX5_isGone_12 (by decide) ?_
    exact t_iret dX5_isGone_13 (NR_z rfl (Or.inl rfl)) h
  · replace h := h.2 c3
    refine s_iconst (v := 1) dX5_isGone_8 (by decide) ?_
    refine s_goto (tgt := 13) dX5_isGone_9 (by decide) ?_
    exact t_iret dX5_isGone_13 (NR_z rfl (Or.inr rfl)) h
theorem bX5_howManyGone_0 {g : Gt} {d : Nat} {t : Tt} {Q : Option Value → Tt → Prop} {o : Nat} (ho : isMo o) (h : Rt g (d + 1) mX5_howManyGone 4 [some (.ref o), some (.int 0), some (.int 0)] [] t Q) : Rt g (d + 1) mX5_howManyGone 0 [some (.ref o), none, none] [] t Q := by
  refine s_iconst (v := 0) dX5_howManyGone_0 (by decide) ?_
  refine s_istore_n dX5_howManyGone_1 rfl (by decide) rfl (L9 := [some (.ref o), some (.int 0), none]) rfl ?_
  refine s_iconst (v := 0) dX5_howManyGone_2 (by decide) ?_
  refine s_istore_n dX5_howManyGone_3 rfl (by decide) rfl (L9 := [some (.ref o), some (.int 0), some (.int 0)]) rfl ?_
  exact h
theorem bX5_howManyGone_4 {g : Gt} {d : Nat} {t : Tt} {Q : Option Value → Tt → Prop} {o : Nat} (ho : isMo o) {x1 : Int32} {x2 : Int32} (h : ((t.1 o 0) ≤ x2 → Q (some (.int x1)) t) ∧ (¬ (t.1 o 0) ≤ x2 → Rt g d mX5_isGone 0 [some (.ref o), some (.int x2)] [] t (QI (fun v3 t2 => (v3 = 0 → Rt g (d + 1) mX5_howManyGone 23 [some (.ref o), some (.int x1), some (.int x2)] [] t2 Q) ∧ (¬ v3 = 0 → Rt g (d + 1) mX5_howManyGone 23 [some (.ref o), some (.int (x1 + 1)), some (.int x2)] [] t2 Q))))) : Rt g (d + 1) mX5_howManyGone 4 [some (.ref o), some (.int x1), some (.int x2)] [] t Q := by
  refine s_iload_n dX5_howManyGone_4 rfl rfl ?_
  refine s_aload_n dX5_howManyGone_5 rfl rfl ?_
  refine t_getI dX5_howManyGone_6 fl_X5_25 (isMo_k ho) (isMo_z ho) rfl ?_
  refine s_icmp_ge (tgt := 29) dX5_howManyGone_9 (by decide) (fun c1 => ?_) (fun c1 => ?_)
  · replace h := h.1 c1
    refine s_iload_n dX5_howManyGone_29 rfl rfl ?_
    exact t_iret dX5_howManyGone_30 (NR_i rfl _) h
  · replace h := h.2 c1
    refine s_aload_n dX5_howManyGone_12 rfl rfl ?_
    refine s_iload_n dX5_howManyGone_13 rfl rfl ?_
    refine t_callV (M' := mX5_isGone) (k := 0) (As := [.int x2]) (rest := []) dX5_howManyGone_14 ml_X5_46 miX5_isGone msX5_isGone (isMo_k ho) (isMo_z ho) rfl rfl (Nat.le_of_ble_eq_true rfl) (Nat.le_of_ble_eq_true rfl) rfl h (fun rv t2 q => ?_)
    obtain ⟨v3, rfl, h⟩ := q
    show Rt g (d + 1) mX5_howManyGone 17 [some (.ref o), some (.int x1), some (.int x2)] [.int v3] t2 Q
    refine s_if_eq (tgt := 23) dX5_howManyGone_17 (by decide) (fun c4 => ?_) (fun c4 => ?_)
    · replace h := h.1 c4
      exact h
    · replace h := h.2 c4
      refine s_iinc (w := x1 + 1) dX5_howManyGone_20 rfl (by rfl) (by decide) rfl (L9 := [some (.ref o), some (.int (x1 + 1)), some (.int x2)]) rfl ?_
      exact h
theorem bX5_howManyGone_23 {g : Gt} {d : Nat} {t : Tt} {Q : Option Value → Tt → Prop} {o : Nat} (ho : isMo o) {x1 : Int32} {x2 : Int32} (h : Rt g (d + 1) mX5_howManyGone 4 [some (.ref o), some (.int x1), some (.int (x2 + 1))] [] t Q) : Rt g (d + 1) mX5_howManyGone 23 [some (.ref o), some (.int x1), some (.int x2)] [] t Q := by
  refine s_iinc (w := x2 + 1) dX5_howManyGone_23 rfl (by rfl) (by decide) rfl (L9 := [some (.ref o), some (.int x1), some (.int (x2 + 1))]) rfl ?_
  refine s_goto (tgt := 4) dX5_howManyGone_26 (by decide) ?_
  exact h
theorem bX5_isCapped_0 {g : Gt} {d : Nat} {t : Tt} {Q : Option Value → Tt → Prop} {o : Nat} (ho : isMo o) {p0 : Int32} {p1 : Int32} (h : vp_in p0 7 ∧ ((¬ ((jsr (t.1 (o + 2) p0.toNatClampNeg) p1) &&& 1) = 1 → Q (some (.int 0)) t) ∧ (((jsr (t.1 (o + 2) p0.toNatClampNeg) p1) &&& 1) = 1 → Q (some (.int 1)) t))) : Rt g d mX5_isCapped 0 [some (.ref o), some (.int p0), some (.int p1)] [] t Q := by
  refine s_aload_n dX5_isCapped_0 rfl rfl ?_
  refine t_getR dX5_isCapped_1 fl_X5_19 (isMo_k ho) (isMo_z ho) rfl (isMo_r3 _ ho) ?_
  refine s_iload_n dX5_isCapped_4 rfl rfl ?_
  obtain ⟨g1, h⟩ := h
  refine t_iald dX5_isCapped_5 (isMo_k3 ho) (isMo_z3 ho) g1 ?_
  refine s_iload_n dX5_isCapped_6 rfl rfl ?_
  refine s_ishr dX5_isCapped_7 ?_
  refine s_iconst (v := 1) dX5_isCapped_8 (by decide) ?_
  refine s_iand dX5_isCapped_9 ?_
  refine s_iconst (v := 1) dX5_isCapped_10 (by decide) ?_
  refine s_icmp_ne (tgt := 18) dX5_isCapped_11 (by decide) (fun c2 => ?_) (fun c2 => ?_)
  · replace h := h.1 c2
    refine s_iconst (v := 0) dX5_isCapped_18 (by decide) ?_
    exact t_iret dX5_isCapped_19 (NR_z rfl (Or.inl rfl)) h
  · replace h := h.2 c2
    refine s_iconst (v := 1) dX5_isCapped_14 (by decide) ?_
    refine s_goto (tgt := 19) dX5_isCapped_15 (by decide) ?_
    exact t_iret dX5_isCapped_19 (NR_z rfl (Or.inr rfl)) h
theorem bX5_looksLike_0 {g : Gt} {d : Nat} {t : Tt} {Q : Option Value → Tt → Prop} {o : Nat} (ho : isMo o) {p0 : Int32} {o1 : Nat} (ho1 : isSh o1) (h : Rt g d mX5_looksLike 2 [some (.ref o), some (.int p0), some (.ref o1), some (.int 0)] [] t Q) : Rt g d mX5_looksLike 0 [some (.ref o), some (.int p0), some (.ref o1), none] [] t Q := by
  refine s_iconst (v := 0) dX5_looksLike_0 (by decide) ?_
  refine s_istore_n dX5_looksLike_1 rfl (by decide) rfl (L9 := [some (.ref o), some (.int p0), some (.ref o1), some (.int 0)]) rfl ?_
  exact h
theorem bX5_looksLike_2 {g : Gt} {d : Nat} {t : Tt} {Q : Option Value → Tt → Prop} {o : Nat} (ho : isMo o) {x1 : Int32} {o1 : Nat} (ho1 : isSh o1) {x3 : Int32} (h : (8 ≤ x3 → Q (some (.int 1)) t) ∧ (¬ 8 ≤ x3 → vp_in ((x1 * 8) + x3) 56 ∧ (vp_in x3 60 ∧ ((((t.1 (o + 1) ((x1 * 8) + x3).toNatClampNeg).toInt64) = (t.2.1 (o1 + 1) x3.toNatClampNeg) → Rt g d mX5_looksLike 2 [some (.ref o), some (.int x1), some (.ref o1), some (.int (x3 + 1))] [] t Q) ∧ (¬ ((t.1 (o + 1) ((x1 * 8) + x3).toNatClampNeg).toInt64) = (t.2.1 (o1 + 1) x3.toNatClampNeg) → Q (some (.int 0)) t))))) : Rt g d mX5_looksLike 2 [some (.ref o), some (.int x1), some (.ref o1), some (.int x3)] [] t Q := by
  refine s_iload_n dX5_looksLike_2 rfl rfl ?_
  refine s_bipush (v := 8) dX5_looksLike_3 (by decide) ?_
  refine s_icmp_ge (tgt := 38) dX5_looksLike_5 (by decide) (fun c1 => ?_) (fun c1 => ?_)
  · replace h := h.1 c1
    refine s_iconst (v := 1) dX5_looksLike_38 (by decide) ?_
    exact t_iret dX5_looksLike_39 (NR_z rfl (Or.inr rfl)) h
  · replace h := h.2 c1
    refine s_aload_n dX5_looksLike_8 rfl rfl ?_
    refine t_getR dX5_looksLike_9 fl_X5_15 (isMo_k ho) (isMo_z ho) rfl (isMo_r2 _ ho) ?_
    refine s_iload_n dX5_looksLike_12 rfl rfl ?_
    refine s_bipush (v := 8) dX5_looksLike_13 (by decide) ?_
    refine s_imul dX5_looksLike_15 ?_
    refine s_iload_n dX5_looksLike_16 rfl rfl ?_
    refine s_iadd dX5_looksLike_17 ?_
    obtain ⟨g2, h⟩ := h
    refine t_iald dX5_looksLike_18 (isMo_k2 ho) (isMo_z2 ho) g2 ?_
    refine s_i2l dX5_looksLike_19 ?_
    refine s_aload_n dX5_looksLike_20 rfl rfl ?_
    refine t_getR dX5_looksLike_21 fl_X5_50 (isSh_k ho1) (isSh_z ho1) rfl (isSh_r3 _ ho1) ?_
    refine s_iload_n dX5_looksLike_24 rfl rfl ?_
    obtain ⟨g3, h⟩ := h
    refine t_lald dX5_looksLike_25 (isSh_k3 ho1) (isSh_z3 ho1) g3 ?_
    refine t_cmp_eq (tgt := 32) dX5_looksLike_26 dX5_looksLike_27 (by decide) (fun c4 => ?_) (fun c4 => ?_)
    · replace h := h.1 c4
      refine s_iinc (w := x3 + 1) dX5_looksLike_32 rfl (by rfl) (by decide) rfl (L9 := [some (.ref o), some (.int x1), some (.ref o1), some (.int (x3 + 1))]) rfl ?_
      refine s_goto (tgt := 2) dX5_looksLike_35 (by decide) ?_
      exact h
    · replace h := h.2 c4
      refine s_iconst (v := 0) dX5_looksLike_30 (by decide) ?_
      exact t_iret dX5_looksLike_31 (NR_z rfl (Or.inl rfl)) h
theorem bX5_lie_0 {g : Gt} {d : Nat} {t : Tt} {Q : Option Value → Tt → Prop} {o : Nat} (ho : isMo o) {o0 : Nat} (ho0 : isLw o0) {p1 : Int32} {p2 : Int32} {p3 : Int32} (h : Rt g d mX3_priceOf 0 [some (.ref o0), some (.ref o), some (.int p1), some (.int p2), some (.int p3), none] [] t (QI (fun v2 t1 => Rt g (d + 1) mX5_lie 17 [some (.ref o), none, some (.int p1), none, some (.int p3), some (.int v2), some (.int 0), some (.int 0), none, none, none] [] t1 Q))) : Rt g (d + 1) mX5_lie 0 [some (.ref o), some (.ref o0), some (.int p1), some (.int p2), some (.int p3), none, none, none, none, none, none] [] t Q := by
  refine s_aload_n dX5_lie_0 rfl rfl ?_
  refine s_aload_n dX5_lie_1 rfl rfl ?_
  refine s_iload_n dX5_lie_2 rfl rfl ?_
  refine s_iload_n dX5_lie_3 rfl rfl ?_
  refine s_iload dX5_lie_4 rfl ?_
  refine t_callV (M' := mX3_priceOf) (k := 1) (As := [.ref o, .int p1, .int p2, .int p3]) (rest := []) dX5_lie_6 ml_X5_56 miX3_priceOf msX3_priceOf (isLw_k ho0) (isLw_z ho0) rfl rfl (Nat.le_of_ble_eq_true rfl) (Nat.le_of_ble_eq_true rfl) rfl h (fun rv t1 q => ?_)
  obtain ⟨v2, rfl, h⟩ := q
  show Rt g (d + 1) mX5_lie 9 [some (.ref o), some (.ref o0), some (.int p1), some (.int p2), some (.int p3), none, none, none, none, none, none] [.int v2] t1 Q
  refine s_istore dX5_lie_9 (by decide) rfl (L9 := [some (.ref o), some (.ref o0), some (.int p1), some (.int p2), some (.int p3), some (.int v2), none, none, none, none, none]) rfl ?_
  refine s_iconst (v := 0) dX5_lie_11 (by decide) ?_
  refine s_istore dX5_lie_12 (by decide) rfl (L9 := [some (.ref o), some (.ref o0), some (.int p1), some (.int p2), some (.int p3), some (.int v2), some (.int 0), none, none, none, none]) rfl ?_
  refine s_iconst (v := 0) dX5_lie_14 (by decide) ?_
  refine s_istore dX5_lie_15 (by decide) rfl (L9 := [some (.ref o), some (.ref o0), some (.int p1), some (.int p2), some (.int p3), some (.int v2), some (.int 0), some (.int 0), none, none, none]) rfl ?_
  exact Rt.lc h (lc_some (lc_none (lc_some (lc_none (lc_some (lc_some (lc_some (lc_some (lc_none (lc_none (lc_none lc_nil)))))))))))
theorem bX5_lie_17 {g : Gt} {d : Nat} {t : Tt} {Q : Option Value → Tt → Prop} {o : Nat} (ho : isMo o) {x2 : Int32} {x4 : Int32} {x5 : Int32} {x6 : Int32} {x7 : Int32} (h : (8 ≤ x7 → Rt g (d + 1) mX5_lie 102 [some (.ref o), none, some (.int x2), none, none, none, some (.int x6), none, none, none, none] [] t Q) ∧ (¬ 8 ≤ x7 → (x5 ≤ x6 → Rt g (d + 1) mX5_lie 102 [some (.ref o), none, some (.int x2), none, none, none, some (.int x6), none, none, none, none] [] t Q) ∧ (¬ x5 ≤ x6 → ∀ z3 : Int32, z3 = (jr (x4 + x7) 8) → Rt g d mX5_isCapped 0 [some (.ref o), some (.int x2), some (.int z3)] [] t (QI (fun v5 t4 => (¬ v5 = 0 → Rt g (d + 1) mX5_lie 96 [some (.ref o), none, some (.int x2), none, some (.int x4), some (.int x5), some (.int x6), some (.int x7), none, none, none] [] t4 Q) ∧ (v5 = 0 → ∀ z7 : Int32, z7 = ((x2 * 8) + z3) → vp_in z7 56 ∧ (∀ z9 : Int32, z9 = (imin (x5 - x6) (t4.1 (o + 1) z7.toNatClampNeg)) → vp_in z7 56 ∧ (vp_in z7 56 ∧ (∀ z12 : Int32, z12 = (x6 + z9) → Rt g (d + 1) mX5_lie 96 [some (.ref o), none, some (.int x2), none, some (.int x4), some (.int x5), some (.int z12), some (.int x7), none, none, none] [] (pI t4 (o + 1) z7.toNatClampNeg ((t4.1 (o + 1) z7.toNatClampNeg) - z9)) Q))))))))) : Rt g (d + 1) mX5_lie 17 [some (.ref o), none, some (.int x2), none, some (.int x4), some (.int x5), some (.int x6), some (.int x7), none, none, none] [] t Q := by
  refine s_iload dX5_lie_17 rfl ?_
  refine s_bipush (v := 8) dX5_lie_19 (by decide) ?_
  refine s_icmp_ge (tgt := 102) dX5_lie_21 (by decide) (fun c1 => ?_) (fun c1 => ?_)
  · replace h := h.1 c1
    exact Rt.lc h (lc_some (lc_none (lc_some (lc_none (lc_none (lc_none (lc_some (lc_none (lc_none (lc_none (lc_none lc_nil)))))))))))
  · replace h := h.2 c1
    refine s_iload dX5_lie_24 rfl ?_
    refine s_iload dX5_lie_26 rfl ?_
    refine s_icmp_ge (tgt := 102) dX5_lie_28 (by decide) (fun c2 => ?_) (fun c2 => ?_)
    · replace h := h.1 c2
      exact Rt.lc h (lc_some (lc_none (lc_some (lc_none (lc_none (lc_none (lc_some (lc_none (lc_none (lc_none (lc_none lc_nil)))))))))))
    · replace h := h.2 c2
      refine s_iload dX5_lie_31 rfl ?_
      refine s_iload dX5_lie_33 rfl ?_
      refine s_iadd dX5_lie_35 ?_
      refine s_bipush (v := 8) dX5_lie_36 (by decide) ?_
      refine s_irem dX5_lie_38 (by decide) ?_
      refine t_nmI (fun z3 ez3 => ?_)
      replace h := h z3 ez3
      refine s_istore dX5_lie_39 (by decide) rfl (L9 := [some (.ref o), none, some (.int x2), none, some (.int x4), some (.int x5), some (.int x6), some (.int x7), some (.int z3), none, none]) rfl ?_
      refine s_aload_n dX5_lie_41 rfl rfl ?_
      refine s_iload_n dX5_lie_42 rfl rfl ?_
      refine s_iload dX5_lie_43 rfl ?_
      refine t_callV (M' := mX5_isCapped) (k := 0) (As := [.int x2, .int z3]) (rest := []) dX5_lie_45 ml_X5_62 miX5_isCapped msX5_isCapped (isMo_k ho) (isMo_z ho) rfl rfl (Nat.le_of_ble_eq_true rfl) (Nat.le_of_ble_eq_true rfl) rfl h (fun rv t4 q => ?_)
      obtain ⟨v5, rfl, h⟩ := q
      show Rt g (d + 1) mX5_lie 48 [some (.ref o), none, some (.int x2), none, some (.int x4), some (.int x5), some (.int x6), some (.int x7), some (.int z3), none, none] [.int v5] t4 Q
      refine s_if_ne (tgt := 96) dX5_lie_48 (by decide) (fun c6 => ?_) (fun c6 => ?_)
      · replace h := h.1 c6
        exact Rt.lc h (lc_some (lc_none (lc_some (lc_none (lc_some (lc_some (lc_some (lc_some (lc_none (lc_none (lc_none lc_nil)))))))))))
      · replace h := h.2 c6
        refine s_iload_n dX5_lie_51 rfl rfl ?_
        refine s_bipush (v := 8) dX5_lie_52 (by decide) ?_
        refine s_imul dX5_lie_54 ?_
        refine s_iload dX5_lie_55 rfl ?_
        refine s_iadd dX5_lie_57 ?_
        refine t_nmI (fun z7 ez7 => ?_)
        replace h := h z7 ez7
        refine s_istore dX5_lie_58 (by decide) rfl (L9 := [some (.ref o), none, some (.int x2), none, some (.int x4), some (.int x5), some (.int x6), some (.int x7), some (.int z3), some (.int z7), none]) rfl ?_
        refine s_iload dX5_lie_60 rfl ?_
        refine s_iload dX5_lie_62 rfl ?_
        refine s_isub dX5_lie_64 ?_
        refine s_aload_n dX5_lie_65 rfl rfl ?_
        refine t_getR dX5_lie_66 fl_X5_15 (isMo_k ho) (isMo_z ho) rfl (isMo_r2 _ ho) ?_
        refine s_iload dX5_lie_69 rfl ?_
        obtain ⟨g8, h⟩ := h
        refine t_iald dX5_lie_71 (isMo_k2 ho) (isMo_z2 ho) g8 ?_
        refine t_min dX5_lie_72 mmin_X5_66 (Nat.le_of_ble_eq_true rfl) ?_
        refine t_nmI (fun z9 ez9 => ?_)
        replace h := h z9 ez9
        refine s_istore dX5_lie_75 (by decide) rfl (L9 := [some (.ref o), none, some (.int x2), none, some (.int x4), some (.int x5), some (.int x6), some (.int x7), some (.int z3), some (.int z7), some (.int z9)]) rfl ?_
        refine s_aload_n dX5_lie_77 rfl rfl ?_
        refine t_getR dX5_lie_78 fl_X5_15 (isMo_k ho) (isMo_z ho) rfl (isMo_r2 _ ho) ?_
        refine s_iload dX5_lie_81 rfl ?_
        refine s_dup2 dX5_lie_83 rfl rfl ?_
        obtain ⟨g10, h⟩ := h
        refine t_iald dX5_lie_84 (isMo_k2 ho) (isMo_z2 ho) g10 ?_
        refine s_iload dX5_lie_85 rfl ?_
        refine s_isub dX5_lie_87 ?_
        obtain ⟨g11, h⟩ := h
        refine t_iast dX5_lie_88 (isMo_k2 ho) (isMo_z2 ho) g11 ?_
        refine s_iload dX5_lie_89 rfl ?_
        refine s_iload dX5_lie_91 rfl ?_
        refine s_iadd dX5_lie_93 ?_
        refine t_nmI (fun z12 ez12 => ?_)
        replace h := h z12 ez12
        refine s_istore dX5_lie_94 (by decide) rfl (L9 := [some (.ref o), none, some (.int x2), none, some (.int x4), some (.int x5), some (.int z12), some (.int x7), some (.int z3), some (.int z7), some (.int z9)]) rfl ?_
        exact Rt.lc h (lc_some (lc_none (lc_some (lc_none (lc_some (lc_some (lc_some (lc_some (lc_none (lc_none (lc_none lc_nil)))))))))))
theorem bX5_lie_102 {g : Gt} {d : Nat} {t : Tt} {Q : Option Value → Tt → Prop} {o : Nat} (ho : isMo o) {x2 : Int32} {x6 : Int32} (h : vp_in x2 7 ∧ (vp_in x2 7 ∧ Q (some (.int x6)) (pI t (o + 3) x2.toNatClampNeg ((t.1 (o + 3) x2.toNatClampNeg) + 1)))) : Rt g (d + 1) mX5_lie 102 [some (.ref o), none, some (.int x2), none, none, none, some (.int x6), none, none, none, none] [] t Q := by
  refine s_aload_n dX5_lie_102 rfl rfl ?_
  refine t_getR dX5_lie_103 fl_X5_22 (isMo_k ho) (isMo_z ho) rfl (isMo_r4 _ ho) ?_
  refine s_iload_n dX5_lie_106 rfl rfl ?_
  refine s_dup2 dX5_lie_107 rfl rfl ?_
  obtain ⟨g1, h⟩ := h
  refine t_iald dX5_lie_108 (isMo_k4 ho) (isMo_z4 ho) g1 ?_
  refine s_iconst (v := 1) dX5_lie_109 (by decide) ?_
  refine s_iadd dX5_lie_110 ?_
  obtain ⟨g2, h⟩ := h
  refine t_iast dX5_lie_111 (isMo_k4 ho) (isMo_z4 ho) g2 ?_
  refine s_iload dX5_lie_112 rfl ?_
  exact t_iret dX5_lie_114 (NR_i rfl _) h
theorem bX5_lie_96 {g : Gt} {d : Nat} {t : Tt} {Q : Option Value → Tt → Prop} {o : Nat} (ho : isMo o) {x2 : Int32} {x4 : Int32} {x5 : Int32} {x6 : Int32} {x7 : Int32} (h : Rt g (d + 1) mX5_lie 17 [some (.ref o), none, some (.int x2), none, some (.int x4), some (.int x5), some (.int x6), some (.int (x7 + 1)), none, none, none] [] t Q) : Rt g (d + 1) mX5_lie 96 [some (.ref o), none, some (.int x2), none, some (.int x4), some (.int x5), some (.int x6), some (.int x7), none, none, none] [] t Q := by
  refine s_iinc (w := x7 + 1) dX5_lie_96 rfl (by rfl) (by decide) rfl (L9 := [some (.ref o), none, some (.int x2), none, some (.int x4), some (.int x5), some (.int x6), some (.int (x7 + 1)), none, none, none]) rfl ?_
  refine s_goto (tgt := 17) dX5_lie_99 (by decide) ?_
  exact h
theorem bX5_exchange_0 {g : Gt} {d : Nat} {t : Tt} {Q : Option Value → Tt → Prop} {o : Nat} (ho : isMo o) {p0 : Int32} {p1 : Int32} {p2 : Int32} (h : vp_in ((p0 * 8) + p2) 56 ∧ (∀ z2 : Int32, z2 = (t.1 (o + 1) ((p0 * 8) + p2).toNatClampNeg) → vp_in ((p1 * 8) + p2) 56 ∧ (vp_in ((p0 * 8) + p2) 56 ∧ (vp_in ((p1 * 8) + p2) 56 ∧ (Rt g d mX5_isCapped 0 [some (.ref o), some (.int p0), some (.int p2)] [] (pI (pI t (o + 1) ((p0 * 8) + p2).toNatClampNeg (t.1 (o + 1) ((p1 * 8) + p2).toNatClampNeg)) (o + 1) ((p1 * 8) + p2).toNatClampNeg z2) (QI (fun v7 t6 => Rt g d mX5_isCapped 0 [some (.ref o), some (.int p1), some (.int p2)] [] t6 (QI (fun v9 t8 => (v7 = v9 → Q none t8) ∧ (¬ v7 = v9 → vp_in p0 7 ∧ (vp_in p0 7 ∧ (vp_in p1 7 ∧ (vp_in p1 7 ∧ Q none (pI (pI t8 (o + 2) p0.toNatClampNeg ((t8.1 (o + 2) p0.toNatClampNeg) ^^^ (jsl 1 p2))) (o + 2) p1.toNatClampNeg (((pI t8 (o + 2) p0.toNatClampNeg ((t8.1 (o + 2) p0.toNatClampNeg) ^^^ (jsl 1 p2))).1 (o + 2) p1.toNatClampNeg) ^^^ (jsl 1 p2)))))))))))))))) : Rt g (d + 1) mX5_exchange 0 [some (.ref o), some (.int p0), some (.int p1), some (.int p2), none] [] t Q := by
  refine s_aload_n dX5_exchange_0 rfl rfl ?_
  refine t_getR dX5_exchange_1 fl_X5_15 (isMo_k ho) (isMo_z ho) rfl (isMo_r2 _ ho) ?_
  refine s_iload_n dX5_exchange_4 rfl rfl ?_
  refine s_bipush (v := 8) dX5_exchange_5 (by decide) ?_
  refine s_imul dX5_exchange_7 ?_
  refine s_iload_n dX5_exchange_8 rfl rfl ?_
  refine s_iadd dX5_exchange_9 ?_
  obtain ⟨g1, h⟩ := h
  refine t_iald dX5_exchange_10 (isMo_k2 ho) (isMo_z2 ho) g1 ?_
  refine t_nmI (fun z2 ez2 => ?_)
  replace h := h z2 ez2
  refine s_istore dX5_exchange_11 (by decide) rfl (L9 := [some (.ref o), some (.int p0), some (.int p1), some (.int p2), some (.int z2)]) rfl ?_
  refine s_aload_n dX5_exchange_13 rfl rfl ?_
  refine t_getR dX5_exchange_14 fl_X5_15 (isMo_k ho) (isMo_z ho) rfl (isMo_r2 _ ho) ?_
  refine s_iload_n dX5_exchange_17 rfl rfl ?_
  refine s_bipush (v := 8) dX5_exchange_18 (by decide) ?_
  refine s_imul dX5_exchange_20 ?_
  refine s_iload_n dX5_exchange_21 rfl rfl ?_
  refine s_iadd dX5_exchange_22 ?_
  refine s_aload_n dX5_exchange_23 rfl rfl ?_
  refine t_getR dX5_exchange_24 fl_X5_15 (isMo_k ho) (isMo_z ho) rfl (isMo_r2 _ ho) ?_
  refine s_iload_n dX5_exchange_27 rfl rfl ?_
  refine s_bipush (v := 8) dX5_exchange_28 (by decide) ?_
  refine s_imul dX5_exchange_30 ?_
  refine s_iload_n dX5_exchange_31 rfl rfl ?_
  refine s_iadd dX5_exchange_32 ?_
  obtain ⟨g3, h⟩ := h
  refine t_iald dX5_exchange_33 (isMo_k2 ho) (isMo_z2 ho) g3 ?_
  obtain ⟨g4, h⟩ := h
  refine t_iast dX5_exchange_34 (isMo_k2 ho) (isMo_z2 ho) g4 ?_
  refine s_aload_n dX5_exchange_35 rfl rfl ?_
  refine t_getR dX5_exchange_36 fl_X5_15 (isMo_k ho) (isMo_z ho) rfl (isMo_r2 _ ho) ?_
  refine s_iload_n dX5_exchange_39 rfl rfl ?_
  refine s_bipush (v := 8) dX5_exchange_40 (by decide) ?_
  refine s_imul dX5_exchange_42 ?_
  refine s_iload_n dX5_exchange_43 rfl rfl ?_
  refine s_iadd dX5_exchange_44 ?_
  refine s_iload dX5_exchange_45 rfl ?_
  obtain ⟨g5, h⟩ := h
  refine t_iast dX5_exchange_47 (isMo_k2 ho) (isMo_z2 ho) g5 ?_
  refine s_aload_n dX5_exchange_48 rfl rfl ?_
  refine s_iload_n dX5_exchange_49 rfl rfl ?_
  refine s_iload_n dX5_exchange_50 rfl rfl ?_
  refine t_callV (M' := mX5_isCapped) (k := 0) (As := [.int p0, .int p2]) (rest := []) dX5_exchange_51 ml_X5_62 miX5_isCapped msX5_isCapped (isMo_k ho) (isMo_z ho) rfl rfl (Nat.le_of_ble_eq_true rfl) (Nat.le_of_ble_eq_true rfl) rfl h (fun rv t6 q => ?_)
  obtain ⟨v7, rfl, h⟩ := q
  show Rt g (d + 1) mX5_exchange 54 [some (.ref o), some (.int p0), some (.int p1), some (.int p2), some (.int z2)] [.int v7] t6 Q
  refine s_aload_n dX5_exchange_54 rfl rfl ?_
  refine s_iload_n dX5_exchange_55 rfl rfl ?_
  refine s_iload_n dX5_exchange_56 rfl rfl ?_
  refine t_callV (M' := mX5_isCapped) (k := 0) (As := [.int p1, .int p2]) (rest := [.int v7]) dX5_exchange_57 ml_X5_62 miX5_isCapped msX5_isCapped (isMo_k ho) (isMo_z ho) rfl rfl (Nat.le_of_ble_eq_true rfl) (Nat.le_of_ble_eq_true rfl) rfl h (fun rv t8 q => ?_)
  obtain ⟨v9, rfl, h⟩ := q
  show Rt g (d + 1) mX5_exchange 60 [some (.ref o), some (.int p0), some (.int p1), some (.int p2), some (.int z2)] [.int v9, .int v7] t8 Q
  refine s_icmp_eq (tgt := 87) dX5_exchange_60 (by decide) (fun c10 => ?_) (fun c10 => ?_)
  · replace h := h.1 c10
    exact t_vret dX5_exchange_87 rfl h
  · replace h := h.2 c10
    refine s_aload_n dX5_exchange_63 rfl rfl ?_
    refine t_getR dX5_exchange_64 fl_X5_19 (isMo_k ho) (isMo_z ho) rfl (isMo_r3 _ ho) ?_
    refine s_iload_n dX5_exchange_67 rfl rfl ?_
    refine s_dup2 dX5_exchange_68 rfl rfl ?_
    obtain ⟨g11, h⟩ := h
    refine t_iald dX5_exchange_69 (isMo_k3 ho) (isMo_z3 ho) g11 ?_
    refine s_iconst (v := 1) dX5_exchange_70 (by decide) ?_
    refine s_iload_n dX5_exchange_71 rfl rfl ?_
    refine s_ishl dX5_exchange_72 ?_
    refine s_ixor dX5_exchange_73 ?_
    obtain ⟨g12, h⟩ := h
    refine t_iast dX5_exchange_74 (isMo_k3 ho) (isMo_z3 ho) g12 ?_
    refine s_aload_n dX5_exchange_75 rfl rfl ?_
    refine t_getR dX5_exchange_76 fl_X5_19 (isMo_k ho) (isMo_z ho) rfl (isMo_r3 _ ho) ?_
    refine s_iload_n dX5_exchange_79 rfl rfl ?_
    refine s_dup2 dX5_exchange_80 rfl rfl ?_
    obtain ⟨g13, h⟩ := h
    refine t_iald dX5_exchange_81 (isMo_k3 ho) (isMo_z3 ho) g13 ?_
    refine s_iconst (v := 1) dX5_exchange_82 (by decide) ?_
    refine s_iload_n dX5_exchange_83 rfl rfl ?_
    refine s_ishl dX5_exchange_84 ?_
    refine s_ixor dX5_exchange_85 ?_
    obtain ⟨g14, h⟩ := h
    refine t_iast dX5_exchange_86 (isMo_k3 ho) (isMo_z3 ho) g14 ?_
    exact t_vret dX5_exchange_87 rfl h
theorem bX6_becomeRow_0 {g : Gt} {d : Nat} {t : Tt} {Q : Option Value → Tt → Prop} {o : Nat} (ho : isSh o) {p0 : Int32} {p1 : Int32} (h : Rt g d mX6_becomeRow 12 [some (.ref o), none, none, some (.int 0)] [] (pI (pI t o 0 p0) o 1 p1) Q) : Rt g d mX6_becomeRow 0 [some (.ref o), some (.int p0), some (.int p1), none] [] t Q := by
  refine s_aload_n dX6_becomeRow_0 rfl rfl ?_
  refine s_iload_n dX6_becomeRow_1 rfl rfl ?_
  refine t_putI dX6_becomeRow_2 fl_X6_9 (isSh_k ho) (isSh_z ho) rfl rfl rfl rfl ?_
  refine s_aload_n dX6_becomeRow_5 rfl rfl ?_
  refine s_iload_n dX6_becomeRow_6 rfl rfl ?_
  refine t_putI dX6_becomeRow_7 fl_X6_17 (isSh_k ho) (isSh_z ho) rfl rfl rfl rfl ?_
  refine s_iconst (v := 0) dX6_becomeRow_10 (by decide) ?_
  refine s_istore_n dX6_becomeRow_11 rfl (by decide) rfl (L9 := [some (.ref o), some (.int p0), some (.int p1), some (.int 0)]) rfl ?_
  exact Rt.lc h (lc_some (lc_none (lc_none (lc_some lc_nil))))
theorem bX6_becomeRow_12 {g : Gt} {d : Nat} {t : Tt} {Q : Option Value → Tt → Prop} {o : Nat} (ho : isSh o) {x3 : Int32} (h : (60 ≤ x3 → Q none t) ∧ (¬ 60 ≤ x3 → vp_in x3 60 ∧ Rt g d mX6_becomeRow 12 [some (.ref o), none, none, some (.int (x3 + 1))] [] (pJ t (o + 1) x3.toNatClampNeg 0) Q)) : Rt g d mX6_becomeRow 12 [some (.ref o), none, none, some (.int x3)] [] t Q := by
  refine s_iload_n dX6_becomeRow_12 rfl rfl ?_
  refine s_bipush (v := 60) dX6_becomeRow_13 (by decide) ?_
  refine s_icmp_ge (tgt := 31) dX6_becomeRow_15 (by decide) (fun c1 => ?_) (fun c1 => ?_)
  · replace h := h.1 c1
    exact t_vret dX6_becomeRow_31 rfl h
  · replace h := h.2 c1
    refine s_aload_n dX6_becomeRow_18 rfl rfl ?_
    refine t_getR dX6_becomeRow_19 fl_X6_13 (isSh_k ho) (isSh_z ho) rfl (isSh_r3 _ ho) ?_
    refine s_iload_n dX6_becomeRow_22 rfl rfl ?_
    refine s_lconst (v := 0) dX6_becomeRow_23 rfl ?_
    obtain ⟨g2, h⟩ := h
    refine t_last dX6_becomeRow_24 (isSh_k3 ho) (isSh_z3 ho) g2 ?_
    refine s_iinc (w := x3 + 1) dX6_becomeRow_25 rfl (by rfl) (by decide) rfl (L9 := [some (.ref o), none, none, some (.int (x3 + 1))]) rfl ?_
    refine s_goto (tgt := 12) dX6_becomeRow_28 (by decide) ?_
    exact h
theorem bX6_lacks_0 {g : Gt} {d : Nat} {t : Tt} {Q : Option Value → Tt → Prop} {o : Nat} (ho : isSh o) {p0 : Int32} {p1 : Int32} (h : (p0 < 0 → Rt g d mX6_lacks 18 [none, none, none] [] t Q) ∧ (¬ p0 < 0 → (p1 < 0 → Rt g d mX6_lacks 18 [none, none, none] [] t Q) ∧ (¬ p1 < 0 → (p1 ≤ ((t.1 o 1) - p0) → Q (some (.int 0)) t) ∧ (¬ p1 ≤ ((t.1 o 1) - p0) → Rt g d mX6_lacks 18 [none, none, none] [] t Q)))) : Rt g d mX6_lacks 0 [some (.ref o), some (.int p0), some (.int p1)] [] t Q := by
  refine s_iload_n dX6_lacks_0 rfl rfl ?_
  refine s_if_lt (tgt := 18) dX6_lacks_1 (by decide) (fun c1 => ?_) (fun c1 => ?_)
  · replace h := h.1 c1
    exact Rt.lc h (lc_none (lc_none (lc_none lc_nil)))
  · replace h := h.2 c1
    refine s_iload_n dX6_lacks_4 rfl rfl ?_
    refine s_if_lt (tgt := 18) dX6_lacks_5 (by decide) (fun c2 => ?_) (fun c2 => ?_)
    · replace h := h.1 c2
      exact Rt.lc h (lc_none (lc_none (lc_none lc_nil)))
    · replace h := h.2 c2
      refine s_iload_n dX6_lacks_8 rfl rfl ?_
      refine s_aload_n dX6_lacks_9 rfl rfl ?_
      refine t_getI dX6_lacks_10 fl_X6_17 (isSh_k ho) (isSh_z ho) rfl ?_
      refine s_iload_n dX6_lacks_13 rfl rfl ?_
      refine s_isub dX6_lacks_14 ?_
      refine s_icmp_le (tgt := 22) dX6_lacks_15 (by decide) (fun c3 => ?_) (fun c3 => ?_)
      · replace h := h.1 c3
        refine s_iconst (v := 0) dX6_lacks_22 (by decide) ?_
        exact t_iret dX6_lacks_23 (NR_z rfl (Or.inl rfl)) h
      · replace h := h.2 c3
        exact Rt.lc h (lc_none (lc_none (lc_none lc_nil)))
theorem bX6_lacks_18 {g : Gt} {d : Nat} {t : Tt} {Q : Option Value → Tt → Prop} (h : Q (some (.int 1)) t) : Rt g d mX6_lacks 18 [none, none, none] [] t Q := by
  refine s_iconst (v := 1) dX6_lacks_18 (by decide) ?_
  refine s_goto (tgt := 23) dX6_lacks_19 (by decide) ?_
  exact t_iret dX6_lacks_23 (NR_z rfl (Or.inr rfl)) h
theorem bX6_narrowed_0 {g : Gt} {d : Nat} {t : Tt} {Q : Option Value → Tt → Prop} {p0 : Int32} {p1 : Int64} (h : (p0 = 0 → Q (some (.long (((p1.toInt32).toInt8.toInt32).toInt64))) t) ∧ (¬ p0 = 0 → (p0 = 1 → Q (some (.long (((p1.toInt32).toInt16.toInt32).toInt64))) t) ∧ (¬ p0 = 1 → (p0 = 2 → Q (some (.long ((p1.toInt32).toInt64))) t) ∧ (¬ p0 = 2 → (p0 = 3 → Q (some (.long p1)) t) ∧ (¬ p0 = 3 → (p1 = 0 → Q (some (.long 0)) t) ∧ (¬ p1 = 0 → Q (some (.long 1)) t)))))) : Rt g d mX6_narrowed 0 [some (.int p0), some (.long p1), none] [] t Q := by
  refine s_iload_n dX6_narrowed_0 rfl rfl ?_
  by_cases c1 : p0 = 0
  · replace h := h.1 c1
    refine s_tin (off := 31) (tgt := 32) dX6_narrowed_1 (by rw [c1]; decide) (by rw [c1]; decide) (by rw [c1]; rfl) (by decide) ?_
    refine s_lload_n dX6_narrowed_32 rfl rfl ?_
    refine s_l2i dX6_narrowed_33 ?_
    refine s_i2b dX6_narrowed_34 ?_
    refine s_i2l dX6_narrowed_35 ?_
    exact t_lret dX6_narrowed_36 rfl h
  · replace h := h.2 c1
    by_cases c2 : p0 = 1
    · replace h := h.1 c2
      refine s_tin (off := 36) (tgt := 37) dX6_narrowed_1 (by rw [c2]; decide) (by rw [c2]; decide) (by rw [c2]; rfl) (by decide) ?_
      refine s_lload_n dX6_narrowed_37 rfl rfl ?_
      refine s_l2i dX6_narrowed_38 ?_
      refine s_i2s dX6_narrowed_39 ?_
      refine s_i2l dX6_narrowed_40 ?_
      exact t_lret dX6_narrowed_41 rfl h
    · replace h := h.2 c2
      by_cases c3 : p0 = 2
      · replace h := h.1 c3
        refine s_tin (off := 41) (tgt := 42) dX6_narrowed_1 (by rw [c3]; decide) (by rw [c3]; decide) (by rw [c3]; rfl) (by decide) ?_
        refine s_lload_n dX6_narrowed_42 rfl rfl ?_
        refine s_l2i dX6_narrowed_43 ?_
        refine s_i2l dX6_narrowed_44 ?_
        exact t_lret dX6_narrowed_45 rfl h
      · replace h := h.2 c3
        by_cases c4 : p0 = 3
        · replace h := h.1 c4
          refine s_tin (off := 45) (tgt := 46) dX6_narrowed_1 (by rw [c4]; decide) (by rw [c4]; decide) (by rw [c4]; rfl) (by decide) ?_
          refine s_lload_n dX6_narrowed_46 rfl rfl ?_
          exact t_lret dX6_narrowed_47 rfl h
        · replace h := h.2 c4
          refine s_tout (tgt := 48) dX6_narrowed_1 (by have q0 := lv_neT c1 (a := 0) rfl; have q1 := lv_neT c2 (a := 1) rfl; have q2 := lv_neT c3 (a := 2) rfl; have q3 := lv_neT c4 (a := 3) rfl; omega) (by decide) ?_
          refine s_lload_n dX6_narrowed_48 rfl rfl ?_
          refine s_lconst (v := 0) dX6_narrowed_49 rfl ?_
          refine t_cmp_eq (tgt := 58) dX6_narrowed_50 dX6_narrowed_51 (by decide) (fun c5 => ?_) (fun c5 => ?_)
          · replace h := h.1 c5
            refine s_lconst (v := 0) dX6_narrowed_58 rfl ?_
            exact t_lret dX6_narrowed_59 rfl h
          · replace h := h.2 c5
            refine s_lconst (v := 1) dX6_narrowed_54 rfl ?_
            refine s_goto (tgt := 59) dX6_narrowed_55 (by decide) ?_
            exact t_lret dX6_narrowed_59 rfl h
theorem bX7_person_0 {g : Gt} {d : Nat} {t : Tt} {Q : Option Value → Tt → Prop} {p0 : Int32} (h : Rt g d mX7_outside 0 [some (.int p0), some (.int 9)] [] t (QI (fun v2 t1 => (v2 = 0 → ((t1.1 1 0) < 7 → Rt g d mX5_newcomer 0 [some (.ref 1), some (.int 0), none] [] t1 (QI (fun v6 t5 => Rt g (d + 1) mX7_person 37 [some (.ref 0), some (.int p0), some (.int v6), some (.int 0)] [] t5 Q))) ∧ (¬ (t1.1 1 0) < 7 → Q (some (.int (-3))) t1)) ∧ (¬ v2 = 0 → Q (some (.int (-1))) t1)))) : Rt g (d + 1) mX7_person 0 [some (.ref 0), some (.int p0), none, none] [] t Q := by
  refine s_iload_n dX7_person_0 rfl rfl ?_
  refine s_bipush (v := 9) dX7_person_1 (by decide) ?_
  refine t_callS (M' := mX7_outside) (k := 0) (As := [.int p0, .int 9]) (rest := []) dX7_person_3 ml_X7_71 mstX7_outside rfl (Nat.le_of_ble_eq_true rfl) (Nat.le_of_ble_eq_true rfl) rfl h (fun rv t1 q => ?_)
  obtain ⟨v2, rfl, h⟩ := q
  show Rt g (d + 1) mX7_person 6 [some (.ref 0), some (.int p0), none, none] [.int v2] t1 Q
  refine s_if_eq (tgt := 11) dX7_person_6 (by decide) (fun c3 => ?_) (fun c3 => ?_)
  · replace h := h.1 c3
    refine s_aload_n dX7_person_11 rfl rfl ?_
    refine t_getR (o' := 1) dX7_person_12 fl_X7_10 rfl (by decide) rfl rfl ?_
    refine t_getI dX7_person_15 fl_X7_75 rfl (by decide) rfl ?_
    refine s_bipush (v := 7) dX7_person_18 (by decide) ?_
    refine s_icmp_lt (tgt := 26) dX7_person_20 (by decide) (fun c4 => ?_) (fun c4 => ?_)
    · replace h := h.1 c4
      refine s_aload_n dX7_person_26 rfl rfl ?_
      refine t_getR (o' := 1) dX7_person_27 fl_X7_10 rfl (by decide) rfl rfl ?_
      refine s_iconst (v := 0) dX7_person_30 (by decide) ?_
      refine t_callV (M' := mX5_newcomer) (k := 1) (As := [.int 0]) (rest := []) dX7_person_31 ml_X7_79 miX5_newcomer msX5_newcomer rfl (by decide) rfl rfl (Nat.le_of_ble_eq_true rfl) (Nat.le_of_ble_eq_true rfl) rfl h (fun rv t5 q => ?_)
      obtain ⟨v6, rfl, h⟩ := q
      show Rt g (d + 1) mX7_person 34 [some (.ref 0), some (.int p0), none, none] [.int v6] t5 Q
      refine s_istore_n dX7_person_34 rfl (by decide) rfl (L9 := [some (.ref 0), some (.int p0), some (.int v6), none]) rfl ?_
      refine s_iconst (v := 0) dX7_person_35 (by decide) ?_
      refine s_istore_n dX7_person_36 rfl (by decide) rfl (L9 := [some (.ref 0), some (.int p0), some (.int v6), some (.int 0)]) rfl ?_
      exact h
    · replace h := h.2 c4
      refine s_bipush (v := (-3)) dX7_person_23 (by decide) ?_
      exact t_iret dX7_person_25 (NR_i rfl _) h
  · replace h := h.2 c3
    refine s_iconst (v := (-1)) dX7_person_9 (by decide) ?_
    exact t_iret dX7_person_10 (NR_i rfl _) h
theorem bX7_person_37 {g : Gt} {d : Nat} {t : Tt} {Q : Option Value → Tt → Prop} {x1 : Int32} {x2 : Int32} {x3 : Int32} (h : (8 ≤ x3 → Q (some (.int x2)) t) ∧ (¬ 8 ≤ x3 → vp_in ((x2 * 8) + x3) 56 ∧ Rt g (d + 1) mX7_person 37 [some (.ref 0), some (.int x1), some (.int x2), some (.int (x3 + 1))] [] (pI t 2 ((x2 * 8) + x3).toNatClampNeg x1) Q)) : Rt g (d + 1) mX7_person 37 [some (.ref 0), some (.int x1), some (.int x2), some (.int x3)] [] t Q := by
  refine s_iload_n dX7_person_37 rfl rfl ?_
  refine s_bipush (v := 8) dX7_person_38 (by decide) ?_
  refine s_icmp_ge (tgt := 64) dX7_person_40 (by decide) (fun c1 => ?_) (fun c1 => ?_)
  · replace h := h.1 c1
    refine s_iload_n dX7_person_64 rfl rfl ?_
    exact t_iret dX7_person_65 (NR_i rfl _) h
  · replace h := h.2 c1
    refine s_aload_n dX7_person_43 rfl rfl ?_
    refine t_getR (o' := 1) dX7_person_44 fl_X7_10 rfl (by decide) rfl rfl ?_
    refine t_getR (o' := 2) dX7_person_47 fl_X7_83 rfl (by decide) rfl rfl ?_
    refine s_iload_n dX7_person_50 rfl rfl ?_
    refine s_bipush (v := 8) dX7_person_51 (by decide) ?_
    refine s_imul dX7_person_53 ?_
    refine s_iload_n dX7_person_54 rfl rfl ?_
    refine s_iadd dX7_person_55 ?_
    refine s_iload_n dX7_person_56 rfl rfl ?_
    obtain ⟨g2, h⟩ := h
    refine t_iast dX7_person_57 rfl (by decide) g2 ?_
    refine s_iinc (w := x3 + 1) dX7_person_58 rfl (by rfl) (by decide) rfl (L9 := [some (.ref 0), some (.int x1), some (.int x2), some (.int (x3 + 1))]) rfl ?_
    refine s_goto (tgt := 37) dX7_person_61 (by decide) ?_
    exact h
theorem bX7_people_0 {g : Gt} {d : Nat} {t : Tt} {Q : Option Value → Tt → Prop} {p0 : Int32} {p1 : Int32} {p2 : Int32} (h : Rt g d mX7_noShelf 0 [some (.int p0)] [] t (QI (fun v2 t1 => (¬ v2 = 0 → Q (some (.int (-1))) t1) ∧ (v2 = 0 → (p2 < 1 → Q (some (.int (-1))) t1) ∧ (¬ p2 < 1 → (p2 ≤ 7 → vp_in p0 6 ∧ ((¬ (t1.1 (45 + 2 * p0.toNatClampNeg) 0) = (-2) → ((t1.1 (45 + 2 * p0.toNatClampNeg) 0) = 0 → Rt g (d + 1) mX7_people 57 [some (.ref 0), none, none, some (.int p2), some (.ref (45 + 2 * p0.toNatClampNeg)), some (.int 0), some (.int p1)] [] t1 Q) ∧ (¬ (t1.1 (45 + 2 * p0.toNatClampNeg) 0) = 0 → Q (some (.int (-12))) t1)) ∧ ((t1.1 (45 + 2 * p0.toNatClampNeg) 0) = (-2) → Q (some (.int 0)) t1))) ∧ (¬ p2 ≤ 7 → Q (some (.int (-1))) t1)))))) : Rt g (d + 1) mX7_people 0 [some (.ref 0), some (.int p0), some (.int p1), some (.int p2), none, none, none] [] t Q := by
  refine s_iload_n dX7_people_0 rfl rfl ?_
  refine t_callS (M' := mX7_noShelf) (k := 0) (As := [.int p0]) (rest := []) dX7_people_1 ml_X7_86 mstX7_noShelf rfl (Nat.le_of_ble_eq_true rfl) (Nat.le_of_ble_eq_true rfl) rfl h (fun rv t1 q => ?_)
  obtain ⟨v2, rfl, h⟩ := q
  show Rt g (d + 1) mX7_people 4 [some (.ref 0), some (.int p0), some (.int p1), some (.int p2), none, none, none] [.int v2] t1 Q
  refine s_if_ne (tgt := 18) dX7_people_4 (by decide) (fun c3 => ?_) (fun c3 => ?_)
  · replace h := h.1 c3
    refine s_iconst (v := (-1)) dX7_people_18 (by decide) ?_
    exact t_iret dX7_people_19 (NR_i rfl _) h
  · replace h := h.2 c3
    refine s_iload_n dX7_people_7 rfl rfl ?_
    refine s_iconst (v := 1) dX7_people_8 (by decide) ?_
    refine s_icmp_lt (tgt := 18) dX7_people_9 (by decide) (fun c4 => ?_) (fun c4 => ?_)
    · replace h := h.1 c4
      refine s_iconst (v := (-1)) dX7_people_18 (by decide) ?_
      exact t_iret dX7_people_19 (NR_i rfl _) h
    · replace h := h.2 c4
      refine s_iload_n dX7_people_12 rfl rfl ?_
      refine s_bipush (v := 7) dX7_people_13 (by decide) ?_
      refine s_icmp_le (tgt := 20) dX7_people_15 (by decide) (fun c5 => ?_) (fun c5 => ?_)
      · replace h := h.1 c5
        refine s_aload_n dX7_people_20 rfl rfl ?_
        refine t_getR (o' := 30) dX7_people_21 fl_X7_45 rfl (by decide) rfl rfl ?_
        refine s_iload_n dX7_people_24 rfl rfl ?_
        obtain ⟨g6, h⟩ := h
        refine t_aald dX7_people_25 g6 rfl ?_
        refine s_astore dX7_people_26 (by decide) rfl (L9 := [some (.ref 0), some (.int p0), some (.int p1), some (.int p2), some (.ref (45 + 2 * p0.toNatClampNeg)), none, none]) rfl ?_
        refine s_aload dX7_people_28 rfl ?_
        refine t_getI dX7_people_30 fl_X7_90 (isSh_k (isSh_of g6)) (isSh_z (isSh_of g6)) rfl ?_
        refine s_bipush (v := (-2)) dX7_people_33 (by decide) ?_
        refine s_icmp_ne (tgt := 40) dX7_people_35 (by decide) (fun c7 => ?_) (fun c7 => ?_)
        · replace h := h.1 c7
          refine s_aload dX7_people_40 rfl ?_
          refine t_getI dX7_people_42 fl_X7_90 (isSh_k (isSh_of g6)) (isSh_z (isSh_of g6)) rfl ?_
          refine s_if_eq (tgt := 51) dX7_people_45 (by decide) (fun c8 => ?_) (fun c8 => ?_)
          · replace h := h.1 c8
            refine s_iconst (v := 0) dX7_people_51 (by decide) ?_
            refine s_istore dX7_people_52 (by decide) rfl (L9 := [some (.ref 0), some (.int p0), some (.int p1), some (.int p2), some (.ref (45 + 2 * p0.toNatClampNeg)), some (.int 0), none]) rfl ?_
            refine s_iload_n dX7_people_54 rfl rfl ?_
            refine s_istore dX7_people_55 (by decide) rfl (L9 := [some (.ref 0), some (.int p0), some (.int p1), some (.int p2), some (.ref (45 + 2 * p0.toNatClampNeg)), some (.int 0), some (.int p1)]) rfl ?_
            exact Rt.lc h (lc_some (lc_none (lc_none (lc_some (lc_some (lc_some (lc_some lc_nil)))))))
          · replace h := h.2 c8
            refine s_bipush (v := (-12)) dX7_people_48 (by decide) ?_
            exact t_iret dX7_people_50 (NR_i rfl _) h
        · replace h := h.2 c7
          refine s_iconst (v := 0) dX7_people_38 (by decide) ?_
          exact t_iret dX7_people_39 (NR_i rfl _) h
      · replace h := h.2 c5
        refine s_iconst (v := (-1)) dX7_people_18 (by decide) ?_
        exact t_iret dX7_people_19 (NR_i rfl _) h
theorem bX7_people_57 {g : Gt} {d : Nat} {t : Tt} {Q : Option Value → Tt → Prop} {x3 : Int32} {y4 : Nat} (hy4 : isSh y4) {x5 : Int32} {x6 : Int32} (h : (x3 ≤ x5 → Q (some (.int x5)) t) ∧ (¬ x3 ≤ x5 → (7 ≤ (t.1 1 0) → Q (some (.int x5)) t) ∧ (¬ 7 ≤ (t.1 1 0) → Rt g d mX7_isNine 0 [some (.ref y4), some (.int x6), none] [] t (QI (fun v4 t3 => (v4 = 0 → Q (some (.int x5)) t3) ∧ (¬ v4 = 0 → Rt g d mX7_comeFrom 0 [some (.ref 0), some (.ref y4), some (.int x6), none, none] [] t3 (QV (fun t6 => Rt g (d + 1) mX7_people 57 [some (.ref 0), none, none, some (.int x3), some (.ref y4), some (.int (x5 + 1)), some (.int (x6 + 9))] [] t6 Q)))))))) : Rt g (d + 1) mX7_people 57 [some (.ref 0), none, none, some (.int x3), some (.ref y4), some (.int x5), some (.int x6)] [] t Q := by
  refine s_iload dX7_people_57 rfl ?_
  refine s_iload_n dX7_people_59 rfl rfl ?_
  refine s_icmp_ge (tgt := 102) dX7_people_60 (by decide) (fun c1 => ?_) (fun c1 => ?_)
  · replace h := h.1 c1
    refine s_iload dX7_people_102 rfl ?_
    exact t_iret dX7_people_104 (NR_i rfl _) h
  · replace h := h.2 c1
    refine s_aload_n dX7_people_63 rfl rfl ?_
    refine t_getR (o' := 1) dX7_people_64 fl_X7_10 rfl (by decide) rfl rfl ?_
    refine t_getI dX7_people_67 fl_X7_75 rfl (by decide) rfl ?_
    refine s_bipush (v := 7) dX7_people_70 (by decide) ?_
    refine s_icmp_ge (tgt := 102) dX7_people_72 (by decide) (fun c2 => ?_) (fun c2 => ?_)
    · replace h := h.1 c2
      refine s_iload dX7_people_102 rfl ?_
      exact t_iret dX7_people_104 (NR_i rfl _) h
    · replace h := h.2 c2
      refine s_aload dX7_people_75 rfl ?_
      refine s_iload dX7_people_77 rfl ?_
      refine t_callS (M' := mX7_isNine) (k := 1) (As := [.ref y4, .int x6]) (rest := []) dX7_people_79 ml_X7_93 mstX7_isNine rfl (Nat.le_of_ble_eq_true rfl) (Nat.le_of_ble_eq_true rfl) rfl h (fun rv t3 q => ?_)
      obtain ⟨v4, rfl, h⟩ := q
      show Rt g (d + 1) mX7_people 82 [some (.ref 0), none, none, some (.int x3), some (.ref y4), some (.int x5), some (.int x6)] [.int v4] t3 Q
      refine s_if_eq (tgt := 102) dX7_people_82 (by decide) (fun c5 => ?_) (fun c5 => ?_)
      · replace h := h.1 c5
        refine s_iload dX7_people_102 rfl ?_
        exact t_iret dX7_people_104 (NR_i rfl _) h
      · replace h := h.2 c5
        refine s_aload_n dX7_people_85 rfl rfl ?_
        refine s_aload dX7_people_86 rfl ?_
        refine s_iload dX7_people_88 rfl ?_
        refine t_callV (M' := mX7_comeFrom) (k := 2) (As := [.ref y4, .int x6]) (rest := []) dX7_people_90 ml_X7_97 miX7_comeFrom msX7_comeFrom rfl (by decide) rfl rfl (Nat.le_of_ble_eq_true rfl) (Nat.le_of_ble_eq_true rfl) rfl h (fun rv t6 q => ?_)
        obtain ⟨rfl, h⟩ := q
        show Rt g (d + 1) mX7_people 93 [some (.ref 0), none, none, some (.int x3), some (.ref y4), some (.int x5), some (.int x6)] [] t6 Q
        refine s_iinc (w := x5 + 1) dX7_people_93 rfl (by rfl) (by decide) rfl (L9 := [some (.ref 0), none, none, some (.int x3), some (.ref y4), some (.int (x5 + 1)), some (.int x6)]) rfl ?_
        refine s_iinc (w := x6 + 9) dX7_people_96 rfl (by rfl) (by decide) rfl (L9 := [some (.ref 0), none, none, some (.int x3), some (.ref y4), some (.int (x5 + 1)), some (.int (x6 + 9))]) rfl ?_
        refine s_goto (tgt := 57) dX7_people_99 (by decide) ?_
        exact h
theorem bX7_isNine_0 {g : Gt} {d : Nat} {t : Tt} {Q : Option Value → Tt → Prop} {o0 : Nat} (ho0 : isSh o0) {p1 : Int32} (h : (p1 < 0 → Q (some (.int 0)) t) ∧ (¬ p1 < 0 → (p1 ≤ (((t.1 o0 1) - 8) - 1) → Rt g (d + 1) mX7_isNine 21 [some (.ref o0), some (.int p1), some (.int 1)] [] t Q) ∧ (¬ p1 ≤ (((t.1 o0 1) - 8) - 1) → Q (some (.int 0)) t))) : Rt g (d + 1) mX7_isNine 0 [some (.ref o0), some (.int p1), none] [] t Q := by
  refine s_iload_n dX7_isNine_0 rfl rfl ?_
  refine s_if_lt (tgt := 17) dX7_isNine_1 (by decide) (fun c1 => ?_) (fun c1 => ?_)
  · replace h := h.1 c1
    refine s_iconst (v := 0) dX7_isNine_17 (by decide) ?_
    exact t_iret dX7_isNine_18 (NR_z rfl (Or.inl rfl)) h
  · replace h := h.2 c1
    refine s_iload_n dX7_isNine_4 rfl rfl ?_
    refine s_aload_n dX7_isNine_5 rfl rfl ?_
    refine t_getI dX7_isNine_6 fl_X7_101 (isSh_k ho0) (isSh_z ho0) rfl ?_
    refine s_bipush (v := 8) dX7_isNine_9 (by decide) ?_
    refine s_isub dX7_isNine_11 ?_
    refine s_iconst (v := 1) dX7_isNine_12 (by decide) ?_
    refine s_isub dX7_isNine_13 ?_
    refine s_icmp_le (tgt := 19) dX7_isNine_14 (by decide) (fun c2 => ?_) (fun c2 => ?_)
    · replace h := h.1 c2
      refine s_iconst (v := 1) dX7_isNine_19 (by decide) ?_
      refine s_istore_n dX7_isNine_20 rfl (by decide) rfl (L9 := [some (.ref o0), some (.int p1), some (.int 1)]) rfl ?_
      exact h
    · replace h := h.2 c2
      refine s_iconst (v := 0) dX7_isNine_17 (by decide) ?_
      exact t_iret dX7_isNine_18 (NR_z rfl (Or.inl rfl)) h
theorem bX7_isNine_21 {g : Gt} {d : Nat} {t : Tt} {Q : Option Value → Tt → Prop} {o0 : Nat} (ho0 : isSh o0) {x1 : Int32} {x2 : Int32} (h : (8 < x2 → Q (some (.int 1)) t) ∧ (¬ 8 < x2 → vp_in (x1 + x2) 60 ∧ (Rt g d mX7_outside 0 [some (.int ((t.2.1 (o0 + 1) (x1 + x2).toNatClampNeg).toInt32)), some (.int 9)] [] t (QI (fun v4 t3 => (v4 = 0 → Rt g (d + 1) mX7_isNine 21 [some (.ref o0), some (.int x1), some (.int (x2 + 1))] [] t3 Q) ∧ (¬ v4 = 0 → Q (some (.int 0)) t3)))))) : Rt g (d + 1) mX7_isNine 21 [some (.ref o0), some (.int x1), some (.int x2)] [] t Q := by
  refine s_iload_n dX7_isNine_21 rfl rfl ?_
  refine s_bipush (v := 8) dX7_isNine_22 (by decide) ?_
  refine s_icmp_gt (tgt := 52) dX7_isNine_24 (by decide) (fun c1 => ?_) (fun c1 => ?_)
  · replace h := h.1 c1
    refine s_iconst (v := 1) dX7_isNine_52 (by decide) ?_
    exact t_iret dX7_isNine_53 (NR_z rfl (Or.inr rfl)) h
  · replace h := h.2 c1
    refine s_aload_n dX7_isNine_27 rfl rfl ?_
    refine t_getR dX7_isNine_28 fl_X7_104 (isSh_k ho0) (isSh_z ho0) rfl (isSh_r3 _ ho0) ?_
    refine s_iload_n dX7_isNine_31 rfl rfl ?_
    refine s_iload_n dX7_isNine_32 rfl rfl ?_
    refine s_iadd dX7_isNine_33 ?_
    obtain ⟨g2, h⟩ := h
    refine t_lald dX7_isNine_34 (isSh_k3 ho0) (isSh_z3 ho0) g2 ?_
    refine s_l2i dX7_isNine_35 ?_
    refine s_bipush (v := 9) dX7_isNine_36 (by decide) ?_
    refine t_callS (M' := mX7_outside) (k := 0) (As := [.int ((t.2.1 (o0 + 1) (x1 + x2).toNatClampNeg).toInt32), .int 9]) (rest := []) dX7_isNine_38 ml_X7_71 mstX7_outside rfl (Nat.le_of_ble_eq_true rfl) (Nat.le_of_ble_eq_true rfl) rfl h (fun rv t3 q => ?_)
    obtain ⟨v4, rfl, h⟩ := q
    show Rt g (d + 1) mX7_isNine 41 [some (.ref o0), some (.int x1), some (.int x2)] [.int v4] t3 Q
    refine s_if_eq (tgt := 46) dX7_isNine_41 (by decide) (fun c5 => ?_) (fun c5 => ?_)
    · replace h := h.1 c5
      refine s_iinc (w := x2 + 1) dX7_isNine_46 rfl (by rfl) (by decide) rfl (L9 := [some (.ref o0), some (.int x1), some (.int (x2 + 1))]) rfl ?_
      refine s_goto (tgt := 21) dX7_isNine_49 (by decide) ?_
      exact h
    · replace h := h.2 c5
      refine s_iconst (v := 0) dX7_isNine_44 (by decide) ?_
      exact t_iret dX7_isNine_45 (NR_z rfl (Or.inl rfl)) h
theorem bX7_comeFrom_0 {g : Gt} {d : Nat} {t : Tt} {Q : Option Value → Tt → Prop} {o0 : Nat} (ho0 : isSh o0) {p1 : Int32} (h : vp_in p1 60 ∧ Rt g d mX5_newcomer 0 [some (.ref 1), some (.int (((t.2.1 (o0 + 1) p1.toNatClampNeg).toInt32) &&& 255)), none] [] t (QI (fun v3 t2 => Rt g (d + 1) mX7_comeFrom 22 [some (.ref 0), some (.ref o0), some (.int p1), some (.int v3), some (.int 0)] [] t2 Q))) : Rt g (d + 1) mX7_comeFrom 0 [some (.ref 0), some (.ref o0), some (.int p1), none, none] [] t Q := by
  refine s_aload_n dX7_comeFrom_0 rfl rfl ?_
  refine t_getR (o' := 1) dX7_comeFrom_1 fl_X7_10 rfl (by decide) rfl rfl ?_
  refine s_aload_n dX7_comeFrom_4 rfl rfl ?_
  refine t_getR dX7_comeFrom_5 fl_X7_104 (isSh_k ho0) (isSh_z ho0) rfl (isSh_r3 _ ho0) ?_
  refine s_iload_n dX7_comeFrom_8 rfl rfl ?_
  obtain ⟨g1, h⟩ := h
  refine t_lald dX7_comeFrom_9 (isSh_k3 ho0) (isSh_z3 ho0) g1 ?_
  refine s_l2i dX7_comeFrom_10 ?_
  refine s_sipush (v := 255) dX7_comeFrom_11 (by decide) ?_
  refine s_iand dX7_comeFrom_14 ?_
  refine t_callV (M' := mX5_newcomer) (k := 1) (As := [.int (((t.2.1 (o0 + 1) p1.toNatClampNeg).toInt32) &&& 255)]) (rest := []) dX7_comeFrom_15 ml_X7_79 miX5_newcomer msX5_newcomer rfl (by decide) rfl rfl (Nat.le_of_ble_eq_true rfl) (Nat.le_of_ble_eq_true rfl) rfl h (fun rv t2 q => ?_)
  obtain ⟨v3, rfl, h⟩ := q
  show Rt g (d + 1) mX7_comeFrom 18 [some (.ref 0), some (.ref o0), some (.int p1), none, none] [.int v3] t2 Q
  refine s_istore_n dX7_comeFrom_18 rfl (by decide) rfl (L9 := [some (.ref 0), some (.ref o0), some (.int p1), some (.int v3), none]) rfl ?_
  refine s_iconst (v := 0) dX7_comeFrom_19 (by decide) ?_
  refine s_istore dX7_comeFrom_20 (by decide) rfl (L9 := [some (.ref 0), some (.ref o0), some (.int p1), some (.int v3), some (.int 0)]) rfl ?_
  exact h
theorem bX7_comeFrom_22 {g : Gt} {d : Nat} {t : Tt} {Q : Option Value → Tt → Prop} {o0 : Nat} (ho0 : isSh o0) {x2 : Int32} {x3 : Int32} {x4 : Int32} (h : (8 ≤ x4 → Q none t) ∧ (¬ 8 ≤ x4 → vp_in ((x2 + 1) + x4) 60 ∧ (vp_in ((x3 * 8) + x4) 56 ∧ Rt g (d + 1) mX7_comeFrom 22 [some (.ref 0), some (.ref o0), some (.int x2), some (.int x3), some (.int (x4 + 1))] [] (pI t 2 ((x3 * 8) + x4).toNatClampNeg ((t.2.1 (o0 + 1) ((x2 + 1) + x4).toNatClampNeg).toInt32)) Q))) : Rt g (d + 1) mX7_comeFrom 22 [some (.ref 0), some (.ref o0), some (.int x2), some (.int x3), some (.int x4)] [] t Q := by
  refine s_iload dX7_comeFrom_22 rfl ?_
  refine s_bipush (v := 8) dX7_comeFrom_24 (by decide) ?_
  refine s_icmp_ge (tgt := 62) dX7_comeFrom_26 (by decide) (fun c1 => ?_) (fun c1 => ?_)
  · replace h := h.1 c1
    exact t_vret dX7_comeFrom_62 rfl h
  · replace h := h.2 c1
    refine s_aload_n dX7_comeFrom_29 rfl rfl ?_
    refine t_getR (o' := 1) dX7_comeFrom_30 fl_X7_10 rfl (by decide) rfl rfl ?_
    refine t_getR (o' := 2) dX7_comeFrom_33 fl_X7_83 rfl (by decide) rfl rfl ?_
    refine s_iload_n dX7_comeFrom_36 rfl rfl ?_
    refine s_bipush (v := 8) dX7_comeFrom_37 (by decide) ?_
    refine s_imul dX7_comeFrom_39 ?_
    refine s_iload dX7_comeFrom_40 rfl ?_
    refine s_iadd dX7_comeFrom_42 ?_
    refine s_aload_n dX7_comeFrom_43 rfl rfl ?_
    refine t_getR dX7_comeFrom_44 fl_X7_104 (isSh_k ho0) (isSh_z ho0) rfl (isSh_r3 _ ho0) ?_
    refine s_iload_n dX7_comeFrom_47 rfl rfl ?_
    refine s_iconst (v := 1) dX7_comeFrom_48 (by decide) ?_
    refine s_iadd dX7_comeFrom_49 ?_
    refine s_iload dX7_comeFrom_50 rfl ?_
    refine s_iadd dX7_comeFrom_52 ?_
    obtain ⟨g2, h⟩ := h
    refine t_lald dX7_comeFrom_53 (isSh_k3 ho0) (isSh_z3 ho0) g2 ?_
    refine s_l2i dX7_comeFrom_54 ?_
    obtain ⟨g3, h⟩ := h
    refine t_iast dX7_comeFrom_55 rfl (by decide) g3 ?_
    refine s_iinc (w := x4 + 1) dX7_comeFrom_56 rfl (by rfl) (by decide) rfl (L9 := [some (.ref 0), some (.ref o0), some (.int x2), some (.int x3), some (.int (x4 + 1))]) rfl ?_
    refine s_goto (tgt := 22) dX7_comeFrom_59 (by decide) ?_
    exact h
theorem bX7_mend_0 {g : Gt} {d : Nat} {t : Tt} {Q : Option Value → Tt → Prop} {p0 : Int32} {p1 : Int32} {p2 : Int32} (h : (10 < p1 → Q (some (.int (-1))) t) ∧ (¬ 10 < p1 → Rt g d mX7_noNumber 0 [some (.ref 0), some (.int p0), some (.int p1)] [] t (QI (fun v3 t2 => (¬ v3 = 0 → Q (some (.int (-1))) t2) ∧ (v3 = 0 → Rt g d mX7_mostOf 0 [some (.int p1)] [] t2 (QI (fun v6 t5 => Rt g d mX7_outside 0 [some (.int p2), some (.int v6)] [] t5 (QI (fun v8 t7 => (v8 = 0 → Rt g d mX7_numberNow 0 [some (.ref 0), some (.int p0), some (.int p1)] [] t7 (QI (fun v11 t10 => (p2 = v11 → Q (some (.int v11)) t10) ∧ (¬ p2 = v11 → Rt g d mX1_note 0 [some (.ref 22), some (.int p0), some (.int p1), some (.int v11), some (.int p2)] [] t10 (QV (fun t13 => Rt g d mX7_makeNumber 0 [some (.ref 0), some (.int p0), some (.int p1), some (.int p2)] [] t13 (QV (fun t14 => Q (some (.int v11)) t14)))))))) ∧ (¬ v8 = 0 → Q (some (.int (-1))) t7)))))))))) : Rt g (d + 1) mX7_mend 0 [some (.ref 0), some (.int p0), some (.int p1), some (.int p2), none] [] t Q := by
  refine s_iload_n dX7_mend_0 rfl rfl ?_
  refine s_bipush (v := 10) dX7_mend_1 (by decide) ?_
  refine s_icmp_gt (tgt := 26) dX7_mend_3 (by decide) (fun c1 => ?_) (fun c1 => ?_)
  · replace h := h.1 c1
    refine s_iconst (v := (-1)) dX7_mend_26 (by decide) ?_
    exact t_iret dX7_mend_27 (NR_i rfl _) h
  · replace h := h.2 c1
    refine s_aload_n dX7_mend_6 rfl rfl ?_
    refine s_iload_n dX7_mend_7 rfl rfl ?_
    refine s_iload_n dX7_mend_8 rfl rfl ?_
    refine t_callV (M' := mX7_noNumber) (k := 0) (As := [.int p0, .int p1]) (rest := []) dX7_mend_9 ml_X7_108 miX7_noNumber msX7_noNumber rfl (by decide) rfl rfl (Nat.le_of_ble_eq_true rfl) (Nat.le_of_ble_eq_true rfl) rfl h (fun rv t2 q => ?_)
    obtain ⟨v3, rfl, h⟩ := q
    show Rt g (d + 1) mX7_mend 12 [some (.ref 0), some (.int p0), some (.int p1), some (.int p2), none] [.int v3] t2 Q
    refine s_if_ne (tgt := 26) dX7_mend_12 (by decide) (fun c4 => ?_) (fun c4 => ?_)
    · replace h := h.1 c4
      refine s_iconst (v := (-1)) dX7_mend_26 (by decide) ?_
      exact t_iret dX7_mend_27 (NR_i rfl _) h
    · replace h := h.2 c4
      refine s_iload_n dX7_mend_15 rfl rfl ?_
      refine s_iload_n dX7_mend_16 rfl rfl ?_
      refine t_callS (M' := mX7_mostOf) (k := 0) (As := [.int p1]) (rest := [.int p2]) dX7_mend_17 ml_X7_111 mstX7_mostOf rfl (Nat.le_of_ble_eq_true rfl) (Nat.le_of_ble_eq_true rfl) rfl h (fun rv t5 q => ?_)
      obtain ⟨v6, rfl, h⟩ := q
      show Rt g (d + 1) mX7_mend 20 [some (.ref 0), some (.int p0), some (.int p1), some (.int p2), none] [.int v6, .int p2] t5 Q
      refine t_callS (M' := mX7_outside) (k := 0) (As := [.int p2, .int v6]) (rest := []) dX7_mend_20 ml_X7_71 mstX7_outside rfl (Nat.le_of_ble_eq_true rfl) (Nat.le_of_ble_eq_true rfl) rfl h (fun rv t7 q => ?_)
      obtain ⟨v8, rfl, h⟩ := q
      show Rt g (d + 1) mX7_mend 23 [some (.ref 0), some (.int p0), some (.int p1), some (.int p2), none] [.int v8] t7 Q
      refine s_if_eq (tgt := 28) dX7_mend_23 (by decide) (fun c9 => ?_) (fun c9 => ?_)
      · replace h := h.1 c9
        refine s_aload_n dX7_mend_28 rfl rfl ?_
        refine s_iload_n dX7_mend_29 rfl rfl ?_
        refine s_iload_n dX7_mend_30 rfl rfl ?_
        refine t_callV (M' := mX7_numberNow) (k := 0) (As := [.int p0, .int p1]) (rest := []) dX7_mend_31 ml_X7_114 miX7_numberNow msX7_numberNow rfl (by decide) rfl rfl (Nat.le_of_ble_eq_true rfl) (Nat.le_of_ble_eq_true rfl) rfl h (fun rv t10 q => ?_)
        obtain ⟨v11, rfl, h⟩ := q
        show Rt g (d + 1) mX7_mend 34 [some (.ref 0), some (.int p0), some (.int p1), some (.int p2), none] [.int v11] t10 Q
        refine s_istore dX7_mend_34 (by decide) rfl (L9 := [some (.ref 0), some (.int p0), some (.int p1), some (.int p2), some (.int v11)]) rfl ?_
        refine s_iload_n dX7_mend_36 rfl rfl ?_
        refine s_iload dX7_mend_37 rfl ?_
        refine s_icmp_eq (tgt := 61) dX7_mend_39 (by decide) (fun c12 => ?_) (fun c12 => ?_)
        · replace h := h.1 c12
          refine s_iload dX7_mend_61 rfl ?_
          exact t_iret dX7_mend_63 (NR_i rfl _) h
        · replace h := h.2 c12
          refine s_aload_n dX7_mend_42 rfl rfl ?_
          refine t_getR (o' := 22) dX7_mend_43 fl_X7_32 rfl (by decide) rfl rfl ?_
          refine s_iload_n dX7_mend_46 rfl rfl ?_
          refine s_iload_n dX7_mend_47 rfl rfl ?_
          refine s_iload dX7_mend_48 rfl ?_
          refine s_iload_n dX7_mend_50 rfl rfl ?_
          refine t_callV (M' := mX1_note) (k := 0) (As := [.int p0, .int p1, .int v11, .int p2]) (rest := []) dX7_mend_51 ml_X7_118 miX1_note msX1_note rfl (by decide) rfl rfl (Nat.le_of_ble_eq_true rfl) (Nat.le_of_ble_eq_true rfl) rfl h (fun rv t13 q => ?_)
          obtain ⟨rfl, h⟩ := q
          show Rt g (d + 1) mX7_mend 54 [some (.ref 0), some (.int p0), some (.int p1), some (.int p2), some (.int v11)] [] t13 Q
          refine s_aload_n dX7_mend_54 rfl rfl ?_
          refine s_iload_n dX7_mend_55 rfl rfl ?_
          refine s_iload_n dX7_mend_56 rfl rfl ?_
          refine s_iload_n dX7_mend_57 rfl rfl ?_
          refine t_callV (M' := mX7_makeNumber) (k := 0) (As := [.int p0, .int p1, .int p2]) (rest := []) dX7_mend_58 ml_X7_122 miX7_makeNumber msX7_makeNumber rfl (by decide) rfl rfl (Nat.le_of_ble_eq_true rfl) (Nat.le_of_ble_eq_true rfl) rfl h (fun rv t14 q => ?_)
          obtain ⟨rfl, h⟩ := q
          show Rt g (d + 1) mX7_mend 61 [some (.ref 0), some (.int p0), some (.int p1), some (.int p2), some (.int v11)] [] t14 Q
          refine s_iload dX7_mend_61 rfl ?_
          exact t_iret dX7_mend_63 (NR_i rfl _) h
      · replace h := h.2 c9
        refine s_iconst (v := (-1)) dX7_mend_26 (by decide) ?_
        exact t_iret dX7_mend_27 (NR_i rfl _) h
theorem bX7_of_0 {g : Gt} {d : Nat} {t : Tt} {Q : Option Value → Tt → Prop} {p0 : Int32} {p1 : Int32} (h : Rt g d mX7_noNumber 0 [some (.ref 0), some (.int p0), some (.int p1)] [] t (QI (fun v2 t1 => (v2 = 0 → Rt g d mX7_numberNow 0 [some (.ref 0), some (.int p0), some (.int p1)] [] t1 (QI (fun v5 t4 => Q (some (.int v5)) t4))) ∧ (¬ v2 = 0 → Q (some (.int (-1))) t1)))) : Rt g (d + 1) mX7_of 0 [some (.ref 0), some (.int p0), some (.int p1)] [] t Q := by
  refine s_aload_n dX7_of_0 rfl rfl ?_
  refine s_iload_n dX7_of_1 rfl rfl ?_
  refine s_iload_n dX7_of_2 rfl rfl ?_
  refine t_callV (M' := mX7_noNumber) (k := 0) (As := [.int p0, .int p1]) (rest := []) dX7_of_3 ml_X7_108 miX7_noNumber msX7_noNumber rfl (by decide) rfl rfl (Nat.le_of_ble_eq_true rfl) (Nat.le_of_ble_eq_true rfl) rfl h (fun rv t1 q => ?_)
  obtain ⟨v2, rfl, h⟩ := q
  show Rt g (d + 1) mX7_of 6 [some (.ref 0), some (.int p0), some (.int p1)] [.int v2] t1 Q
  refine s_if_eq (tgt := 13) dX7_of_6 (by decide) (fun c3 => ?_) (fun c3 => ?_)
  · replace h := h.1 c3
    refine s_aload_n dX7_of_13 rfl rfl ?_
    refine s_iload_n dX7_of_14 rfl rfl ?_
    refine s_iload_n dX7_of_15 rfl rfl ?_
    refine t_callV (M' := mX7_numberNow) (k := 0) (As := [.int p0, .int p1]) (rest := []) dX7_of_16 ml_X7_114 miX7_numberNow msX7_numberNow rfl (by decide) rfl rfl (Nat.le_of_ble_eq_true rfl) (Nat.le_of_ble_eq_true rfl) rfl h (fun rv t4 q => ?_)
    obtain ⟨v5, rfl, h⟩ := q
    show Rt g (d + 1) mX7_of 19 [some (.ref 0), some (.int p0), some (.int p1)] [.int v5] t4 Q
    exact t_iret dX7_of_19 (NR_i rfl _) h
  · replace h := h.2 c3
    refine s_iconst (v := (-1)) dX7_of_9 (by decide) ?_
    refine s_goto (tgt := 19) dX7_of_10 (by decide) ?_
    exact t_iret dX7_of_19 (NR_i rfl _) h
theorem bX7_noNumber_0 {g : Gt} {d : Nat} {t : Tt} {Q : Option Value → Tt → Prop} {p0 : Int32} {p1 : Int32} (h : Rt g d mX7_outside 0 [some (.int p1), some (.int 12)] [] t (QI (fun v2 t1 => (v2 = 0 → (¬ p1 = 9 → (¬ p1 = 10 → Rt g d mX7_nobody 0 [some (.ref 0), some (.int p0)] [] t1 (QI (fun v7 t6 => (v7 = 0 ∨ v7 = 1) ∧ Q (some (.int v7)) t6))) ∧ (p1 = 10 → (p0 = 0 → Q (some (.int 0)) t1) ∧ (¬ p0 = 0 → Q (some (.int 1)) t1))) ∧ (p1 = 9 → Rt g d mX7_outside 0 [some (.int p0), some (.int 9)] [] t1 (QI (fun v10 t9 => (v10 = 0 ∨ v10 = 1) ∧ Q (some (.int v10)) t9)))) ∧ (¬ v2 = 0 → Q (some (.int 1)) t1)))) : Rt g (d + 1) mX7_noNumber 0 [some (.ref 0), some (.int p0), some (.int p1)] [] t Q := by
  refine s_iload_n dX7_noNumber_0 rfl rfl ?_
  refine s_bipush (v := 12) dX7_noNumber_1 (by decide) ?_
  refine t_callS (M' := mX7_outside) (k := 0) (As := [.int p1, .int 12]) (rest := []) dX7_noNumber_3 ml_X7_71 mstX7_outside rfl (Nat.le_of_ble_eq_true rfl) (Nat.le_of_ble_eq_true rfl) rfl h (fun rv t1 q => ?_)
  obtain ⟨v2, rfl, h⟩ := q
  show Rt g (d + 1) mX7_noNumber 6 [some (.ref 0), some (.int p0), some (.int p1)] [.int v2] t1 Q
  refine s_if_eq (tgt := 11) dX7_noNumber_6 (by decide) (fun c3 => ?_) (fun c3 => ?_)
  · replace h := h.1 c3
    refine s_iload_n dX7_noNumber_11 rfl rfl ?_
    refine s_bipush (v := 9) dX7_noNumber_12 (by decide) ?_
    refine s_icmp_ne (tgt := 24) dX7_noNumber_14 (by decide) (fun c4 => ?_) (fun c4 => ?_)
    · replace h := h.1 c4
      refine s_iload_n dX7_noNumber_24 rfl rfl ?_
      refine s_bipush (v := 10) dX7_noNumber_25 (by decide) ?_
      refine s_icmp_ne (tgt := 40) dX7_noNumber_27 (by decide) (fun c5 => ?_) (fun c5 => ?_)
      · replace h := h.1 c5
        refine s_aload_n dX7_noNumber_40 rfl rfl ?_
        refine s_iload_n dX7_noNumber_41 rfl rfl ?_
        refine t_callV (M' := mX7_nobody) (k := 0) (As := [.int p0]) (rest := []) dX7_noNumber_42 ml_X7_126 miX7_nobody msX7_nobody rfl (by decide) rfl rfl (Nat.le_of_ble_eq_true rfl) (Nat.le_of_ble_eq_true rfl) rfl h (fun rv t6 q => ?_)
        obtain ⟨v7, rfl, h⟩ := q
        show Rt g (d + 1) mX7_noNumber 45 [some (.ref 0), some (.int p0), some (.int p1)] [.int v7] t6 Q
        exact t_iret dX7_noNumber_45 (NR_z rfl h.1) h.2
      · replace h := h.2 c5
        refine s_iload_n dX7_noNumber_30 rfl rfl ?_
        refine s_if_eq (tgt := 38) dX7_noNumber_31 (by decide) (fun c8 => ?_) (fun c8 => ?_)
        · replace h := h.1 c8
          refine s_iconst (v := 0) dX7_noNumber_38 (by decide) ?_
          exact t_iret dX7_noNumber_39 (NR_z rfl (Or.inl rfl)) h
        · replace h := h.2 c8
          refine s_iconst (v := 1) dX7_noNumber_34 (by decide) ?_
          refine s_goto (tgt := 39) dX7_noNumber_35 (by decide) ?_
          exact t_iret dX7_noNumber_39 (NR_z rfl (Or.inr rfl)) h
    · replace h := h.2 c4
      refine s_iload_n dX7_noNumber_17 rfl rfl ?_
      refine s_bipush (v := 9) dX7_noNumber_18 (by decide) ?_
      refine t_callS (M' := mX7_outside) (k := 0) (As := [.int p0, .int 9]) (rest := []) dX7_noNumber_20 ml_X7_71 mstX7_outside rfl (Nat.le_of_ble_eq_true rfl) (Nat.le_of_ble_eq_true rfl) rfl h (fun rv t9 q => ?_)
      obtain ⟨v10, rfl, h⟩ := q
      show Rt g (d + 1) mX7_noNumber 23 [some (.ref 0), some (.int p0), some (.int p1)] [.int v10] t9 Q
      exact t_iret dX7_noNumber_23 (NR_z rfl h.1) h.2
  · replace h := h.2 c3
    refine s_iconst (v := 1) dX7_noNumber_9 (by decide) ?_
    exact t_iret dX7_noNumber_10 (NR_z rfl (Or.inr rfl)) h
theorem bX7_mostOf_0 {g : Gt} {d : Nat} {t : Tt} {Q : Option Value → Tt → Prop} {p0 : Int32} (h : (p0 = 8 → Q (some (.int 255)) t) ∧ (¬ p0 = 8 → (p0 = 9 → Q (some (.int 1)) t) ∧ (¬ p0 = 9 → (p0 = 10 → Q (some (.int 9)) t) ∧ (¬ p0 = 10 → Q (some (.int 9)) t)))) : Rt g d mX7_mostOf 0 [some (.int p0)] [] t Q := by
  refine s_iload_n dX7_mostOf_0 rfl rfl ?_
  by_cases c1 : p0 = 8
  · replace h := h.1 c1
    refine s_tin (off := 27) (tgt := 28) dX7_mostOf_1 (by rw [c1]; decide) (by rw [c1]; decide) (by rw [c1]; rfl) (by decide) ?_
    refine s_sipush (v := 255) dX7_mostOf_28 (by decide) ?_
    exact t_iret dX7_mostOf_31 (NR_i rfl _) h
  · replace h := h.2 c1
    by_cases c2 : p0 = 9
    · replace h := h.1 c2
      refine s_tin (off := 31) (tgt := 32) dX7_mostOf_1 (by rw [c2]; decide) (by rw [c2]; decide) (by rw [c2]; rfl) (by decide) ?_
      refine s_iconst (v := 1) dX7_mostOf_32 (by decide) ?_
      exact t_iret dX7_mostOf_33 (NR_i rfl _) h
    · replace h := h.2 c2
      by_cases c3 : p0 = 10
      · replace h := h.1 c3
        refine s_tin (off := 33) (tgt := 34) dX7_mostOf_1 (by rw [c3]; decide) (by rw [c3]; decide) (by rw [c3]; rfl) (by decide) ?_
        refine s_bipush (v := 9) dX7_mostOf_34 (by decide) ?_
        exact t_iret dX7_mostOf_36 (NR_i rfl _) h
      · replace h := h.2 c3
        refine s_tout (tgt := 37) dX7_mostOf_1 (by have q0 := lv_neT c1 (a := 8) rfl; have q1 := lv_neT c2 (a := 9) rfl; have q2 := lv_neT c3 (a := 10) rfl; omega) (by decide) ?_
        refine s_bipush (v := 9) dX7_mostOf_37 (by decide) ?_
        exact t_iret dX7_mostOf_39 (NR_i rfl _) h
theorem bX7_numberNow_0 {g : Gt} {d : Nat} {t : Tt} {Q : Option Value → Tt → Prop} {p0 : Int32} {p1 : Int32} (h : (p1 = 8 → vp_in p0 7 ∧ Q (some (.int (t.1 3 p0.toNatClampNeg))) t) ∧ (¬ p1 = 8 → (p1 = 9 → Q (some (.int ((jsr (t.1 0 11) p0) &&& 1))) t) ∧ (¬ p1 = 9 → (p1 = 10 → Q (some (.int (t.1 1 1))) t) ∧ (¬ p1 = 10 → (p1 = 11 → Rt g d mX5_worthOf 0 [some (.ref 1), some (.int p0)] [] t (QI (fun v7 t6 => Q (some (.int v7)) t6))) ∧ (¬ p1 = 11 → (p1 = 12 → vp_in p0 7 ∧ Q (some (.int (t.1 4 p0.toNatClampNeg))) t) ∧ (¬ p1 = 12 → vp_in ((p0 * 8) + p1) 56 ∧ Q (some (.int (t.1 2 ((p0 * 8) + p1).toNatClampNeg))) t)))))) : Rt g (d + 1) mX7_numberNow 0 [some (.ref 0), some (.int p0), some (.int p1)] [] t Q := by
  refine s_iload_n dX7_numberNow_0 rfl rfl ?_
  by_cases c1 : p1 = 8
  · replace h := h.1 c1
    refine s_tin (off := 35) (tgt := 36) dX7_numberNow_1 (by rw [c1]; decide) (by rw [c1]; decide) (by rw [c1]; rfl) (by decide) ?_
    refine s_aload_n dX7_numberNow_36 rfl rfl ?_
    refine t_getR (o' := 1) dX7_numberNow_37 fl_X7_10 rfl (by decide) rfl rfl ?_
    refine t_getR (o' := 3) dX7_numberNow_40 fl_X7_129 rfl (by decide) rfl rfl ?_
    refine s_iload_n dX7_numberNow_43 rfl rfl ?_
    obtain ⟨g2, h⟩ := h
    refine t_iald dX7_numberNow_44 rfl (by decide) g2 ?_
    exact t_iret dX7_numberNow_45 (NR_i rfl _) h
  · replace h := h.2 c1
    by_cases c3 : p1 = 9
    · replace h := h.1 c3
      refine s_tin (off := 45) (tgt := 46) dX7_numberNow_1 (by rw [c3]; decide) (by rw [c3]; decide) (by rw [c3]; rfl) (by decide) ?_
      refine s_aload_n dX7_numberNow_46 rfl rfl ?_
      refine t_getI dX7_numberNow_47 fl_X7_132 rfl (by decide) rfl ?_
      refine s_iload_n dX7_numberNow_50 rfl rfl ?_
      refine s_ishr dX7_numberNow_51 ?_
      refine s_iconst (v := 1) dX7_numberNow_52 (by decide) ?_
      refine s_iand dX7_numberNow_53 ?_
      exact t_iret dX7_numberNow_54 (NR_i rfl _) h
    · replace h := h.2 c3
      by_cases c4 : p1 = 10
      · replace h := h.1 c4
        refine s_tin (off := 54) (tgt := 55) dX7_numberNow_1 (by rw [c4]; decide) (by rw [c4]; decide) (by rw [c4]; rfl) (by decide) ?_
        refine s_aload_n dX7_numberNow_55 rfl rfl ?_
        refine t_getR (o' := 1) dX7_numberNow_56 fl_X7_10 rfl (by decide) rfl rfl ?_
        refine t_getI dX7_numberNow_59 fl_X7_135 rfl (by decide) rfl ?_
        exact t_iret dX7_numberNow_62 (NR_i rfl _) h
      · replace h := h.2 c4
        by_cases c5 : p1 = 11
        · replace h := h.1 c5
          refine s_tin (off := 62) (tgt := 63) dX7_numberNow_1 (by rw [c5]; decide) (by rw [c5]; decide) (by rw [c5]; rfl) (by decide) ?_
          refine s_aload_n dX7_numberNow_63 rfl rfl ?_
          refine t_getR (o' := 1) dX7_numberNow_64 fl_X7_10 rfl (by decide) rfl rfl ?_
          refine s_iload_n dX7_numberNow_67 rfl rfl ?_
          refine t_callV (M' := mX5_worthOf) (k := 0) (As := [.int p0]) (rest := []) dX7_numberNow_68 ml_X7_138 miX5_worthOf msX5_worthOf rfl (by decide) rfl rfl (Nat.le_of_ble_eq_true rfl) (Nat.le_of_ble_eq_true rfl) rfl h (fun rv t6 q => ?_)
          obtain ⟨v7, rfl, h⟩ := q
          show Rt g (d + 1) mX7_numberNow 71 [some (.ref 0), some (.int p0), some (.int p1)] [.int v7] t6 Q
          exact t_iret dX7_numberNow_71 (NR_i rfl _) h
        · replace h := h.2 c5
          by_cases c8 : p1 = 12
          · replace h := h.1 c8
            refine s_tin (off := 71) (tgt := 72) dX7_numberNow_1 (by rw [c8]; decide) (by rw [c8]; decide) (by rw [c8]; rfl) (by decide) ?_
            refine s_aload_n dX7_numberNow_72 rfl rfl ?_
            refine t_getR (o' := 1) dX7_numberNow_73 fl_X7_10 rfl (by decide) rfl rfl ?_
            refine t_getR (o' := 4) dX7_numberNow_76 fl_X7_141 rfl (by decide) rfl rfl ?_
            refine s_iload_n dX7_numberNow_79 rfl rfl ?_
            obtain ⟨g9, h⟩ := h
            refine t_iald dX7_numberNow_80 rfl (by decide) g9 ?_
            exact t_iret dX7_numberNow_81 (NR_i rfl _) h
          · replace h := h.2 c8
            refine s_tout (tgt := 82) dX7_numberNow_1 (by have q0 := lv_neT c1 (a := 8) rfl; have q1 := lv_neT c3 (a := 9) rfl; have q2 := lv_neT c4 (a := 10) rfl; have q3 := lv_neT c5 (a := 11) rfl; have q4 := lv_neT c8 (a := 12) rfl; omega) (by decide) ?_
            refine s_aload_n dX7_numberNow_82 rfl rfl ?_
            refine t_getR (o' := 1) dX7_numberNow_83 fl_X7_10 rfl (by decide) rfl rfl ?_
            refine t_getR (o' := 2) dX7_numberNow_86 fl_X7_83 rfl (by decide) rfl rfl ?_
            refine s_iload_n dX7_numberNow_89 rfl rfl ?_
            refine s_bipush (v := 8) dX7_numberNow_90 (by decide) ?_
            refine s_imul dX7_numberNow_92 ?_
            refine s_iload_n dX7_numberNow_93 rfl rfl ?_
            refine s_iadd dX7_numberNow_94 ?_
            obtain ⟨g10, h⟩ := h
            refine t_iald dX7_numberNow_95 rfl (by decide) g10 ?_
            exact t_iret dX7_numberNow_96 (NR_i rfl _) h
theorem bX7_makeNumber_0 {g : Gt} {d : Nat} {t : Tt} {Q : Option Value → Tt → Prop} {p0 : Int32} {p1 : Int32} {p2 : Int32} (h : (p1 = 8 → vp_in p0 7 ∧ Q none (pI t 3 p0.toNatClampNeg p2)) ∧ (¬ p1 = 8 → (p1 = 9 → Q none (pI t 0 11 (((t.1 0 11) &&& ((jsl 1 p0) ^^^ (-1))) ||| (jsl p2 p0)))) ∧ (¬ p1 = 9 → (p1 = 10 → Q none (pI t 1 1 p2)) ∧ (¬ p1 = 10 → vp_in ((p0 * 8) + p1) 56 ∧ Q none (pI t 2 ((p0 * 8) + p1).toNatClampNeg p2))))) : Rt g d mX7_makeNumber 0 [some (.ref 0), some (.int p0), some (.int p1), some (.int p2)] [] t Q := by
  refine s_iload_n dX7_makeNumber_0 rfl rfl ?_
  by_cases c1 : p1 = 8
  · replace h := h.1 c1
    refine s_tin (off := 27) (tgt := 28) dX7_makeNumber_1 (by rw [c1]; decide) (by rw [c1]; decide) (by rw [c1]; rfl) (by decide) ?_
    refine s_aload_n dX7_makeNumber_28 rfl rfl ?_
    refine t_getR (o' := 1) dX7_makeNumber_29 fl_X7_10 rfl (by decide) rfl rfl ?_
    refine t_getR (o' := 3) dX7_makeNumber_32 fl_X7_129 rfl (by decide) rfl rfl ?_
    refine s_iload_n dX7_makeNumber_35 rfl rfl ?_
    refine s_iload_n dX7_makeNumber_36 rfl rfl ?_
    obtain ⟨g2, h⟩ := h
    refine t_iast dX7_makeNumber_37 rfl (by decide) g2 ?_
    refine s_goto (tgt := 88) dX7_makeNumber_38 (by decide) ?_
    exact t_vret dX7_makeNumber_88 rfl h
  · replace h := h.2 c1
    by_cases c3 : p1 = 9
    · replace h := h.1 c3
      refine s_tin (off := 40) (tgt := 41) dX7_makeNumber_1 (by rw [c3]; decide) (by rw [c3]; decide) (by rw [c3]; rfl) (by decide) ?_
      refine s_aload_n dX7_makeNumber_41 rfl rfl ?_
      refine s_aload_n dX7_makeNumber_42 rfl rfl ?_
      refine t_getI dX7_makeNumber_43 fl_X7_132 rfl (by decide) rfl ?_
      refine s_iconst (v := 1) dX7_makeNumber_46 (by decide) ?_
      refine s_iload_n dX7_makeNumber_47 rfl rfl ?_
      refine s_ishl dX7_makeNumber_48 ?_
      refine s_iconst (v := (-1)) dX7_makeNumber_49 (by decide) ?_
      refine s_ixor dX7_makeNumber_50 ?_
      refine s_iand dX7_makeNumber_51 ?_
      refine s_iload_n dX7_makeNumber_52 rfl rfl ?_
      refine s_iload_n dX7_makeNumber_53 rfl rfl ?_
      refine s_ishl dX7_makeNumber_54 ?_
      refine s_ior dX7_makeNumber_55 ?_
      refine t_putI dX7_makeNumber_56 fl_X7_132 rfl (by decide) rfl rfl rfl rfl ?_
      refine s_goto (tgt := 88) dX7_makeNumber_59 (by decide) ?_
      exact t_vret dX7_makeNumber_88 rfl h
    · replace h := h.2 c3
      by_cases c4 : p1 = 10
      · replace h := h.1 c4
        refine s_tin (off := 61) (tgt := 62) dX7_makeNumber_1 (by rw [c4]; decide) (by rw [c4]; decide) (by rw [c4]; rfl) (by decide) ?_
        refine s_aload_n dX7_makeNumber_62 rfl rfl ?_
        refine t_getR (o' := 1) dX7_makeNumber_63 fl_X7_10 rfl (by decide) rfl rfl ?_
        refine s_iload_n dX7_makeNumber_66 rfl rfl ?_
        refine t_putI dX7_makeNumber_67 fl_X7_135 rfl (by decide) rfl rfl rfl rfl ?_
        refine s_goto (tgt := 88) dX7_makeNumber_70 (by decide) ?_
        exact t_vret dX7_makeNumber_88 rfl h
      · replace h := h.2 c4
        refine s_tout (tgt := 73) dX7_makeNumber_1 (by have q0 := lv_neT c1 (a := 8) rfl; have q1 := lv_neT c3 (a := 9) rfl; have q2 := lv_neT c4 (a := 10) rfl; omega) (by decide) ?_
        refine s_aload_n dX7_makeNumber_73 rfl rfl ?_
        refine t_getR (o' := 1) dX7_makeNumber_74 fl_X7_10 rfl (by decide) rfl rfl ?_
        refine t_getR (o' := 2) dX7_makeNumber_77 fl_X7_83 rfl (by decide) rfl rfl ?_
        refine s_iload_n dX7_makeNumber_80 rfl rfl ?_
        refine s_bipush (v := 8) dX7_makeNumber_81 (by decide) ?_
        refine s_imul dX7_makeNumber_83 ?_
        refine s_iload_n dX7_makeNumber_84 rfl rfl ?_
        refine s_iadd dX7_makeNumber_85 ?_
        refine s_iload_n dX7_makeNumber_86 rfl rfl ?_
        obtain ⟨g5, h⟩ := h
        refine t_iast dX7_makeNumber_87 rfl (by decide) g5 ?_
        exact t_vret dX7_makeNumber_88 rfl h
theorem bX7_feed_0 {g : Gt} {d : Nat} {t : Tt} {Q : Option Value → Tt → Prop} {p0 : Int32} (h : Rt g d mX7_outside 0 [some (.int p0), some (.int 255)] [] t (QI (fun v2 t1 => (v2 = 0 → Rt g d mX4_take 0 [some (.ref 33), some (.int p0)] [] t1 (QI (fun v5 t4 => Q (some (.int v5)) t4))) ∧ (¬ v2 = 0 → Q (some (.int (-1))) t1)))) : Rt g (d + 1) mX7_feed 0 [some (.ref 0), some (.int p0)] [] t Q := by
  refine s_iload_n dX7_feed_0 rfl rfl ?_
  refine s_sipush (v := 255) dX7_feed_1 (by decide) ?_
  refine t_callS (M' := mX7_outside) (k := 0) (As := [.int p0, .int 255]) (rest := []) dX7_feed_4 ml_X7_71 mstX7_outside rfl (Nat.le_of_ble_eq_true rfl) (Nat.le_of_ble_eq_true rfl) rfl h (fun rv t1 q => ?_)
  obtain ⟨v2, rfl, h⟩ := q
  show Rt g (d + 1) mX7_feed 7 [some (.ref 0), some (.int p0)] [.int v2] t1 Q
  refine s_if_eq (tgt := 12) dX7_feed_7 (by decide) (fun c3 => ?_) (fun c3 => ?_)
  · replace h := h.1 c3
    refine s_aload_n dX7_feed_12 rfl rfl ?_
    refine t_getR (o' := 33) dX7_feed_13 fl_X7_59 rfl (by decide) rfl rfl ?_
    refine s_iload_n dX7_feed_16 rfl rfl ?_
    refine t_callV (M' := mX4_take) (k := 0) (As := [.int p0]) (rest := []) dX7_feed_17 ml_X7_144 miX4_take msX4_take rfl (by decide) rfl rfl (Nat.le_of_ble_eq_true rfl) (Nat.le_of_ble_eq_true rfl) rfl h (fun rv t4 q => ?_)
    obtain ⟨v5, rfl, h⟩ := q
    show Rt g (d + 1) mX7_feed 20 [some (.ref 0), some (.int p0)] [.int v5] t4 Q
    exact t_iret dX7_feed_20 (NR_i rfl _) h
  · replace h := h.2 c3
    refine s_iconst (v := (-1)) dX7_feed_10 (by decide) ?_
    exact t_iret dX7_feed_11 (NR_i rfl _) h
theorem bX7_law_0 {g : Gt} {d : Nat} {t : Tt} {Q : Option Value → Tt → Prop} (h : Rt g d mX4_read 0 [some (.ref 33), none, none] [] t (QI (fun v2 t1 => (v2 < 0 → isLw t1.2.2.1 ∧ Rt g d mX4_exchangeFor 0 [some (.ref 33), some (.ref t1.2.2.1), none] [] (pI t1 33 1 0) (QR (fun v6 t5 => Q (some (.int 1)) (t5.1, t5.2.1, v6, t5.2.2.2)))) ∧ (¬ v2 < 0 → Q (some (.int ((-100) - v2))) (pI t1 33 1 0))))) : Rt g (d + 1) mX7_law 0 [some (.ref 0), none] [] t Q := by
  refine s_aload_n dX7_law_0 rfl rfl ?_
  refine t_getR (o' := 33) dX7_law_1 fl_X7_59 rfl (by decide) rfl rfl ?_
  refine t_callV (M' := mX4_read) (k := 2) (As := []) (rest := []) dX7_law_4 ml_X7_147 miX4_read msX4_read rfl (by decide) rfl rfl (Nat.le_of_ble_eq_true rfl) (Nat.le_of_ble_eq_true rfl) rfl h (fun rv t1 q => ?_)
  obtain ⟨v2, rfl, h⟩ := q
  show Rt g (d + 1) mX7_law 7 [some (.ref 0), none] [.int v2] t1 Q
  refine s_istore_n dX7_law_7 rfl (by decide) rfl (L9 := [some (.ref 0), some (.int v2)]) rfl ?_
  refine s_aload_n dX7_law_8 rfl rfl ?_
  refine t_getR (o' := 33) dX7_law_9 fl_X7_59 rfl (by decide) rfl rfl ?_
  refine s_iconst (v := 0) dX7_law_12 (by decide) ?_
  refine t_putI dX7_law_13 fl_X7_151 rfl (by decide) rfl rfl rfl rfl ?_
  refine s_iload_n dX7_law_16 rfl rfl ?_
  refine s_if_lt (tgt := 25) dX7_law_17 (by decide) (fun c3 => ?_) (fun c3 => ?_)
  · replace h := h.1 c3
    refine s_aload_n dX7_law_25 rfl rfl ?_
    refine s_aload_n dX7_law_26 rfl rfl ?_
    refine t_getR (o' := 33) dX7_law_27 fl_X7_59 rfl (by decide) rfl rfl ?_
    refine s_aload_n dX7_law_30 rfl rfl ?_
    obtain ⟨g4, h⟩ := h
    refine t_getR dX7_law_31 fl_X7_66 rfl (by decide) rfl rfl ?_
    refine t_callV (M' := mX4_exchangeFor) (k := 1) (As := [.ref t1.2.2.1]) (rest := [.ref 0]) dX7_law_34 ml_X7_154 miX4_exchangeFor msX4_exchangeFor rfl (by decide) rfl rfl (Nat.le_of_ble_eq_true rfl) (Nat.le_of_ble_eq_true rfl) rfl h (fun rv t5 q => ?_)
    obtain ⟨v6, rfl, h⟩ := q
    show Rt g (d + 1) mX7_law 37 [some (.ref 0), some (.int v2)] [.ref v6, .ref 0] t5 Q
    refine t_putRul dX7_law_37 fl_X7_66 ?_
    refine s_iconst (v := 1) dX7_law_40 (by decide) ?_
    exact t_iret dX7_law_41 (NR_i rfl _) h
  · replace h := h.2 c3
    refine s_bipush (v := (-100)) dX7_law_20 (by decide) ?_
    refine s_iload_n dX7_law_22 rfl rfl ?_
    refine s_isub dX7_law_23 ?_
    exact t_iret dX7_law_24 (NR_i rfl _) h
theorem bX7_takes_0 {g : Gt} {d : Nat} {t : Tt} {Q : Option Value → Tt → Prop} {p0 : Int32} {p1 : Int32} (h : Rt g d mX7_nobody 0 [some (.ref 0), some (.int p0)] [] t (QI (fun v2 t1 => (¬ v2 = 0 → Q (some (.int (-1))) t1) ∧ (v2 = 0 → Rt g d mX7_outside 0 [some (.int p1), some (.int 99)] [] t1 (QI (fun v5 t4 => (v5 = 0 → isLw t4.2.2.1 ∧ Rt g d mX3_priceOf 0 [some (.ref t4.2.2.1), some (.ref 1), some (.int p0), some (.int (p1 / 10)), some (.int (jr p1 10)), none] [] t4 (QI (fun v9 t8 => Q (some (.int v9)) t8))) ∧ (¬ v5 = 0 → Q (some (.int (-1))) t4))))))) : Rt g (d + 1) mX7_takes 0 [some (.ref 0), some (.int p0), some (.int p1)] [] t Q := by
  refine s_aload_n dX7_takes_0 rfl rfl ?_
  refine s_iload_n dX7_takes_1 rfl rfl ?_
  refine t_callV (M' := mX7_nobody) (k := 0) (As := [.int p0]) (rest := []) dX7_takes_2 ml_X7_126 miX7_nobody msX7_nobody rfl (by decide) rfl rfl (Nat.le_of_ble_eq_true rfl) (Nat.le_of_ble_eq_true rfl) rfl h (fun rv t1 q => ?_)
  obtain ⟨v2, rfl, h⟩ := q
  show Rt g (d + 1) mX7_takes 5 [some (.ref 0), some (.int p0), some (.int p1)] [.int v2] t1 Q
  refine s_if_ne (tgt := 17) dX7_takes_5 (by decide) (fun c3 => ?_) (fun c3 => ?_)
  · replace h := h.1 c3
    refine s_iconst (v := (-1)) dX7_takes_17 (by decide) ?_
    exact t_iret dX7_takes_18 (NR_i rfl _) h
  · replace h := h.2 c3
    refine s_iload_n dX7_takes_8 rfl rfl ?_
    refine s_bipush (v := 99) dX7_takes_9 (by decide) ?_
    refine t_callS (M' := mX7_outside) (k := 0) (As := [.int p1, .int 99]) (rest := []) dX7_takes_11 ml_X7_71 mstX7_outside rfl (Nat.le_of_ble_eq_true rfl) (Nat.le_of_ble_eq_true rfl) rfl h (fun rv t4 q => ?_)
    obtain ⟨v5, rfl, h⟩ := q
    show Rt g (d + 1) mX7_takes 14 [some (.ref 0), some (.int p0), some (.int p1)] [.int v5] t4 Q
    refine s_if_eq (tgt := 19) dX7_takes_14 (by decide) (fun c6 => ?_) (fun c6 => ?_)
    · replace h := h.1 c6
      refine s_aload_n dX7_takes_19 rfl rfl ?_
      obtain ⟨g7, h⟩ := h
      refine t_getR dX7_takes_20 fl_X7_66 rfl (by decide) rfl rfl ?_
      refine s_aload_n dX7_takes_23 rfl rfl ?_
      refine t_getR (o' := 1) dX7_takes_24 fl_X7_10 rfl (by decide) rfl rfl ?_
      refine s_iload_n dX7_takes_27 rfl rfl ?_
      refine s_iload_n dX7_takes_28 rfl rfl ?_
      refine s_bipush (v := 10) dX7_takes_29 (by decide) ?_
      refine s_idiv dX7_takes_31 (by decide) ?_
      refine s_iload_n dX7_takes_32 rfl rfl ?_
      refine s_bipush (v := 10) dX7_takes_33 (by decide) ?_
      refine s_irem dX7_takes_35 (by decide) ?_
      refine t_callV (M' := mX3_priceOf) (k := 1) (As := [.ref 1, .int p0, .int (p1 / 10), .int (jr p1 10)]) (rest := []) dX7_takes_36 ml_X7_158 miX3_priceOf msX3_priceOf (isLw_k g7) (isLw_z g7) rfl rfl (Nat.le_of_ble_eq_true rfl) (Nat.le_of_ble_eq_true rfl) rfl h (fun rv t8 q => ?_)
      obtain ⟨v9, rfl, h⟩ := q
      show Rt g (d + 1) mX7_takes 39 [some (.ref 0), some (.int p0), some (.int p1)] [.int v9] t8 Q
      exact t_iret dX7_takes_39 (NR_i rfl _) h
    · replace h := h.2 c6
      refine s_iconst (v := (-1)) dX7_takes_17 (by decide) ?_
      exact t_iret dX7_takes_18 (NR_i rfl _) h
theorem bX7_trial_0 {g : Gt} {d : Nat} {t : Tt} {Q : Option Value → Tt → Prop} {p0 : Int32} {p1 : Int32} {p2 : Int32} (h : Rt g d mX7_noShelf 0 [some (.int p0)] [] t (QI (fun v2 t1 => (¬ v2 = 0 → Q (some (.int (-1))) t1) ∧ (v2 = 0 → (p1 = (-1) → Rt g (d + 1) mX7_trial 20 [some (.ref 0), some (.int p0), some (.int p1), some (.int p2), none] [] t1 Q) ∧ (¬ p1 = (-1) → Rt g d mX7_nobody 0 [some (.ref 0), some (.int p1)] [] t1 (QI (fun v6 t5 => (¬ v6 = 0 → Q (some (.int (-1))) t5) ∧ (v6 = 0 → Rt g (d + 1) mX7_trial 20 [some (.ref 0), some (.int p0), some (.int p1), some (.int p2), none] [] t5 Q)))))))) : Rt g (d + 1) mX7_trial 0 [some (.ref 0), some (.int p0), some (.int p1), some (.int p2), none] [] t Q := by
  refine s_iload_n dX7_trial_0 rfl rfl ?_
  refine t_callS (M' := mX7_noShelf) (k := 0) (As := [.int p0]) (rest := []) dX7_trial_1 ml_X7_86 mstX7_noShelf rfl (Nat.le_of_ble_eq_true rfl) (Nat.le_of_ble_eq_true rfl) rfl h (fun rv t1 q => ?_)
  obtain ⟨v2, rfl, h⟩ := q
  show Rt g (d + 1) mX7_trial 4 [some (.ref 0), some (.int p0), some (.int p1), some (.int p2), none] [.int v2] t1 Q
  refine s_if_ne (tgt := 28) dX7_trial_4 (by decide) (fun c3 => ?_) (fun c3 => ?_)
  · replace h := h.1 c3
    refine s_iconst (v := (-1)) dX7_trial_28 (by decide) ?_
    exact t_iret dX7_trial_29 (NR_i rfl _) h
  · replace h := h.2 c3
    refine s_iload_n dX7_trial_7 rfl rfl ?_
    refine s_iconst (v := (-1)) dX7_trial_8 (by decide) ?_
    refine s_icmp_eq (tgt := 20) dX7_trial_9 (by decide) (fun c4 => ?_) (fun c4 => ?_)
    · replace h := h.1 c4
      exact h
    · replace h := h.2 c4
      refine s_aload_n dX7_trial_12 rfl rfl ?_
      refine s_iload_n dX7_trial_13 rfl rfl ?_
      refine t_callV (M' := mX7_nobody) (k := 0) (As := [.int p1]) (rest := []) dX7_trial_14 ml_X7_126 miX7_nobody msX7_nobody rfl (by decide) rfl rfl (Nat.le_of_ble_eq_true rfl) (Nat.le_of_ble_eq_true rfl) rfl h (fun rv t5 q => ?_)
      obtain ⟨v6, rfl, h⟩ := q
      show Rt g (d + 1) mX7_trial 17 [some (.ref 0), some (.int p0), some (.int p1), some (.int p2), none] [.int v6] t5 Q
      refine s_if_ne (tgt := 28) dX7_trial_17 (by decide) (fun c7 => ?_) (fun c7 => ?_)
      · replace h := h.1 c7
        refine s_iconst (v := (-1)) dX7_trial_28 (by decide) ?_
        exact t_iret dX7_trial_29 (NR_i rfl _) h
      · replace h := h.2 c7
        exact h
theorem bX7_trial_20 {g : Gt} {d : Nat} {t : Tt} {Q : Option Value → Tt → Prop} {x1 : Int32} {x2 : Int32} {x3 : Int32} (h : Rt g d mX7_outside 0 [some (.int x3), some (.int 1)] [] t (QI (fun v2 t1 => (v2 = 0 → Rt g d mX7_refusalOfBytes 0 [some (.ref 0), some (.int x1), none] [] t1 (QI (fun v5 t4 => (v5 = 0 → Rt g d mX7_hear 0 [some (.ref 0), some (.int x1)] [] t4 (QV (fun t7 => (¬ x2 = (-1) → (¬ x3 = 0 → vp_in x2 7 ∧ Q (some (.int (t7.1 20 x2.toNatClampNeg))) t7) ∧ (x3 = 0 → Rt g d mX5_worthOf 0 [some (.ref 17), some (.int x2)] [] t7 (QI (fun v12 t11 => Q (some (.int v12)) t11)))) ∧ (x2 = (-1) → Q (some (.int (t7.1 13 0))) t7)))) ∧ (¬ v5 = 0 → Q (some (.int v5)) t4)))) ∧ (¬ v2 = 0 → Q (some (.int (-1))) t1)))) : Rt g (d + 1) mX7_trial 20 [some (.ref 0), some (.int x1), some (.int x2), some (.int x3), none] [] t Q := by
  refine s_iload_n dX7_trial_20 rfl rfl ?_
  refine s_iconst (v := 1) dX7_trial_21 (by decide) ?_
  refine t_callS (M' := mX7_outside) (k := 0) (As := [.int x3, .int 1]) (rest := []) dX7_trial_22 ml_X7_71 mstX7_outside rfl (Nat.le_of_ble_eq_true rfl) (Nat.le_of_ble_eq_true rfl) rfl h (fun rv t1 q => ?_)
  obtain ⟨v2, rfl, h⟩ := q
  show Rt g (d + 1) mX7_trial 25 [some (.ref 0), some (.int x1), some (.int x2), some (.int x3), none] [.int v2] t1 Q
  refine s_if_eq (tgt := 30) dX7_trial_25 (by decide) (fun c3 => ?_) (fun c3 => ?_)
  · replace h := h.1 c3
    refine s_aload_n dX7_trial_30 rfl rfl ?_
    refine s_iload_n dX7_trial_31 rfl rfl ?_
    refine t_callV (M' := mX7_refusalOfBytes) (k := 1) (As := [.int x1]) (rest := []) dX7_trial_32 ml_X7_162 miX7_refusalOfBytes msX7_refusalOfBytes rfl (by decide) rfl rfl (Nat.le_of_ble_eq_true rfl) (Nat.le_of_ble_eq_true rfl) rfl h (fun rv t4 q => ?_)
    obtain ⟨v5, rfl, h⟩ := q
    show Rt g (d + 1) mX7_trial 35 [some (.ref 0), some (.int x1), some (.int x2), some (.int x3), none] [.int v5] t4 Q
    refine s_istore dX7_trial_35 (by decide) rfl (L9 := [some (.ref 0), some (.int x1), some (.int x2), some (.int x3), some (.int v5)]) rfl ?_
    refine s_iload dX7_trial_37 rfl ?_
    refine s_if_eq (tgt := 45) dX7_trial_39 (by decide) (fun c6 => ?_) (fun c6 => ?_)
    · replace h := h.1 c6
      refine s_aload_n dX7_trial_45 rfl rfl ?_
      refine s_iload_n dX7_trial_46 rfl rfl ?_
      refine t_callV (M' := mX7_hear) (k := 0) (As := [.int x1]) (rest := []) dX7_trial_47 ml_X7_165 miX7_hear msX7_hear rfl (by decide) rfl rfl (Nat.le_of_ble_eq_true rfl) (Nat.le_of_ble_eq_true rfl) rfl h (fun rv t7 q => ?_)
      obtain ⟨rfl, h⟩ := q
      show Rt g (d + 1) mX7_trial 50 [some (.ref 0), some (.int x1), some (.int x2), some (.int x3), some (.int v5)] [] t7 Q
      refine s_iload_n dX7_trial_50 rfl rfl ?_
      refine s_iconst (v := (-1)) dX7_trial_51 (by decide) ?_
      refine s_icmp_ne (tgt := 63) dX7_trial_52 (by decide) (fun c8 => ?_) (fun c8 => ?_)
      · replace h := h.1 c8
        refine s_iload_n dX7_trial_63 rfl rfl ?_
        refine s_if_ne (tgt := 81) dX7_trial_64 (by decide) (fun c9 => ?_) (fun c9 => ?_)
        · replace h := h.1 c9
          refine s_aload_n dX7_trial_81 rfl rfl ?_
          refine t_getR (o' := 13) dX7_trial_82 fl_X7_25 rfl (by decide) rfl rfl ?_
          refine t_getR (o' := 17) dX7_trial_85 fl_X7_172 rfl (by decide) rfl rfl ?_
          refine t_getR (o' := 20) dX7_trial_88 fl_X7_141 rfl (by decide) rfl rfl ?_
          refine s_iload_n dX7_trial_91 rfl rfl ?_
          obtain ⟨g10, h⟩ := h
          refine t_iald dX7_trial_92 rfl (by decide) g10 ?_
          exact t_iret dX7_trial_93 (NR_i rfl _) h
        · replace h := h.2 c9
          refine s_aload_n dX7_trial_67 rfl rfl ?_
          refine t_getR (o' := 13) dX7_trial_68 fl_X7_25 rfl (by decide) rfl rfl ?_
          refine t_getR (o' := 17) dX7_trial_71 fl_X7_172 rfl (by decide) rfl rfl ?_
          refine s_iload_n dX7_trial_74 rfl rfl ?_
          refine t_callV (M' := mX5_worthOf) (k := 0) (As := [.int x2]) (rest := []) dX7_trial_75 ml_X7_138 miX5_worthOf msX5_worthOf rfl (by decide) rfl rfl (Nat.le_of_ble_eq_true rfl) (Nat.le_of_ble_eq_true rfl) rfl h (fun rv t11 q => ?_)
          obtain ⟨v12, rfl, h⟩ := q
          show Rt g (d + 1) mX7_trial 78 [some (.ref 0), some (.int x1), some (.int x2), some (.int x3), some (.int v5)] [.int v12] t11 Q
          refine s_goto (tgt := 93) dX7_trial_78 (by decide) ?_
          exact t_iret dX7_trial_93 (NR_i rfl _) h
      · replace h := h.2 c8
        refine s_aload_n dX7_trial_55 rfl rfl ?_
        refine t_getR (o' := 13) dX7_trial_56 fl_X7_25 rfl (by decide) rfl rfl ?_
        refine t_getI dX7_trial_59 fl_X7_169 rfl (by decide) rfl ?_
        exact t_iret dX7_trial_62 (NR_i rfl _) h
    · replace h := h.2 c6
      refine s_iload dX7_trial_42 rfl ?_
      exact t_iret dX7_trial_44 (NR_i rfl _) h
  · replace h := h.2 c3
    refine s_iconst (v := (-1)) dX7_trial_28 (by decide) ?_
    exact t_iret dX7_trial_29 (NR_i rfl _) h
theorem bX7_tooth_0 {g : Gt} {d : Nat} {t : Tt} {Q : Option Value → Tt → Prop} {p0 : Int32} {p1 : Int32} (h : Rt g d mX7_noShelf 0 [some (.int p0)] [] t (QI (fun v2 t1 => (¬ v2 = 0 → Q (some (.int (-1))) t1) ∧ (v2 = 0 → Rt g d mX7_noTooth 0 [some (.ref 0), some (.int p1)] [] t1 (QI (fun v5 t4 => (v5 = 0 → Rt g d mX7_refusalOfBytes 0 [some (.ref 0), some (.int p0), none] [] t4 (QI (fun v8 t7 => (v8 = 0 → Rt g d mX7_hear 0 [some (.ref 0), some (.int p0)] [] t7 (QV (fun t10 => vp_in (((p1 / 10) * 8) + (jr p1 10)) 56 ∧ Q (some (.int (t10.1 18 (((p1 / 10) * 8) + (jr p1 10)).toNatClampNeg))) t10))) ∧ (¬ v8 = 0 → Q (some (.int v8)) t7)))) ∧ (¬ v5 = 0 → Q (some (.int (-1))) t4))))))) : Rt g (d + 1) mX7_tooth 0 [some (.ref 0), some (.int p0), some (.int p1), none] [] t Q := by
  refine s_iload_n dX7_tooth_0 rfl rfl ?_
  refine t_callS (M' := mX7_noShelf) (k := 0) (As := [.int p0]) (rest := []) dX7_tooth_1 ml_X7_86 mstX7_noShelf rfl (Nat.le_of_ble_eq_true rfl) (Nat.le_of_ble_eq_true rfl) rfl h (fun rv t1 q => ?_)
  obtain ⟨v2, rfl, h⟩ := q
  show Rt g (d + 1) mX7_tooth 4 [some (.ref 0), some (.int p0), some (.int p1), none] [.int v2] t1 Q
  refine s_if_ne (tgt := 15) dX7_tooth_4 (by decide) (fun c3 => ?_) (fun c3 => ?_)
  · replace h := h.1 c3
    refine s_iconst (v := (-1)) dX7_tooth_15 (by decide) ?_
    exact t_iret dX7_tooth_16 (NR_i rfl _) h
  · replace h := h.2 c3
    refine s_aload_n dX7_tooth_7 rfl rfl ?_
    refine s_iload_n dX7_tooth_8 rfl rfl ?_
    refine t_callV (M' := mX7_noTooth) (k := 0) (As := [.int p1]) (rest := []) dX7_tooth_9 ml_X7_175 miX7_noTooth msX7_noTooth rfl (by decide) rfl rfl (Nat.le_of_ble_eq_true rfl) (Nat.le_of_ble_eq_true rfl) rfl h (fun rv t4 q => ?_)
    obtain ⟨v5, rfl, h⟩ := q
    show Rt g (d + 1) mX7_tooth 12 [some (.ref 0), some (.int p0), some (.int p1), none] [.int v5] t4 Q
    refine s_if_eq (tgt := 17) dX7_tooth_12 (by decide) (fun c6 => ?_) (fun c6 => ?_)
    · replace h := h.1 c6
      refine s_aload_n dX7_tooth_17 rfl rfl ?_
      refine s_iload_n dX7_tooth_18 rfl rfl ?_
      refine t_callV (M' := mX7_refusalOfBytes) (k := 1) (As := [.int p0]) (rest := []) dX7_tooth_19 ml_X7_162 miX7_refusalOfBytes msX7_refusalOfBytes rfl (by decide) rfl rfl (Nat.le_of_ble_eq_true rfl) (Nat.le_of_ble_eq_true rfl) rfl h (fun rv t7 q => ?_)
      obtain ⟨v8, rfl, h⟩ := q
      show Rt g (d + 1) mX7_tooth 22 [some (.ref 0), some (.int p0), some (.int p1), none] [.int v8] t7 Q
      refine s_istore_n dX7_tooth_22 rfl (by decide) rfl (L9 := [some (.ref 0), some (.int p0), some (.int p1), some (.int v8)]) rfl ?_
      refine s_iload_n dX7_tooth_23 rfl rfl ?_
      refine s_if_eq (tgt := 29) dX7_tooth_24 (by decide) (fun c9 => ?_) (fun c9 => ?_)
      · replace h := h.1 c9
        refine s_aload_n dX7_tooth_29 rfl rfl ?_
        refine s_iload_n dX7_tooth_30 rfl rfl ?_
        refine t_callV (M' := mX7_hear) (k := 0) (As := [.int p0]) (rest := []) dX7_tooth_31 ml_X7_165 miX7_hear msX7_hear rfl (by decide) rfl rfl (Nat.le_of_ble_eq_true rfl) (Nat.le_of_ble_eq_true rfl) rfl h (fun rv t10 q => ?_)
        obtain ⟨rfl, h⟩ := q
        show Rt g (d + 1) mX7_tooth 34 [some (.ref 0), some (.int p0), some (.int p1), some (.int v8)] [] t10 Q
        refine s_aload_n dX7_tooth_34 rfl rfl ?_
        refine t_getR (o' := 13) dX7_tooth_35 fl_X7_25 rfl (by decide) rfl rfl ?_
        refine t_getR (o' := 17) dX7_tooth_38 fl_X7_172 rfl (by decide) rfl rfl ?_
        refine t_getR (o' := 18) dX7_tooth_41 fl_X7_83 rfl (by decide) rfl rfl ?_
        refine s_iload_n dX7_tooth_44 rfl rfl ?_
        refine s_bipush (v := 10) dX7_tooth_45 (by decide) ?_
        refine s_idiv dX7_tooth_47 (by decide) ?_
        refine s_bipush (v := 8) dX7_tooth_48 (by decide) ?_
        refine s_imul dX7_tooth_50 ?_
        refine s_iload_n dX7_tooth_51 rfl rfl ?_
        refine s_bipush (v := 10) dX7_tooth_52 (by decide) ?_
        refine s_irem dX7_tooth_54 (by decide) ?_
        refine s_iadd dX7_tooth_55 ?_
        obtain ⟨g11, h⟩ := h
        refine t_iald dX7_tooth_56 rfl (by decide) g11 ?_
        exact t_iret dX7_tooth_57 (NR_i rfl _) h
      · replace h := h.2 c9
        refine s_iload_n dX7_tooth_27 rfl rfl ?_
        exact t_iret dX7_tooth_28 (NR_i rfl _) h
    · replace h := h.2 c6
      refine s_iconst (v := (-1)) dX7_tooth_15 (by decide) ?_
      exact t_iret dX7_tooth_16 (NR_i rfl _) h
theorem bX7_gone_0 {g : Gt} {d : Nat} {t : Tt} {Q : Option Value → Tt → Prop} {p0 : Int32} (h : Rt g d mX7_noShelf 0 [some (.int p0)] [] t (QI (fun v2 t1 => (v2 = 0 → Rt g d mX7_refusalOfBytes 0 [some (.ref 0), some (.int p0), none] [] t1 (QI (fun v5 t4 => Rt g (d + 1) mX7_gone 16 [some (.ref 0), some (.int p0), none] [.int v5] t4 Q))) ∧ (¬ v2 = 0 → Rt g (d + 1) mX7_gone 16 [some (.ref 0), some (.int p0), none] [.int (-1)] t1 Q)))) : Rt g (d + 1) mX7_gone 0 [some (.ref 0), some (.int p0), none] [] t Q := by
  refine s_iload_n dX7_gone_0 rfl rfl ?_
  refine t_callS (M' := mX7_noShelf) (k := 0) (As := [.int p0]) (rest := []) dX7_gone_1 ml_X7_86 mstX7_noShelf rfl (Nat.le_of_ble_eq_true rfl) (Nat.le_of_ble_eq_true rfl) rfl h (fun rv t1 q => ?_)
  obtain ⟨v2, rfl, h⟩ := q
  show Rt g (d + 1) mX7_gone 4 [some (.ref 0), some (.int p0), none] [.int v2] t1 Q
  refine s_if_eq (tgt := 11) dX7_gone_4 (by decide) (fun c3 => ?_) (fun c3 => ?_)
  · replace h := h.1 c3
    refine s_aload_n dX7_gone_11 rfl rfl ?_
    refine s_iload_n dX7_gone_12 rfl rfl ?_
    refine t_callV (M' := mX7_refusalOfBytes) (k := 1) (As := [.int p0]) (rest := []) dX7_gone_13 ml_X7_162 miX7_refusalOfBytes msX7_refusalOfBytes rfl (by decide) rfl rfl (Nat.le_of_ble_eq_true rfl) (Nat.le_of_ble_eq_true rfl) rfl h (fun rv t4 q => ?_)
    obtain ⟨v5, rfl, h⟩ := q
    show Rt g (d + 1) mX7_gone 16 [some (.ref 0), some (.int p0), none] [.int v5] t4 Q
    exact h
  · replace h := h.2 c3
    refine s_iconst (v := (-1)) dX7_gone_7 (by decide) ?_
    refine s_goto (tgt := 16) dX7_gone_8 (by decide) ?_
    exact h
theorem bX7_gone_16 {g : Gt} {d : Nat} {t : Tt} {Q : Option Value → Tt → Prop} {x1 : Int32} {s0 : Int32} (h : (s0 = 0 → Rt g d mX7_hear 0 [some (.ref 0), some (.int x1)] [] t (QV (fun t2 => Q (some (.int (t2.1 13 8))) t2))) ∧ (¬ s0 = 0 → Q (some (.int s0)) t)) : Rt g (d + 1) mX7_gone 16 [some (.ref 0), some (.int x1), none] [.int s0] t Q := by
  refine s_istore_n dX7_gone_16 rfl (by decide) rfl (L9 := [some (.ref 0), some (.int x1), some (.int s0)]) rfl ?_
  refine s_iload_n dX7_gone_17 rfl rfl ?_
  refine s_if_eq (tgt := 23) dX7_gone_18 (by decide) (fun c1 => ?_) (fun c1 => ?_)
  · replace h := h.1 c1
    refine s_aload_n dX7_gone_23 rfl rfl ?_
    refine s_iload_n dX7_gone_24 rfl rfl ?_
    refine t_callV (M' := mX7_hear) (k := 0) (As := [.int x1]) (rest := []) dX7_gone_25 ml_X7_165 miX7_hear msX7_hear rfl (by decide) rfl rfl (Nat.le_of_ble_eq_true rfl) (Nat.le_of_ble_eq_true rfl) rfl h (fun rv t2 q => ?_)
    obtain ⟨rfl, h⟩ := q
    show Rt g (d + 1) mX7_gone 28 [some (.ref 0), some (.int x1), some (.int s0)] [] t2 Q
    refine s_aload_n dX7_gone_28 rfl rfl ?_
    refine t_getR (o' := 13) dX7_gone_29 fl_X7_25 rfl (by decide) rfl rfl ?_
    refine t_getI dX7_gone_32 fl_X7_178 rfl (by decide) rfl ?_
    exact t_iret dX7_gone_35 (NR_i rfl _) h
  · replace h := h.2 c1
    refine s_iload_n dX7_gone_21 rfl rfl ?_
    exact t_iret dX7_gone_22 (NR_i rfl _) h
theorem bX7_believed_0 {g : Gt} {d : Nat} {t : Tt} {Q : Option Value → Tt → Prop} {p0 : Int32} {p1 : Int32} (h : Rt g d mX7_noShelf 0 [some (.int p0)] [] t (QI (fun v2 t1 => (¬ v2 = 0 → Q (some (.int (-1))) t1) ∧ (v2 = 0 → Rt g d mX7_outside 0 [some (.int p1), some (.int 9)] [] t1 (QI (fun v5 t4 => (v5 = 0 → Rt g d mX7_refusalOfBytes 0 [some (.ref 0), some (.int p0), none] [] t4 (QI (fun v8 t7 => (v8 = 0 → Rt g d mX7_hear 0 [some (.ref 0), some (.int p0)] [] t7 (QV (fun t10 => Rt g d mX2_beliefIn 0 [some (.ref 13), some (.int p1), none, none, none] [] t10 (QI (fun v12 t11 => Q (some (.int v12)) t11))))) ∧ (¬ v8 = 0 → Q (some (.int v8)) t7)))) ∧ (¬ v5 = 0 → Q (some (.int (-1))) t4))))))) : Rt g (d + 1) mX7_believed 0 [some (.ref 0), some (.int p0), some (.int p1), none] [] t Q := by
  refine s_iload_n dX7_believed_0 rfl rfl ?_
  refine t_callS (M' := mX7_noShelf) (k := 0) (As := [.int p0]) (rest := []) dX7_believed_1 ml_X7_86 mstX7_noShelf rfl (Nat.le_of_ble_eq_true rfl) (Nat.le_of_ble_eq_true rfl) rfl h (fun rv t1 q => ?_)
  obtain ⟨v2, rfl, h⟩ := q
  show Rt g (d + 1) mX7_believed 4 [some (.ref 0), some (.int p0), some (.int p1), none] [.int v2] t1 Q
  refine s_if_ne (tgt := 16) dX7_believed_4 (by decide) (fun c3 => ?_) (fun c3 => ?_)
  · replace h := h.1 c3
    refine s_iconst (v := (-1)) dX7_believed_16 (by decide) ?_
    exact t_iret dX7_believed_17 (NR_i rfl _) h
  · replace h := h.2 c3
    refine s_iload_n dX7_believed_7 rfl rfl ?_
    refine s_bipush (v := 9) dX7_believed_8 (by decide) ?_
    refine t_callS (M' := mX7_outside) (k := 0) (As := [.int p1, .int 9]) (rest := []) dX7_believed_10 ml_X7_71 mstX7_outside rfl (Nat.le_of_ble_eq_true rfl) (Nat.le_of_ble_eq_true rfl) rfl h (fun rv t4 q => ?_)
    obtain ⟨v5, rfl, h⟩ := q
    show Rt g (d + 1) mX7_believed 13 [some (.ref 0), some (.int p0), some (.int p1), none] [.int v5] t4 Q
    refine s_if_eq (tgt := 18) dX7_believed_13 (by decide) (fun c6 => ?_) (fun c6 => ?_)
    · replace h := h.1 c6
      refine s_aload_n dX7_believed_18 rfl rfl ?_
      refine s_iload_n dX7_believed_19 rfl rfl ?_
      refine t_callV (M' := mX7_refusalOfBytes) (k := 1) (As := [.int p0]) (rest := []) dX7_believed_20 ml_X7_162 miX7_refusalOfBytes msX7_refusalOfBytes rfl (by decide) rfl rfl (Nat.le_of_ble_eq_true rfl) (Nat.le_of_ble_eq_true rfl) rfl h (fun rv t7 q => ?_)
      obtain ⟨v8, rfl, h⟩ := q
      show Rt g (d + 1) mX7_believed 23 [some (.ref 0), some (.int p0), some (.int p1), none] [.int v8] t7 Q
      refine s_istore_n dX7_believed_23 rfl (by decide) rfl (L9 := [some (.ref 0), some (.int p0), some (.int p1), some (.int v8)]) rfl ?_
      refine s_iload_n dX7_believed_24 rfl rfl ?_
      refine s_if_eq (tgt := 30) dX7_believed_25 (by decide) (fun c9 => ?_) (fun c9 => ?_)
      · replace h := h.1 c9
        refine s_aload_n dX7_believed_30 rfl rfl ?_
        refine s_iload_n dX7_believed_31 rfl rfl ?_
        refine t_callV (M' := mX7_hear) (k := 0) (As := [.int p0]) (rest := []) dX7_believed_32 ml_X7_165 miX7_hear msX7_hear rfl (by decide) rfl rfl (Nat.le_of_ble_eq_true rfl) (Nat.le_of_ble_eq_true rfl) rfl h (fun rv t10 q => ?_)
        obtain ⟨rfl, h⟩ := q
        show Rt g (d + 1) mX7_believed 35 [some (.ref 0), some (.int p0), some (.int p1), some (.int v8)] [] t10 Q
        refine s_aload_n dX7_believed_35 rfl rfl ?_
        refine t_getR (o' := 13) dX7_believed_36 fl_X7_25 rfl (by decide) rfl rfl ?_
        refine s_iload_n dX7_believed_39 rfl rfl ?_
        refine t_callV (M' := mX2_beliefIn) (k := 3) (As := [.int p1]) (rest := []) dX7_believed_40 ml_X7_181 miX2_beliefIn msX2_beliefIn rfl (by decide) rfl rfl (Nat.le_of_ble_eq_true rfl) (Nat.le_of_ble_eq_true rfl) rfl h (fun rv t11 q => ?_)
        obtain ⟨v12, rfl, h⟩ := q
        show Rt g (d + 1) mX7_believed 43 [some (.ref 0), some (.int p0), some (.int p1), some (.int v8)] [.int v12] t11 Q
        exact t_iret dX7_believed_43 (NR_i rfl _) h
      · replace h := h.2 c9
        refine s_iload_n dX7_believed_28 rfl rfl ?_
        exact t_iret dX7_believed_29 (NR_i rfl _) h
    · replace h := h.2 c6
      refine s_iconst (v := (-1)) dX7_believed_16 (by decide) ?_
      exact t_iret dX7_believed_17 (NR_i rfl _) h
theorem bX7_told_0 {g : Gt} {d : Nat} {t : Tt} {Q : Option Value → Tt → Prop} {p0 : Int32} {p1 : Int32} (h : Rt g d mX7_noShelf 0 [some (.int p0)] [] t (QI (fun v2 t1 => (¬ v2 = 0 → Q (some (.int (-1))) t1) ∧ (v2 = 0 → Rt g d mX7_outside 0 [some (.int p1), some (.int 3)] [] t1 (QI (fun v5 t4 => (v5 = 0 → Rt g d mX7_refusalOfBytes 0 [some (.ref 0), some (.int p0), none] [] t4 (QI (fun v8 t7 => (v8 = 0 → Rt g d mX7_hear 0 [some (.ref 0), some (.int p0)] [] t7 (QV (fun t10 => (p1 = 0 → Rt g d mX2_wrongBeliefs 0 [some (.ref 13), some (.int (t10.1 0 11)), none, none, none] [] t10 (QI (fun v13 t12 => Q (some (.int v13)) t12))) ∧ (¬ p1 = 0 → (p1 = 1 → Q (some (.int (t10.1 13 6))) t10) ∧ (¬ p1 = 1 → (p1 = 2 → Q (some (.int (1023 &&& ((t10.1 13 7) ^^^ (-1))))) t10) ∧ (¬ p1 = 2 → Rt g d mX2_asWorthyAs 0 [some (.ref 13), some (.ref 1), none, none] [] t10 (QI (fun v17 t16 => Q (some (.int v17)) t16)))))))) ∧ (¬ v8 = 0 → Q (some (.int v8)) t7)))) ∧ (¬ v5 = 0 → Q (some (.int (-1))) t4))))))) : Rt g (d + 1) mX7_told 0 [some (.ref 0), some (.int p0), some (.int p1), none] [] t Q := by
  refine s_iload_n dX7_told_0 rfl rfl ?_
  refine t_callS (M' := mX7_noShelf) (k := 0) (As := [.int p0]) (rest := []) dX7_told_1 ml_X7_86 mstX7_noShelf rfl (Nat.le_of_ble_eq_true rfl) (Nat.le_of_ble_eq_true rfl) rfl h (fun rv t1 q => ?_)
  obtain ⟨v2, rfl, h⟩ := q
  show Rt g (d + 1) mX7_told 4 [some (.ref 0), some (.int p0), some (.int p1), none] [.int v2] t1 Q
  refine s_if_ne (tgt := 15) dX7_told_4 (by decide) (fun c3 => ?_) (fun c3 => ?_)
  · replace h := h.1 c3
    refine s_iconst (v := (-1)) dX7_told_15 (by decide) ?_
    exact t_iret dX7_told_16 (NR_i rfl _) h
  · replace h := h.2 c3
    refine s_iload_n dX7_told_7 rfl rfl ?_
    refine s_iconst (v := 3) dX7_told_8 (by decide) ?_
    refine t_callS (M' := mX7_outside) (k := 0) (As := [.int p1, .int 3]) (rest := []) dX7_told_9 ml_X7_71 mstX7_outside rfl (Nat.le_of_ble_eq_true rfl) (Nat.le_of_ble_eq_true rfl) rfl h (fun rv t4 q => ?_)
    obtain ⟨v5, rfl, h⟩ := q
    show Rt g (d + 1) mX7_told 12 [some (.ref 0), some (.int p0), some (.int p1), none] [.int v5] t4 Q
    refine s_if_eq (tgt := 17) dX7_told_12 (by decide) (fun c6 => ?_) (fun c6 => ?_)
    · replace h := h.1 c6
      refine s_aload_n dX7_told_17 rfl rfl ?_
      refine s_iload_n dX7_told_18 rfl rfl ?_
      refine t_callV (M' := mX7_refusalOfBytes) (k := 1) (As := [.int p0]) (rest := []) dX7_told_19 ml_X7_162 miX7_refusalOfBytes msX7_refusalOfBytes rfl (by decide) rfl rfl (Nat.le_of_ble_eq_true rfl) (Nat.le_of_ble_eq_true rfl) rfl h (fun rv t7 q => ?_)
      obtain ⟨v8, rfl, h⟩ := q
      show Rt g (d + 1) mX7_told 22 [some (.ref 0), some (.int p0), some (.int p1), none] [.int v8] t7 Q
      refine s_istore_n dX7_told_22 rfl (by decide) rfl (L9 := [some (.ref 0), some (.int p0), some (.int p1), some (.int v8)]) rfl ?_
      refine s_iload_n dX7_told_23 rfl rfl ?_
      refine s_if_eq (tgt := 29) dX7_told_24 (by decide) (fun c9 => ?_) (fun c9 => ?_)
      · replace h := h.1 c9
        refine s_aload_n dX7_told_29 rfl rfl ?_
        refine s_iload_n dX7_told_30 rfl rfl ?_
        refine t_callV (M' := mX7_hear) (k := 0) (As := [.int p0]) (rest := []) dX7_told_31 ml_X7_165 miX7_hear msX7_hear rfl (by decide) rfl rfl (Nat.le_of_ble_eq_true rfl) (Nat.le_of_ble_eq_true rfl) rfl h (fun rv t10 q => ?_)
        obtain ⟨rfl, h⟩ := q
        show Rt g (d + 1) mX7_told 34 [some (.ref 0), some (.int p0), some (.int p1), some (.int v8)] [] t10 Q
        refine s_iload_n dX7_told_34 rfl rfl ?_
        by_cases c11 : p1 = 0
        · replace h := h.1 c11
          refine s_tin (off := 25) (tgt := 60) dX7_told_35 (by rw [c11]; decide) (by rw [c11]; decide) (by rw [c11]; rfl) (by decide) ?_
          refine s_aload_n dX7_told_60 rfl rfl ?_
          refine t_getR (o' := 13) dX7_told_61 fl_X7_25 rfl (by decide) rfl rfl ?_
          refine s_aload_n dX7_told_64 rfl rfl ?_
          refine t_getI dX7_told_65 fl_X7_132 rfl (by decide) rfl ?_
          refine t_callV (M' := mX2_wrongBeliefs) (k := 3) (As := [.int (t10.1 0 11)]) (rest := []) dX7_told_68 ml_X7_184 miX2_wrongBeliefs msX2_wrongBeliefs rfl (by decide) rfl rfl (Nat.le_of_ble_eq_true rfl) (Nat.le_of_ble_eq_true rfl) rfl h (fun rv t12 q => ?_)
          obtain ⟨v13, rfl, h⟩ := q
          show Rt g (d + 1) mX7_told 71 [some (.ref 0), some (.int p0), some (.int p1), some (.int v8)] [.int v13] t12 Q
          exact t_iret dX7_told_71 (NR_i rfl _) h
        · replace h := h.2 c11
          by_cases c14 : p1 = 1
          · replace h := h.1 c14
            refine s_tin (off := 37) (tgt := 72) dX7_told_35 (by rw [c14]; decide) (by rw [c14]; decide) (by rw [c14]; rfl) (by decide) ?_
            refine s_aload_n dX7_told_72 rfl rfl ?_
            refine t_getR (o' := 13) dX7_told_73 fl_X7_25 rfl (by decide) rfl rfl ?_
            refine t_getI dX7_told_76 fl_X7_187 rfl (by decide) rfl ?_
            exact t_iret dX7_told_79 (NR_i rfl _) h
          · replace h := h.2 c14
            by_cases c15 : p1 = 2
            · replace h := h.1 c15
              refine s_tin (off := 45) (tgt := 80) dX7_told_35 (by rw [c15]; decide) (by rw [c15]; decide) (by rw [c15]; rfl) (by decide) ?_
              refine s_sipush (v := 1023) dX7_told_80 (by decide) ?_
              refine s_aload_n dX7_told_83 rfl rfl ?_
              refine t_getR (o' := 13) dX7_told_84 fl_X7_25 rfl (by decide) rfl rfl ?_
              refine t_getI dX7_told_87 fl_X7_190 rfl (by decide) rfl ?_
              refine s_iconst (v := (-1)) dX7_told_90 (by decide) ?_
              refine s_ixor dX7_told_91 ?_
              refine s_iand dX7_told_92 ?_
              exact t_iret dX7_told_93 (NR_i rfl _) h
            · replace h := h.2 c15
              refine s_tout (tgt := 94) dX7_told_35 (by have q0 := lv_neT c11 (a := 0) rfl; have q1 := lv_neT c14 (a := 1) rfl; have q2 := lv_neT c15 (a := 2) rfl; omega) (by decide) ?_
              refine s_aload_n dX7_told_94 rfl rfl ?_
              refine t_getR (o' := 13) dX7_told_95 fl_X7_25 rfl (by decide) rfl rfl ?_
              refine s_aload_n dX7_told_98 rfl rfl ?_
              refine t_getR (o' := 1) dX7_told_99 fl_X7_10 rfl (by decide) rfl rfl ?_
              refine t_callV (M' := mX2_asWorthyAs) (k := 2) (As := [.ref 1]) (rest := []) dX7_told_102 ml_X7_193 miX2_asWorthyAs msX2_asWorthyAs rfl (by decide) rfl rfl (Nat.le_of_ble_eq_true rfl) (Nat.le_of_ble_eq_true rfl) rfl h (fun rv t16 q => ?_)
              obtain ⟨v17, rfl, h⟩ := q
              show Rt g (d + 1) mX7_told 105 [some (.ref 0), some (.int p0), some (.int p1), some (.int v8)] [.int v17] t16 Q
              exact t_iret dX7_told_105 (NR_i rfl _) h
      · replace h := h.2 c9
        refine s_iload_n dX7_told_27 rfl rfl ?_
        exact t_iret dX7_told_28 (NR_i rfl _) h
    · replace h := h.2 c6
      refine s_iconst (v := (-1)) dX7_told_15 (by decide) ?_
      exact t_iret dX7_told_16 (NR_i rfl _) h
theorem bX7_have_0 {g : Gt} {d : Nat} {t : Tt} {Q : Option Value → Tt → Prop} {p0 : Int32} {p1 : Int32} {p2 : Int32} (h : Rt g d mX7_noShelf 0 [some (.int p0)] [] t (QI (fun v2 t1 => (¬ v2 = 0 → Q (some (.int (-1))) t1) ∧ (v2 = 0 → Rt g d mX7_noClaim 0 [some (.int p1)] [] t1 (QI (fun v5 t4 => (¬ v5 = 0 → Q (some (.int (-1))) t4) ∧ (v5 = 0 → Rt g d mX7_outside 0 [some (.int p2), some (.int 2)] [] t4 (QI (fun v8 t7 => (v8 = 0 → Rt g d mX7_refusalOfBytes 0 [some (.ref 0), some (.int p0), none] [] t7 (QI (fun v11 t10 => (v11 = 0 → Rt g d mX7_hear 0 [some (.ref 0), some (.int p0)] [] t10 (QV (fun t13 => Rt g d mX2_beliefIn 0 [some (.ref 13), some (.int (p1 / 10)), none, none, none] [] t13 (QI (fun v15 t14 => (¬ v15 = (jr p1 10) → Rt g d mX7_cheapestWay 0 [some (.ref 0), some (.int (p1 / 10)), some (.int (jr p1 10)), none, none, none, none, none, none] [] t14 (QI (fun v18 t17 => (¬ v18 = (-2) → (p2 = 0 → Q (some (.int (v18 / 70))) t17) ∧ (¬ p2 = 0 → (p2 = 1 → Q (some (.int (jr (v18 / 10) 7))) t17) ∧ (¬ p2 = 1 → Q (some (.int (jr v18 10))) t17))) ∧ (v18 = (-2) → Q (some (.int (-2))) t17)))) ∧ (v15 = (jr p1 10) → (¬ p2 = 0 → Q (some (.int (-2))) t14) ∧ (p2 = 0 → Q (some (.int 0)) t14))))))) ∧ (¬ v11 = 0 → Q (some (.int v11)) t10)))) ∧ (¬ v8 = 0 → Q (some (.int (-1))) t7)))))))))) : Rt g (d + 1) mX7_have 0 [some (.ref 0), some (.int p0), some (.int p1), some (.int p2), none, none] [] t Q := by
  refine s_iload_n dX7_have_0 rfl rfl ?_
  refine t_callS (M' := mX7_noShelf) (k := 0) (As := [.int p0]) (rest := []) dX7_have_1 ml_X7_86 mstX7_noShelf rfl (Nat.le_of_ble_eq_true rfl) (Nat.le_of_ble_eq_true rfl) rfl h (fun rv t1 q => ?_)
  obtain ⟨v2, rfl, h⟩ := q
  show Rt g (d + 1) mX7_have 4 [some (.ref 0), some (.int p0), some (.int p1), some (.int p2), none, none] [.int v2] t1 Q
  refine s_if_ne (tgt := 22) dX7_have_4 (by decide) (fun c3 => ?_) (fun c3 => ?_)
  · replace h := h.1 c3
    refine s_iconst (v := (-1)) dX7_have_22 (by decide) ?_
    exact t_iret dX7_have_23 (NR_i rfl _) h
  · replace h := h.2 c3
    refine s_iload_n dX7_have_7 rfl rfl ?_
    refine t_callS (M' := mX7_noClaim) (k := 0) (As := [.int p1]) (rest := []) dX7_have_8 ml_X7_197 mstX7_noClaim rfl (Nat.le_of_ble_eq_true rfl) (Nat.le_of_ble_eq_true rfl) rfl h (fun rv t4 q => ?_)
    obtain ⟨v5, rfl, h⟩ := q
    show Rt g (d + 1) mX7_have 11 [some (.ref 0), some (.int p0), some (.int p1), some (.int p2), none, none] [.int v5] t4 Q
    refine s_if_ne (tgt := 22) dX7_have_11 (by decide) (fun c6 => ?_) (fun c6 => ?_)
    · replace h := h.1 c6
      refine s_iconst (v := (-1)) dX7_have_22 (by decide) ?_
      exact t_iret dX7_have_23 (NR_i rfl _) h
    · replace h := h.2 c6
      refine s_iload_n dX7_have_14 rfl rfl ?_
      refine s_iconst (v := 2) dX7_have_15 (by decide) ?_
      refine t_callS (M' := mX7_outside) (k := 0) (As := [.int p2, .int 2]) (rest := []) dX7_have_16 ml_X7_71 mstX7_outside rfl (Nat.le_of_ble_eq_true rfl) (Nat.le_of_ble_eq_true rfl) rfl h (fun rv t7 q => ?_)
      obtain ⟨v8, rfl, h⟩ := q
      show Rt g (d + 1) mX7_have 19 [some (.ref 0), some (.int p0), some (.int p1), some (.int p2), none, none] [.int v8] t7 Q
      refine s_if_eq (tgt := 24) dX7_have_19 (by decide) (fun c9 => ?_) (fun c9 => ?_)
      · replace h := h.1 c9
        refine s_aload_n dX7_have_24 rfl rfl ?_
        refine s_iload_n dX7_have_25 rfl rfl ?_
        refine t_callV (M' := mX7_refusalOfBytes) (k := 1) (As := [.int p0]) (rest := []) dX7_have_26 ml_X7_162 miX7_refusalOfBytes msX7_refusalOfBytes rfl (by decide) rfl rfl (Nat.le_of_ble_eq_true rfl) (Nat.le_of_ble_eq_true rfl) rfl h (fun rv t10 q => ?_)
        obtain ⟨v11, rfl, h⟩ := q
        show Rt g (d + 1) mX7_have 29 [some (.ref 0), some (.int p0), some (.int p1), some (.int p2), none, none] [.int v11] t10 Q
        refine s_istore dX7_have_29 (by decide) rfl (L9 := [some (.ref 0), some (.int p0), some (.int p1), some (.int p2), some (.int v11), none]) rfl ?_
        refine s_iload dX7_have_31 rfl ?_
        refine s_if_eq (tgt := 39) dX7_have_33 (by decide) (fun c12 => ?_) (fun c12 => ?_)
        · replace h := h.1 c12
          refine s_aload_n dX7_have_39 rfl rfl ?_
          refine s_iload_n dX7_have_40 rfl rfl ?_
          refine t_callV (M' := mX7_hear) (k := 0) (As := [.int p0]) (rest := []) dX7_have_41 ml_X7_165 miX7_hear msX7_hear rfl (by decide) rfl rfl (Nat.le_of_ble_eq_true rfl) (Nat.le_of_ble_eq_true rfl) rfl h (fun rv t13 q => ?_)
          obtain ⟨rfl, h⟩ := q
          show Rt g (d + 1) mX7_have 44 [some (.ref 0), some (.int p0), some (.int p1), some (.int p2), some (.int v11), none] [] t13 Q
          refine s_aload_n dX7_have_44 rfl rfl ?_
          refine t_getR (o' := 13) dX7_have_45 fl_X7_25 rfl (by decide) rfl rfl ?_
          refine s_iload_n dX7_have_48 rfl rfl ?_
          refine s_bipush (v := 10) dX7_have_49 (by decide) ?_
          refine s_idiv dX7_have_51 (by decide) ?_
          refine t_callV (M' := mX2_beliefIn) (k := 3) (As := [.int (p1 / 10)]) (rest := []) dX7_have_52 ml_X7_181 miX2_beliefIn msX2_beliefIn rfl (by decide) rfl rfl (Nat.le_of_ble_eq_true rfl) (Nat.le_of_ble_eq_true rfl) rfl h (fun rv t14 q => ?_)
          obtain ⟨v15, rfl, h⟩ := q
          show Rt g (d + 1) mX7_have 55 [some (.ref 0), some (.int p0), some (.int p1), some (.int p2), some (.int v11), none] [.int v15] t14 Q
          refine s_iload_n dX7_have_55 rfl rfl ?_
          refine s_bipush (v := 10) dX7_have_56 (by decide) ?_
          refine s_irem dX7_have_58 (by decide) ?_
          refine s_icmp_ne (tgt := 73) dX7_have_59 (by decide) (fun c16 => ?_) (fun c16 => ?_)
          · replace h := h.1 c16
            refine s_aload_n dX7_have_73 rfl rfl ?_
            refine s_iload_n dX7_have_74 rfl rfl ?_
            refine s_bipush (v := 10) dX7_have_75 (by decide) ?_
            refine s_idiv dX7_have_77 (by decide) ?_
            refine s_iload_n dX7_have_78 rfl rfl ?_
            refine s_bipush (v := 10) dX7_have_79 (by decide) ?_
            refine s_irem dX7_have_81 (by decide) ?_
            refine t_callV (M' := mX7_cheapestWay) (k := 6) (As := [.int (p1 / 10), .int (jr p1 10)]) (rest := []) dX7_have_82 ml_X7_200 miX7_cheapestWay msX7_cheapestWay rfl (by decide) rfl rfl (Nat.le_of_ble_eq_true rfl) (Nat.le_of_ble_eq_true rfl) rfl h (fun rv t17 q => ?_)
            obtain ⟨v18, rfl, h⟩ := q
            show Rt g (d + 1) mX7_have 85 [some (.ref 0), some (.int p0), some (.int p1), some (.int p2), some (.int v11), none] [.int v18] t17 Q
            refine s_istore dX7_have_85 (by decide) rfl (L9 := [some (.ref 0), some (.int p0), some (.int p1), some (.int p2), some (.int v11), some (.int v18)]) rfl ?_
            refine s_iload dX7_have_87 rfl ?_
            refine s_bipush (v := (-2)) dX7_have_89 (by decide) ?_
            refine s_icmp_ne (tgt := 97) dX7_have_91 (by decide) (fun c19 => ?_) (fun c19 => ?_)
            · replace h := h.1 c19
              refine s_iload_n dX7_have_97 rfl rfl ?_
              by_cases c20 : p2 = 0
              · replace h := h.1 c20
                refine s_lsw (off := 26) (tgt := 124) dX7_have_98 (by decide) (by rw [c20]; rfl) (by decide) ?_
                refine s_iload dX7_have_124 rfl ?_
                refine s_bipush (v := 70) dX7_have_126 (by decide) ?_
                refine s_idiv dX7_have_128 (by decide) ?_
                exact t_iret dX7_have_129 (NR_i rfl _) h
              · replace h := h.2 c20
                by_cases c21 : p2 = 1
                · replace h := h.1 c21
                  refine s_lsw (off := 32) (tgt := 130) dX7_have_98 (by decide) (by rw [c21]; rfl) (by decide) ?_
                  refine s_iload dX7_have_130 rfl ?_
                  refine s_bipush (v := 10) dX7_have_132 (by decide) ?_
                  refine s_idiv dX7_have_134 (by decide) ?_
                  refine s_bipush (v := 7) dX7_have_135 (by decide) ?_
                  refine s_irem dX7_have_137 (by decide) ?_
                  exact t_iret dX7_have_138 (NR_i rfl _) h
                · replace h := h.2 c21
                  refine s_lsw (off := 41) (tgt := 139) dX7_have_98 (by decide) ((lv_osw c20 rfl).trans ((lv_osw c21 rfl).trans rfl)) (by decide) ?_
                  refine s_iload dX7_have_139 rfl ?_
                  refine s_bipush (v := 10) dX7_have_141 (by decide) ?_
                  refine s_irem dX7_have_143 (by decide) ?_
                  exact t_iret dX7_have_144 (NR_i rfl _) h
            · replace h := h.2 c19
              refine s_bipush (v := (-2)) dX7_have_94 (by decide) ?_
              exact t_iret dX7_have_96 (NR_i rfl _) h
          · replace h := h.2 c16
            refine s_iload_n dX7_have_62 rfl rfl ?_
            refine s_if_ne (tgt := 70) dX7_have_63 (by decide) (fun c22 => ?_) (fun c22 => ?_)
            · replace h := h.1 c22
              refine s_bipush (v := (-2)) dX7_have_70 (by decide) ?_
              exact t_iret dX7_have_72 (NR_i rfl _) h
            · replace h := h.2 c22
              refine s_iconst (v := 0) dX7_have_66 (by decide) ?_
              refine s_goto (tgt := 72) dX7_have_67 (by decide) ?_
              exact t_iret dX7_have_72 (NR_i rfl _) h
        · replace h := h.2 c12
          refine s_iload dX7_have_36 rfl ?_
          exact t_iret dX7_have_38 (NR_i rfl _) h
      · replace h := h.2 c9
        refine s_iconst (v := (-1)) dX7_have_22 (by decide) ?_
        exact t_iret dX7_have_23 (NR_i rfl _) h
theorem bX7_cheapestWay_0 {g : Gt} {d : Nat} {t : Tt} {Q : Option Value → Tt → Prop} {p0 : Int32} {p1 : Int32} (h : Rt g d mX5_copyFrom 0 [some (.ref 5), some (.ref 17)] [] t (QV (fun t1 => Rt g (d + 1) mX7_cheapestWay 20 [some (.ref 0), some (.int p0), some (.int p1), some (.int (-2)), some (.int 0), none, none, none, none] [] t1 Q))) : Rt g (d + 1) mX7_cheapestWay 0 [some (.ref 0), some (.int p0), some (.int p1), none, none, none, none, none, none] [] t Q := by
  refine s_aload_n dX7_cheapestWay_0 rfl rfl ?_
  refine t_getR (o' := 5) dX7_cheapestWay_1 fl_X7_16 rfl (by decide) rfl rfl ?_
  refine s_aload_n dX7_cheapestWay_4 rfl rfl ?_
  refine t_getR (o' := 13) dX7_cheapestWay_5 fl_X7_25 rfl (by decide) rfl rfl ?_
  refine t_getR (o' := 17) dX7_cheapestWay_8 fl_X7_172 rfl (by decide) rfl rfl ?_
  refine t_callV (M' := mX5_copyFrom) (k := 0) (As := [.ref 17]) (rest := []) dX7_cheapestWay_11 ml_X7_203 miX5_copyFrom msX5_copyFrom rfl (by decide) rfl rfl (Nat.le_of_ble_eq_true rfl) (Nat.le_of_ble_eq_true rfl) rfl h (fun rv t1 q => ?_)
  obtain ⟨rfl, h⟩ := q
  show Rt g (d + 1) mX7_cheapestWay 14 [some (.ref 0), some (.int p0), some (.int p1), none, none, none, none, none, none] [] t1 Q
  refine s_bipush (v := (-2)) dX7_cheapestWay_14 (by decide) ?_
  refine s_istore_n dX7_cheapestWay_16 rfl (by decide) rfl (L9 := [some (.ref 0), some (.int p0), some (.int p1), some (.int (-2)), none, none, none, none, none]) rfl ?_
  refine s_iconst (v := 0) dX7_cheapestWay_17 (by decide) ?_
  refine s_istore dX7_cheapestWay_18 (by decide) rfl (L9 := [some (.ref 0), some (.int p0), some (.int p1), some (.int (-2)), some (.int 0), none, none, none, none]) rfl ?_
  exact h
theorem bX7_cheapestWay_20 {g : Gt} {d : Nat} {t : Tt} {Q : Option Value → Tt → Prop} {x1 : Int32} {x2 : Int32} {x3 : Int32} {x4 : Int32} (h : ((t.1 1 0) ≤ x4 → Q (some (.int x3)) t) ∧ (¬ (t.1 1 0) ≤ x4 → vp_in ((x4 * 10) + x1) 70 ∧ (∀ z3 : Int32, z3 = (t.1 21 ((x4 * 10) + x1).toNatClampNeg) → Rt g (d + 1) mX7_cheapestWay 52 [some (.ref 0), some (.int x1), some (.int x2), some (.int x3), some (.int x4), some (.int z3), some (.int 0), none, none] [] t Q))) : Rt g (d + 1) mX7_cheapestWay 20 [some (.ref 0), some (.int x1), some (.int x2), some (.int x3), some (.int x4), none, none, none, none] [] t Q := by
  refine s_iload dX7_cheapestWay_20 rfl ?_
  refine s_aload_n dX7_cheapestWay_22 rfl rfl ?_
  refine t_getR (o' := 1) dX7_cheapestWay_23 fl_X7_10 rfl (by decide) rfl rfl ?_
  refine t_getI dX7_cheapestWay_26 fl_X7_75 rfl (by decide) rfl ?_
  refine s_icmp_ge (tgt := 171) dX7_cheapestWay_29 (by decide) (fun c1 => ?_) (fun c1 => ?_)
  · replace h := h.1 c1
    refine s_iload_n dX7_cheapestWay_171 rfl rfl ?_
    exact t_iret dX7_cheapestWay_172 (NR_i rfl _) h
  · replace h := h.2 c1
    refine s_aload_n dX7_cheapestWay_32 rfl rfl ?_
    refine t_getR (o' := 13) dX7_cheapestWay_33 fl_X7_25 rfl (by decide) rfl rfl ?_
    refine t_getR (o' := 21) dX7_cheapestWay_36 fl_X7_207 rfl (by decide) rfl rfl ?_
    refine s_iload dX7_cheapestWay_39 rfl ?_
    refine s_bipush (v := 10) dX7_cheapestWay_41 (by decide) ?_
    refine s_imul dX7_cheapestWay_43 ?_
    refine s_iload_n dX7_cheapestWay_44 rfl rfl ?_
    refine s_iadd dX7_cheapestWay_45 ?_
    obtain ⟨g2, h⟩ := h
    refine t_iald dX7_cheapestWay_46 rfl (by decide) g2 ?_
    refine t_nmI (fun z3 ez3 => ?_)
    replace h := h z3 ez3
    refine s_istore dX7_cheapestWay_47 (by decide) rfl (L9 := [some (.ref 0), some (.int x1), some (.int x2), some (.int x3), some (.int x4), some (.int z3), none, none, none]) rfl ?_
    refine s_iconst (v := 0) dX7_cheapestWay_49 (by decide) ?_
    refine s_istore dX7_cheapestWay_50 (by decide) rfl (L9 := [some (.ref 0), some (.int x1), some (.int x2), some (.int x3), some (.int x4), some (.int z3), some (.int 0), none, none]) rfl ?_
    exact h
theorem bX7_cheapestWay_52 {g : Gt} {d : Nat} {t : Tt} {Q : Option Value → Tt → Prop} {x1 : Int32} {x2 : Int32} {x3 : Int32} {x4 : Int32} {x5 : Int32} {x6 : Int32} (h : (10 ≤ x6 → vp_in ((x4 * 10) + x1) 70 ∧ Rt g (d + 1) mX7_cheapestWay 20 [some (.ref 0), some (.int x1), some (.int x2), some (.int x3), some (.int (x4 + 1)), none, none, none, none] [] (pI t 21 ((x4 * 10) + x1).toNatClampNeg x5) Q) ∧ (¬ 10 ≤ x6 → Rt g d mX5_copyFrom 0 [some (.ref 17), some (.ref 5)] [] t (QV (fun t3 => isLw t3.2.2.1 ∧ (Rt g d mX2_speak 0 [some (.ref 13), some (.ref t3.2.2.1), some (.int (t3.1 0 11)), some (.int x4), some (.int ((x1 * 2) + x2)), some (.int x6), none, none] [] t3 (QI (fun v6 t5 => ∀ z7 : Int32, z7 = ((((v6 * 7) + x4) * 10) + x6) → Rt g d mX2_beliefIn 0 [some (.ref 13), some (.int x1), none, none, none] [] t5 (QI (fun v9 t8 => (¬ v9 = x2 → Rt g (d + 1) mX7_cheapestWay 142 [some (.ref 0), some (.int x1), some (.int x2), some (.int x3), some (.int x4), some (.int x5), some (.int x6), none, none] [] t8 Q) ∧ (v9 = x2 → (x3 = (-2) → Rt g (d + 1) mX7_cheapestWay 139 [some (.ref 0), some (.int x1), some (.int x2), none, some (.int x4), some (.int x5), some (.int x6), none, some (.int z7)] [] t8 Q) ∧ (¬ x3 = (-2) → (x3 ≤ z7 → Rt g (d + 1) mX7_cheapestWay 142 [some (.ref 0), some (.int x1), some (.int x2), some (.int x3), some (.int x4), some (.int x5), some (.int x6), none, none] [] t8 Q) ∧ (¬ x3 ≤ z7 → Rt g (d + 1) mX7_cheapestWay 139 [some (.ref 0), some (.int x1), some (.int x2), none, some (.int x4), some (.int x5), some (.int x6), none, some (.int z7)] [] t8 Q)))))))))))) : Rt g (d + 1) mX7_cheapestWay 52 [some (.ref 0), some (.int x1), some (.int x2), some (.int x3), some (.int x4), some (.int x5), some (.int x6), none, none] [] t Q := by
  refine s_iload dX7_cheapestWay_52 rfl ?_
  refine s_bipush (v := 10) dX7_cheapestWay_54 (by decide) ?_
  refine s_icmp_ge (tgt := 148) dX7_cheapestWay_56 (by decide) (fun c1 => ?_) (fun c1 => ?_)
  · replace h := h.1 c1
    refine s_aload_n dX7_cheapestWay_148 rfl rfl ?_
    refine t_getR (o' := 13) dX7_cheapestWay_149 fl_X7_25 rfl (by decide) rfl rfl ?_
    refine t_getR (o' := 21) dX7_cheapestWay_152 fl_X7_207 rfl (by decide) rfl rfl ?_
    refine s_iload dX7_cheapestWay_155 rfl ?_
    refine s_bipush (v := 10) dX7_cheapestWay_157 (by decide) ?_
    refine s_imul dX7_cheapestWay_159 ?_
    refine s_iload_n dX7_cheapestWay_160 rfl rfl ?_
    refine s_iadd dX7_cheapestWay_161 ?_
    refine s_iload dX7_cheapestWay_162 rfl ?_
    obtain ⟨g2, h⟩ := h
    refine t_iast dX7_cheapestWay_164 rfl (by decide) g2 ?_
    refine s_iinc (w := x4 + 1) dX7_cheapestWay_165 rfl (by rfl) (by decide) rfl (L9 := [some (.ref 0), some (.int x1), some (.int x2), some (.int x3), some (.int (x4 + 1)), some (.int x5), some (.int x6), none, none]) rfl ?_
    refine s_goto (tgt := 20) dX7_cheapestWay_168 (by decide) ?_
    exact Rt.lc h (lc_some (lc_some (lc_some (lc_some (lc_some (lc_none (lc_none (lc_none (lc_none lc_nil)))))))))
  · replace h := h.2 c1
    refine s_aload_n dX7_cheapestWay_59 rfl rfl ?_
    refine t_getR (o' := 13) dX7_cheapestWay_60 fl_X7_25 rfl (by decide) rfl rfl ?_
    refine t_getR (o' := 17) dX7_cheapestWay_63 fl_X7_172 rfl (by decide) rfl rfl ?_
    refine s_aload_n dX7_cheapestWay_66 rfl rfl ?_
    refine t_getR (o' := 5) dX7_cheapestWay_67 fl_X7_16 rfl (by decide) rfl rfl ?_
    refine t_callV (M' := mX5_copyFrom) (k := 0) (As := [.ref 5]) (rest := []) dX7_cheapestWay_70 ml_X7_203 miX5_copyFrom msX5_copyFrom rfl (by decide) rfl rfl (Nat.le_of_ble_eq_true rfl) (Nat.le_of_ble_eq_true rfl) rfl h (fun rv t3 q => ?_)
    obtain ⟨rfl, h⟩ := q
    show Rt g (d + 1) mX7_cheapestWay 73 [some (.ref 0), some (.int x1), some (.int x2), some (.int x3), some (.int x4), some (.int x5), some (.int x6), none, none] [] t3 Q
    refine s_aload_n dX7_cheapestWay_73 rfl rfl ?_
    refine t_getR (o' := 13) dX7_cheapestWay_74 fl_X7_25 rfl (by decide) rfl rfl ?_
    refine s_aload_n dX7_cheapestWay_77 rfl rfl ?_
    obtain ⟨g4, h⟩ := h
    refine t_getR dX7_cheapestWay_78 fl_X7_66 rfl (by decide) rfl rfl ?_
    refine s_aload_n dX7_cheapestWay_81 rfl rfl ?_
    refine t_getI dX7_cheapestWay_82 fl_X7_132 rfl (by decide) rfl ?_
    refine s_iload dX7_cheapestWay_85 rfl ?_
    refine s_iload_n dX7_cheapestWay_87 rfl rfl ?_
    refine s_iconst (v := 2) dX7_cheapestWay_88 (by decide) ?_
    refine s_imul dX7_cheapestWay_89 ?_
    refine s_iload_n dX7_cheapestWay_90 rfl rfl ?_
    refine s_iadd dX7_cheapestWay_91 ?_
    refine s_iload dX7_cheapestWay_92 rfl ?_
    refine t_callV (M' := mX2_speak) (k := 2) (As := [.ref t3.2.2.1, .int (t3.1 0 11), .int x4, .int ((x1 * 2) + x2), .int x6]) (rest := []) dX7_cheapestWay_94 ml_X7_210 miX2_speak msX2_speak rfl (by decide) rfl rfl (Nat.le_of_ble_eq_true rfl) (Nat.le_of_ble_eq_true rfl) rfl h (fun rv t5 q => ?_)
    obtain ⟨v6, rfl, h⟩ := q
    show Rt g (d + 1) mX7_cheapestWay 97 [some (.ref 0), some (.int x1), some (.int x2), some (.int x3), some (.int x4), some (.int x5), some (.int x6), none, none] [.int v6] t5 Q
    refine s_istore dX7_cheapestWay_97 (by decide) rfl (L9 := [some (.ref 0), some (.int x1), some (.int x2), some (.int x3), some (.int x4), some (.int x5), some (.int x6), some (.int v6), none]) rfl ?_
    refine s_iload dX7_cheapestWay_99 rfl ?_
    refine s_bipush (v := 7) dX7_cheapestWay_101 (by decide) ?_
    refine s_imul dX7_cheapestWay_103 ?_
    refine s_iload dX7_cheapestWay_104 rfl ?_
    refine s_iadd dX7_cheapestWay_106 ?_
    refine s_bipush (v := 10) dX7_cheapestWay_107 (by decide) ?_
    refine s_imul dX7_cheapestWay_109 ?_
    refine s_iload dX7_cheapestWay_110 rfl ?_
    refine s_iadd dX7_cheapestWay_112 ?_
    refine t_nmI (fun z7 ez7 => ?_)
    replace h := h z7 ez7
    refine s_istore dX7_cheapestWay_113 (by decide) rfl (L9 := [some (.ref 0), some (.int x1), some (.int x2), some (.int x3), some (.int x4), some (.int x5), some (.int x6), some (.int v6), some (.int z7)]) rfl ?_
    refine s_aload_n dX7_cheapestWay_115 rfl rfl ?_
    refine t_getR (o' := 13) dX7_cheapestWay_116 fl_X7_25 rfl (by decide) rfl rfl ?_
    refine s_iload_n dX7_cheapestWay_119 rfl rfl ?_
    refine t_callV (M' := mX2_beliefIn) (k := 3) (As := [.int x1]) (rest := []) dX7_cheapestWay_120 ml_X7_181 miX2_beliefIn msX2_beliefIn rfl (by decide) rfl rfl (Nat.le_of_ble_eq_true rfl) (Nat.le_of_ble_eq_true rfl) rfl h (fun rv t8 q => ?_)
    obtain ⟨v9, rfl, h⟩ := q
    show Rt g (d + 1) mX7_cheapestWay 123 [some (.ref 0), some (.int x1), some (.int x2), some (.int x3), some (.int x4), some (.int x5), some (.int x6), some (.int v6), some (.int z7)] [.int v9] t8 Q
    refine s_iload_n dX7_cheapestWay_123 rfl rfl ?_
    refine s_icmp_ne (tgt := 142) dX7_cheapestWay_124 (by decide) (fun c10 => ?_) (fun c10 => ?_)
    · replace h := h.1 c10
      exact Rt.lc h (lc_some (lc_some (lc_some (lc_some (lc_some (lc_some (lc_some (lc_none (lc_none lc_nil)))))))))
    · replace h := h.2 c10
      refine s_iload_n dX7_cheapestWay_127 rfl rfl ?_
      refine s_bipush (v := (-2)) dX7_cheapestWay_128 (by decide) ?_
      refine s_icmp_eq (tgt := 139) dX7_cheapestWay_130 (by decide) (fun c11 => ?_) (fun c11 => ?_)
      · replace h := h.1 c11
        exact Rt.lc h (lc_some (lc_some (lc_some (lc_none (lc_some (lc_some (lc_some (lc_none (lc_some lc_nil)))))))))
      · replace h := h.2 c11
        refine s_iload dX7_cheapestWay_133 rfl ?_
        refine s_iload_n dX7_cheapestWay_135 rfl rfl ?_
        refine s_icmp_ge (tgt := 142) dX7_cheapestWay_136 (by decide) (fun c12 => ?_) (fun c12 => ?_)
        · replace h := h.1 c12
          exact Rt.lc h (lc_some (lc_some (lc_some (lc_some (lc_some (lc_some (lc_some (lc_none (lc_none lc_nil)))))))))
        · replace h := h.2 c12
          exact Rt.lc h (lc_some (lc_some (lc_some (lc_none (lc_some (lc_some (lc_some (lc_none (lc_some lc_nil)))))))))
theorem bX7_cheapestWay_142 {g : Gt} {d : Nat} {t : Tt} {Q : Option Value → Tt → Prop} {x1 : Int32} {x2 : Int32} {x3 : Int32} {x4 : Int32} {x5 : Int32} {x6 : Int32} (h : Rt g (d + 1) mX7_cheapestWay 52 [some (.ref 0), some (.int x1), some (.int x2), some (.int x3), some (.int x4), some (.int x5), some (.int (x6 + 1)), none, none] [] t Q) : Rt g (d + 1) mX7_cheapestWay 142 [some (.ref 0), some (.int x1), some (.int x2), some (.int x3), some (.int x4), some (.int x5), some (.int x6), none, none] [] t Q := by
  refine s_iinc (w := x6 + 1) dX7_cheapestWay_142 rfl (by rfl) (by decide) rfl (L9 := [some (.ref 0), some (.int x1), some (.int x2), some (.int x3), some (.int x4), some (.int x5), some (.int (x6 + 1)), none, none]) rfl ?_
  refine s_goto (tgt := 52) dX7_cheapestWay_145 (by decide) ?_
  exact h
theorem bX7_cheapestWay_139 {g : Gt} {d : Nat} {t : Tt} {Q : Option Value → Tt → Prop} {x1 : Int32} {x2 : Int32} {x4 : Int32} {x5 : Int32} {x6 : Int32} {x8 : Int32} (h : Rt g (d + 1) mX7_cheapestWay 142 [some (.ref 0), some (.int x1), some (.int x2), some (.int x8), some (.int x4), some (.int x5), some (.int x6), none, none] [] t Q) : Rt g (d + 1) mX7_cheapestWay 139 [some (.ref 0), some (.int x1), some (.int x2), none, some (.int x4), some (.int x5), some (.int x6), none, some (.int x8)] [] t Q := by
  refine s_iload dX7_cheapestWay_139 rfl ?_
  refine s_istore_n dX7_cheapestWay_141 rfl (by decide) rfl (L9 := [some (.ref 0), some (.int x1), some (.int x2), some (.int x8), some (.int x4), some (.int x5), some (.int x6), none, some (.int x8)]) rfl ?_
  exact Rt.lc h (lc_some (lc_some (lc_some (lc_some (lc_some (lc_some (lc_some (lc_none (lc_none lc_nil)))))))))
theorem bX7_left_0 {g : Gt} {d : Nat} {t : Tt} {Q : Option Value → Tt → Prop} {p0 : Int32} {p1 : Int32} (h : Rt g d mX7_nobody 0 [some (.ref 0), some (.int p0)] [] t (QI (fun v2 t1 => (¬ v2 = 0 → Q (some (.int (-1))) t1) ∧ (v2 = 0 → Rt g d mX7_outside 0 [some (.int p1), some (.int 9)] [] t1 (QI (fun v5 t4 => (v5 = 0 → Rt g d mX5_copyFrom 0 [some (.ref 5), some (.ref 1)] [] t4 (QV (fun t7 => Rt g (d + 1) mX7_left 32 [some (.ref 0), some (.int p0), some (.int p1), some (.int 0)] [] t7 Q))) ∧ (¬ v5 = 0 → Q (some (.int (-1))) t4))))))) : Rt g (d + 1) mX7_left 0 [some (.ref 0), some (.int p0), some (.int p1), none] [] t Q := by
  refine s_aload_n dX7_left_0 rfl rfl ?_
  refine s_iload_n dX7_left_1 rfl rfl ?_
  refine t_callV (M' := mX7_nobody) (k := 0) (As := [.int p0]) (rest := []) dX7_left_2 ml_X7_126 miX7_nobody msX7_nobody rfl (by decide) rfl rfl (Nat.le_of_ble_eq_true rfl) (Nat.le_of_ble_eq_true rfl) rfl h (fun rv t1 q => ?_)
  obtain ⟨v2, rfl, h⟩ := q
  show Rt g (d + 1) mX7_left 5 [some (.ref 0), some (.int p0), some (.int p1), none] [.int v2] t1 Q
  refine s_if_ne (tgt := 17) dX7_left_5 (by decide) (fun c3 => ?_) (fun c3 => ?_)
  · replace h := h.1 c3
    refine s_iconst (v := (-1)) dX7_left_17 (by decide) ?_
    exact t_iret dX7_left_18 (NR_i rfl _) h
  · replace h := h.2 c3
    refine s_iload_n dX7_left_8 rfl rfl ?_
    refine s_bipush (v := 9) dX7_left_9 (by decide) ?_
    refine t_callS (M' := mX7_outside) (k := 0) (As := [.int p1, .int 9]) (rest := []) dX7_left_11 ml_X7_71 mstX7_outside rfl (Nat.le_of_ble_eq_true rfl) (Nat.le_of_ble_eq_true rfl) rfl h (fun rv t4 q => ?_)
    obtain ⟨v5, rfl, h⟩ := q
    show Rt g (d + 1) mX7_left 14 [some (.ref 0), some (.int p0), some (.int p1), none] [.int v5] t4 Q
    refine s_if_eq (tgt := 19) dX7_left_14 (by decide) (fun c6 => ?_) (fun c6 => ?_)
    · replace h := h.1 c6
      refine s_aload_n dX7_left_19 rfl rfl ?_
      refine t_getR (o' := 5) dX7_left_20 fl_X7_16 rfl (by decide) rfl rfl ?_
      refine s_aload_n dX7_left_23 rfl rfl ?_
      refine t_getR (o' := 1) dX7_left_24 fl_X7_10 rfl (by decide) rfl rfl ?_
      refine t_callV (M' := mX5_copyFrom) (k := 0) (As := [.ref 1]) (rest := []) dX7_left_27 ml_X7_203 miX5_copyFrom msX5_copyFrom rfl (by decide) rfl rfl (Nat.le_of_ble_eq_true rfl) (Nat.le_of_ble_eq_true rfl) rfl h (fun rv t7 q => ?_)
      obtain ⟨rfl, h⟩ := q
      show Rt g (d + 1) mX7_left 30 [some (.ref 0), some (.int p0), some (.int p1), none] [] t7 Q
      refine s_iconst (v := 0) dX7_left_30 (by decide) ?_
      refine s_istore_n dX7_left_31 rfl (by decide) rfl (L9 := [some (.ref 0), some (.int p0), some (.int p1), some (.int 0)]) rfl ?_
      exact h
    · replace h := h.2 c6
      refine s_iconst (v := (-1)) dX7_left_17 (by decide) ?_
      exact t_iret dX7_left_18 (NR_i rfl _) h
theorem bX7_left_32 {g : Gt} {d : Nat} {t : Tt} {Q : Option Value → Tt → Prop} {x1 : Int32} {x2 : Int32} {x3 : Int32} (h : (99 < x3 → Q (some (.int (-2))) t) ∧ (¬ 99 < x3 → Rt g d mX5_isGone 0 [some (.ref 5), some (.int x1)] [] t (QI (fun v3 t2 => (v3 = 0 → isLw t2.2.2.1 ∧ Rt g d mX5_lie 0 [some (.ref 5), some (.ref t2.2.2.1), some (.int x1), some (.int 0), some (.int x2), none, none, none, none, none, none] [] t2 (QI (fun v7 t6 => Rt g (d + 1) mX7_left 32 [some (.ref 0), some (.int x1), some (.int x2), some (.int (x3 + 1))] [] t6 Q))) ∧ (¬ v3 = 0 → Q (some (.int x3)) t2))))) : Rt g (d + 1) mX7_left 32 [some (.ref 0), some (.int x1), some (.int x2), some (.int x3)] [] t Q := by
  refine s_iload_n dX7_left_32 rfl rfl ?_
  refine s_bipush (v := 99) dX7_left_33 (by decide) ?_
  refine s_icmp_gt (tgt := 72) dX7_left_35 (by decide) (fun c1 => ?_) (fun c1 => ?_)
  · replace h := h.1 c1
    refine s_bipush (v := (-2)) dX7_left_72 (by decide) ?_
    exact t_iret dX7_left_74 (NR_i rfl _) h
  · replace h := h.2 c1
    refine s_aload_n dX7_left_38 rfl rfl ?_
    refine t_getR (o' := 5) dX7_left_39 fl_X7_16 rfl (by decide) rfl rfl ?_
    refine s_iload_n dX7_left_42 rfl rfl ?_
    refine t_callV (M' := mX5_isGone) (k := 0) (As := [.int x1]) (rest := []) dX7_left_43 ml_X7_214 miX5_isGone msX5_isGone rfl (by decide) rfl rfl (Nat.le_of_ble_eq_true rfl) (Nat.le_of_ble_eq_true rfl) rfl h (fun rv t2 q => ?_)
    obtain ⟨v3, rfl, h⟩ := q
    show Rt g (d + 1) mX7_left 46 [some (.ref 0), some (.int x1), some (.int x2), some (.int x3)] [.int v3] t2 Q
    refine s_if_eq (tgt := 51) dX7_left_46 (by decide) (fun c4 => ?_) (fun c4 => ?_)
    · replace h := h.1 c4
      refine s_aload_n dX7_left_51 rfl rfl ?_
      refine t_getR (o' := 5) dX7_left_52 fl_X7_16 rfl (by decide) rfl rfl ?_
      refine s_aload_n dX7_left_55 rfl rfl ?_
      obtain ⟨g5, h⟩ := h
      refine t_getR dX7_left_56 fl_X7_66 rfl (by decide) rfl rfl ?_
      refine s_iload_n dX7_left_59 rfl rfl ?_
      refine s_iconst (v := 0) dX7_left_60 (by decide) ?_
      refine s_iload_n dX7_left_61 rfl rfl ?_
      refine t_callV (M' := mX5_lie) (k := 6) (As := [.ref t2.2.2.1, .int x1, .int 0, .int x2]) (rest := []) dX7_left_62 ml_X7_217 miX5_lie msX5_lie rfl (by decide) rfl rfl (Nat.le_of_ble_eq_true rfl) (Nat.le_of_ble_eq_true rfl) rfl h (fun rv t6 q => ?_)
      obtain ⟨v7, rfl, h⟩ := q
      show Rt g (d + 1) mX7_left 65 [some (.ref 0), some (.int x1), some (.int x2), some (.int x3)] [.int v7] t6 Q
      refine s_pop dX7_left_65 rfl ?_
      refine s_iinc (w := x3 + 1) dX7_left_66 rfl (by rfl) (by decide) rfl (L9 := [some (.ref 0), some (.int x1), some (.int x2), some (.int (x3 + 1))]) rfl ?_
      refine s_goto (tgt := 32) dX7_left_69 (by decide) ?_
      exact h
    · replace h := h.2 c4
      refine s_iload_n dX7_left_49 rfl rfl ?_
      exact t_iret dX7_left_50 (NR_i rfl _) h
theorem bX7_enough_0 {g : Gt} {d : Nat} {t : Tt} {Q : Option Value → Tt → Prop} {p0 : Int32} {p1 : Int32} (h : Rt g d mX7_outside 0 [some (.int p0), some (.int 999)] [] t (QI (fun v2 t1 => (¬ v2 = 0 → Q (some (.int (-1))) t1) ∧ (v2 = 0 → Rt g d mX7_outside 0 [some (.int p1), some (.int 1)] [] t1 (QI (fun v5 t4 => (v5 = 0 → Rt g (d + 1) mX7_enough 26 [some (.ref 0), some (.int p0), some (.int p1), some (.int (-2)), some (.int 0), none] [] t4 Q) ∧ (¬ v5 = 0 → Q (some (.int (-1))) t4))))))) : Rt g (d + 1) mX7_enough 0 [some (.ref 0), some (.int p0), some (.int p1), none, none, none] [] t Q := by
  refine s_iload_n dX7_enough_0 rfl rfl ?_
  refine s_sipush (v := 999) dX7_enough_1 (by decide) ?_
  refine t_callS (M' := mX7_outside) (k := 0) (As := [.int p0, .int 999]) (rest := []) dX7_enough_4 ml_X7_71 mstX7_outside rfl (Nat.le_of_ble_eq_true rfl) (Nat.le_of_ble_eq_true rfl) rfl h (fun rv t1 q => ?_)
  obtain ⟨v2, rfl, h⟩ := q
  show Rt g (d + 1) mX7_enough 7 [some (.ref 0), some (.int p0), some (.int p1), none, none, none] [.int v2] t1 Q
  refine s_if_ne (tgt := 18) dX7_enough_7 (by decide) (fun c3 => ?_) (fun c3 => ?_)
  · replace h := h.1 c3
    refine s_iconst (v := (-1)) dX7_enough_18 (by decide) ?_
    exact t_iret dX7_enough_19 (NR_i rfl _) h
  · replace h := h.2 c3
    refine s_iload_n dX7_enough_10 rfl rfl ?_
    refine s_iconst (v := 1) dX7_enough_11 (by decide) ?_
    refine t_callS (M' := mX7_outside) (k := 0) (As := [.int p1, .int 1]) (rest := []) dX7_enough_12 ml_X7_71 mstX7_outside rfl (Nat.le_of_ble_eq_true rfl) (Nat.le_of_ble_eq_true rfl) rfl h (fun rv t4 q => ?_)
    obtain ⟨v5, rfl, h⟩ := q
    show Rt g (d + 1) mX7_enough 15 [some (.ref 0), some (.int p0), some (.int p1), none, none, none] [.int v5] t4 Q
    refine s_if_eq (tgt := 20) dX7_enough_15 (by decide) (fun c6 => ?_) (fun c6 => ?_)
    · replace h := h.1 c6
      refine s_bipush (v := (-2)) dX7_enough_20 (by decide) ?_
      refine s_istore_n dX7_enough_22 rfl (by decide) rfl (L9 := [some (.ref 0), some (.int p0), some (.int p1), some (.int (-2)), none, none]) rfl ?_
      refine s_iconst (v := 0) dX7_enough_23 (by decide) ?_
      refine s_istore dX7_enough_24 (by decide) rfl (L9 := [some (.ref 0), some (.int p0), some (.int p1), some (.int (-2)), some (.int 0), none]) rfl ?_
      exact h
    · replace h := h.2 c6
      refine s_iconst (v := (-1)) dX7_enough_18 (by decide) ?_
      exact t_iret dX7_enough_19 (NR_i rfl _) h
theorem bX7_enough_26 {g : Gt} {d : Nat} {t : Tt} {Q : Option Value → Tt → Prop} {x1 : Int32} {x2 : Int32} {x3 : Int32} {x4 : Int32} (h : ((jsl 1 (t.1 1 0)) ≤ x4 → (x3 = (-2) → Rt g (d + 1) mX7_enough 103 [none, none, none, some (.int x3), none, none] [] t Q) ∧ (¬ x3 = (-2) → (¬ x2 = 1 → Rt g d mJ6_bitCount_0f7a4 0 [some (.int x3)] [] t (QI (fun v5 t4 => Q (some (.int v5)) t4))) ∧ (x2 = 1 → Rt g (d + 1) mX7_enough 103 [none, none, none, some (.int x3), none, none] [] t Q))) ∧ (¬ (jsl 1 (t.1 1 0)) ≤ x4 → (x3 = (-2) → Rt g (d + 1) mX7_enough 58 [some (.ref 0), some (.int x1), some (.int x2), some (.int x3), some (.int x4), none] [] t Q) ∧ (¬ x3 = (-2) → Rt g d mJ6_bitCount_0f7a4 0 [some (.int x4)] [] t (QI (fun v8 t7 => Rt g d mJ6_bitCount_0f7a4 0 [some (.int x3)] [] t7 (QI (fun v10 t9 => (v10 ≤ v8 → Rt g (d + 1) mX7_enough 63 [some (.ref 0), some (.int x1), some (.int x2), some (.int x3), some (.int x4), none] [.int 0] t9 Q) ∧ (¬ v10 ≤ v8 → Rt g (d + 1) mX7_enough 58 [some (.ref 0), some (.int x1), some (.int x2), some (.int x3), some (.int x4), none] [] t9 Q)))))))) : Rt g (d + 1) mX7_enough 26 [some (.ref 0), some (.int x1), some (.int x2), some (.int x3), some (.int x4), none] [] t Q := by
  refine s_iload dX7_enough_26 rfl ?_
  refine s_iconst (v := 1) dX7_enough_28 (by decide) ?_
  refine s_aload_n dX7_enough_29 rfl rfl ?_
  refine t_getR (o' := 1) dX7_enough_30 fl_X7_10 rfl (by decide) rfl rfl ?_
  refine t_getI dX7_enough_33 fl_X7_75 rfl (by decide) rfl ?_
  refine s_ishl dX7_enough_36 ?_
  refine s_icmp_ge (tgt := 92) dX7_enough_37 (by decide) (fun c1 => ?_) (fun c1 => ?_)
  · replace h := h.1 c1
    refine s_iload_n dX7_enough_92 rfl rfl ?_
    refine s_bipush (v := (-2)) dX7_enough_93 (by decide) ?_
    refine s_icmp_eq (tgt := 103) dX7_enough_95 (by decide) (fun c2 => ?_) (fun c2 => ?_)
    · replace h := h.1 c2
      exact Rt.lc h (lc_none (lc_none (lc_none (lc_some (lc_none (lc_none lc_nil))))))
    · replace h := h.2 c2
      refine s_iload_n dX7_enough_98 rfl rfl ?_
      refine s_iconst (v := 1) dX7_enough_99 (by decide) ?_
      refine s_icmp_ne (tgt := 107) dX7_enough_100 (by decide) (fun c3 => ?_) (fun c3 => ?_)
      · replace h := h.1 c3
        refine s_iload_n dX7_enough_107 rfl rfl ?_
        refine t_callS (M' := mJ6_bitCount_0f7a4) (k := 0) (As := [.int x3]) (rest := []) dX7_enough_108 ml_X7_221 mstJ6_bitCount_0f7a4 rfl (Nat.le_of_ble_eq_true rfl) (Nat.le_of_ble_eq_true rfl) rfl h (fun rv t4 q => ?_)
        obtain ⟨v5, rfl, h⟩ := q
        show Rt g (d + 1) mX7_enough 111 [some (.ref 0), some (.int x1), some (.int x2), some (.int x3), some (.int x4), none] [.int v5] t4 Q
        exact t_iret dX7_enough_111 (NR_i rfl _) h
      · replace h := h.2 c3
        exact Rt.lc h (lc_none (lc_none (lc_none (lc_some (lc_none (lc_none lc_nil))))))
  · replace h := h.2 c1
    refine s_iload_n dX7_enough_40 rfl rfl ?_
    refine s_bipush (v := (-2)) dX7_enough_41 (by decide) ?_
    refine s_icmp_eq (tgt := 58) dX7_enough_43 (by decide) (fun c6 => ?_) (fun c6 => ?_)
    · replace h := h.1 c6
      exact h
    · replace h := h.2 c6
      refine s_iload dX7_enough_46 rfl ?_
      refine t_callS (M' := mJ6_bitCount_0f7a4) (k := 0) (As := [.int x4]) (rest := []) dX7_enough_48 ml_X7_221 mstJ6_bitCount_0f7a4 rfl (Nat.le_of_ble_eq_true rfl) (Nat.le_of_ble_eq_true rfl) rfl h (fun rv t7 q => ?_)
      obtain ⟨v8, rfl, h⟩ := q
      show Rt g (d + 1) mX7_enough 51 [some (.ref 0), some (.int x1), some (.int x2), some (.int x3), some (.int x4), none] [.int v8] t7 Q
      refine s_iload_n dX7_enough_51 rfl rfl ?_
      refine t_callS (M' := mJ6_bitCount_0f7a4) (k := 0) (As := [.int x3]) (rest := [.int v8]) dX7_enough_52 ml_X7_221 mstJ6_bitCount_0f7a4 rfl (Nat.le_of_ble_eq_true rfl) (Nat.le_of_ble_eq_true rfl) rfl h (fun rv t9 q => ?_)
      obtain ⟨v10, rfl, h⟩ := q
      show Rt g (d + 1) mX7_enough 55 [some (.ref 0), some (.int x1), some (.int x2), some (.int x3), some (.int x4), none] [.int v10, .int v8] t9 Q
      refine s_icmp_ge (tgt := 62) dX7_enough_55 (by decide) (fun c11 => ?_) (fun c11 => ?_)
      · replace h := h.1 c11
        refine s_iconst (v := 0) dX7_enough_62 (by decide) ?_
        exact h
      · replace h := h.2 c11
        exact h
theorem bX7_enough_103 {g : Gt} {d : Nat} {t : Tt} {Q : Option Value → Tt → Prop} {x3 : Int32} (h : Q (some (.int x3)) t) : Rt g (d + 1) mX7_enough 103 [none, none, none, some (.int x3), none, none] [] t Q := by
  refine s_iload_n dX7_enough_103 rfl rfl ?_
  refine s_goto (tgt := 111) dX7_enough_104 (by decide) ?_
  exact t_iret dX7_enough_111 (NR_i rfl _) h
theorem bX7_enough_58 {g : Gt} {d : Nat} {t : Tt} {Q : Option Value → Tt → Prop} {x1 : Int32} {x2 : Int32} {x3 : Int32} {x4 : Int32} (h : Rt g (d + 1) mX7_enough 63 [some (.ref 0), some (.int x1), some (.int x2), some (.int x3), some (.int x4), none] [.int 1] t Q) : Rt g (d + 1) mX7_enough 58 [some (.ref 0), some (.int x1), some (.int x2), some (.int x3), some (.int x4), none] [] t Q := by
  refine s_iconst (v := 1) dX7_enough_58 (by decide) ?_
  refine s_goto (tgt := 63) dX7_enough_59 (by decide) ?_
  exact h
theorem bX7_enough_63 {g : Gt} {d : Nat} {t : Tt} {Q : Option Value → Tt → Prop} {x1 : Int32} {x2 : Int32} {x3 : Int32} {x4 : Int32} {s0 : Int32} (h : (s0 = 0 → Rt g (d + 1) mX7_enough 86 [some (.ref 0), some (.int x1), some (.int x2), some (.int x3), some (.int x4), none] [] t Q) ∧ (¬ s0 = 0 → Rt g d mX5_worthTogether 0 [some (.ref 1), some (.int x4), none, none] [] t (QI (fun v3 t2 => (v3 < x1 → Rt g (d + 1) mX7_enough 86 [some (.ref 0), some (.int x1), some (.int x2), some (.int x3), some (.int x4), none] [] t2 Q) ∧ (¬ v3 < x1 → Rt g (d + 1) mX7_enough 86 [some (.ref 0), some (.int x1), some (.int x2), some (.int x4), some (.int x4), none] [] t2 Q))))) : Rt g (d + 1) mX7_enough 63 [some (.ref 0), some (.int x1), some (.int x2), some (.int x3), some (.int x4), none] [.int s0] t Q := by
  refine s_istore dX7_enough_63 (by decide) rfl (L9 := [some (.ref 0), some (.int x1), some (.int x2), some (.int x3), some (.int x4), some (.int s0)]) rfl ?_
  refine s_iload dX7_enough_65 rfl ?_
  refine s_if_eq (tgt := 86) dX7_enough_67 (by decide) (fun c1 => ?_) (fun c1 => ?_)
  · replace h := h.1 c1
    exact Rt.lc h (lc_some (lc_some (lc_some (lc_some (lc_some (lc_none lc_nil))))))
  · replace h := h.2 c1
    refine s_aload_n dX7_enough_70 rfl rfl ?_
    refine t_getR (o' := 1) dX7_enough_71 fl_X7_10 rfl (by decide) rfl rfl ?_
    refine s_iload dX7_enough_74 rfl ?_
    refine t_callV (M' := mX5_worthTogether) (k := 2) (As := [.int x4]) (rest := []) dX7_enough_76 ml_X7_226 miX5_worthTogether msX5_worthTogether rfl (by decide) rfl rfl (Nat.le_of_ble_eq_true rfl) (Nat.le_of_ble_eq_true rfl) rfl h (fun rv t2 q => ?_)
    obtain ⟨v3, rfl, h⟩ := q
    show Rt g (d + 1) mX7_enough 79 [some (.ref 0), some (.int x1), some (.int x2), some (.int x3), some (.int x4), some (.int s0)] [.int v3] t2 Q
    refine s_iload_n dX7_enough_79 rfl rfl ?_
    refine s_icmp_lt (tgt := 86) dX7_enough_80 (by decide) (fun c4 => ?_) (fun c4 => ?_)
    · replace h := h.1 c4
      exact Rt.lc h (lc_some (lc_some (lc_some (lc_some (lc_some (lc_none lc_nil))))))
    · replace h := h.2 c4
      refine s_iload dX7_enough_83 rfl ?_
      refine s_istore_n dX7_enough_85 rfl (by decide) rfl (L9 := [some (.ref 0), some (.int x1), some (.int x2), some (.int x4), some (.int x4), some (.int s0)]) rfl ?_
      exact Rt.lc h (lc_some (lc_some (lc_some (lc_some (lc_some (lc_none lc_nil))))))
theorem bX7_enough_86 {g : Gt} {d : Nat} {t : Tt} {Q : Option Value → Tt → Prop} {x1 : Int32} {x2 : Int32} {x3 : Int32} {x4 : Int32} (h : Rt g (d + 1) mX7_enough 26 [some (.ref 0), some (.int x1), some (.int x2), some (.int x3), some (.int (x4 + 1)), none] [] t Q) : Rt g (d + 1) mX7_enough 86 [some (.ref 0), some (.int x1), some (.int x2), some (.int x3), some (.int x4), none] [] t Q := by
  refine s_iinc (w := x4 + 1) dX7_enough_86 rfl (by rfl) (by decide) rfl (L9 := [some (.ref 0), some (.int x1), some (.int x2), some (.int x3), some (.int (x4 + 1)), none]) rfl ?_
  refine s_goto (tgt := 26) dX7_enough_89 (by decide) ?_
  exact h
theorem bX7_jury_0 {g : Gt} {d : Nat} {t : Tt} {Q : Option Value → Tt → Prop} {p0 : Int32} (h : Rt g d mX7_outside 0 [some (.int p0), some (.int 999)] [] t (QI (fun v2 t1 => (v2 = 0 → ∀ z4 : Int32, z4 = (p0 / 100) → ∀ z5 : Int32, z5 = (jr (p0 / 10) 10) → ∀ z6 : Int32, z6 = (jr p0 10) → Rt g d mX7_nobody 0 [some (.ref 0), some (.int z4)] [] t1 (QI (fun v8 t7 => (¬ v8 = 0 → Q (some (.int (-1))) t7) ∧ (v8 = 0 → Rt g d mX7_nobody 0 [some (.ref 0), some (.int z5)] [] t7 (QI (fun v11 t10 => (¬ v11 = 0 → Q (some (.int (-1))) t10) ∧ (v11 = 0 → Rt g d mX7_nobody 0 [some (.ref 0), some (.int z6)] [] t10 (QI (fun v14 t13 => (¬ v14 = 0 → Q (some (.int (-1))) t13) ∧ (v14 = 0 → (z4 = z5 → Q (some (.int (-1))) t13) ∧ (¬ z4 = z5 → (z4 = z6 → Q (some (.int (-1))) t13) ∧ (¬ z4 = z6 → (¬ z5 = z6 → Rt g d mX7_isLesser 0 [some (.ref 0), some (.int z4), some (.int z5), none] [] t13 (QI (fun v20 t19 => Rt g d mX7_isLesser 0 [some (.ref 0), some (.int z4), some (.int z6), none] [] t19 (QI (fun v22 t21 => (v20 = v22 → Rt g d mX7_isLesser 0 [some (.ref 0), some (.int z5), some (.int z4), none] [] t21 (QI (fun v25 t24 => Rt g d mX7_isLesser 0 [some (.ref 0), some (.int z5), some (.int z6), none] [] t24 (QI (fun v27 t26 => (v25 = v27 → Q (some (.int z6)) t26) ∧ (¬ v25 = v27 → Q (some (.int z5)) t26)))))) ∧ (¬ v20 = v22 → Q (some (.int z4)) t21)))))) ∧ (z5 = z6 → Q (some (.int (-1))) t13))))))))))))) ∧ (¬ v2 = 0 → Q (some (.int (-1))) t1)))) : Rt g (d + 1) mX7_jury 0 [some (.ref 0), some (.int p0), none, none, none] [] t Q := by
  refine s_iload_n dX7_jury_0 rfl rfl ?_
  refine s_sipush (v := 999) dX7_jury_1 (by decide) ?_
  refine t_callS (M' := mX7_outside) (k := 0) (As := [.int p0, .int 999]) (rest := []) dX7_jury_4 ml_X7_71 mstX7_outside rfl (Nat.le_of_ble_eq_true rfl) (Nat.le_of_ble_eq_true rfl) rfl h (fun rv t1 q => ?_)
  obtain ⟨v2, rfl, h⟩ := q
  show Rt g (d + 1) mX7_jury 7 [some (.ref 0), some (.int p0), none, none, none] [.int v2] t1 Q
  refine s_if_eq (tgt := 12) dX7_jury_7 (by decide) (fun c3 => ?_) (fun c3 => ?_)
  · replace h := h.1 c3
    refine s_iload_n dX7_jury_12 rfl rfl ?_
    refine s_bipush (v := 100) dX7_jury_13 (by decide) ?_
    refine s_idiv dX7_jury_15 (by decide) ?_
    refine t_nmI (fun z4 ez4 => ?_)
    replace h := h z4 ez4
    refine s_istore_n dX7_jury_16 rfl (by decide) rfl (L9 := [some (.ref 0), some (.int p0), some (.int z4), none, none]) rfl ?_
    refine s_iload_n dX7_jury_17 rfl rfl ?_
    refine s_bipush (v := 10) dX7_jury_18 (by decide) ?_
    refine s_idiv dX7_jury_20 (by decide) ?_
    refine s_bipush (v := 10) dX7_jury_21 (by decide) ?_
    refine s_irem dX7_jury_23 (by decide) ?_
    refine t_nmI (fun z5 ez5 => ?_)
    replace h := h z5 ez5
    refine s_istore_n dX7_jury_24 rfl (by decide) rfl (L9 := [some (.ref 0), some (.int p0), some (.int z4), some (.int z5), none]) rfl ?_
    refine s_iload_n dX7_jury_25 rfl rfl ?_
    refine s_bipush (v := 10) dX7_jury_26 (by decide) ?_
    refine s_irem dX7_jury_28 (by decide) ?_
    refine t_nmI (fun z6 ez6 => ?_)
    replace h := h z6 ez6
    refine s_istore dX7_jury_29 (by decide) rfl (L9 := [some (.ref 0), some (.int p0), some (.int z4), some (.int z5), some (.int z6)]) rfl ?_
    refine s_aload_n dX7_jury_31 rfl rfl ?_
    refine s_iload_n dX7_jury_32 rfl rfl ?_
    refine t_callV (M' := mX7_nobody) (k := 0) (As := [.int z4]) (rest := []) dX7_jury_33 ml_X7_126 miX7_nobody msX7_nobody rfl (by decide) rfl rfl (Nat.le_of_ble_eq_true rfl) (Nat.le_of_ble_eq_true rfl) rfl h (fun rv t7 q => ?_)
    obtain ⟨v8, rfl, h⟩ := q
    show Rt g (d + 1) mX7_jury 36 [some (.ref 0), some (.int p0), some (.int z4), some (.int z5), some (.int z6)] [.int v8] t7 Q
    refine s_if_ne (tgt := 73) dX7_jury_36 (by decide) (fun c9 => ?_) (fun c9 => ?_)
    · replace h := h.1 c9
      refine s_iconst (v := (-1)) dX7_jury_73 (by decide) ?_
      exact t_iret dX7_jury_74 (NR_i rfl _) h
    · replace h := h.2 c9
      refine s_aload_n dX7_jury_39 rfl rfl ?_
      refine s_iload_n dX7_jury_40 rfl rfl ?_
      refine t_callV (M' := mX7_nobody) (k := 0) (As := [.int z5]) (rest := []) dX7_jury_41 ml_X7_126 miX7_nobody msX7_nobody rfl (by decide) rfl rfl (Nat.le_of_ble_eq_true rfl) (Nat.le_of_ble_eq_true rfl) rfl h (fun rv t10 q => ?_)
      obtain ⟨v11, rfl, h⟩ := q
      show Rt g (d + 1) mX7_jury 44 [some (.ref 0), some (.int p0), some (.int z4), some (.int z5), some (.int z6)] [.int v11] t10 Q
      refine s_if_ne (tgt := 73) dX7_jury_44 (by decide) (fun c12 => ?_) (fun c12 => ?_)
      · replace h := h.1 c12
        refine s_iconst (v := (-1)) dX7_jury_73 (by decide) ?_
        exact t_iret dX7_jury_74 (NR_i rfl _) h
      · replace h := h.2 c12
        refine s_aload_n dX7_jury_47 rfl rfl ?_
        refine s_iload dX7_jury_48 rfl ?_
        refine t_callV (M' := mX7_nobody) (k := 0) (As := [.int z6]) (rest := []) dX7_jury_50 ml_X7_126 miX7_nobody msX7_nobody rfl (by decide) rfl rfl (Nat.le_of_ble_eq_true rfl) (Nat.le_of_ble_eq_true rfl) rfl h (fun rv t13 q => ?_)
        obtain ⟨v14, rfl, h⟩ := q
        show Rt g (d + 1) mX7_jury 53 [some (.ref 0), some (.int p0), some (.int z4), some (.int z5), some (.int z6)] [.int v14] t13 Q
        refine s_if_ne (tgt := 73) dX7_jury_53 (by decide) (fun c15 => ?_) (fun c15 => ?_)
        · replace h := h.1 c15
          refine s_iconst (v := (-1)) dX7_jury_73 (by decide) ?_
          exact t_iret dX7_jury_74 (NR_i rfl _) h
        · replace h := h.2 c15
          refine s_iload_n dX7_jury_56 rfl rfl ?_
          refine s_iload_n dX7_jury_57 rfl rfl ?_
          refine s_icmp_eq (tgt := 73) dX7_jury_58 (by decide) (fun c16 => ?_) (fun c16 => ?_)
          · replace h := h.1 c16
            refine s_iconst (v := (-1)) dX7_jury_73 (by decide) ?_
            exact t_iret dX7_jury_74 (NR_i rfl _) h
          · replace h := h.2 c16
            refine s_iload_n dX7_jury_61 rfl rfl ?_
            refine s_iload dX7_jury_62 rfl ?_
            refine s_icmp_eq (tgt := 73) dX7_jury_64 (by decide) (fun c17 => ?_) (fun c17 => ?_)
            · replace h := h.1 c17
              refine s_iconst (v := (-1)) dX7_jury_73 (by decide) ?_
              exact t_iret dX7_jury_74 (NR_i rfl _) h
            · replace h := h.2 c17
              refine s_iload_n dX7_jury_67 rfl rfl ?_
              refine s_iload dX7_jury_68 rfl ?_
              refine s_icmp_ne (tgt := 75) dX7_jury_70 (by decide) (fun c18 => ?_) (fun c18 => ?_)
              · replace h := h.1 c18
                refine s_aload_n dX7_jury_75 rfl rfl ?_
                refine s_iload_n dX7_jury_76 rfl rfl ?_
                refine s_iload_n dX7_jury_77 rfl rfl ?_
                refine t_callV (M' := mX7_isLesser) (k := 1) (As := [.int z4, .int z5]) (rest := []) dX7_jury_78 ml_X7_229 miX7_isLesser msX7_isLesser rfl (by decide) rfl rfl (Nat.le_of_ble_eq_true rfl) (Nat.le_of_ble_eq_true rfl) rfl h (fun rv t19 q => ?_)
                obtain ⟨v20, rfl, h⟩ := q
                show Rt g (d + 1) mX7_jury 81 [some (.ref 0), some (.int p0), some (.int z4), some (.int z5), some (.int z6)] [.int v20] t19 Q
                refine s_aload_n dX7_jury_81 rfl rfl ?_
                refine s_iload_n dX7_jury_82 rfl rfl ?_
                refine s_iload dX7_jury_83 rfl ?_
                refine t_callV (M' := mX7_isLesser) (k := 1) (As := [.int z4, .int z6]) (rest := [.int v20]) dX7_jury_85 ml_X7_229 miX7_isLesser msX7_isLesser rfl (by decide) rfl rfl (Nat.le_of_ble_eq_true rfl) (Nat.le_of_ble_eq_true rfl) rfl h (fun rv t21 q => ?_)
                obtain ⟨v22, rfl, h⟩ := q
                show Rt g (d + 1) mX7_jury 88 [some (.ref 0), some (.int p0), some (.int z4), some (.int z5), some (.int z6)] [.int v22, .int v20] t21 Q
                refine s_icmp_eq (tgt := 93) dX7_jury_88 (by decide) (fun c23 => ?_) (fun c23 => ?_)
                · replace h := h.1 c23
                  refine s_aload_n dX7_jury_93 rfl rfl ?_
                  refine s_iload_n dX7_jury_94 rfl rfl ?_
                  refine s_iload_n dX7_jury_95 rfl rfl ?_
                  refine t_callV (M' := mX7_isLesser) (k := 1) (As := [.int z5, .int z4]) (rest := []) dX7_jury_96 ml_X7_229 miX7_isLesser msX7_isLesser rfl (by decide) rfl rfl (Nat.le_of_ble_eq_true rfl) (Nat.le_of_ble_eq_true rfl) rfl h (fun rv t24 q => ?_)
                  obtain ⟨v25, rfl, h⟩ := q
                  show Rt g (d + 1) mX7_jury 99 [some (.ref 0), some (.int p0), some (.int z4), some (.int z5), some (.int z6)] [.int v25] t24 Q
                  refine s_aload_n dX7_jury_99 rfl rfl ?_
                  refine s_iload_n dX7_jury_100 rfl rfl ?_
                  refine s_iload dX7_jury_101 rfl ?_
                  refine t_callV (M' := mX7_isLesser) (k := 1) (As := [.int z5, .int z6]) (rest := [.int v25]) dX7_jury_103 ml_X7_229 miX7_isLesser msX7_isLesser rfl (by decide) rfl rfl (Nat.le_of_ble_eq_true rfl) (Nat.le_of_ble_eq_true rfl) rfl h (fun rv t26 q => ?_)
                  obtain ⟨v27, rfl, h⟩ := q
                  show Rt g (d + 1) mX7_jury 106 [some (.ref 0), some (.int p0), some (.int z4), some (.int z5), some (.int z6)] [.int v27, .int v25] t26 Q
                  refine s_icmp_eq (tgt := 113) dX7_jury_106 (by decide) (fun c28 => ?_) (fun c28 => ?_)
                  · replace h := h.1 c28
                    refine s_iload dX7_jury_113 rfl ?_
                    exact t_iret dX7_jury_115 (NR_i rfl _) h
                  · replace h := h.2 c28
                    refine s_iload_n dX7_jury_109 rfl rfl ?_
                    refine s_goto (tgt := 115) dX7_jury_110 (by decide) ?_
                    exact t_iret dX7_jury_115 (NR_i rfl _) h
                · replace h := h.2 c23
                  refine s_iload_n dX7_jury_91 rfl rfl ?_
                  exact t_iret dX7_jury_92 (NR_i rfl _) h
              · replace h := h.2 c18
                refine s_iconst (v := (-1)) dX7_jury_73 (by decide) ?_
                exact t_iret dX7_jury_74 (NR_i rfl _) h
  · replace h := h.2 c3
    refine s_iconst (v := (-1)) dX7_jury_10 (by decide) ?_
    exact t_iret dX7_jury_11 (NR_i rfl _) h
theorem bX7_isLesser_0 {g : Gt} {d : Nat} {t : Tt} {Q : Option Value → Tt → Prop} {p0 : Int32} {p1 : Int32} (h : Rt g d mX5_worthOf 0 [some (.ref 1), some (.int p0)] [] t (QI (fun v2 t1 => Rt g d mX5_worthOf 0 [some (.ref 1), some (.int p1)] [] t1 (QI (fun v4 t3 => ∀ z5 : Int32, z5 = (v2 - v4) → (z5 < 0 → Rt g (d + 1) mX7_isLesser 31 [none, none, none, none] [] t3 Q) ∧ (¬ z5 < 0 → (¬ z5 = 0 → Q (some (.int 0)) t3) ∧ (z5 = 0 → (p1 ≤ p0 → Q (some (.int 0)) t3) ∧ (¬ p1 ≤ p0 → Rt g (d + 1) mX7_isLesser 31 [none, none, none, none] [] t3 Q)))))))) : Rt g (d + 1) mX7_isLesser 0 [some (.ref 0), some (.int p0), some (.int p1), none] [] t Q := by
  refine s_aload_n dX7_isLesser_0 rfl rfl ?_
  refine t_getR (o' := 1) dX7_isLesser_1 fl_X7_10 rfl (by decide) rfl rfl ?_
  refine s_iload_n dX7_isLesser_4 rfl rfl ?_
  refine t_callV (M' := mX5_worthOf) (k := 0) (As := [.int p0]) (rest := []) dX7_isLesser_5 ml_X7_138 miX5_worthOf msX5_worthOf rfl (by decide) rfl rfl (Nat.le_of_ble_eq_true rfl) (Nat.le_of_ble_eq_true rfl) rfl h (fun rv t1 q => ?_)
  obtain ⟨v2, rfl, h⟩ := q
  show Rt g (d + 1) mX7_isLesser 8 [some (.ref 0), some (.int p0), some (.int p1), none] [.int v2] t1 Q
  refine s_aload_n dX7_isLesser_8 rfl rfl ?_
  refine t_getR (o' := 1) dX7_isLesser_9 fl_X7_10 rfl (by decide) rfl rfl ?_
  refine s_iload_n dX7_isLesser_12 rfl rfl ?_
  refine t_callV (M' := mX5_worthOf) (k := 0) (As := [.int p1]) (rest := [.int v2]) dX7_isLesser_13 ml_X7_138 miX5_worthOf msX5_worthOf rfl (by decide) rfl rfl (Nat.le_of_ble_eq_true rfl) (Nat.le_of_ble_eq_true rfl) rfl h (fun rv t3 q => ?_)
  obtain ⟨v4, rfl, h⟩ := q
  show Rt g (d + 1) mX7_isLesser 16 [some (.ref 0), some (.int p0), some (.int p1), none] [.int v4, .int v2] t3 Q
  refine s_isub dX7_isLesser_16 ?_
  refine t_nmI (fun z5 ez5 => ?_)
  replace h := h z5 ez5
  refine s_istore_n dX7_isLesser_17 rfl (by decide) rfl (L9 := [some (.ref 0), some (.int p0), some (.int p1), some (.int z5)]) rfl ?_
  refine s_iload_n dX7_isLesser_18 rfl rfl ?_
  refine s_if_lt (tgt := 31) dX7_isLesser_19 (by decide) (fun c6 => ?_) (fun c6 => ?_)
  · replace h := h.1 c6
    exact Rt.lc h (lc_none (lc_none (lc_none (lc_none lc_nil))))
  · replace h := h.2 c6
    refine s_iload_n dX7_isLesser_22 rfl rfl ?_
    refine s_if_ne (tgt := 35) dX7_isLesser_23 (by decide) (fun c7 => ?_) (fun c7 => ?_)
    · replace h := h.1 c7
      refine s_iconst (v := 0) dX7_isLesser_35 (by decide) ?_
      exact t_iret dX7_isLesser_36 (NR_z rfl (Or.inl rfl)) h
    · replace h := h.2 c7
      refine s_iload_n dX7_isLesser_26 rfl rfl ?_
      refine s_iload_n dX7_isLesser_27 rfl rfl ?_
      refine s_icmp_ge (tgt := 35) dX7_isLesser_28 (by decide) (fun c8 => ?_) (fun c8 => ?_)
      · replace h := h.1 c8
        refine s_iconst (v := 0) dX7_isLesser_35 (by decide) ?_
        exact t_iret dX7_isLesser_36 (NR_z rfl (Or.inl rfl)) h
      · replace h := h.2 c8
        exact Rt.lc h (lc_none (lc_none (lc_none (lc_none lc_nil))))
theorem bX7_isLesser_31 {g : Gt} {d : Nat} {t : Tt} {Q : Option Value → Tt → Prop} (h : Q (some (.int 1)) t) : Rt g (d + 1) mX7_isLesser 31 [none, none, none, none] [] t Q := by
  refine s_iconst (v := 1) dX7_isLesser_31 (by decide) ?_
  refine s_goto (tgt := 36) dX7_isLesser_32 (by decide) ?_
  exact t_iret dX7_isLesser_36 (NR_z rfl (Or.inr rfl)) h
theorem bX7_bribe_0 {g : Gt} {d : Nat} {t : Tt} {Q : Option Value → Tt → Prop} {p0 : Int32} {p1 : Int32} {p2 : Int32} (h : Rt g d mX7_noShelf 0 [some (.int p0)] [] t (QI (fun v2 t1 => (¬ v2 = 0 → Q (some (.int (-1))) t1) ∧ (v2 = 0 → Rt g d mX7_noClaim 0 [some (.int p1)] [] t1 (QI (fun v5 t4 => (¬ v5 = 0 → Q (some (.int (-1))) t4) ∧ (v5 = 0 → Rt g d mX7_outside 0 [some (.int p2), some (.int 1)] [] t4 (QI (fun v8 t7 => (v8 = 0 → Rt g d mX7_refusalOfBytes 0 [some (.ref 0), some (.int p0), none] [] t7 (QI (fun v11 t10 => (v11 = 0 → vp_in p0 6 ∧ (Rt g d mX2_summon 0 [some (.ref 13), some (.ref (45 + 2 * p0.toNatClampNeg)), some (.int (t10.1 1 0)), none, none, none, none, none, none, none, none, none, none, none] [] t10 (QV (fun t14 => ((t14.1 13 0) ≤ 10 → Rt g d mX7_fewestTurned 0 [some (.ref 0), some (.int (p1 / 10)), some (.int (jr p1 10)), none, none] [] t14 (QI (fun v17 t16 => (v17 = (-2) → Rt g (d + 1) mX7_bribe 100 [none, none, none, none, none, some (.int v17)] [] t16 Q) ∧ (¬ v17 = (-2) → (¬ p2 = 1 → Rt g d mJ6_bitCount_0f7a4 0 [some (.int v17)] [] t16 (QI (fun v21 t20 => Q (some (.int v21)) t20))) ∧ (p2 = 1 → Rt g (d + 1) mX7_bribe 100 [none, none, none, none, none, some (.int v17)] [] t16 Q))))) ∧ (¬ (t14.1 13 0) ≤ 10 → Q (some (.int (-5))) t14))))) ∧ (¬ v11 = 0 → Q (some (.int v11)) t10)))) ∧ (¬ v8 = 0 → Q (some (.int (-1))) t7)))))))))) : Rt g (d + 1) mX7_bribe 0 [some (.ref 0), some (.int p0), some (.int p1), some (.int p2), none, none] [] t Q := by
  refine s_iload_n dX7_bribe_0 rfl rfl ?_
  refine t_callS (M' := mX7_noShelf) (k := 0) (As := [.int p0]) (rest := []) dX7_bribe_1 ml_X7_86 mstX7_noShelf rfl (Nat.le_of_ble_eq_true rfl) (Nat.le_of_ble_eq_true rfl) rfl h (fun rv t1 q => ?_)
  obtain ⟨v2, rfl, h⟩ := q
  show Rt g (d + 1) mX7_bribe 4 [some (.ref 0), some (.int p0), some (.int p1), some (.int p2), none, none] [.int v2] t1 Q
  refine s_if_ne (tgt := 22) dX7_bribe_4 (by decide) (fun c3 => ?_) (fun c3 => ?_)
  · replace h := h.1 c3
    refine s_iconst (v := (-1)) dX7_bribe_22 (by decide) ?_
    exact t_iret dX7_bribe_23 (NR_i rfl _) h
  · replace h := h.2 c3
    refine s_iload_n dX7_bribe_7 rfl rfl ?_
    refine t_callS (M' := mX7_noClaim) (k := 0) (As := [.int p1]) (rest := []) dX7_bribe_8 ml_X7_197 mstX7_noClaim rfl (Nat.le_of_ble_eq_true rfl) (Nat.le_of_ble_eq_true rfl) rfl h (fun rv t4 q => ?_)
    obtain ⟨v5, rfl, h⟩ := q
    show Rt g (d + 1) mX7_bribe 11 [some (.ref 0), some (.int p0), some (.int p1), some (.int p2), none, none] [.int v5] t4 Q
    refine s_if_ne (tgt := 22) dX7_bribe_11 (by decide) (fun c6 => ?_) (fun c6 => ?_)
    · replace h := h.1 c6
      refine s_iconst (v := (-1)) dX7_bribe_22 (by decide) ?_
      exact t_iret dX7_bribe_23 (NR_i rfl _) h
    · replace h := h.2 c6
      refine s_iload_n dX7_bribe_14 rfl rfl ?_
      refine s_iconst (v := 1) dX7_bribe_15 (by decide) ?_
      refine t_callS (M' := mX7_outside) (k := 0) (As := [.int p2, .int 1]) (rest := []) dX7_bribe_16 ml_X7_71 mstX7_outside rfl (Nat.le_of_ble_eq_true rfl) (Nat.le_of_ble_eq_true rfl) rfl h (fun rv t7 q => ?_)
      obtain ⟨v8, rfl, h⟩ := q
      show Rt g (d + 1) mX7_bribe 19 [some (.ref 0), some (.int p0), some (.int p1), some (.int p2), none, none] [.int v8] t7 Q
      refine s_if_eq (tgt := 24) dX7_bribe_19 (by decide) (fun c9 => ?_) (fun c9 => ?_)
      · replace h := h.1 c9
        refine s_aload_n dX7_bribe_24 rfl rfl ?_
        refine s_iload_n dX7_bribe_25 rfl rfl ?_
        refine t_callV (M' := mX7_refusalOfBytes) (k := 1) (As := [.int p0]) (rest := []) dX7_bribe_26 ml_X7_162 miX7_refusalOfBytes msX7_refusalOfBytes rfl (by decide) rfl rfl (Nat.le_of_ble_eq_true rfl) (Nat.le_of_ble_eq_true rfl) rfl h (fun rv t10 q => ?_)
        obtain ⟨v11, rfl, h⟩ := q
        show Rt g (d + 1) mX7_bribe 29 [some (.ref 0), some (.int p0), some (.int p1), some (.int p2), none, none] [.int v11] t10 Q
        refine s_istore dX7_bribe_29 (by decide) rfl (L9 := [some (.ref 0), some (.int p0), some (.int p1), some (.int p2), some (.int v11), none]) rfl ?_
        refine s_iload dX7_bribe_31 rfl ?_
        refine s_if_eq (tgt := 39) dX7_bribe_33 (by decide) (fun c12 => ?_) (fun c12 => ?_)
        · replace h := h.1 c12
          refine s_aload_n dX7_bribe_39 rfl rfl ?_
          refine t_getR (o' := 13) dX7_bribe_40 fl_X7_25 rfl (by decide) rfl rfl ?_
          refine s_aload_n dX7_bribe_43 rfl rfl ?_
          refine t_getR (o' := 30) dX7_bribe_44 fl_X7_45 rfl (by decide) rfl rfl ?_
          refine s_iload_n dX7_bribe_47 rfl rfl ?_
          obtain ⟨g13, h⟩ := h
          refine t_aald dX7_bribe_48 g13 rfl ?_
          refine s_aload_n dX7_bribe_49 rfl rfl ?_
          refine t_getR (o' := 1) dX7_bribe_50 fl_X7_10 rfl (by decide) rfl rfl ?_
          refine t_getI dX7_bribe_53 fl_X7_75 rfl (by decide) rfl ?_
          refine t_callV (M' := mX2_summon) (k := 11) (As := [.ref (45 + 2 * p0.toNatClampNeg), .int (t10.1 1 0)]) (rest := []) dX7_bribe_56 ml_X7_232 miX2_summon msX2_summon rfl (by decide) rfl rfl (Nat.le_of_ble_eq_true rfl) (Nat.le_of_ble_eq_true rfl) rfl h (fun rv t14 q => ?_)
          obtain ⟨rfl, h⟩ := q
          show Rt g (d + 1) mX7_bribe 59 [some (.ref 0), some (.int p0), some (.int p1), some (.int p2), some (.int v11), none] [] t14 Q
          refine s_aload_n dX7_bribe_59 rfl rfl ?_
          refine t_getR (o' := 13) dX7_bribe_60 fl_X7_25 rfl (by decide) rfl rfl ?_
          refine t_getI dX7_bribe_63 fl_X7_169 rfl (by decide) rfl ?_
          refine s_bipush (v := 10) dX7_bribe_66 (by decide) ?_
          refine s_icmp_le (tgt := 74) dX7_bribe_68 (by decide) (fun c15 => ?_) (fun c15 => ?_)
          · replace h := h.1 c15
            refine s_aload_n dX7_bribe_74 rfl rfl ?_
            refine s_iload_n dX7_bribe_75 rfl rfl ?_
            refine s_bipush (v := 10) dX7_bribe_76 (by decide) ?_
            refine s_idiv dX7_bribe_78 (by decide) ?_
            refine s_iload_n dX7_bribe_79 rfl rfl ?_
            refine s_bipush (v := 10) dX7_bribe_80 (by decide) ?_
            refine s_irem dX7_bribe_82 (by decide) ?_
            refine t_callV (M' := mX7_fewestTurned) (k := 2) (As := [.int (p1 / 10), .int (jr p1 10)]) (rest := []) dX7_bribe_83 ml_X7_235 miX7_fewestTurned msX7_fewestTurned rfl (by decide) rfl rfl (Nat.le_of_ble_eq_true rfl) (Nat.le_of_ble_eq_true rfl) rfl h (fun rv t16 q => ?_)
            obtain ⟨v17, rfl, h⟩ := q
            show Rt g (d + 1) mX7_bribe 86 [some (.ref 0), some (.int p0), some (.int p1), some (.int p2), some (.int v11), none] [.int v17] t16 Q
            refine s_istore dX7_bribe_86 (by decide) rfl (L9 := [some (.ref 0), some (.int p0), some (.int p1), some (.int p2), some (.int v11), some (.int v17)]) rfl ?_
            refine s_iload dX7_bribe_88 rfl ?_
            refine s_bipush (v := (-2)) dX7_bribe_90 (by decide) ?_
            refine s_icmp_eq (tgt := 100) dX7_bribe_92 (by decide) (fun c18 => ?_) (fun c18 => ?_)
            · replace h := h.1 c18
              exact Rt.lc h (lc_none (lc_none (lc_none (lc_none (lc_none (lc_some lc_nil))))))
            · replace h := h.2 c18
              refine s_iload_n dX7_bribe_95 rfl rfl ?_
              refine s_iconst (v := 1) dX7_bribe_96 (by decide) ?_
              refine s_icmp_ne (tgt := 105) dX7_bribe_97 (by decide) (fun c19 => ?_) (fun c19 => ?_)
              · replace h := h.1 c19
                refine s_iload dX7_bribe_105 rfl ?_
                refine t_callS (M' := mJ6_bitCount_0f7a4) (k := 0) (As := [.int v17]) (rest := []) dX7_bribe_107 ml_X7_221 mstJ6_bitCount_0f7a4 rfl (Nat.le_of_ble_eq_true rfl) (Nat.le_of_ble_eq_true rfl) rfl h (fun rv t20 q => ?_)
                obtain ⟨v21, rfl, h⟩ := q
                show Rt g (d + 1) mX7_bribe 110 [some (.ref 0), some (.int p0), some (.int p1), some (.int p2), some (.int v11), some (.int v17)] [.int v21] t20 Q
                exact t_iret dX7_bribe_110 (NR_i rfl _) h
              · replace h := h.2 c19
                exact Rt.lc h (lc_none (lc_none (lc_none (lc_none (lc_none (lc_some lc_nil))))))
          · replace h := h.2 c15
            refine s_bipush (v := (-5)) dX7_bribe_71 (by decide) ?_
            exact t_iret dX7_bribe_73 (NR_i rfl _) h
        · replace h := h.2 c12
          refine s_iload dX7_bribe_36 rfl ?_
          exact t_iret dX7_bribe_38 (NR_i rfl _) h
      · replace h := h.2 c9
        refine s_iconst (v := (-1)) dX7_bribe_22 (by decide) ?_
        exact t_iret dX7_bribe_23 (NR_i rfl _) h
theorem bX7_bribe_100 {g : Gt} {d : Nat} {t : Tt} {Q : Option Value → Tt → Prop} {x5 : Int32} (h : Q (some (.int x5)) t) : Rt g (d + 1) mX7_bribe 100 [none, none, none, none, none, some (.int x5)] [] t Q := by
  refine s_iload dX7_bribe_100 rfl ?_
  refine s_goto (tgt := 110) dX7_bribe_102 (by decide) ?_
  exact t_iret dX7_bribe_110 (NR_i rfl _) h
theorem bX7_fewestTurned_0 {g : Gt} {d : Nat} {t : Tt} {Q : Option Value → Tt → Prop} {p0 : Int32} {p1 : Int32} (h : Rt g (d + 1) mX7_fewestTurned 6 [some (.ref 0), some (.int p0), some (.int p1), some (.int (-2)), some (.int 0)] [] t Q) : Rt g (d + 1) mX7_fewestTurned 0 [some (.ref 0), some (.int p0), some (.int p1), none, none] [] t Q := by
  refine s_bipush (v := (-2)) dX7_fewestTurned_0 (by decide) ?_
  refine s_istore_n dX7_fewestTurned_2 rfl (by decide) rfl (L9 := [some (.ref 0), some (.int p0), some (.int p1), some (.int (-2)), none]) rfl ?_
  refine s_iconst (v := 0) dX7_fewestTurned_3 (by decide) ?_
  refine s_istore dX7_fewestTurned_4 (by decide) rfl (L9 := [some (.ref 0), some (.int p0), some (.int p1), some (.int (-2)), some (.int 0)]) rfl ?_
  exact h
theorem bX7_fewestTurned_6 {g : Gt} {d : Nat} {t : Tt} {Q : Option Value → Tt → Prop} {x1 : Int32} {x2 : Int32} {x3 : Int32} {x4 : Int32} (h : ((jsl 1 (t.1 13 0)) ≤ x4 → Q (some (.int x3)) t) ∧ (¬ (jsl 1 (t.1 13 0)) ≤ x4 → (x3 = (-2) → Rt g (d + 1) mX7_fewestTurned 38 [some (.ref 0), some (.int x1), some (.int x2), some (.int x3), some (.int x4)] [] t Q) ∧ (¬ x3 = (-2) → Rt g d mJ6_bitCount_0f7a4 0 [some (.int x4)] [] t (QI (fun v4 t3 => Rt g d mJ6_bitCount_0f7a4 0 [some (.int x3)] [] t3 (QI (fun v6 t5 => (v6 ≤ v4 → Rt g (d + 1) mX7_fewestTurned 74 [some (.ref 0), some (.int x1), some (.int x2), some (.int x3), some (.int x4)] [] t5 Q) ∧ (¬ v6 ≤ v4 → Rt g (d + 1) mX7_fewestTurned 38 [some (.ref 0), some (.int x1), some (.int x2), some (.int x3), some (.int x4)] [] t5 Q)))))))) : Rt g (d + 1) mX7_fewestTurned 6 [some (.ref 0), some (.int x1), some (.int x2), some (.int x3), some (.int x4)] [] t Q := by
  refine s_iload dX7_fewestTurned_6 rfl ?_
  refine s_iconst (v := 1) dX7_fewestTurned_8 (by decide) ?_
  refine s_aload_n dX7_fewestTurned_9 rfl rfl ?_
  refine t_getR (o' := 13) dX7_fewestTurned_10 fl_X7_25 rfl (by decide) rfl rfl ?_
  refine t_getI dX7_fewestTurned_13 fl_X7_169 rfl (by decide) rfl ?_
  refine s_ishl dX7_fewestTurned_16 ?_
  refine s_icmp_ge (tgt := 80) dX7_fewestTurned_17 (by decide) (fun c1 => ?_) (fun c1 => ?_)
  · replace h := h.1 c1
    refine s_iload_n dX7_fewestTurned_80 rfl rfl ?_
    exact t_iret dX7_fewestTurned_81 (NR_i rfl _) h
  · replace h := h.2 c1
    refine s_iload_n dX7_fewestTurned_20 rfl rfl ?_
    refine s_bipush (v := (-2)) dX7_fewestTurned_21 (by decide) ?_
    refine s_icmp_eq (tgt := 38) dX7_fewestTurned_23 (by decide) (fun c2 => ?_) (fun c2 => ?_)
    · replace h := h.1 c2
      exact h
    · replace h := h.2 c2
      refine s_iload dX7_fewestTurned_26 rfl ?_
      refine t_callS (M' := mJ6_bitCount_0f7a4) (k := 0) (As := [.int x4]) (rest := []) dX7_fewestTurned_28 ml_X7_221 mstJ6_bitCount_0f7a4 rfl (Nat.le_of_ble_eq_true rfl) (Nat.le_of_ble_eq_true rfl) rfl h (fun rv t3 q => ?_)
      obtain ⟨v4, rfl, h⟩ := q
      show Rt g (d + 1) mX7_fewestTurned 31 [some (.ref 0), some (.int x1), some (.int x2), some (.int x3), some (.int x4)] [.int v4] t3 Q
      refine s_iload_n dX7_fewestTurned_31 rfl rfl ?_
      refine t_callS (M' := mJ6_bitCount_0f7a4) (k := 0) (As := [.int x3]) (rest := [.int v4]) dX7_fewestTurned_32 ml_X7_221 mstJ6_bitCount_0f7a4 rfl (Nat.le_of_ble_eq_true rfl) (Nat.le_of_ble_eq_true rfl) rfl h (fun rv t5 q => ?_)
      obtain ⟨v6, rfl, h⟩ := q
      show Rt g (d + 1) mX7_fewestTurned 35 [some (.ref 0), some (.int x1), some (.int x2), some (.int x3), some (.int x4)] [.int v6, .int v4] t5 Q
      refine s_icmp_ge (tgt := 74) dX7_fewestTurned_35 (by decide) (fun c7 => ?_) (fun c7 => ?_)
      · replace h := h.1 c7
        exact h
      · replace h := h.2 c7
        exact h
theorem bX7_fewestTurned_38 {g : Gt} {d : Nat} {t : Tt} {Q : Option Value → Tt → Prop} {x1 : Int32} {x2 : Int32} {x3 : Int32} {x4 : Int32} (h : isLw t.2.2.1 ∧ (Rt g d mX2_hold 0 [some (.ref 13), some (.ref 1), some (.ref t.2.2.1), some (.int (t.1 0 11)), some (.int x4), none] [] t (QV (fun t2 => Rt g d mX2_beliefIn 0 [some (.ref 13), some (.int x1), none, none, none] [] t2 (QI (fun v4 t3 => (¬ v4 = x2 → Rt g (d + 1) mX7_fewestTurned 74 [some (.ref 0), some (.int x1), some (.int x2), some (.int x3), some (.int x4)] [] t3 Q) ∧ (v4 = x2 → Rt g (d + 1) mX7_fewestTurned 74 [some (.ref 0), some (.int x1), some (.int x2), some (.int x4), some (.int x4)] [] t3 Q))))))) : Rt g (d + 1) mX7_fewestTurned 38 [some (.ref 0), some (.int x1), some (.int x2), some (.int x3), some (.int x4)] [] t Q := by
  refine s_aload_n dX7_fewestTurned_38 rfl rfl ?_
  refine t_getR (o' := 13) dX7_fewestTurned_39 fl_X7_25 rfl (by decide) rfl rfl ?_
  refine s_aload_n dX7_fewestTurned_42 rfl rfl ?_
  refine t_getR (o' := 1) dX7_fewestTurned_43 fl_X7_10 rfl (by decide) rfl rfl ?_
  refine s_aload_n dX7_fewestTurned_46 rfl rfl ?_
  obtain ⟨g1, h⟩ := h
  refine t_getR dX7_fewestTurned_47 fl_X7_66 rfl (by decide) rfl rfl ?_
  refine s_aload_n dX7_fewestTurned_50 rfl rfl ?_
  refine t_getI dX7_fewestTurned_51 fl_X7_132 rfl (by decide) rfl ?_
  refine s_iload dX7_fewestTurned_54 rfl ?_
  refine t_callV (M' := mX2_hold) (k := 1) (As := [.ref 1, .ref t.2.2.1, .int (t.1 0 11), .int x4]) (rest := []) dX7_fewestTurned_56 ml_X7_238 miX2_hold msX2_hold rfl (by decide) rfl rfl (Nat.le_of_ble_eq_true rfl) (Nat.le_of_ble_eq_true rfl) rfl h (fun rv t2 q => ?_)
  obtain ⟨rfl, h⟩ := q
  show Rt g (d + 1) mX7_fewestTurned 59 [some (.ref 0), some (.int x1), some (.int x2), some (.int x3), some (.int x4)] [] t2 Q
  refine s_aload_n dX7_fewestTurned_59 rfl rfl ?_
  refine t_getR (o' := 13) dX7_fewestTurned_60 fl_X7_25 rfl (by decide) rfl rfl ?_
  refine s_iload_n dX7_fewestTurned_63 rfl rfl ?_
  refine t_callV (M' := mX2_beliefIn) (k := 3) (As := [.int x1]) (rest := []) dX7_fewestTurned_64 ml_X7_181 miX2_beliefIn msX2_beliefIn rfl (by decide) rfl rfl (Nat.le_of_ble_eq_true rfl) (Nat.le_of_ble_eq_true rfl) rfl h (fun rv t3 q => ?_)
  obtain ⟨v4, rfl, h⟩ := q
  show Rt g (d + 1) mX7_fewestTurned 67 [some (.ref 0), some (.int x1), some (.int x2), some (.int x3), some (.int x4)] [.int v4] t3 Q
  refine s_iload_n dX7_fewestTurned_67 rfl rfl ?_
  refine s_icmp_ne (tgt := 74) dX7_fewestTurned_68 (by decide) (fun c5 => ?_) (fun c5 => ?_)
  · replace h := h.1 c5
    exact h
  · replace h := h.2 c5
    refine s_iload dX7_fewestTurned_71 rfl ?_
    refine s_istore_n dX7_fewestTurned_73 rfl (by decide) rfl (L9 := [some (.ref 0), some (.int x1), some (.int x2), some (.int x4), some (.int x4)]) rfl ?_
    exact h
theorem bX7_fewestTurned_74 {g : Gt} {d : Nat} {t : Tt} {Q : Option Value → Tt → Prop} {x1 : Int32} {x2 : Int32} {x3 : Int32} {x4 : Int32} (h : Rt g (d + 1) mX7_fewestTurned 6 [some (.ref 0), some (.int x1), some (.int x2), some (.int x3), some (.int (x4 + 1))] [] t Q) : Rt g (d + 1) mX7_fewestTurned 74 [some (.ref 0), some (.int x1), some (.int x2), some (.int x3), some (.int x4)] [] t Q := by
  refine s_iinc (w := x4 + 1) dX7_fewestTurned_74 rfl (by rfl) (by decide) rfl (L9 := [some (.ref 0), some (.int x1), some (.int x2), some (.int x3), some (.int (x4 + 1))]) rfl ?_
  refine s_goto (tgt := 6) dX7_fewestTurned_77 (by decide) ?_
  exact h
theorem bX7_liesFor_0 {g : Gt} {d : Nat} {t : Tt} {Q : Option Value → Tt → Prop} {p0 : Int32} {p1 : Int32} {p2 : Int32} (h : Rt g d mX7_noShelf 0 [some (.int p0)] [] t (QI (fun v2 t1 => (¬ v2 = 0 → Q (some (.int (-1))) t1) ∧ (v2 = 0 → Rt g d mX7_nobody 0 [some (.ref 0), some (.int p1)] [] t1 (QI (fun v5 t4 => (¬ v5 = 0 → Q (some (.int (-1))) t4) ∧ (v5 = 0 → Rt g d mX7_outside 0 [some (.int p2), some (.int 9)] [] t4 (QI (fun v8 t7 => (v8 = 0 → Rt g d mX7_refusalOfMirror 0 [some (.ref 0), some (.int p0), none] [] t7 (QI (fun v11 t10 => (v11 = 0 → Rt g d mX5_copyFrom 0 [some (.ref 5), some (.ref 1)] [] t10 (QV (fun t13 => Rt g (d + 1) mX7_liesFor 55 [some (.ref 0), some (.int p0), some (.int p1), some (.int p2), none, some (.int 0)] [] t13 Q))) ∧ (¬ v11 = 0 → Q (some (.int v11)) t10)))) ∧ (¬ v8 = 0 → Q (some (.int (-1))) t7)))))))))) : Rt g (d + 1) mX7_liesFor 0 [some (.ref 0), some (.int p0), some (.int p1), some (.int p2), none, none] [] t Q := by
  refine s_iload_n dX7_liesFor_0 rfl rfl ?_
  refine t_callS (M' := mX7_noShelf) (k := 0) (As := [.int p0]) (rest := []) dX7_liesFor_1 ml_X7_86 mstX7_noShelf rfl (Nat.le_of_ble_eq_true rfl) (Nat.le_of_ble_eq_true rfl) rfl h (fun rv t1 q => ?_)
  obtain ⟨v2, rfl, h⟩ := q
  show Rt g (d + 1) mX7_liesFor 4 [some (.ref 0), some (.int p0), some (.int p1), some (.int p2), none, none] [.int v2] t1 Q
  refine s_if_ne (tgt := 24) dX7_liesFor_4 (by decide) (fun c3 => ?_) (fun c3 => ?_)
  · replace h := h.1 c3
    refine s_iconst (v := (-1)) dX7_liesFor_24 (by decide) ?_
    exact t_iret dX7_liesFor_25 (NR_i rfl _) h
  · replace h := h.2 c3
    refine s_aload_n dX7_liesFor_7 rfl rfl ?_
    refine s_iload_n dX7_liesFor_8 rfl rfl ?_
    refine t_callV (M' := mX7_nobody) (k := 0) (As := [.int p1]) (rest := []) dX7_liesFor_9 ml_X7_126 miX7_nobody msX7_nobody rfl (by decide) rfl rfl (Nat.le_of_ble_eq_true rfl) (Nat.le_of_ble_eq_true rfl) rfl h (fun rv t4 q => ?_)
    obtain ⟨v5, rfl, h⟩ := q
    show Rt g (d + 1) mX7_liesFor 12 [some (.ref 0), some (.int p0), some (.int p1), some (.int p2), none, none] [.int v5] t4 Q
    refine s_if_ne (tgt := 24) dX7_liesFor_12 (by decide) (fun c6 => ?_) (fun c6 => ?_)
    · replace h := h.1 c6
      refine s_iconst (v := (-1)) dX7_liesFor_24 (by decide) ?_
      exact t_iret dX7_liesFor_25 (NR_i rfl _) h
    · replace h := h.2 c6
      refine s_iload_n dX7_liesFor_15 rfl rfl ?_
      refine s_bipush (v := 9) dX7_liesFor_16 (by decide) ?_
      refine t_callS (M' := mX7_outside) (k := 0) (As := [.int p2, .int 9]) (rest := []) dX7_liesFor_18 ml_X7_71 mstX7_outside rfl (Nat.le_of_ble_eq_true rfl) (Nat.le_of_ble_eq_true rfl) rfl h (fun rv t7 q => ?_)
      obtain ⟨v8, rfl, h⟩ := q
      show Rt g (d + 1) mX7_liesFor 21 [some (.ref 0), some (.int p0), some (.int p1), some (.int p2), none, none] [.int v8] t7 Q
      refine s_if_eq (tgt := 26) dX7_liesFor_21 (by decide) (fun c9 => ?_) (fun c9 => ?_)
      · replace h := h.1 c9
        refine s_aload_n dX7_liesFor_26 rfl rfl ?_
        refine s_iload_n dX7_liesFor_27 rfl rfl ?_
        refine t_callV (M' := mX7_refusalOfMirror) (k := 1) (As := [.int p0]) (rest := []) dX7_liesFor_28 ml_X7_242 miX7_refusalOfMirror msX7_refusalOfMirror rfl (by decide) rfl rfl (Nat.le_of_ble_eq_true rfl) (Nat.le_of_ble_eq_true rfl) rfl h (fun rv t10 q => ?_)
        obtain ⟨v11, rfl, h⟩ := q
        show Rt g (d + 1) mX7_liesFor 31 [some (.ref 0), some (.int p0), some (.int p1), some (.int p2), none, none] [.int v11] t10 Q
        refine s_istore dX7_liesFor_31 (by decide) rfl (L9 := [some (.ref 0), some (.int p0), some (.int p1), some (.int p2), some (.int v11), none]) rfl ?_
        refine s_iload dX7_liesFor_33 rfl ?_
        refine s_if_eq (tgt := 41) dX7_liesFor_35 (by decide) (fun c12 => ?_) (fun c12 => ?_)
        · replace h := h.1 c12
          refine s_aload_n dX7_liesFor_41 rfl rfl ?_
          refine t_getR (o' := 5) dX7_liesFor_42 fl_X7_16 rfl (by decide) rfl rfl ?_
          refine s_aload_n dX7_liesFor_45 rfl rfl ?_
          refine t_getR (o' := 1) dX7_liesFor_46 fl_X7_10 rfl (by decide) rfl rfl ?_
          refine t_callV (M' := mX5_copyFrom) (k := 0) (As := [.ref 1]) (rest := []) dX7_liesFor_49 ml_X7_203 miX5_copyFrom msX5_copyFrom rfl (by decide) rfl rfl (Nat.le_of_ble_eq_true rfl) (Nat.le_of_ble_eq_true rfl) rfl h (fun rv t13 q => ?_)
          obtain ⟨rfl, h⟩ := q
          show Rt g (d + 1) mX7_liesFor 52 [some (.ref 0), some (.int p0), some (.int p1), some (.int p2), some (.int v11), none] [] t13 Q
          refine s_iconst (v := 0) dX7_liesFor_52 (by decide) ?_
          refine s_istore dX7_liesFor_53 (by decide) rfl (L9 := [some (.ref 0), some (.int p0), some (.int p1), some (.int p2), some (.int v11), some (.int 0)]) rfl ?_
          exact Rt.lc h (lc_some (lc_some (lc_some (lc_some (lc_none (lc_some lc_nil))))))
        · replace h := h.2 c12
          refine s_iload dX7_liesFor_38 rfl ?_
          exact t_iret dX7_liesFor_40 (NR_i rfl _) h
      · replace h := h.2 c9
        refine s_iconst (v := (-1)) dX7_liesFor_24 (by decide) ?_
        exact t_iret dX7_liesFor_25 (NR_i rfl _) h
theorem bX7_liesFor_55 {g : Gt} {d : Nat} {t : Tt} {Q : Option Value → Tt → Prop} {x1 : Int32} {x2 : Int32} {x3 : Int32} {x5 : Int32} (h : (99 < x5 → Q (some (.int (-2))) t) ∧ (¬ 99 < x5 → vp_in x1 6 ∧ (Rt g d mX5_looksLike 0 [some (.ref 5), some (.int x2), some (.ref (45 + 2 * x1.toNatClampNeg)), none] [] t (QI (fun v4 t3 => (v4 = 0 → isLw t3.2.2.1 ∧ Rt g d mX5_lie 0 [some (.ref 5), some (.ref t3.2.2.1), some (.int x2), some (.int 0), some (.int x3), none, none, none, none, none, none] [] t3 (QI (fun v8 t7 => Rt g (d + 1) mX7_liesFor 55 [some (.ref 0), some (.int x1), some (.int x2), some (.int x3), none, some (.int (x5 + 1))] [] t7 Q))) ∧ (¬ v4 = 0 → Q (some (.int x5)) t3)))))) : Rt g (d + 1) mX7_liesFor 55 [some (.ref 0), some (.int x1), some (.int x2), some (.int x3), none, some (.int x5)] [] t Q := by
  refine s_iload dX7_liesFor_55 rfl ?_
  refine s_bipush (v := 99) dX7_liesFor_57 (by decide) ?_
  refine s_icmp_gt (tgt := 103) dX7_liesFor_59 (by decide) (fun c1 => ?_) (fun c1 => ?_)
  · replace h := h.1 c1
    refine s_bipush (v := (-2)) dX7_liesFor_103 (by decide) ?_
    exact t_iret dX7_liesFor_105 (NR_i rfl _) h
  · replace h := h.2 c1
    refine s_aload_n dX7_liesFor_62 rfl rfl ?_
    refine t_getR (o' := 5) dX7_liesFor_63 fl_X7_16 rfl (by decide) rfl rfl ?_
    refine s_iload_n dX7_liesFor_66 rfl rfl ?_
    refine s_aload_n dX7_liesFor_67 rfl rfl ?_
    refine t_getR (o' := 30) dX7_liesFor_68 fl_X7_45 rfl (by decide) rfl rfl ?_
    refine s_iload_n dX7_liesFor_71 rfl rfl ?_
    obtain ⟨g2, h⟩ := h
    refine t_aald dX7_liesFor_72 g2 rfl ?_
    refine t_callV (M' := mX5_looksLike) (k := 1) (As := [.int x2, .ref (45 + 2 * x1.toNatClampNeg)]) (rest := []) dX7_liesFor_73 ml_X7_245 miX5_looksLike msX5_looksLike rfl (by decide) rfl rfl (Nat.le_of_ble_eq_true rfl) (Nat.le_of_ble_eq_true rfl) rfl h (fun rv t3 q => ?_)
    obtain ⟨v4, rfl, h⟩ := q
    show Rt g (d + 1) mX7_liesFor 76 [some (.ref 0), some (.int x1), some (.int x2), some (.int x3), none, some (.int x5)] [.int v4] t3 Q
    refine s_if_eq (tgt := 82) dX7_liesFor_76 (by decide) (fun c5 => ?_) (fun c5 => ?_)
    · replace h := h.1 c5
      refine s_aload_n dX7_liesFor_82 rfl rfl ?_
      refine t_getR (o' := 5) dX7_liesFor_83 fl_X7_16 rfl (by decide) rfl rfl ?_
      refine s_aload_n dX7_liesFor_86 rfl rfl ?_
      obtain ⟨g6, h⟩ := h
      refine t_getR dX7_liesFor_87 fl_X7_66 rfl (by decide) rfl rfl ?_
      refine s_iload_n dX7_liesFor_90 rfl rfl ?_
      refine s_iconst (v := 0) dX7_liesFor_91 (by decide) ?_
      refine s_iload_n dX7_liesFor_92 rfl rfl ?_
      refine t_callV (M' := mX5_lie) (k := 6) (As := [.ref t3.2.2.1, .int x2, .int 0, .int x3]) (rest := []) dX7_liesFor_93 ml_X7_217 miX5_lie msX5_lie rfl (by decide) rfl rfl (Nat.le_of_ble_eq_true rfl) (Nat.le_of_ble_eq_true rfl) rfl h (fun rv t7 q => ?_)
      obtain ⟨v8, rfl, h⟩ := q
      show Rt g (d + 1) mX7_liesFor 96 [some (.ref 0), some (.int x1), some (.int x2), some (.int x3), none, some (.int x5)] [.int v8] t7 Q
      refine s_pop dX7_liesFor_96 rfl ?_
      refine s_iinc (w := x5 + 1) dX7_liesFor_97 rfl (by rfl) (by decide) rfl (L9 := [some (.ref 0), some (.int x1), some (.int x2), some (.int x3), none, some (.int (x5 + 1))]) rfl ?_
      refine s_goto (tgt := 55) dX7_liesFor_100 (by decide) ?_
      exact h
    · replace h := h.2 c5
      refine s_iload dX7_liesFor_79 rfl ?_
      exact t_iret dX7_liesFor_81 (NR_i rfl _) h
theorem bX7_two_0 {g : Gt} {d : Nat} {t : Tt} {Q : Option Value → Tt → Prop} {p0 : Int32} {p1 : Int32} {p2 : Int32} (h : Rt g d mX7_noShelf 0 [some (.int p0)] [] t (QI (fun v2 t1 => (¬ v2 = 0 → Q (some (.int (-1))) t1) ∧ (v2 = 0 → Rt g d mX7_nobody 0 [some (.ref 0), some (.int p1)] [] t1 (QI (fun v5 t4 => (¬ v5 = 0 → Q (some (.int (-1))) t4) ∧ (v5 = 0 → Rt g d mX7_outside 0 [some (.int p2), some (.int 1)] [] t4 (QI (fun v8 t7 => (v8 = 0 → Rt g d mX7_refusalOfMirror 0 [some (.ref 0), some (.int p0), none] [] t7 (QI (fun v11 t10 => (v11 = 0 → Rt g (d + 1) mX7_two 50 [some (.ref 0), some (.int p0), some (.int p1), some (.int p2), none, some (.int 0), some (.int (-2)), some (.int 0)] [] t10 Q) ∧ (¬ v11 = 0 → Q (some (.int v11)) t10)))) ∧ (¬ v8 = 0 → Q (some (.int (-1))) t7)))))))))) : Rt g (d + 1) mX7_two 0 [some (.ref 0), some (.int p0), some (.int p1), some (.int p2), none, none, none, none] [] t Q := by
  refine s_iload_n dX7_two_0 rfl rfl ?_
  refine t_callS (M' := mX7_noShelf) (k := 0) (As := [.int p0]) (rest := []) dX7_two_1 ml_X7_86 mstX7_noShelf rfl (Nat.le_of_ble_eq_true rfl) (Nat.le_of_ble_eq_true rfl) rfl h (fun rv t1 q => ?_)
  obtain ⟨v2, rfl, h⟩ := q
  show Rt g (d + 1) mX7_two 4 [some (.ref 0), some (.int p0), some (.int p1), some (.int p2), none, none, none, none] [.int v2] t1 Q
  refine s_if_ne (tgt := 23) dX7_two_4 (by decide) (fun c3 => ?_) (fun c3 => ?_)
  · replace h := h.1 c3
    refine s_iconst (v := (-1)) dX7_two_23 (by decide) ?_
    exact t_iret dX7_two_24 (NR_i rfl _) h
  · replace h := h.2 c3
    refine s_aload_n dX7_two_7 rfl rfl ?_
    refine s_iload_n dX7_two_8 rfl rfl ?_
    refine t_callV (M' := mX7_nobody) (k := 0) (As := [.int p1]) (rest := []) dX7_two_9 ml_X7_126 miX7_nobody msX7_nobody rfl (by decide) rfl rfl (Nat.le_of_ble_eq_true rfl) (Nat.le_of_ble_eq_true rfl) rfl h (fun rv t4 q => ?_)
    obtain ⟨v5, rfl, h⟩ := q
    show Rt g (d + 1) mX7_two 12 [some (.ref 0), some (.int p0), some (.int p1), some (.int p2), none, none, none, none] [.int v5] t4 Q
    refine s_if_ne (tgt := 23) dX7_two_12 (by decide) (fun c6 => ?_) (fun c6 => ?_)
    · replace h := h.1 c6
      refine s_iconst (v := (-1)) dX7_two_23 (by decide) ?_
      exact t_iret dX7_two_24 (NR_i rfl _) h
    · replace h := h.2 c6
      refine s_iload_n dX7_two_15 rfl rfl ?_
      refine s_iconst (v := 1) dX7_two_16 (by decide) ?_
      refine t_callS (M' := mX7_outside) (k := 0) (As := [.int p2, .int 1]) (rest := []) dX7_two_17 ml_X7_71 mstX7_outside rfl (Nat.le_of_ble_eq_true rfl) (Nat.le_of_ble_eq_true rfl) rfl h (fun rv t7 q => ?_)
      obtain ⟨v8, rfl, h⟩ := q
      show Rt g (d + 1) mX7_two 20 [some (.ref 0), some (.int p0), some (.int p1), some (.int p2), none, none, none, none] [.int v8] t7 Q
      refine s_if_eq (tgt := 25) dX7_two_20 (by decide) (fun c9 => ?_) (fun c9 => ?_)
      · replace h := h.1 c9
        refine s_aload_n dX7_two_25 rfl rfl ?_
        refine s_iload_n dX7_two_26 rfl rfl ?_
        refine t_callV (M' := mX7_refusalOfMirror) (k := 1) (As := [.int p0]) (rest := []) dX7_two_27 ml_X7_242 miX7_refusalOfMirror msX7_refusalOfMirror rfl (by decide) rfl rfl (Nat.le_of_ble_eq_true rfl) (Nat.le_of_ble_eq_true rfl) rfl h (fun rv t10 q => ?_)
        obtain ⟨v11, rfl, h⟩ := q
        show Rt g (d + 1) mX7_two 30 [some (.ref 0), some (.int p0), some (.int p1), some (.int p2), none, none, none, none] [.int v11] t10 Q
        refine s_istore dX7_two_30 (by decide) rfl (L9 := [some (.ref 0), some (.int p0), some (.int p1), some (.int p2), some (.int v11), none, none, none]) rfl ?_
        refine s_iload dX7_two_32 rfl ?_
        refine s_if_eq (tgt := 40) dX7_two_34 (by decide) (fun c12 => ?_) (fun c12 => ?_)
        · replace h := h.1 c12
          refine s_iconst (v := 0) dX7_two_40 (by decide) ?_
          refine s_istore dX7_two_41 (by decide) rfl (L9 := [some (.ref 0), some (.int p0), some (.int p1), some (.int p2), some (.int v11), some (.int 0), none, none]) rfl ?_
          refine s_bipush (v := (-2)) dX7_two_43 (by decide) ?_
          refine s_istore dX7_two_45 (by decide) rfl (L9 := [some (.ref 0), some (.int p0), some (.int p1), some (.int p2), some (.int v11), some (.int 0), some (.int (-2)), none]) rfl ?_
          refine s_iconst (v := 0) dX7_two_47 (by decide) ?_
          refine s_istore dX7_two_48 (by decide) rfl (L9 := [some (.ref 0), some (.int p0), some (.int p1), some (.int p2), some (.int v11), some (.int 0), some (.int (-2)), some (.int 0)]) rfl ?_
          exact Rt.lc h (lc_some (lc_some (lc_some (lc_some (lc_none (lc_some (lc_some (lc_some lc_nil))))))))
        · replace h := h.2 c12
          refine s_iload dX7_two_37 rfl ?_
          exact t_iret dX7_two_39 (NR_i rfl _) h
      · replace h := h.2 c9
        refine s_iconst (v := (-1)) dX7_two_23 (by decide) ?_
        exact t_iret dX7_two_24 (NR_i rfl _) h
theorem bX7_two_50 {g : Gt} {d : Nat} {t : Tt} {Q : Option Value → Tt → Prop} {x1 : Int32} {x2 : Int32} {x3 : Int32} {x5 : Int32} {x6 : Int32} {x7 : Int32} (h : (100 ≤ x7 → (¬ x3 = 0 → Q (some (.int x6)) t) ∧ (x3 = 0 → Q (some (.int x5)) t)) ∧ (¬ 100 ≤ x7 → Rt g d mX5_copyFrom 0 [some (.ref 5), some (.ref 1)] [] t (QV (fun t3 => isLw t3.2.2.1 ∧ (Rt g d mX5_lie 0 [some (.ref 5), some (.ref t3.2.2.1), some (.int x2), some (.int 0), some (.int (x7 / 10)), none, none, none, none, none, none] [] t3 (QI (fun v6 t5 => isLw t5.2.2.1 ∧ (Rt g d mX5_lie 0 [some (.ref 5), some (.ref t5.2.2.1), some (.int x2), some (.int 0), some (.int (jr x7 10)), none, none, none, none, none, none] [] t5 (QI (fun v9 t8 => vp_in x1 6 ∧ (Rt g d mX5_looksLike 0 [some (.ref 5), some (.int x2), some (.ref (45 + 2 * x1.toNatClampNeg)), none] [] t8 (QI (fun v12 t11 => (v12 = 0 → Rt g (d + 1) mX7_two 142 [some (.ref 0), some (.int x1), some (.int x2), some (.int x3), none, some (.int x5), some (.int x6), some (.int x7)] [] t11 Q) ∧ (¬ v12 = 0 → (¬ x6 = (-2) → Rt g (d + 1) mX7_two 140 [some (.ref 0), some (.int x1), some (.int x2), some (.int x3), none, some (.int (x5 + 1)), none, some (.int x7)] [.int x6] t11 Q) ∧ (x6 = (-2) → Rt g (d + 1) mX7_two 140 [some (.ref 0), some (.int x1), some (.int x2), some (.int x3), none, some (.int (x5 + 1)), none, some (.int x7)] [.int x7] t11 Q))))))))))))))) : Rt g (d + 1) mX7_two 50 [some (.ref 0), some (.int x1), some (.int x2), some (.int x3), none, some (.int x5), some (.int x6), some (.int x7)] [] t Q := by
  refine s_iload dX7_two_50 rfl ?_
  refine s_bipush (v := 100) dX7_two_52 (by decide) ?_
  refine s_icmp_ge (tgt := 148) dX7_two_54 (by decide) (fun c1 => ?_) (fun c1 => ?_)
  · replace h := h.1 c1
    refine s_iload_n dX7_two_148 rfl rfl ?_
    refine s_if_ne (tgt := 157) dX7_two_149 (by decide) (fun c2 => ?_) (fun c2 => ?_)
    · replace h := h.1 c2
      refine s_iload dX7_two_157 rfl ?_
      exact t_iret dX7_two_159 (NR_i rfl _) h
    · replace h := h.2 c2
      refine s_iload dX7_two_152 rfl ?_
      refine s_goto (tgt := 159) dX7_two_154 (by decide) ?_
      exact t_iret dX7_two_159 (NR_i rfl _) h
  · replace h := h.2 c1
    refine s_aload_n dX7_two_57 rfl rfl ?_
    refine t_getR (o' := 5) dX7_two_58 fl_X7_16 rfl (by decide) rfl rfl ?_
    refine s_aload_n dX7_two_61 rfl rfl ?_
    refine t_getR (o' := 1) dX7_two_62 fl_X7_10 rfl (by decide) rfl rfl ?_
    refine t_callV (M' := mX5_copyFrom) (k := 0) (As := [.ref 1]) (rest := []) dX7_two_65 ml_X7_203 miX5_copyFrom msX5_copyFrom rfl (by decide) rfl rfl (Nat.le_of_ble_eq_true rfl) (Nat.le_of_ble_eq_true rfl) rfl h (fun rv t3 q => ?_)
    obtain ⟨rfl, h⟩ := q
    show Rt g (d + 1) mX7_two 68 [some (.ref 0), some (.int x1), some (.int x2), some (.int x3), none, some (.int x5), some (.int x6), some (.int x7)] [] t3 Q
    refine s_aload_n dX7_two_68 rfl rfl ?_
    refine t_getR (o' := 5) dX7_two_69 fl_X7_16 rfl (by decide) rfl rfl ?_
    refine s_aload_n dX7_two_72 rfl rfl ?_
    obtain ⟨g4, h⟩ := h
    refine t_getR dX7_two_73 fl_X7_66 rfl (by decide) rfl rfl ?_
    refine s_iload_n dX7_two_76 rfl rfl ?_
    refine s_iconst (v := 0) dX7_two_77 (by decide) ?_
    refine s_iload dX7_two_78 rfl ?_
    refine s_bipush (v := 10) dX7_two_80 (by decide) ?_
    refine s_idiv dX7_two_82 (by decide) ?_
    refine t_callV (M' := mX5_lie) (k := 6) (As := [.ref t3.2.2.1, .int x2, .int 0, .int (x7 / 10)]) (rest := []) dX7_two_83 ml_X7_217 miX5_lie msX5_lie rfl (by decide) rfl rfl (Nat.le_of_ble_eq_true rfl) (Nat.le_of_ble_eq_true rfl) rfl h (fun rv t5 q => ?_)
    obtain ⟨v6, rfl, h⟩ := q
    show Rt g (d + 1) mX7_two 86 [some (.ref 0), some (.int x1), some (.int x2), some (.int x3), none, some (.int x5), some (.int x6), some (.int x7)] [.int v6] t5 Q
    refine s_pop dX7_two_86 rfl ?_
    refine s_aload_n dX7_two_87 rfl rfl ?_
    refine t_getR (o' := 5) dX7_two_88 fl_X7_16 rfl (by decide) rfl rfl ?_
    refine s_aload_n dX7_two_91 rfl rfl ?_
    obtain ⟨g7, h⟩ := h
    refine t_getR dX7_two_92 fl_X7_66 rfl (by decide) rfl rfl ?_
    refine s_iload_n dX7_two_95 rfl rfl ?_
    refine s_iconst (v := 0) dX7_two_96 (by decide) ?_
    refine s_iload dX7_two_97 rfl ?_
    refine s_bipush (v := 10) dX7_two_99 (by decide) ?_
    refine s_irem dX7_two_101 (by decide) ?_
    refine t_callV (M' := mX5_lie) (k := 6) (As := [.ref t5.2.2.1, .int x2, .int 0, .int (jr x7 10)]) (rest := []) dX7_two_102 ml_X7_217 miX5_lie msX5_lie rfl (by decide) rfl rfl (Nat.le_of_ble_eq_true rfl) (Nat.le_of_ble_eq_true rfl) rfl h (fun rv t8 q => ?_)
    obtain ⟨v9, rfl, h⟩ := q
    show Rt g (d + 1) mX7_two 105 [some (.ref 0), some (.int x1), some (.int x2), some (.int x3), none, some (.int x5), some (.int x6), some (.int x7)] [.int v9] t8 Q
    refine s_pop dX7_two_105 rfl ?_
    refine s_aload_n dX7_two_106 rfl rfl ?_
    refine t_getR (o' := 5) dX7_two_107 fl_X7_16 rfl (by decide) rfl rfl ?_
    refine s_iload_n dX7_two_110 rfl rfl ?_
    refine s_aload_n dX7_two_111 rfl rfl ?_
    refine t_getR (o' := 30) dX7_two_112 fl_X7_45 rfl (by decide) rfl rfl ?_
    refine s_iload_n dX7_two_115 rfl rfl ?_
    obtain ⟨g10, h⟩ := h
    refine t_aald dX7_two_116 g10 rfl ?_
    refine t_callV (M' := mX5_looksLike) (k := 1) (As := [.int x2, .ref (45 + 2 * x1.toNatClampNeg)]) (rest := []) dX7_two_117 ml_X7_245 miX5_looksLike msX5_looksLike rfl (by decide) rfl rfl (Nat.le_of_ble_eq_true rfl) (Nat.le_of_ble_eq_true rfl) rfl h (fun rv t11 q => ?_)
    obtain ⟨v12, rfl, h⟩ := q
    show Rt g (d + 1) mX7_two 120 [some (.ref 0), some (.int x1), some (.int x2), some (.int x3), none, some (.int x5), some (.int x6), some (.int x7)] [.int v12] t11 Q
    refine s_if_eq (tgt := 142) dX7_two_120 (by decide) (fun c13 => ?_) (fun c13 => ?_)
    · replace h := h.1 c13
      exact h
    · replace h := h.2 c13
      refine s_iinc (w := x5 + 1) dX7_two_123 rfl (by rfl) (by decide) rfl (L9 := [some (.ref 0), some (.int x1), some (.int x2), some (.int x3), none, some (.int (x5 + 1)), some (.int x6), some (.int x7)]) rfl ?_
      refine s_iload dX7_two_126 rfl ?_
      refine s_bipush (v := (-2)) dX7_two_128 (by decide) ?_
      refine s_icmp_ne (tgt := 138) dX7_two_130 (by decide) (fun c14 => ?_) (fun c14 => ?_)
      · replace h := h.1 c14
        refine s_iload dX7_two_138 rfl ?_
        exact Rt.lc h (lc_some (lc_some (lc_some (lc_some (lc_none (lc_some (lc_none (lc_some lc_nil))))))))
      · replace h := h.2 c14
        refine s_iload dX7_two_133 rfl ?_
        refine s_goto (tgt := 140) dX7_two_135 (by decide) ?_
        exact Rt.lc h (lc_some (lc_some (lc_some (lc_some (lc_none (lc_some (lc_none (lc_some lc_nil))))))))
theorem bX7_two_142 {g : Gt} {d : Nat} {t : Tt} {Q : Option Value → Tt → Prop} {x1 : Int32} {x2 : Int32} {x3 : Int32} {x5 : Int32} {x6 : Int32} {x7 : Int32} (h : Rt g (d + 1) mX7_two 50 [some (.ref 0), some (.int x1), some (.int x2), some (.int x3), none, some (.int x5), some (.int x6), some (.int (x7 + 1))] [] t Q) : Rt g (d + 1) mX7_two 142 [some (.ref 0), some (.int x1), some (.int x2), some (.int x3), none, some (.int x5), some (.int x6), some (.int x7)] [] t Q := by
  refine s_iinc (w := x7 + 1) dX7_two_142 rfl (by rfl) (by decide) rfl (L9 := [some (.ref 0), some (.int x1), some (.int x2), some (.int x3), none, some (.int x5), some (.int x6), some (.int (x7 + 1))]) rfl ?_
  refine s_goto (tgt := 50) dX7_two_145 (by decide) ?_
  exact h
theorem bX7_two_140 {g : Gt} {d : Nat} {t : Tt} {Q : Option Value → Tt → Prop} {x1 : Int32} {x2 : Int32} {x3 : Int32} {x5 : Int32} {x7 : Int32} {s0 : Int32} (h : Rt g (d + 1) mX7_two 142 [some (.ref 0), some (.int x1), some (.int x2), some (.int x3), none, some (.int x5), some (.int s0), some (.int x7)] [] t Q) : Rt g (d + 1) mX7_two 140 [some (.ref 0), some (.int x1), some (.int x2), some (.int x3), none, some (.int x5), none, some (.int x7)] [.int s0] t Q := by
  refine s_istore dX7_two_140 (by decide) rfl (L9 := [some (.ref 0), some (.int x1), some (.int x2), some (.int x3), none, some (.int x5), some (.int s0), some (.int x7)]) rfl ?_
  exact h
theorem bX7_others_0 {g : Gt} {d : Nat} {t : Tt} {Q : Option Value → Tt → Prop} {p0 : Int32} (h : Rt g d mX7_noShelf 0 [some (.int p0)] [] t (QI (fun v2 t1 => (v2 = 0 → Rt g d mX7_refusalOfMirror 0 [some (.ref 0), some (.int p0), none] [] t1 (QI (fun v5 t4 => Rt g (d + 1) mX7_others 16 [some (.ref 0), some (.int p0), none, none, none] [.int v5] t4 Q))) ∧ (¬ v2 = 0 → Rt g (d + 1) mX7_others 16 [some (.ref 0), some (.int p0), none, none, none] [.int (-1)] t1 Q)))) : Rt g (d + 1) mX7_others 0 [some (.ref 0), some (.int p0), none, none, none] [] t Q := by
  refine s_iload_n dX7_others_0 rfl rfl ?_
  refine t_callS (M' := mX7_noShelf) (k := 0) (As := [.int p0]) (rest := []) dX7_others_1 ml_X7_86 mstX7_noShelf rfl (Nat.le_of_ble_eq_true rfl) (Nat.le_of_ble_eq_true rfl) rfl h (fun rv t1 q => ?_)
  obtain ⟨v2, rfl, h⟩ := q
  show Rt g (d + 1) mX7_others 4 [some (.ref 0), some (.int p0), none, none, none] [.int v2] t1 Q
  refine s_if_eq (tgt := 11) dX7_others_4 (by decide) (fun c3 => ?_) (fun c3 => ?_)
  · replace h := h.1 c3
    refine s_aload_n dX7_others_11 rfl rfl ?_
    refine s_iload_n dX7_others_12 rfl rfl ?_
    refine t_callV (M' := mX7_refusalOfMirror) (k := 1) (As := [.int p0]) (rest := []) dX7_others_13 ml_X7_242 miX7_refusalOfMirror msX7_refusalOfMirror rfl (by decide) rfl rfl (Nat.le_of_ble_eq_true rfl) (Nat.le_of_ble_eq_true rfl) rfl h (fun rv t4 q => ?_)
    obtain ⟨v5, rfl, h⟩ := q
    show Rt g (d + 1) mX7_others 16 [some (.ref 0), some (.int p0), none, none, none] [.int v5] t4 Q
    exact h
  · replace h := h.2 c3
    refine s_iconst (v := (-1)) dX7_others_7 (by decide) ?_
    refine s_goto (tgt := 16) dX7_others_8 (by decide) ?_
    exact h
theorem bX7_others_16 {g : Gt} {d : Nat} {t : Tt} {Q : Option Value → Tt → Prop} {x1 : Int32} {s0 : Int32} (h : (s0 = 0 → Rt g (d + 1) mX7_others 28 [some (.ref 0), some (.int x1), none, some (.int 0), some (.int 0)] [] t Q) ∧ (¬ s0 = 0 → Q (some (.int s0)) t)) : Rt g (d + 1) mX7_others 16 [some (.ref 0), some (.int x1), none, none, none] [.int s0] t Q := by
  refine s_istore_n dX7_others_16 rfl (by decide) rfl (L9 := [some (.ref 0), some (.int x1), some (.int s0), none, none]) rfl ?_
  refine s_iload_n dX7_others_17 rfl rfl ?_
  refine s_if_eq (tgt := 23) dX7_others_18 (by decide) (fun c1 => ?_) (fun c1 => ?_)
  · replace h := h.1 c1
    refine s_iconst (v := 0) dX7_others_23 (by decide) ?_
    refine s_istore_n dX7_others_24 rfl (by decide) rfl (L9 := [some (.ref 0), some (.int x1), some (.int s0), some (.int 0), none]) rfl ?_
    refine s_iconst (v := 0) dX7_others_25 (by decide) ?_
    refine s_istore dX7_others_26 (by decide) rfl (L9 := [some (.ref 0), some (.int x1), some (.int s0), some (.int 0), some (.int 0)]) rfl ?_
    exact Rt.lc h (lc_some (lc_some (lc_none (lc_some (lc_some lc_nil)))))
  · replace h := h.2 c1
    refine s_iload_n dX7_others_21 rfl rfl ?_
    exact t_iret dX7_others_22 (NR_i rfl _) h
theorem bX7_others_28 {g : Gt} {d : Nat} {t : Tt} {Q : Option Value → Tt → Prop} {x1 : Int32} {x3 : Int32} {x4 : Int32} (h : ((t.1 1 0) ≤ x4 → Q (some (.int x3)) t) ∧ (¬ (t.1 1 0) ≤ x4 → vp_in x1 6 ∧ (Rt g d mX5_looksLike 0 [some (.ref 1), some (.int x4), some (.ref (45 + 2 * x1.toNatClampNeg)), none] [] t (QI (fun v4 t3 => (v4 = 0 → Rt g (d + 1) mX7_others 65 [some (.ref 0), some (.int x1), none, some (.int x3), some (.int x4)] [] t3 Q) ∧ (¬ v4 = 0 → ∀ z6 : Int32, z6 = (x3 ||| (jsl 1 x4)) → Rt g (d + 1) mX7_others 65 [some (.ref 0), some (.int x1), none, some (.int z6), some (.int x4)] [] t3 Q)))))) : Rt g (d + 1) mX7_others 28 [some (.ref 0), some (.int x1), none, some (.int x3), some (.int x4)] [] t Q := by
  refine s_iload dX7_others_28 rfl ?_
  refine s_aload_n dX7_others_30 rfl rfl ?_
  refine t_getR (o' := 1) dX7_others_31 fl_X7_10 rfl (by decide) rfl rfl ?_
  refine t_getI dX7_others_34 fl_X7_75 rfl (by decide) rfl ?_
  refine s_icmp_ge (tgt := 71) dX7_others_37 (by decide) (fun c1 => ?_) (fun c1 => ?_)
  · replace h := h.1 c1
    refine s_iload_n dX7_others_71 rfl rfl ?_
    exact t_iret dX7_others_72 (NR_i rfl _) h
  · replace h := h.2 c1
    refine s_aload_n dX7_others_40 rfl rfl ?_
    refine t_getR (o' := 1) dX7_others_41 fl_X7_10 rfl (by decide) rfl rfl ?_
    refine s_iload dX7_others_44 rfl ?_
    refine s_aload_n dX7_others_46 rfl rfl ?_
    refine t_getR (o' := 30) dX7_others_47 fl_X7_45 rfl (by decide) rfl rfl ?_
    refine s_iload_n dX7_others_50 rfl rfl ?_
    obtain ⟨g2, h⟩ := h
    refine t_aald dX7_others_51 g2 rfl ?_
    refine t_callV (M' := mX5_looksLike) (k := 1) (As := [.int x4, .ref (45 + 2 * x1.toNatClampNeg)]) (rest := []) dX7_others_52 ml_X7_245 miX5_looksLike msX5_looksLike rfl (by decide) rfl rfl (Nat.le_of_ble_eq_true rfl) (Nat.le_of_ble_eq_true rfl) rfl h (fun rv t3 q => ?_)
    obtain ⟨v4, rfl, h⟩ := q
    show Rt g (d + 1) mX7_others 55 [some (.ref 0), some (.int x1), none, some (.int x3), some (.int x4)] [.int v4] t3 Q
    refine s_if_eq (tgt := 65) dX7_others_55 (by decide) (fun c5 => ?_) (fun c5 => ?_)
    · replace h := h.1 c5
      exact h
    · replace h := h.2 c5
      refine s_iload_n dX7_others_58 rfl rfl ?_
      refine s_iconst (v := 1) dX7_others_59 (by decide) ?_
      refine s_iload dX7_others_60 rfl ?_
      refine s_ishl dX7_others_62 ?_
      refine s_ior dX7_others_63 ?_
      refine t_nmI (fun z6 ez6 => ?_)
      replace h := h z6 ez6
      refine s_istore_n dX7_others_64 rfl (by decide) rfl (L9 := [some (.ref 0), some (.int x1), none, some (.int z6), some (.int x4)]) rfl ?_
      exact h
theorem bX7_others_65 {g : Gt} {d : Nat} {t : Tt} {Q : Option Value → Tt → Prop} {x1 : Int32} {x3 : Int32} {x4 : Int32} (h : Rt g (d + 1) mX7_others 28 [some (.ref 0), some (.int x1), none, some (.int x3), some (.int (x4 + 1))] [] t Q) : Rt g (d + 1) mX7_others 65 [some (.ref 0), some (.int x1), none, some (.int x3), some (.int x4)] [] t Q := by
  refine s_iinc (w := x4 + 1) dX7_others_65 rfl (by rfl) (by decide) rfl (L9 := [some (.ref 0), some (.int x1), none, some (.int x3), some (.int (x4 + 1))]) rfl ?_
  refine s_goto (tgt := 28) dX7_others_68 (by decide) ?_
  exact h
theorem bX7_isSo_0 {g : Gt} {d : Nat} {t : Tt} {Q : Option Value → Tt → Prop} {p0 : Int32} {p1 : Int32} {p2 : Int32} (h : (p0 < 0 → Rt g (d + 1) mX7_isSo 24 [some (.ref 0), some (.int p0), some (.int p1), some (.int p2), none, none, none] [] t Q) ∧ (¬ p0 < 0 → Rt g d mX7_noShelf 0 [some (.int (p0 / 10))] [] t (QI (fun v3 t2 => (¬ v3 = 0 → Rt g (d + 1) mX7_isSo 24 [some (.ref 0), some (.int p0), some (.int p1), some (.int p2), none, none, none] [] t2 Q) ∧ (v3 = 0 → Rt g d mX7_noShelf 0 [some (.int (jr p0 10))] [] t2 (QI (fun v6 t5 => (v6 = 0 → Rt g (d + 1) mX7_isSo 29 [some (.ref 0), some (.int p0), some (.int p1), some (.int p2), none, none, none] [.int 0] t5 Q) ∧ (¬ v6 = 0 → Rt g (d + 1) mX7_isSo 24 [some (.ref 0), some (.int p0), some (.int p1), some (.int p2), none, none, none] [] t5 Q)))))))) : Rt g (d + 1) mX7_isSo 0 [some (.ref 0), some (.int p0), some (.int p1), some (.int p2), none, none, none] [] t Q := by
  refine s_iload_n dX7_isSo_0 rfl rfl ?_
  refine s_if_lt (tgt := 24) dX7_isSo_1 (by decide) (fun c1 => ?_) (fun c1 => ?_)
  · replace h := h.1 c1
    exact h
  · replace h := h.2 c1
    refine s_iload_n dX7_isSo_4 rfl rfl ?_
    refine s_bipush (v := 10) dX7_isSo_5 (by decide) ?_
    refine s_idiv dX7_isSo_7 (by decide) ?_
    refine t_callS (M' := mX7_noShelf) (k := 0) (As := [.int (p0 / 10)]) (rest := []) dX7_isSo_8 ml_X7_86 mstX7_noShelf rfl (Nat.le_of_ble_eq_true rfl) (Nat.le_of_ble_eq_true rfl) rfl h (fun rv t2 q => ?_)
    obtain ⟨v3, rfl, h⟩ := q
    show Rt g (d + 1) mX7_isSo 11 [some (.ref 0), some (.int p0), some (.int p1), some (.int p2), none, none, none] [.int v3] t2 Q
    refine s_if_ne (tgt := 24) dX7_isSo_11 (by decide) (fun c4 => ?_) (fun c4 => ?_)
    · replace h := h.1 c4
      exact h
    · replace h := h.2 c4
      refine s_iload_n dX7_isSo_14 rfl rfl ?_
      refine s_bipush (v := 10) dX7_isSo_15 (by decide) ?_
      refine s_irem dX7_isSo_17 (by decide) ?_
      refine t_callS (M' := mX7_noShelf) (k := 0) (As := [.int (jr p0 10)]) (rest := []) dX7_isSo_18 ml_X7_86 mstX7_noShelf rfl (Nat.le_of_ble_eq_true rfl) (Nat.le_of_ble_eq_true rfl) rfl h (fun rv t5 q => ?_)
      obtain ⟨v6, rfl, h⟩ := q
      show Rt g (d + 1) mX7_isSo 21 [some (.ref 0), some (.int p0), some (.int p1), some (.int p2), none, none, none] [.int v6] t5 Q
      refine s_if_eq (tgt := 28) dX7_isSo_21 (by decide) (fun c7 => ?_) (fun c7 => ?_)
      · replace h := h.1 c7
        refine s_iconst (v := 0) dX7_isSo_28 (by decide) ?_
        exact h
      · replace h := h.2 c7
        exact h
theorem bX7_isSo_24 {g : Gt} {d : Nat} {t : Tt} {Q : Option Value → Tt → Prop} {x1 : Int32} {x2 : Int32} {x3 : Int32} (h : Rt g (d + 1) mX7_isSo 29 [some (.ref 0), some (.int x1), some (.int x2), some (.int x3), none, none, none] [.int 1] t Q) : Rt g (d + 1) mX7_isSo 24 [some (.ref 0), some (.int x1), some (.int x2), some (.int x3), none, none, none] [] t Q := by
  refine s_iconst (v := 1) dX7_isSo_24 (by decide) ?_
  refine s_goto (tgt := 29) dX7_isSo_25 (by decide) ?_
  exact h
theorem bX7_isSo_29 {g : Gt} {d : Nat} {t : Tt} {Q : Option Value → Tt → Prop} {x1 : Int32} {x2 : Int32} {x3 : Int32} {s0 : Int32} (h : (¬ s0 = 0 → Q (some (.int (-1))) t) ∧ (s0 = 0 → (x2 < 0 → Q (some (.int (-1))) t) ∧ (¬ x2 < 0 → Rt g d mX7_nobody 0 [some (.ref 0), some (.int (x2 / 10))] [] t (QI (fun v4 t3 => (¬ v4 = 0 → Q (some (.int (-1))) t3) ∧ (v4 = 0 → ((jr x2 10) < 1 → Q (some (.int (-1))) t3) ∧ (¬ (jr x2 10) < 1 → (8 < (jr x2 10) → Q (some (.int (-1))) t3) ∧ (¬ 8 < (jr x2 10) → Rt g d mX7_outside 0 [some (.int x3), some (.int 2)] [] t3 (QI (fun v9 t8 => (v9 = 0 → Rt g d mX7_refusalOfBytes 0 [some (.ref 0), some (.int (x1 / 10)), none] [] t8 (QI (fun v12 t11 => Rt g d mX7_refusalOfMirror 0 [some (.ref 0), some (.int (jr x1 10)), none] [] t11 (QI (fun v14 t13 => (v12 = (-11) → Q (some (.int (-11))) t13) ∧ (¬ v12 = (-11) → (¬ v14 = (-11) → (¬ v12 = 0 → Rt g (d + 1) mX7_isSo 125 [none, none, none, none, none, some (.int v12), some (.int v14)] [] t13 Q) ∧ (v12 = 0 → (v14 = 0 → vp_in (x1 / 10) 6 ∧ (Rt g d mX2_summon 0 [some (.ref 13), some (.ref (45 + 2 * (x1 / 10).toNatClampNeg)), some (.int (t13.1 1 0)), none, none, none, none, none, none, none, none, none, none, none] [] t13 (QV (fun t20 => vp_in (jr x1 10) 6 ∧ Rt g d mX7_waysOfSo 0 [some (.ref 0), some (.ref (45 + 2 * (jr x1 10).toNatClampNeg)), some (.int (x2 / 10)), some (.int (jr x2 10)), some (.int x3), none, none, none, none, none] [] t20 (QI (fun v23 t22 => Q (some (.int v23)) t22)))))) ∧ (¬ v14 = 0 → Rt g (d + 1) mX7_isSo 125 [none, none, none, none, none, some (.int v12), some (.int v14)] [] t13 Q))) ∧ (v14 = (-11) → Q (some (.int (-11))) t13))))))) ∧ (¬ v9 = 0 → Q (some (.int (-1))) t8))))))))))) : Rt g (d + 1) mX7_isSo 29 [some (.ref 0), some (.int x1), some (.int x2), some (.int x3), none, none, none] [.int s0] t Q := by
  refine s_istore dX7_isSo_29 (by decide) rfl (L9 := [some (.ref 0), some (.int x1), some (.int x2), some (.int x3), some (.int s0), none, none]) rfl ?_
  refine s_iload dX7_isSo_31 rfl ?_
  refine s_if_ne (tgt := 76) dX7_isSo_33 (by decide) (fun c1 => ?_) (fun c1 => ?_)
  · replace h := h.1 c1
    refine s_iconst (v := (-1)) dX7_isSo_76 (by decide) ?_
    exact t_iret dX7_isSo_77 (NR_i rfl _) h
  · replace h := h.2 c1
    refine s_iload_n dX7_isSo_36 rfl rfl ?_
    refine s_if_lt (tgt := 76) dX7_isSo_37 (by decide) (fun c2 => ?_) (fun c2 => ?_)
    · replace h := h.1 c2
      refine s_iconst (v := (-1)) dX7_isSo_76 (by decide) ?_
      exact t_iret dX7_isSo_77 (NR_i rfl _) h
    · replace h := h.2 c2
      refine s_aload_n dX7_isSo_40 rfl rfl ?_
      refine s_iload_n dX7_isSo_41 rfl rfl ?_
      refine s_bipush (v := 10) dX7_isSo_42 (by decide) ?_
      refine s_idiv dX7_isSo_44 (by decide) ?_
      refine t_callV (M' := mX7_nobody) (k := 0) (As := [.int (x2 / 10)]) (rest := []) dX7_isSo_45 ml_X7_126 miX7_nobody msX7_nobody rfl (by decide) rfl rfl (Nat.le_of_ble_eq_true rfl) (Nat.le_of_ble_eq_true rfl) rfl h (fun rv t3 q => ?_)
      obtain ⟨v4, rfl, h⟩ := q
      show Rt g (d + 1) mX7_isSo 48 [some (.ref 0), some (.int x1), some (.int x2), some (.int x3), some (.int s0), none, none] [.int v4] t3 Q
      refine s_if_ne (tgt := 76) dX7_isSo_48 (by decide) (fun c5 => ?_) (fun c5 => ?_)
      · replace h := h.1 c5
        refine s_iconst (v := (-1)) dX7_isSo_76 (by decide) ?_
        exact t_iret dX7_isSo_77 (NR_i rfl _) h
      · replace h := h.2 c5
        refine s_iload_n dX7_isSo_51 rfl rfl ?_
        refine s_bipush (v := 10) dX7_isSo_52 (by decide) ?_
        refine s_irem dX7_isSo_54 (by decide) ?_
        refine s_iconst (v := 1) dX7_isSo_55 (by decide) ?_
        refine s_icmp_lt (tgt := 76) dX7_isSo_56 (by decide) (fun c6 => ?_) (fun c6 => ?_)
        · replace h := h.1 c6
          refine s_iconst (v := (-1)) dX7_isSo_76 (by decide) ?_
          exact t_iret dX7_isSo_77 (NR_i rfl _) h
        · replace h := h.2 c6
          refine s_iload_n dX7_isSo_59 rfl rfl ?_
          refine s_bipush (v := 10) dX7_isSo_60 (by decide) ?_
          refine s_irem dX7_isSo_62 (by decide) ?_
          refine s_bipush (v := 8) dX7_isSo_63 (by decide) ?_
          refine s_icmp_gt (tgt := 76) dX7_isSo_65 (by decide) (fun c7 => ?_) (fun c7 => ?_)
          · replace h := h.1 c7
            refine s_iconst (v := (-1)) dX7_isSo_76 (by decide) ?_
            exact t_iret dX7_isSo_77 (NR_i rfl _) h
          · replace h := h.2 c7
            refine s_iload_n dX7_isSo_68 rfl rfl ?_
            refine s_iconst (v := 2) dX7_isSo_69 (by decide) ?_
            refine t_callS (M' := mX7_outside) (k := 0) (As := [.int x3, .int 2]) (rest := []) dX7_isSo_70 ml_X7_71 mstX7_outside rfl (Nat.le_of_ble_eq_true rfl) (Nat.le_of_ble_eq_true rfl) rfl h (fun rv t8 q => ?_)
            obtain ⟨v9, rfl, h⟩ := q
            show Rt g (d + 1) mX7_isSo 73 [some (.ref 0), some (.int x1), some (.int x2), some (.int x3), some (.int s0), none, none] [.int v9] t8 Q
            refine s_if_eq (tgt := 78) dX7_isSo_73 (by decide) (fun c10 => ?_) (fun c10 => ?_)
            · replace h := h.1 c10
              refine s_aload_n dX7_isSo_78 rfl rfl ?_
              refine s_iload_n dX7_isSo_79 rfl rfl ?_
              refine s_bipush (v := 10) dX7_isSo_80 (by decide) ?_
              refine s_idiv dX7_isSo_82 (by decide) ?_
              refine t_callV (M' := mX7_refusalOfBytes) (k := 1) (As := [.int (x1 / 10)]) (rest := []) dX7_isSo_83 ml_X7_162 miX7_refusalOfBytes msX7_refusalOfBytes rfl (by decide) rfl rfl (Nat.le_of_ble_eq_true rfl) (Nat.le_of_ble_eq_true rfl) rfl h (fun rv t11 q => ?_)
              obtain ⟨v12, rfl, h⟩ := q
              show Rt g (d + 1) mX7_isSo 86 [some (.ref 0), some (.int x1), some (.int x2), some (.int x3), some (.int s0), none, none] [.int v12] t11 Q
              refine s_istore dX7_isSo_86 (by decide) rfl (L9 := [some (.ref 0), some (.int x1), some (.int x2), some (.int x3), some (.int s0), some (.int v12), none]) rfl ?_
              refine s_aload_n dX7_isSo_88 rfl rfl ?_
              refine s_iload_n dX7_isSo_89 rfl rfl ?_
              refine s_bipush (v := 10) dX7_isSo_90 (by decide) ?_
              refine s_irem dX7_isSo_92 (by decide) ?_
              refine t_callV (M' := mX7_refusalOfMirror) (k := 1) (As := [.int (jr x1 10)]) (rest := []) dX7_isSo_93 ml_X7_242 miX7_refusalOfMirror msX7_refusalOfMirror rfl (by decide) rfl rfl (Nat.le_of_ble_eq_true rfl) (Nat.le_of_ble_eq_true rfl) rfl h (fun rv t13 q => ?_)
              obtain ⟨v14, rfl, h⟩ := q
              show Rt g (d + 1) mX7_isSo 96 [some (.ref 0), some (.int x1), some (.int x2), some (.int x3), some (.int s0), some (.int v12), none] [.int v14] t13 Q
              refine s_istore dX7_isSo_96 (by decide) rfl (L9 := [some (.ref 0), some (.int x1), some (.int x2), some (.int x3), some (.int s0), some (.int v12), some (.int v14)]) rfl ?_
              refine s_iload dX7_isSo_98 rfl ?_
              refine s_bipush (v := (-11)) dX7_isSo_100 (by decide) ?_
              refine s_icmp_eq (tgt := 112) dX7_isSo_102 (by decide) (fun c15 => ?_) (fun c15 => ?_)
              · replace h := h.1 c15
                refine s_bipush (v := (-11)) dX7_isSo_112 (by decide) ?_
                exact t_iret dX7_isSo_114 (NR_i rfl _) h
              · replace h := h.2 c15
                refine s_iload dX7_isSo_105 rfl ?_
                refine s_bipush (v := (-11)) dX7_isSo_107 (by decide) ?_
                refine s_icmp_ne (tgt := 115) dX7_isSo_109 (by decide) (fun c16 => ?_) (fun c16 => ?_)
                · replace h := h.1 c16
                  refine s_iload dX7_isSo_115 rfl ?_
                  refine s_if_ne (tgt := 125) dX7_isSo_117 (by decide) (fun c17 => ?_) (fun c17 => ?_)
                  · replace h := h.1 c17
                    exact Rt.lc h (lc_none (lc_none (lc_none (lc_none (lc_none (lc_some (lc_some lc_nil)))))))
                  · replace h := h.2 c17
                    refine s_iload dX7_isSo_120 rfl ?_
                    refine s_if_eq (tgt := 138) dX7_isSo_122 (by decide) (fun c18 => ?_) (fun c18 => ?_)
                    · replace h := h.1 c18
                      refine s_aload_n dX7_isSo_138 rfl rfl ?_
                      refine t_getR (o' := 13) dX7_isSo_139 fl_X7_25 rfl (by decide) rfl rfl ?_
                      refine s_aload_n dX7_isSo_142 rfl rfl ?_
                      refine t_getR (o' := 30) dX7_isSo_143 fl_X7_45 rfl (by decide) rfl rfl ?_
                      refine s_iload_n dX7_isSo_146 rfl rfl ?_
                      refine s_bipush (v := 10) dX7_isSo_147 (by decide) ?_
                      refine s_idiv dX7_isSo_149 (by decide) ?_
                      obtain ⟨g19, h⟩ := h
                      refine t_aald dX7_isSo_150 g19 rfl ?_
                      refine s_aload_n dX7_isSo_151 rfl rfl ?_
                      refine t_getR (o' := 1) dX7_isSo_152 fl_X7_10 rfl (by decide) rfl rfl ?_
                      refine t_getI dX7_isSo_155 fl_X7_75 rfl (by decide) rfl ?_
                      refine t_callV (M' := mX2_summon) (k := 11) (As := [.ref (45 + 2 * (x1 / 10).toNatClampNeg), .int (t13.1 1 0)]) (rest := []) dX7_isSo_158 ml_X7_232 miX2_summon msX2_summon rfl (by decide) rfl rfl (Nat.le_of_ble_eq_true rfl) (Nat.le_of_ble_eq_true rfl) rfl h (fun rv t20 q => ?_)
                      obtain ⟨rfl, h⟩ := q
                      show Rt g (d + 1) mX7_isSo 161 [some (.ref 0), some (.int x1), some (.int x2), some (.int x3), some (.int s0), some (.int v12), some (.int v14)] [] t20 Q
                      refine s_aload_n dX7_isSo_161 rfl rfl ?_
                      refine s_aload_n dX7_isSo_162 rfl rfl ?_
                      refine t_getR (o' := 30) dX7_isSo_163 fl_X7_45 rfl (by decide) rfl rfl ?_
                      refine s_iload_n dX7_isSo_166 rfl rfl ?_
                      refine s_bipush (v := 10) dX7_isSo_167 (by decide) ?_
                      refine s_irem dX7_isSo_169 (by decide) ?_
                      obtain ⟨g21, h⟩ := h
                      refine t_aald dX7_isSo_170 g21 rfl ?_
                      refine s_iload_n dX7_isSo_171 rfl rfl ?_
                      refine s_bipush (v := 10) dX7_isSo_172 (by decide) ?_
                      refine s_idiv dX7_isSo_174 (by decide) ?_
                      refine s_iload_n dX7_isSo_175 rfl rfl ?_
                      refine s_bipush (v := 10) dX7_isSo_176 (by decide) ?_
                      refine s_irem dX7_isSo_178 (by decide) ?_
                      refine s_iload_n dX7_isSo_179 rfl rfl ?_
                      refine t_callV (M' := mX7_waysOfSo) (k := 5) (As := [.ref (45 + 2 * (jr x1 10).toNatClampNeg), .int (x2 / 10), .int (jr x2 10), .int x3]) (rest := []) dX7_isSo_180 ml_X7_249 miX7_waysOfSo msX7_waysOfSo rfl (by decide) rfl rfl (Nat.le_of_ble_eq_true rfl) (Nat.le_of_ble_eq_true rfl) rfl h (fun rv t22 q => ?_)
                      obtain ⟨v23, rfl, h⟩ := q
                      show Rt g (d + 1) mX7_isSo 183 [some (.ref 0), some (.int x1), some (.int x2), some (.int x3), some (.int s0), some (.int v12), some (.int v14)] [.int v23] t22 Q
                      exact t_iret dX7_isSo_183 (NR_i rfl _) h
                    · replace h := h.2 c18
                      exact Rt.lc h (lc_none (lc_none (lc_none (lc_none (lc_none (lc_some (lc_some lc_nil)))))))
                · replace h := h.2 c16
                  refine s_bipush (v := (-11)) dX7_isSo_112 (by decide) ?_
                  exact t_iret dX7_isSo_114 (NR_i rfl _) h
            · replace h := h.2 c10
              refine s_iconst (v := (-1)) dX7_isSo_76 (by decide) ?_
              exact t_iret dX7_isSo_77 (NR_i rfl _) h
theorem bX7_isSo_125 {g : Gt} {d : Nat} {t : Tt} {Q : Option Value → Tt → Prop} {x5 : Int32} {x6 : Int32} (h : (x5 = 0 → Q (some (.int x6)) t) ∧ (¬ x5 = 0 → Q (some (.int x5)) t)) : Rt g (d + 1) mX7_isSo 125 [none, none, none, none, none, some (.int x5), some (.int x6)] [] t Q := by
  refine s_iload dX7_isSo_125 rfl ?_
  refine s_if_eq (tgt := 135) dX7_isSo_127 (by decide) (fun c1 => ?_) (fun c1 => ?_)
  · replace h := h.1 c1
    refine s_iload dX7_isSo_135 rfl ?_
    exact t_iret dX7_isSo_137 (NR_i rfl _) h
  · replace h := h.2 c1
    refine s_iload dX7_isSo_130 rfl ?_
    refine s_goto (tgt := 137) dX7_isSo_132 (by decide) ?_
    exact t_iret dX7_isSo_137 (NR_i rfl _) h
theorem bX7_waysOfSo_0 {g : Gt} {d : Nat} {t : Tt} {Q : Option Value → Tt → Prop} {o0 : Nat} (ho0 : isSh o0) {p1 : Int32} {p2 : Int32} {p3 : Int32} (h : ∀ z1 : Int32, z1 = ((jsl 1 p2) - 1) → Rt g (d + 1) mX7_waysOfSo 21 [some (.ref 0), some (.ref o0), some (.int p1), none, some (.int p3), some (.int z1), some (.int 0), some (.int (-2)), some (.int z1), some (.int 0)] [] t Q) : Rt g (d + 1) mX7_waysOfSo 0 [some (.ref 0), some (.ref o0), some (.int p1), some (.int p2), some (.int p3), none, none, none, none, none] [] t Q := by
  refine s_iconst (v := 1) dX7_waysOfSo_0 (by decide) ?_
  refine s_iload_n dX7_waysOfSo_1 rfl rfl ?_
  refine s_ishl dX7_waysOfSo_2 ?_
  refine s_iconst (v := 1) dX7_waysOfSo_3 (by decide) ?_
  refine s_isub dX7_waysOfSo_4 ?_
  refine t_nmI (fun z1 ez1 => ?_)
  replace h := h z1 ez1
  refine s_istore dX7_waysOfSo_5 (by decide) rfl (L9 := [some (.ref 0), some (.ref o0), some (.int p1), some (.int p2), some (.int p3), some (.int z1), none, none, none, none]) rfl ?_
  refine s_iconst (v := 0) dX7_waysOfSo_7 (by decide) ?_
  refine s_istore dX7_waysOfSo_8 (by decide) rfl (L9 := [some (.ref 0), some (.ref o0), some (.int p1), some (.int p2), some (.int p3), some (.int z1), some (.int 0), none, none, none]) rfl ?_
  refine s_bipush (v := (-2)) dX7_waysOfSo_10 (by decide) ?_
  refine s_istore dX7_waysOfSo_12 (by decide) rfl (L9 := [some (.ref 0), some (.ref o0), some (.int p1), some (.int p2), some (.int p3), some (.int z1), some (.int 0), some (.int (-2)), none, none]) rfl ?_
  refine s_iload dX7_waysOfSo_14 rfl ?_
  refine s_istore dX7_waysOfSo_16 (by decide) rfl (L9 := [some (.ref 0), some (.ref o0), some (.int p1), some (.int p2), some (.int p3), some (.int z1), some (.int 0), some (.int (-2)), some (.int z1), none]) rfl ?_
  refine s_iconst (v := 0) dX7_waysOfSo_18 (by decide) ?_
  refine s_istore dX7_waysOfSo_19 (by decide) rfl (L9 := [some (.ref 0), some (.ref o0), some (.int p1), some (.int p2), some (.int p3), some (.int z1), some (.int 0), some (.int (-2)), some (.int z1), some (.int 0)]) rfl ?_
  exact Rt.lc h (lc_some (lc_some (lc_some (lc_none (lc_some (lc_some (lc_some (lc_some (lc_some (lc_some lc_nil))))))))))
theorem bX7_waysOfSo_21 {g : Gt} {d : Nat} {t : Tt} {Q : Option Value → Tt → Prop} {o0 : Nat} (ho0 : isSh o0) {x2 : Int32} {x4 : Int32} {x5 : Int32} {x6 : Int32} {x7 : Int32} {x8 : Int32} {x9 : Int32} (h : (x5 < x9 → (¬ x4 = 0 → (x4 = 1 → Rt g (d + 1) mX7_waysOfSo 122 [none, none, none, none, none, none, none, some (.int x7), none, none] [] t Q) ∧ (¬ x4 = 1 → (¬ x6 = 0 → Q (some (.int x8)) t) ∧ (x6 = 0 → Rt g (d + 1) mX7_waysOfSo 122 [none, none, none, none, none, none, none, some (.int x7), none, none] [] t Q))) ∧ (x4 = 0 → Q (some (.int x6)) t)) ∧ (¬ x5 < x9 → isLw t.2.2.1 ∧ (Rt g d mX2_hold 0 [some (.ref 13), some (.ref 1), some (.ref t.2.2.1), some (.int (((t.1 0 11) &&& (x5 ^^^ (-1))) ||| x9)), some (.int 0), none] [] t (QV (fun t6 => Rt g d mX5_looksLike 0 [some (.ref 17), some (.int x2), some (.ref o0), none] [] t6 (QI (fun v8 t7 => (v8 = 0 → Rt g (d + 1) mX7_waysOfSo 97 [some (.ref 0), some (.ref o0), some (.int x2), none, some (.int x4), some (.int x5), some (.int x6), some (.int x7), some (.int x8), some (.int x9)] [] t7 Q) ∧ (¬ v8 = 0 → (¬ x7 = (-2) → Rt g (d + 1) mX7_waysOfSo 88 [some (.ref 0), some (.ref o0), some (.int x2), none, some (.int x4), some (.int x5), some (.int (x6 + 1)), none, some (.int x8), some (.int x9)] [.int x7] t7 Q) ∧ (x7 = (-2) → Rt g (d + 1) mX7_waysOfSo 88 [some (.ref 0), some (.ref o0), some (.int x2), none, some (.int x4), some (.int x5), some (.int (x6 + 1)), none, some (.int x8), some (.int x9)] [.int x9] t7 Q))))))))) : Rt g (d + 1) mX7_waysOfSo 21 [some (.ref 0), some (.ref o0), some (.int x2), none, some (.int x4), some (.int x5), some (.int x6), some (.int x7), some (.int x8), some (.int x9)] [] t Q := by
  refine s_iload dX7_waysOfSo_21 rfl ?_
  refine s_iload dX7_waysOfSo_23 rfl ?_
  refine s_icmp_gt (tgt := 103) dX7_waysOfSo_25 (by decide) (fun c1 => ?_) (fun c1 => ?_)
  · replace h := h.1 c1
    refine s_iload dX7_waysOfSo_103 rfl ?_
    refine s_if_ne (tgt := 111) dX7_waysOfSo_105 (by decide) (fun c2 => ?_) (fun c2 => ?_)
    · replace h := h.1 c2
      refine s_iload dX7_waysOfSo_111 rfl ?_
      refine s_iconst (v := 1) dX7_waysOfSo_113 (by decide) ?_
      refine s_icmp_eq (tgt := 122) dX7_waysOfSo_114 (by decide) (fun c3 => ?_) (fun c3 => ?_)
      · replace h := h.1 c3
        exact Rt.lc h (lc_none (lc_none (lc_none (lc_none (lc_none (lc_none (lc_none (lc_some (lc_none (lc_none lc_nil))))))))))
      · replace h := h.2 c3
        refine s_iload dX7_waysOfSo_117 rfl ?_
        refine s_if_ne (tgt := 127) dX7_waysOfSo_119 (by decide) (fun c4 => ?_) (fun c4 => ?_)
        · replace h := h.1 c4
          refine s_iload dX7_waysOfSo_127 rfl ?_
          exact t_iret dX7_waysOfSo_129 (NR_i rfl _) h
        · replace h := h.2 c4
          exact Rt.lc h (lc_none (lc_none (lc_none (lc_none (lc_none (lc_none (lc_none (lc_some (lc_none (lc_none lc_nil))))))))))
    · replace h := h.2 c2
      refine s_iload dX7_waysOfSo_108 rfl ?_
      exact t_iret dX7_waysOfSo_110 (NR_i rfl _) h
  · replace h := h.2 c1
    refine s_aload_n dX7_waysOfSo_28 rfl rfl ?_
    refine t_getR (o' := 13) dX7_waysOfSo_29 fl_X7_25 rfl (by decide) rfl rfl ?_
    refine s_aload_n dX7_waysOfSo_32 rfl rfl ?_
    refine t_getR (o' := 1) dX7_waysOfSo_33 fl_X7_10 rfl (by decide) rfl rfl ?_
    refine s_aload_n dX7_waysOfSo_36 rfl rfl ?_
    obtain ⟨g5, h⟩ := h
    refine t_getR dX7_waysOfSo_37 fl_X7_66 rfl (by decide) rfl rfl ?_
    refine s_aload_n dX7_waysOfSo_40 rfl rfl ?_
    refine t_getI dX7_waysOfSo_41 fl_X7_132 rfl (by decide) rfl ?_
    refine s_iload dX7_waysOfSo_44 rfl ?_
    refine s_iconst (v := (-1)) dX7_waysOfSo_46 (by decide) ?_
    refine s_ixor dX7_waysOfSo_47 ?_
    refine s_iand dX7_waysOfSo_48 ?_
    refine s_iload dX7_waysOfSo_49 rfl ?_
    refine s_ior dX7_waysOfSo_51 ?_
    refine s_iconst (v := 0) dX7_waysOfSo_52 (by decide) ?_
    refine t_callV (M' := mX2_hold) (k := 1) (As := [.ref 1, .ref t.2.2.1, .int (((t.1 0 11) &&& (x5 ^^^ (-1))) ||| x9), .int 0]) (rest := []) dX7_waysOfSo_53 ml_X7_238 miX2_hold msX2_hold rfl (by decide) rfl rfl (Nat.le_of_ble_eq_true rfl) (Nat.le_of_ble_eq_true rfl) rfl h (fun rv t6 q => ?_)
    obtain ⟨rfl, h⟩ := q
    show Rt g (d + 1) mX7_waysOfSo 56 [some (.ref 0), some (.ref o0), some (.int x2), none, some (.int x4), some (.int x5), some (.int x6), some (.int x7), some (.int x8), some (.int x9)] [] t6 Q
    refine s_aload_n dX7_waysOfSo_56 rfl rfl ?_
    refine t_getR (o' := 13) dX7_waysOfSo_57 fl_X7_25 rfl (by decide) rfl rfl ?_
    refine t_getR (o' := 17) dX7_waysOfSo_60 fl_X7_172 rfl (by decide) rfl rfl ?_
    refine s_iload_n dX7_waysOfSo_63 rfl rfl ?_
    refine s_aload_n dX7_waysOfSo_64 rfl rfl ?_
    refine t_callV (M' := mX5_looksLike) (k := 1) (As := [.int x2, .ref o0]) (rest := []) dX7_waysOfSo_65 ml_X7_245 miX5_looksLike msX5_looksLike rfl (by decide) rfl rfl (Nat.le_of_ble_eq_true rfl) (Nat.le_of_ble_eq_true rfl) rfl h (fun rv t7 q => ?_)
    obtain ⟨v8, rfl, h⟩ := q
    show Rt g (d + 1) mX7_waysOfSo 68 [some (.ref 0), some (.ref o0), some (.int x2), none, some (.int x4), some (.int x5), some (.int x6), some (.int x7), some (.int x8), some (.int x9)] [.int v8] t7 Q
    refine s_if_eq (tgt := 97) dX7_waysOfSo_68 (by decide) (fun c9 => ?_) (fun c9 => ?_)
    · replace h := h.1 c9
      exact h
    · replace h := h.2 c9
      refine s_iinc (w := x6 + 1) dX7_waysOfSo_71 rfl (by rfl) (by decide) rfl (L9 := [some (.ref 0), some (.ref o0), some (.int x2), none, some (.int x4), some (.int x5), some (.int (x6 + 1)), some (.int x7), some (.int x8), some (.int x9)]) rfl ?_
      refine s_iload dX7_waysOfSo_74 rfl ?_
      refine s_bipush (v := (-2)) dX7_waysOfSo_76 (by decide) ?_
      refine s_icmp_ne (tgt := 86) dX7_waysOfSo_78 (by decide) (fun c10 => ?_) (fun c10 => ?_)
      · replace h := h.1 c10
        refine s_iload dX7_waysOfSo_86 rfl ?_
        exact Rt.lc h (lc_some (lc_some (lc_some (lc_none (lc_some (lc_some (lc_some (lc_none (lc_some (lc_some lc_nil))))))))))
      · replace h := h.2 c10
        refine s_iload dX7_waysOfSo_81 rfl ?_
        refine s_goto (tgt := 88) dX7_waysOfSo_83 (by decide) ?_
        exact Rt.lc h (lc_some (lc_some (lc_some (lc_none (lc_some (lc_some (lc_some (lc_none (lc_some (lc_some lc_nil))))))))))
theorem bX7_waysOfSo_122 {g : Gt} {d : Nat} {t : Tt} {Q : Option Value → Tt → Prop} {x7 : Int32} (h : Q (some (.int x7)) t) : Rt g (d + 1) mX7_waysOfSo 122 [none, none, none, none, none, none, none, some (.int x7), none, none] [] t Q := by
  refine s_iload dX7_waysOfSo_122 rfl ?_
  refine s_goto (tgt := 129) dX7_waysOfSo_124 (by decide) ?_
  exact t_iret dX7_waysOfSo_129 (NR_i rfl _) h
theorem bX7_waysOfSo_97 {g : Gt} {d : Nat} {t : Tt} {Q : Option Value → Tt → Prop} {o0 : Nat} (ho0 : isSh o0) {x2 : Int32} {x4 : Int32} {x5 : Int32} {x6 : Int32} {x7 : Int32} {x8 : Int32} {x9 : Int32} (h : Rt g (d + 1) mX7_waysOfSo 21 [some (.ref 0), some (.ref o0), some (.int x2), none, some (.int x4), some (.int x5), some (.int x6), some (.int x7), some (.int x8), some (.int (x9 + 1))] [] t Q) : Rt g (d + 1) mX7_waysOfSo 97 [some (.ref 0), some (.ref o0), some (.int x2), none, some (.int x4), some (.int x5), some (.int x6), some (.int x7), some (.int x8), some (.int x9)] [] t Q := by
  refine s_iinc (w := x9 + 1) dX7_waysOfSo_97 rfl (by rfl) (by decide) rfl (L9 := [some (.ref 0), some (.ref o0), some (.int x2), none, some (.int x4), some (.int x5), some (.int x6), some (.int x7), some (.int x8), some (.int (x9 + 1))]) rfl ?_
  refine s_goto (tgt := 21) dX7_waysOfSo_100 (by decide) ?_
  exact h
theorem bX7_waysOfSo_88 {g : Gt} {d : Nat} {t : Tt} {Q : Option Value → Tt → Prop} {o0 : Nat} (ho0 : isSh o0) {x2 : Int32} {x4 : Int32} {x5 : Int32} {x6 : Int32} {x8 : Int32} {x9 : Int32} {s0 : Int32} (h : ∀ z1 : Int32, z1 = (x8 &&& x9) → Rt g (d + 1) mX7_waysOfSo 97 [some (.ref 0), some (.ref o0), some (.int x2), none, some (.int x4), some (.int x5), some (.int x6), some (.int s0), some (.int z1), some (.int x9)] [] t Q) : Rt g (d + 1) mX7_waysOfSo 88 [some (.ref 0), some (.ref o0), some (.int x2), none, some (.int x4), some (.int x5), some (.int x6), none, some (.int x8), some (.int x9)] [.int s0] t Q := by
  refine s_istore dX7_waysOfSo_88 (by decide) rfl (L9 := [some (.ref 0), some (.ref o0), some (.int x2), none, some (.int x4), some (.int x5), some (.int x6), some (.int s0), some (.int x8), some (.int x9)]) rfl ?_
  refine s_iload dX7_waysOfSo_90 rfl ?_
  refine s_iload dX7_waysOfSo_92 rfl ?_
  refine s_iand dX7_waysOfSo_94 ?_
  refine t_nmI (fun z1 ez1 => ?_)
  replace h := h z1 ez1
  refine s_istore dX7_waysOfSo_95 (by decide) rfl (L9 := [some (.ref 0), some (.ref o0), some (.int x2), none, some (.int x4), some (.int x5), some (.int x6), some (.int s0), some (.int z1), some (.int x9)]) rfl ?_
  exact h
theorem bX7_drawn_0 {g : Gt} {d : Nat} {t : Tt} {Q : Option Value → Tt → Prop} {p0 : Int32} {p1 : Int32} {p2 : Int32} (h : ∀ z1 : Int32, z1 = (p1 / 100) → ∀ z2 : Int32, z2 = (jr p1 100) → (z1 < 1 → Q (some (.int (-1))) t) ∧ (¬ z1 < 1 → (30 < z1 → Q (some (.int (-1))) t) ∧ (¬ 30 < z1 → (z2 < 1 → Q (some (.int (-1))) t) ∧ (¬ z2 < 1 → (60 < z2 → Q (some (.int (-1))) t) ∧ (¬ 60 < z2 → Rt g d mX7_outside 0 [some (.int p2), some (.int 1)] [] t (QI (fun v8 t7 => (v8 = 0 → (1 ≤ (t7.1 1 0) → Rt g (d + 1) mX7_drawn 73 [some (.ref 0), none, none, some (.int p2), some (.int z1), some (.int z2), some (.int p0), some (.int 0), some (.int 0), some (.int 0), none, none] [] t7 Q) ∧ (¬ 1 ≤ (t7.1 1 0) → Q (some (.int 0)) t7)) ∧ (¬ v8 = 0 → Q (some (.int (-1))) t7)))))))) : Rt g (d + 1) mX7_drawn 0 [some (.ref 0), some (.int p0), some (.int p1), some (.int p2), none, none, none, none, none, none, none, none] [] t Q := by
  refine s_iload_n dX7_drawn_0 rfl rfl ?_
  refine s_bipush (v := 100) dX7_drawn_1 (by decide) ?_
  refine s_idiv dX7_drawn_3 (by decide) ?_
  refine t_nmI (fun z1 ez1 => ?_)
  replace h := h z1 ez1
  refine s_istore dX7_drawn_4 (by decide) rfl (L9 := [some (.ref 0), some (.int p0), some (.int p1), some (.int p2), some (.int z1), none, none, none, none, none, none, none]) rfl ?_
  refine s_iload_n dX7_drawn_6 rfl rfl ?_
  refine s_bipush (v := 100) dX7_drawn_7 (by decide) ?_
  refine s_irem dX7_drawn_9 (by decide) ?_
  refine t_nmI (fun z2 ez2 => ?_)
  replace h := h z2 ez2
  refine s_istore dX7_drawn_10 (by decide) rfl (L9 := [some (.ref 0), some (.int p0), some (.int p1), some (.int p2), some (.int z1), some (.int z2), none, none, none, none, none, none]) rfl ?_
  refine s_iload dX7_drawn_12 rfl ?_
  refine s_iconst (v := 1) dX7_drawn_14 (by decide) ?_
  refine s_icmp_lt (tgt := 46) dX7_drawn_15 (by decide) (fun c3 => ?_) (fun c3 => ?_)
  · replace h := h.1 c3
    refine s_iconst (v := (-1)) dX7_drawn_46 (by decide) ?_
    exact t_iret dX7_drawn_47 (NR_i rfl _) h
  · replace h := h.2 c3
    refine s_iload dX7_drawn_18 rfl ?_
    refine s_bipush (v := 30) dX7_drawn_20 (by decide) ?_
    refine s_icmp_gt (tgt := 46) dX7_drawn_22 (by decide) (fun c4 => ?_) (fun c4 => ?_)
    · replace h := h.1 c4
      refine s_iconst (v := (-1)) dX7_drawn_46 (by decide) ?_
      exact t_iret dX7_drawn_47 (NR_i rfl _) h
    · replace h := h.2 c4
      refine s_iload dX7_drawn_25 rfl ?_
      refine s_iconst (v := 1) dX7_drawn_27 (by decide) ?_
      refine s_icmp_lt (tgt := 46) dX7_drawn_28 (by decide) (fun c5 => ?_) (fun c5 => ?_)
      · replace h := h.1 c5
        refine s_iconst (v := (-1)) dX7_drawn_46 (by decide) ?_
        exact t_iret dX7_drawn_47 (NR_i rfl _) h
      · replace h := h.2 c5
        refine s_iload dX7_drawn_31 rfl ?_
        refine s_bipush (v := 60) dX7_drawn_33 (by decide) ?_
        refine s_icmp_gt (tgt := 46) dX7_drawn_35 (by decide) (fun c6 => ?_) (fun c6 => ?_)
        · replace h := h.1 c6
          refine s_iconst (v := (-1)) dX7_drawn_46 (by decide) ?_
          exact t_iret dX7_drawn_47 (NR_i rfl _) h
        · replace h := h.2 c6
          refine s_iload_n dX7_drawn_38 rfl rfl ?_
          refine s_iconst (v := 1) dX7_drawn_39 (by decide) ?_
          refine t_callS (M' := mX7_outside) (k := 0) (As := [.int p2, .int 1]) (rest := []) dX7_drawn_40 ml_X7_71 mstX7_outside rfl (Nat.le_of_ble_eq_true rfl) (Nat.le_of_ble_eq_true rfl) rfl h (fun rv t7 q => ?_)
          obtain ⟨v8, rfl, h⟩ := q
          show Rt g (d + 1) mX7_drawn 43 [some (.ref 0), some (.int p0), some (.int p1), some (.int p2), some (.int z1), some (.int z2), none, none, none, none, none, none] [.int v8] t7 Q
          refine s_if_eq (tgt := 48) dX7_drawn_43 (by decide) (fun c9 => ?_) (fun c9 => ?_)
          · replace h := h.1 c9
            refine s_aload_n dX7_drawn_48 rfl rfl ?_
            refine t_getR (o' := 1) dX7_drawn_49 fl_X7_10 rfl (by decide) rfl rfl ?_
            refine t_getI dX7_drawn_52 fl_X7_75 rfl (by decide) rfl ?_
            refine s_iconst (v := 1) dX7_drawn_55 (by decide) ?_
            refine s_icmp_ge (tgt := 61) dX7_drawn_56 (by decide) (fun c10 => ?_) (fun c10 => ?_)
            · replace h := h.1 c10
              refine s_iload_n dX7_drawn_61 rfl rfl ?_
              refine s_istore dX7_drawn_62 (by decide) rfl (L9 := [some (.ref 0), some (.int p0), some (.int p1), some (.int p2), some (.int z1), some (.int z2), some (.int p0), none, none, none, none, none]) rfl ?_
              refine s_iconst (v := 0) dX7_drawn_64 (by decide) ?_
              refine s_istore dX7_drawn_65 (by decide) rfl (L9 := [some (.ref 0), some (.int p0), some (.int p1), some (.int p2), some (.int z1), some (.int z2), some (.int p0), some (.int 0), none, none, none, none]) rfl ?_
              refine s_iconst (v := 0) dX7_drawn_67 (by decide) ?_
              refine s_istore dX7_drawn_68 (by decide) rfl (L9 := [some (.ref 0), some (.int p0), some (.int p1), some (.int p2), some (.int z1), some (.int z2), some (.int p0), some (.int 0), some (.int 0), none, none, none]) rfl ?_
              refine s_iconst (v := 0) dX7_drawn_70 (by decide) ?_
              refine s_istore dX7_drawn_71 (by decide) rfl (L9 := [some (.ref 0), some (.int p0), some (.int p1), some (.int p2), some (.int z1), some (.int z2), some (.int p0), some (.int 0), some (.int 0), some (.int 0), none, none]) rfl ?_
              exact Rt.lc h (lc_some (lc_none (lc_none (lc_some (lc_some (lc_some (lc_some (lc_some (lc_some (lc_some (lc_none (lc_none lc_nil))))))))))))
            · replace h := h.2 c10
              refine s_iconst (v := 0) dX7_drawn_59 (by decide) ?_
              exact t_iret dX7_drawn_60 (NR_i rfl _) h
          · replace h := h.2 c9
            refine s_iconst (v := (-1)) dX7_drawn_46 (by decide) ?_
            exact t_iret dX7_drawn_47 (NR_i rfl _) h
theorem bX7_drawn_73 {g : Gt} {d : Nat} {t : Tt} {Q : Option Value → Tt → Prop} {x3 : Int32} {x4 : Int32} {x5 : Int32} {x6 : Int32} {x7 : Int32} {x8 : Int32} {x9 : Int32} (h : (x4 ≤ x9 → (¬ x3 = 0 → Q (some (.int x8)) t) ∧ (x3 = 0 → Q (some (.int x7)) t)) ∧ (¬ x4 ≤ x9 → Rt g d mX5_copyFrom 0 [some (.ref 5), some (.ref 1)] [] t (QV (fun t3 => Rt g (d + 1) mX7_drawn 94 [some (.ref 0), none, none, some (.int x3), some (.int x4), some (.int x5), some (.int x6), some (.int x7), some (.int x8), some (.int x9), some (.int 0), none] [] t3 Q)))) : Rt g (d + 1) mX7_drawn 73 [some (.ref 0), none, none, some (.int x3), some (.int x4), some (.int x5), some (.int x6), some (.int x7), some (.int x8), some (.int x9), none, none] [] t Q := by
  refine s_iload dX7_drawn_73 rfl ?_
  refine s_iload dX7_drawn_75 rfl ?_
  refine s_icmp_ge (tgt := 202) dX7_drawn_77 (by decide) (fun c1 => ?_) (fun c1 => ?_)
  · replace h := h.1 c1
    refine s_iload_n dX7_drawn_202 rfl rfl ?_
    refine s_if_ne (tgt := 211) dX7_drawn_203 (by decide) (fun c2 => ?_) (fun c2 => ?_)
    · replace h := h.1 c2
      refine s_iload dX7_drawn_211 rfl ?_
      exact t_iret dX7_drawn_213 (NR_i rfl _) h
    · replace h := h.2 c2
      refine s_iload dX7_drawn_206 rfl ?_
      refine s_goto (tgt := 213) dX7_drawn_208 (by decide) ?_
      exact t_iret dX7_drawn_213 (NR_i rfl _) h
  · replace h := h.2 c1
    refine s_aload_n dX7_drawn_80 rfl rfl ?_
    refine t_getR (o' := 5) dX7_drawn_81 fl_X7_16 rfl (by decide) rfl rfl ?_
    refine s_aload_n dX7_drawn_84 rfl rfl ?_
    refine t_getR (o' := 1) dX7_drawn_85 fl_X7_10 rfl (by decide) rfl rfl ?_
    refine t_callV (M' := mX5_copyFrom) (k := 0) (As := [.ref 1]) (rest := []) dX7_drawn_88 ml_X7_203 miX5_copyFrom msX5_copyFrom rfl (by decide) rfl rfl (Nat.le_of_ble_eq_true rfl) (Nat.le_of_ble_eq_true rfl) rfl h (fun rv t3 q => ?_)
    obtain ⟨rfl, h⟩ := q
    show Rt g (d + 1) mX7_drawn 91 [some (.ref 0), none, none, some (.int x3), some (.int x4), some (.int x5), some (.int x6), some (.int x7), some (.int x8), some (.int x9), none, none] [] t3 Q
    refine s_iconst (v := 0) dX7_drawn_91 (by decide) ?_
    refine s_istore dX7_drawn_92 (by decide) rfl (L9 := [some (.ref 0), none, none, some (.int x3), some (.int x4), some (.int x5), some (.int x6), some (.int x7), some (.int x8), some (.int x9), some (.int 0), none]) rfl ?_
    exact h
theorem bX7_drawn_94 {g : Gt} {d : Nat} {t : Tt} {Q : Option Value → Tt → Prop} {x3 : Int32} {x4 : Int32} {x5 : Int32} {x6 : Int32} {x7 : Int32} {x8 : Int32} {x9 : Int32} {x10 : Int32} (h : (x5 ≤ x10 → Rt g d mX5_flakesOfAll 0 [some (.ref 5), none, none] [] t (QI (fun v3 t2 => ∀ z4 : Int32, z4 = (x8 + v3) → Rt g (d + 1) mX7_drawn 73 [some (.ref 0), none, none, some (.int x3), some (.int x4), some (.int x5), some (.int x6), some (.int x7), some (.int z4), some (.int (x9 + 1)), none, none] [] t2 Q))) ∧ (¬ x5 ≤ x10 → ∀ z5 : Int32, z5 = ((x6 * 1103515245) + 12345) → ∀ z6 : Int32, z6 = (jr (jus z5 12) 10) → Rt g d mX7_isLie 0 [some (.int (t.1 0 11)), some (.int z6), some (.int (jr (jus z5 18) 2))] [] t (QI (fun v8 t7 => (v8 = 0 → Rt g (d + 1) mX7_drawn 178 [some (.ref 0), none, none, some (.int x3), some (.int x4), some (.int x5), some (.int z5), some (.int x7), some (.int x8), some (.int x9), some (.int x10), none] [] t7 Q) ∧ (¬ v8 = 0 → isLw t7.2.2.1 ∧ (¬ (t7.1 1 0) = 0 ∧ Rt g d mX5_lie 0 [some (.ref 5), some (.ref t7.2.2.1), some (.int (jr (jus z5 4) (t7.1 1 0))), some (.int z6), some (.int (jr (jus z5 22) 10)), none, none, none, none, none, none] [] t7 (QI (fun v13 t12 => Rt g (d + 1) mX7_drawn 178 [some (.ref 0), none, none, some (.int x3), some (.int x4), some (.int x5), some (.int z5), some (.int (x7 + 1)), some (.int x8), some (.int x9), some (.int x10), none] [] t12 Q)))))))) : Rt g (d + 1) mX7_drawn 94 [some (.ref 0), none, none, some (.int x3), some (.int x4), some (.int x5), some (.int x6), some (.int x7), some (.int x8), some (.int x9), some (.int x10), none] [] t Q := by
  refine s_iload dX7_drawn_94 rfl ?_
  refine s_iload dX7_drawn_96 rfl ?_
  refine s_icmp_ge (tgt := 184) dX7_drawn_98 (by decide) (fun c1 => ?_) (fun c1 => ?_)
  · replace h := h.1 c1
    refine s_iload dX7_drawn_184 rfl ?_
    refine s_aload_n dX7_drawn_186 rfl rfl ?_
    refine t_getR (o' := 5) dX7_drawn_187 fl_X7_16 rfl (by decide) rfl rfl ?_
    refine t_callV (M' := mX5_flakesOfAll) (k := 2) (As := []) (rest := [.int x8]) dX7_drawn_190 ml_X7_258 miX5_flakesOfAll msX5_flakesOfAll rfl (by decide) rfl rfl (Nat.le_of_ble_eq_true rfl) (Nat.le_of_ble_eq_true rfl) rfl h (fun rv t2 q => ?_)
    obtain ⟨v3, rfl, h⟩ := q
    show Rt g (d + 1) mX7_drawn 193 [some (.ref 0), none, none, some (.int x3), some (.int x4), some (.int x5), some (.int x6), some (.int x7), some (.int x8), some (.int x9), some (.int x10), none] [.int v3, .int x8] t2 Q
    refine s_iadd dX7_drawn_193 ?_
    refine t_nmI (fun z4 ez4 => ?_)
    replace h := h z4 ez4
    refine s_istore dX7_drawn_194 (by decide) rfl (L9 := [some (.ref 0), none, none, some (.int x3), some (.int x4), some (.int x5), some (.int x6), some (.int x7), some (.int z4), some (.int x9), some (.int x10), none]) rfl ?_
    refine s_iinc (w := x9 + 1) dX7_drawn_196 rfl (by rfl) (by decide) rfl (L9 := [some (.ref 0), none, none, some (.int x3), some (.int x4), some (.int x5), some (.int x6), some (.int x7), some (.int z4), some (.int (x9 + 1)), some (.int x10), none]) rfl ?_
    refine s_goto (tgt := 73) dX7_drawn_199 (by decide) ?_
    exact Rt.lc h (lc_some (lc_none (lc_none (lc_some (lc_some (lc_some (lc_some (lc_some (lc_some (lc_some (lc_none (lc_none lc_nil))))))))))))
  · replace h := h.2 c1
    refine s_iload dX7_drawn_101 rfl ?_
    refine s_ldc (v := 1103515245) dX7_drawn_103 ct_X7_253 ?_
    refine s_imul dX7_drawn_105 ?_
    refine s_sipush (v := 12345) dX7_drawn_106 (by decide) ?_
    refine s_iadd dX7_drawn_109 ?_
    refine t_nmI (fun z5 ez5 => ?_)
    replace h := h z5 ez5
    refine s_istore dX7_drawn_110 (by decide) rfl (L9 := [some (.ref 0), none, none, some (.int x3), some (.int x4), some (.int x5), some (.int z5), some (.int x7), some (.int x8), some (.int x9), some (.int x10), none]) rfl ?_
    refine s_iload dX7_drawn_112 rfl ?_
    refine s_bipush (v := 12) dX7_drawn_114 (by decide) ?_
    refine s_iushr dX7_drawn_116 ?_
    refine s_bipush (v := 10) dX7_drawn_117 (by decide) ?_
    refine s_irem dX7_drawn_119 (by decide) ?_
    refine t_nmI (fun z6 ez6 => ?_)
    replace h := h z6 ez6
    refine s_istore dX7_drawn_120 (by decide) rfl (L9 := [some (.ref 0), none, none, some (.int x3), some (.int x4), some (.int x5), some (.int z5), some (.int x7), some (.int x8), some (.int x9), some (.int x10), some (.int z6)]) rfl ?_
    refine s_aload_n dX7_drawn_122 rfl rfl ?_
    refine t_getI dX7_drawn_123 fl_X7_132 rfl (by decide) rfl ?_
    refine s_iload dX7_drawn_126 rfl ?_
    refine s_iload dX7_drawn_128 rfl ?_
    refine s_bipush (v := 18) dX7_drawn_130 (by decide) ?_
    refine s_iushr dX7_drawn_132 ?_
    refine s_iconst (v := 2) dX7_drawn_133 (by decide) ?_
    refine s_irem dX7_drawn_134 (by decide) ?_
    refine t_callS (M' := mX7_isLie) (k := 0) (As := [.int (t.1 0 11), .int z6, .int (jr (jus z5 18) 2)]) (rest := []) dX7_drawn_135 ml_X7_254 mstX7_isLie rfl (Nat.le_of_ble_eq_true rfl) (Nat.le_of_ble_eq_true rfl) rfl h (fun rv t7 q => ?_)
    obtain ⟨v8, rfl, h⟩ := q
    show Rt g (d + 1) mX7_drawn 138 [some (.ref 0), none, none, some (.int x3), some (.int x4), some (.int x5), some (.int z5), some (.int x7), some (.int x8), some (.int x9), some (.int x10), some (.int z6)] [.int v8] t7 Q
    refine s_if_eq (tgt := 178) dX7_drawn_138 (by decide) (fun c9 => ?_) (fun c9 => ?_)
    · replace h := h.1 c9
      exact Rt.lc h (lc_some (lc_none (lc_none (lc_some (lc_some (lc_some (lc_some (lc_some (lc_some (lc_some (lc_some (lc_none lc_nil))))))))))))
    · replace h := h.2 c9
      refine s_aload_n dX7_drawn_141 rfl rfl ?_
      refine t_getR (o' := 5) dX7_drawn_142 fl_X7_16 rfl (by decide) rfl rfl ?_
      refine s_aload_n dX7_drawn_145 rfl rfl ?_
      obtain ⟨g10, h⟩ := h
      refine t_getR dX7_drawn_146 fl_X7_66 rfl (by decide) rfl rfl ?_
      refine s_iload dX7_drawn_149 rfl ?_
      refine s_iconst (v := 4) dX7_drawn_151 (by decide) ?_
      refine s_iushr dX7_drawn_152 ?_
      refine s_aload_n dX7_drawn_153 rfl rfl ?_
      refine t_getR (o' := 1) dX7_drawn_154 fl_X7_10 rfl (by decide) rfl rfl ?_
      refine t_getI dX7_drawn_157 fl_X7_75 rfl (by decide) rfl ?_
      obtain ⟨g11, h⟩ := h
      refine s_irem dX7_drawn_160 g11 ?_
      refine s_iload dX7_drawn_161 rfl ?_
      refine s_iload dX7_drawn_163 rfl ?_
      refine s_bipush (v := 22) dX7_drawn_165 (by decide) ?_
      refine s_iushr dX7_drawn_167 ?_
      refine s_bipush (v := 10) dX7_drawn_168 (by decide) ?_
      refine s_irem dX7_drawn_170 (by decide) ?_
      refine t_callV (M' := mX5_lie) (k := 6) (As := [.ref t7.2.2.1, .int (jr (jus z5 4) (t7.1 1 0)), .int z6, .int (jr (jus z5 22) 10)]) (rest := []) dX7_drawn_171 ml_X7_217 miX5_lie msX5_lie rfl (by decide) rfl rfl (Nat.le_of_ble_eq_true rfl) (Nat.le_of_ble_eq_true rfl) rfl h (fun rv t12 q => ?_)
      obtain ⟨v13, rfl, h⟩ := q
      show Rt g (d + 1) mX7_drawn 174 [some (.ref 0), none, none, some (.int x3), some (.int x4), some (.int x5), some (.int z5), some (.int x7), some (.int x8), some (.int x9), some (.int x10), some (.int z6)] [.int v13] t12 Q
      refine s_pop dX7_drawn_174 rfl ?_
      refine s_iinc (w := x7 + 1) dX7_drawn_175 rfl (by rfl) (by decide) rfl (L9 := [some (.ref 0), none, none, some (.int x3), some (.int x4), some (.int x5), some (.int z5), some (.int (x7 + 1)), some (.int x8), some (.int x9), some (.int x10), some (.int z6)]) rfl ?_
      exact Rt.lc h (lc_some (lc_none (lc_none (lc_some (lc_some (lc_some (lc_some (lc_some (lc_some (lc_some (lc_some (lc_none lc_nil))))))))))))
theorem bX7_drawn_178 {g : Gt} {d : Nat} {t : Tt} {Q : Option Value → Tt → Prop} {x3 : Int32} {x4 : Int32} {x5 : Int32} {x6 : Int32} {x7 : Int32} {x8 : Int32} {x9 : Int32} {x10 : Int32} (h : Rt g (d + 1) mX7_drawn 94 [some (.ref 0), none, none, some (.int x3), some (.int x4), some (.int x5), some (.int x6), some (.int x7), some (.int x8), some (.int x9), some (.int (x10 + 1)), none] [] t Q) : Rt g (d + 1) mX7_drawn 178 [some (.ref 0), none, none, some (.int x3), some (.int x4), some (.int x5), some (.int x6), some (.int x7), some (.int x8), some (.int x9), some (.int x10), none] [] t Q := by
  refine s_iinc (w := x10 + 1) dX7_drawn_178 rfl (by rfl) (by decide) rfl (L9 := [some (.ref 0), none, none, some (.int x3), some (.int x4), some (.int x5), some (.int x6), some (.int x7), some (.int x8), some (.int x9), some (.int (x10 + 1)), none]) rfl ?_
  refine s_goto (tgt := 94) dX7_drawn_181 (by decide) ?_
  exact h
theorem bX7_say_0 {g : Gt} {d : Nat} {t : Tt} {Q : Option Value → Tt → Prop} {p0 : Int32} {p1 : Int32} (h : Rt g d mX7_nobody 0 [some (.ref 0), some (.int p0)] [] t (QI (fun v2 t1 => (¬ v2 = 0 → Q (some (.int (-1))) t1) ∧ (v2 = 0 → (p1 < 0 → Q (some (.int (-1))) t1) ∧ (¬ p1 < 0 → Rt g d mX7_noClaim 0 [some (.int (p1 / 10))] [] t1 (QI (fun v6 t5 => (v6 = 0 → ∀ z8 : Int32, z8 = (p1 / 100) → Rt g d mX7_isLie 0 [some (.int ((pI t5 31 0 ((t5.1 31 0) + 1)).1 0 11)), some (.int z8), some (.int (jr (p1 / 10) 10))] [] (pI t5 31 0 ((t5.1 31 0) + 1)) (QI (fun v10 t9 => (¬ v10 = 0 → isLw t9.2.2.1 ∧ Rt g d mX5_lie 0 [some (.ref 1), some (.ref t9.2.2.1), some (.int p0), some (.int z8), some (.int (jr p1 10)), none, none, none, none, none, none] [] t9 (QI (fun v14 t13 => Q (some (.int v14)) (pI (pI t13 31 1 ((t13.1 31 1) + 1)) 31 2 (((pI t13 31 1 ((t13.1 31 1) + 1)).1 31 2) + v14))))) ∧ (v10 = 0 → Q (some (.int 0)) t9)))) ∧ (¬ v6 = 0 → Q (some (.int (-1))) t5)))))))) : Rt g (d + 1) mX7_say 0 [some (.ref 0), some (.int p0), some (.int p1), none, none] [] t Q := by
  refine s_aload_n dX7_say_0 rfl rfl ?_
  refine s_iload_n dX7_say_1 rfl rfl ?_
  refine t_callV (M' := mX7_nobody) (k := 0) (As := [.int p0]) (rest := []) dX7_say_2 ml_X7_126 miX7_nobody msX7_nobody rfl (by decide) rfl rfl (Nat.le_of_ble_eq_true rfl) (Nat.le_of_ble_eq_true rfl) rfl h (fun rv t1 q => ?_)
  obtain ⟨v2, rfl, h⟩ := q
  show Rt g (d + 1) mX7_say 5 [some (.ref 0), some (.int p0), some (.int p1), none, none] [.int v2] t1 Q
  refine s_if_ne (tgt := 22) dX7_say_5 (by decide) (fun c3 => ?_) (fun c3 => ?_)
  · replace h := h.1 c3
    refine s_iconst (v := (-1)) dX7_say_22 (by decide) ?_
    exact t_iret dX7_say_23 (NR_i rfl _) h
  · replace h := h.2 c3
    refine s_iload_n dX7_say_8 rfl rfl ?_
    refine s_if_lt (tgt := 22) dX7_say_9 (by decide) (fun c4 => ?_) (fun c4 => ?_)
    · replace h := h.1 c4
      refine s_iconst (v := (-1)) dX7_say_22 (by decide) ?_
      exact t_iret dX7_say_23 (NR_i rfl _) h
    · replace h := h.2 c4
      refine s_iload_n dX7_say_12 rfl rfl ?_
      refine s_bipush (v := 10) dX7_say_13 (by decide) ?_
      refine s_idiv dX7_say_15 (by decide) ?_
      refine t_callS (M' := mX7_noClaim) (k := 0) (As := [.int (p1 / 10)]) (rest := []) dX7_say_16 ml_X7_197 mstX7_noClaim rfl (Nat.le_of_ble_eq_true rfl) (Nat.le_of_ble_eq_true rfl) rfl h (fun rv t5 q => ?_)
      obtain ⟨v6, rfl, h⟩ := q
      show Rt g (d + 1) mX7_say 19 [some (.ref 0), some (.int p0), some (.int p1), none, none] [.int v6] t5 Q
      refine s_if_eq (tgt := 24) dX7_say_19 (by decide) (fun c7 => ?_) (fun c7 => ?_)
      · replace h := h.1 c7
        refine s_aload_n dX7_say_24 rfl rfl ?_
        refine t_getR (o' := 31) dX7_say_25 fl_X7_49 rfl (by decide) rfl rfl ?_
        refine s_iconst (v := 0) dX7_say_28 (by decide) ?_
        refine s_dup2 dX7_say_29 rfl rfl ?_
        refine t_iald dX7_say_30 rfl (by decide) (show vp_in 0 6 from by unfold vp_in; decide) ?_
        refine s_iconst (v := 1) dX7_say_31 (by decide) ?_
        refine s_iadd dX7_say_32 ?_
        refine t_iast dX7_say_33 rfl (by decide) (show vp_in 0 6 from by unfold vp_in; decide) ?_
        refine s_iload_n dX7_say_34 rfl rfl ?_
        refine s_bipush (v := 100) dX7_say_35 (by decide) ?_
        refine s_idiv dX7_say_37 (by decide) ?_
        refine t_nmI (fun z8 ez8 => ?_)
        replace h := h z8 ez8
        refine s_istore_n dX7_say_38 rfl (by decide) rfl (L9 := [some (.ref 0), some (.int p0), some (.int p1), some (.int z8), none]) rfl ?_
        refine s_aload_n dX7_say_39 rfl rfl ?_
        refine t_getI dX7_say_40 fl_X7_132 rfl (by decide) rfl ?_
        refine s_iload_n dX7_say_43 rfl rfl ?_
        refine s_iload_n dX7_say_44 rfl rfl ?_
        refine s_bipush (v := 10) dX7_say_45 (by decide) ?_
        refine s_idiv dX7_say_47 (by decide) ?_
        refine s_bipush (v := 10) dX7_say_48 (by decide) ?_
        refine s_irem dX7_say_50 (by decide) ?_
        refine t_callS (M' := mX7_isLie) (k := 0) (As := [.int ((pI t5 31 0 ((t5.1 31 0) + 1)).1 0 11), .int z8, .int (jr (p1 / 10) 10)]) (rest := []) dX7_say_51 ml_X7_254 mstX7_isLie rfl (Nat.le_of_ble_eq_true rfl) (Nat.le_of_ble_eq_true rfl) rfl h (fun rv t9 q => ?_)
        obtain ⟨v10, rfl, h⟩ := q
        show Rt g (d + 1) mX7_say 54 [some (.ref 0), some (.int p0), some (.int p1), some (.int z8), none] [.int v10] t9 Q
        refine s_if_ne (tgt := 59) dX7_say_54 (by decide) (fun c11 => ?_) (fun c11 => ?_)
        · replace h := h.1 c11
          refine s_aload_n dX7_say_59 rfl rfl ?_
          refine t_getR (o' := 1) dX7_say_60 fl_X7_10 rfl (by decide) rfl rfl ?_
          refine s_aload_n dX7_say_63 rfl rfl ?_
          obtain ⟨g12, h⟩ := h
          refine t_getR dX7_say_64 fl_X7_66 rfl (by decide) rfl rfl ?_
          refine s_iload_n dX7_say_67 rfl rfl ?_
          refine s_iload_n dX7_say_68 rfl rfl ?_
          refine s_iload_n dX7_say_69 rfl rfl ?_
          refine s_bipush (v := 10) dX7_say_70 (by decide) ?_
          refine s_irem dX7_say_72 (by decide) ?_
          refine t_callV (M' := mX5_lie) (k := 6) (As := [.ref t9.2.2.1, .int p0, .int z8, .int (jr p1 10)]) (rest := []) dX7_say_73 ml_X7_217 miX5_lie msX5_lie rfl (by decide) rfl rfl (Nat.le_of_ble_eq_true rfl) (Nat.le_of_ble_eq_true rfl) rfl h (fun rv t13 q => ?_)
          obtain ⟨v14, rfl, h⟩ := q
          show Rt g (d + 1) mX7_say 76 [some (.ref 0), some (.int p0), some (.int p1), some (.int z8), none] [.int v14] t13 Q
          refine s_istore dX7_say_76 (by decide) rfl (L9 := [some (.ref 0), some (.int p0), some (.int p1), some (.int z8), some (.int v14)]) rfl ?_
          refine s_aload_n dX7_say_78 rfl rfl ?_
          refine t_getR (o' := 31) dX7_say_79 fl_X7_49 rfl (by decide) rfl rfl ?_
          refine s_iconst (v := 1) dX7_say_82 (by decide) ?_
          refine s_dup2 dX7_say_83 rfl rfl ?_
          refine t_iald dX7_say_84 rfl (by decide) (show vp_in 1 6 from by unfold vp_in; decide) ?_
          refine s_iconst (v := 1) dX7_say_85 (by decide) ?_
          refine s_iadd dX7_say_86 ?_
          refine t_iast dX7_say_87 rfl (by decide) (show vp_in 1 6 from by unfold vp_in; decide) ?_
          refine s_aload_n dX7_say_88 rfl rfl ?_
          refine t_getR (o' := 31) dX7_say_89 fl_X7_49 rfl (by decide) rfl rfl ?_
          refine s_iconst (v := 2) dX7_say_92 (by decide) ?_
          refine s_dup2 dX7_say_93 rfl rfl ?_
          refine t_iald dX7_say_94 rfl (by decide) (show vp_in 2 6 from by unfold vp_in; decide) ?_
          refine s_iload dX7_say_95 rfl ?_
          refine s_iadd dX7_say_97 ?_
          refine t_iast dX7_say_98 rfl (by decide) (show vp_in 2 6 from by unfold vp_in; decide) ?_
          refine s_iload dX7_say_99 rfl ?_
          exact t_iret dX7_say_101 (NR_i rfl _) h
        · replace h := h.2 c11
          refine s_iconst (v := 0) dX7_say_57 (by decide) ?_
          exact t_iret dX7_say_58 (NR_i rfl _) h
      · replace h := h.2 c7
        refine s_iconst (v := (-1)) dX7_say_22 (by decide) ?_
        exact t_iret dX7_say_23 (NR_i rfl _) h
theorem bX7_lend_0 {g : Gt} {d : Nat} {t : Tt} {Q : Option Value → Tt → Prop} {p0 : Int32} {p1 : Int32} (h : (p0 < 0 → Q (some (.int (-1))) t) ∧ (¬ p0 < 0 → Rt g d mX7_nobody 0 [some (.ref 0), some (.int (p0 / 10))] [] t (QI (fun v3 t2 => (¬ v3 = 0 → Q (some (.int (-1))) t2) ∧ (v3 = 0 → Rt g d mX7_nobody 0 [some (.ref 0), some (.int (jr p0 10))] [] t2 (QI (fun v6 t5 => (¬ v6 = 0 → Q (some (.int (-1))) t5) ∧ (v6 = 0 → ((p0 / 10) = (jr p0 10) → Q (some (.int (-1))) t5) ∧ (¬ (p0 / 10) = (jr p0 10) → Rt g d mX7_outside 0 [some (.int p1), some (.int 7)] [] t5 (QI (fun v10 t9 => (v10 = 0 → Rt g d mX5_exchange 0 [some (.ref 1), some (.int (p0 / 10)), some (.int (jr p0 10)), some (.int p1), none] [] t9 (QV (fun t12 => vp_in (((p0 / 10) * 8) + p1) 56 ∧ Q (some (.int ((pI t12 31 3 ((t12.1 31 3) + 1)).1 2 (((p0 / 10) * 8) + p1).toNatClampNeg))) (pI t12 31 3 ((t12.1 31 3) + 1))))) ∧ (¬ v10 = 0 → Q (some (.int (-1))) t9)))))))))))) : Rt g (d + 1) mX7_lend 0 [some (.ref 0), some (.int p0), some (.int p1)] [] t Q := by
  refine s_iload_n dX7_lend_0 rfl rfl ?_
  refine s_if_lt (tgt := 46) dX7_lend_1 (by decide) (fun c1 => ?_) (fun c1 => ?_)
  · replace h := h.1 c1
    refine s_iconst (v := (-1)) dX7_lend_46 (by decide) ?_
    exact t_iret dX7_lend_47 (NR_i rfl _) h
  · replace h := h.2 c1
    refine s_aload_n dX7_lend_4 rfl rfl ?_
    refine s_iload_n dX7_lend_5 rfl rfl ?_
    refine s_bipush (v := 10) dX7_lend_6 (by decide) ?_
    refine s_idiv dX7_lend_8 (by decide) ?_
    refine t_callV (M' := mX7_nobody) (k := 0) (As := [.int (p0 / 10)]) (rest := []) dX7_lend_9 ml_X7_126 miX7_nobody msX7_nobody rfl (by decide) rfl rfl (Nat.le_of_ble_eq_true rfl) (Nat.le_of_ble_eq_true rfl) rfl h (fun rv t2 q => ?_)
    obtain ⟨v3, rfl, h⟩ := q
    show Rt g (d + 1) mX7_lend 12 [some (.ref 0), some (.int p0), some (.int p1)] [.int v3] t2 Q
    refine s_if_ne (tgt := 46) dX7_lend_12 (by decide) (fun c4 => ?_) (fun c4 => ?_)
    · replace h := h.1 c4
      refine s_iconst (v := (-1)) dX7_lend_46 (by decide) ?_
      exact t_iret dX7_lend_47 (NR_i rfl _) h
    · replace h := h.2 c4
      refine s_aload_n dX7_lend_15 rfl rfl ?_
      refine s_iload_n dX7_lend_16 rfl rfl ?_
      refine s_bipush (v := 10) dX7_lend_17 (by decide) ?_
      refine s_irem dX7_lend_19 (by decide) ?_
      refine t_callV (M' := mX7_nobody) (k := 0) (As := [.int (jr p0 10)]) (rest := []) dX7_lend_20 ml_X7_126 miX7_nobody msX7_nobody rfl (by decide) rfl rfl (Nat.le_of_ble_eq_true rfl) (Nat.le_of_ble_eq_true rfl) rfl h (fun rv t5 q => ?_)
      obtain ⟨v6, rfl, h⟩ := q
      show Rt g (d + 1) mX7_lend 23 [some (.ref 0), some (.int p0), some (.int p1)] [.int v6] t5 Q
      refine s_if_ne (tgt := 46) dX7_lend_23 (by decide) (fun c7 => ?_) (fun c7 => ?_)
      · replace h := h.1 c7
        refine s_iconst (v := (-1)) dX7_lend_46 (by decide) ?_
        exact t_iret dX7_lend_47 (NR_i rfl _) h
      · replace h := h.2 c7
        refine s_iload_n dX7_lend_26 rfl rfl ?_
        refine s_bipush (v := 10) dX7_lend_27 (by decide) ?_
        refine s_idiv dX7_lend_29 (by decide) ?_
        refine s_iload_n dX7_lend_30 rfl rfl ?_
        refine s_bipush (v := 10) dX7_lend_31 (by decide) ?_
        refine s_irem dX7_lend_33 (by decide) ?_
        refine s_icmp_eq (tgt := 46) dX7_lend_34 (by decide) (fun c8 => ?_) (fun c8 => ?_)
        · replace h := h.1 c8
          refine s_iconst (v := (-1)) dX7_lend_46 (by decide) ?_
          exact t_iret dX7_lend_47 (NR_i rfl _) h
        · replace h := h.2 c8
          refine s_iload_n dX7_lend_37 rfl rfl ?_
          refine s_bipush (v := 7) dX7_lend_38 (by decide) ?_
          refine t_callS (M' := mX7_outside) (k := 0) (As := [.int p1, .int 7]) (rest := []) dX7_lend_40 ml_X7_71 mstX7_outside rfl (Nat.le_of_ble_eq_true rfl) (Nat.le_of_ble_eq_true rfl) rfl h (fun rv t9 q => ?_)
          obtain ⟨v10, rfl, h⟩ := q
          show Rt g (d + 1) mX7_lend 43 [some (.ref 0), some (.int p0), some (.int p1)] [.int v10] t9 Q
          refine s_if_eq (tgt := 48) dX7_lend_43 (by decide) (fun c11 => ?_) (fun c11 => ?_)
          · replace h := h.1 c11
            refine s_aload_n dX7_lend_48 rfl rfl ?_
            refine t_getR (o' := 1) dX7_lend_49 fl_X7_10 rfl (by decide) rfl rfl ?_
            refine s_iload_n dX7_lend_52 rfl rfl ?_
            refine s_bipush (v := 10) dX7_lend_53 (by decide) ?_
            refine s_idiv dX7_lend_55 (by decide) ?_
            refine s_iload_n dX7_lend_56 rfl rfl ?_
            refine s_bipush (v := 10) dX7_lend_57 (by decide) ?_
            refine s_irem dX7_lend_59 (by decide) ?_
            refine s_iload_n dX7_lend_60 rfl rfl ?_
            refine t_callV (M' := mX5_exchange) (k := 1) (As := [.int (p0 / 10), .int (jr p0 10), .int p1]) (rest := []) dX7_lend_61 ml_X7_261 miX5_exchange msX5_exchange rfl (by decide) rfl rfl (Nat.le_of_ble_eq_true rfl) (Nat.le_of_ble_eq_true rfl) rfl h (fun rv t12 q => ?_)
            obtain ⟨rfl, h⟩ := q
            show Rt g (d + 1) mX7_lend 64 [some (.ref 0), some (.int p0), some (.int p1)] [] t12 Q
            refine s_aload_n dX7_lend_64 rfl rfl ?_
            refine t_getR (o' := 31) dX7_lend_65 fl_X7_49 rfl (by decide) rfl rfl ?_
            refine s_iconst (v := 3) dX7_lend_68 (by decide) ?_
            refine s_dup2 dX7_lend_69 rfl rfl ?_
            refine t_iald dX7_lend_70 rfl (by decide) (show vp_in 3 6 from by unfold vp_in; decide) ?_
            refine s_iconst (v := 1) dX7_lend_71 (by decide) ?_
            refine s_iadd dX7_lend_72 ?_
            refine t_iast dX7_lend_73 rfl (by decide) (show vp_in 3 6 from by unfold vp_in; decide) ?_
            refine s_aload_n dX7_lend_74 rfl rfl ?_
            refine t_getR (o' := 1) dX7_lend_75 fl_X7_10 rfl (by decide) rfl rfl ?_
            refine t_getR (o' := 2) dX7_lend_78 fl_X7_83 rfl (by decide) rfl rfl ?_
            refine s_iload_n dX7_lend_81 rfl rfl ?_
            refine s_bipush (v := 10) dX7_lend_82 (by decide) ?_
            refine s_idiv dX7_lend_84 (by decide) ?_
            refine s_bipush (v := 8) dX7_lend_85 (by decide) ?_
            refine s_imul dX7_lend_87 ?_
            refine s_iload_n dX7_lend_88 rfl rfl ?_
            refine s_iadd dX7_lend_89 ?_
            obtain ⟨g13, h⟩ := h
            refine t_iald dX7_lend_90 rfl (by decide) g13 ?_
            exact t_iret dX7_lend_91 (NR_i rfl _) h
          · replace h := h.2 c11
            refine s_iconst (v := (-1)) dX7_lend_46 (by decide) ?_
            exact t_iret dX7_lend_47 (NR_i rfl _) h
theorem bX7_cap_0 {g : Gt} {d : Nat} {t : Tt} {Q : Option Value → Tt → Prop} {p0 : Int32} {p1 : Int32} (h : Rt g d mX7_nobody 0 [some (.ref 0), some (.int p0)] [] t (QI (fun v2 t1 => (¬ v2 = 0 → Q (some (.int (-1))) t1) ∧ (v2 = 0 → Rt g d mX7_outside 0 [some (.int p1), some (.int 7)] [] t1 (QI (fun v5 t4 => (v5 = 0 → Rt g d mX5_isCapped 0 [some (.ref 1), some (.int p0), some (.int p1)] [] t4 (QI (fun v8 t7 => (v8 = 0 → vp_in p0 7 ∧ (vp_in p0 7 ∧ (vp_in p0 7 ∧ Rt g d mJ6_bitCount_0f7a4 0 [some (.int ((pI (pI t7 3 p0.toNatClampNeg ((t7.1 3 p0.toNatClampNeg) ||| (jsl 1 p1))) 31 4 (((pI t7 3 p0.toNatClampNeg ((t7.1 3 p0.toNatClampNeg) ||| (jsl 1 p1))).1 31 4) + 1)).1 3 p0.toNatClampNeg))] [] (pI (pI t7 3 p0.toNatClampNeg ((t7.1 3 p0.toNatClampNeg) ||| (jsl 1 p1))) 31 4 (((pI t7 3 p0.toNatClampNeg ((t7.1 3 p0.toNatClampNeg) ||| (jsl 1 p1))).1 31 4) + 1)) (QI (fun v14 t13 => Q (some (.int v14)) t13))))) ∧ (¬ v8 = 0 → Q (some (.int (-5))) t7)))) ∧ (¬ v5 = 0 → Q (some (.int (-1))) t4))))))) : Rt g (d + 1) mX7_cap 0 [some (.ref 0), some (.int p0), some (.int p1)] [] t Q := by
  refine s_aload_n dX7_cap_0 rfl rfl ?_
  refine s_iload_n dX7_cap_1 rfl rfl ?_
  refine t_callV (M' := mX7_nobody) (k := 0) (As := [.int p0]) (rest := []) dX7_cap_2 ml_X7_126 miX7_nobody msX7_nobody rfl (by decide) rfl rfl (Nat.le_of_ble_eq_true rfl) (Nat.le_of_ble_eq_true rfl) rfl h (fun rv t1 q => ?_)
  obtain ⟨v2, rfl, h⟩ := q
  show Rt g (d + 1) mX7_cap 5 [some (.ref 0), some (.int p0), some (.int p1)] [.int v2] t1 Q
  refine s_if_ne (tgt := 17) dX7_cap_5 (by decide) (fun c3 => ?_) (fun c3 => ?_)
  · replace h := h.1 c3
    refine s_iconst (v := (-1)) dX7_cap_17 (by decide) ?_
    exact t_iret dX7_cap_18 (NR_i rfl _) h
  · replace h := h.2 c3
    refine s_iload_n dX7_cap_8 rfl rfl ?_
    refine s_bipush (v := 7) dX7_cap_9 (by decide) ?_
    refine t_callS (M' := mX7_outside) (k := 0) (As := [.int p1, .int 7]) (rest := []) dX7_cap_11 ml_X7_71 mstX7_outside rfl (Nat.le_of_ble_eq_true rfl) (Nat.le_of_ble_eq_true rfl) rfl h (fun rv t4 q => ?_)
    obtain ⟨v5, rfl, h⟩ := q
    show Rt g (d + 1) mX7_cap 14 [some (.ref 0), some (.int p0), some (.int p1)] [.int v5] t4 Q
    refine s_if_eq (tgt := 19) dX7_cap_14 (by decide) (fun c6 => ?_) (fun c6 => ?_)
    · replace h := h.1 c6
      refine s_aload_n dX7_cap_19 rfl rfl ?_
      refine t_getR (o' := 1) dX7_cap_20 fl_X7_10 rfl (by decide) rfl rfl ?_
      refine s_iload_n dX7_cap_23 rfl rfl ?_
      refine s_iload_n dX7_cap_24 rfl rfl ?_
      refine t_callV (M' := mX5_isCapped) (k := 0) (As := [.int p0, .int p1]) (rest := []) dX7_cap_25 ml_X7_264 miX5_isCapped msX5_isCapped rfl (by decide) rfl rfl (Nat.le_of_ble_eq_true rfl) (Nat.le_of_ble_eq_true rfl) rfl h (fun rv t7 q => ?_)
      obtain ⟨v8, rfl, h⟩ := q
      show Rt g (d + 1) mX7_cap 28 [some (.ref 0), some (.int p0), some (.int p1)] [.int v8] t7 Q
      refine s_if_eq (tgt := 34) dX7_cap_28 (by decide) (fun c9 => ?_) (fun c9 => ?_)
      · replace h := h.1 c9
        refine s_aload_n dX7_cap_34 rfl rfl ?_
        refine t_getR (o' := 1) dX7_cap_35 fl_X7_10 rfl (by decide) rfl rfl ?_
        refine t_getR (o' := 3) dX7_cap_38 fl_X7_129 rfl (by decide) rfl rfl ?_
        refine s_iload_n dX7_cap_41 rfl rfl ?_
        refine s_dup2 dX7_cap_42 rfl rfl ?_
        obtain ⟨g10, h⟩ := h
        refine t_iald dX7_cap_43 rfl (by decide) g10 ?_
        refine s_iconst (v := 1) dX7_cap_44 (by decide) ?_
        refine s_iload_n dX7_cap_45 rfl rfl ?_
        refine s_ishl dX7_cap_46 ?_
        refine s_ior dX7_cap_47 ?_
        obtain ⟨g11, h⟩ := h
        refine t_iast dX7_cap_48 rfl (by decide) g11 ?_
        refine s_aload_n dX7_cap_49 rfl rfl ?_
        refine t_getR (o' := 31) dX7_cap_50 fl_X7_49 rfl (by decide) rfl rfl ?_
        refine s_iconst (v := 4) dX7_cap_53 (by decide) ?_
        refine s_dup2 dX7_cap_54 rfl rfl ?_
        refine t_iald dX7_cap_55 rfl (by decide) (show vp_in 4 6 from by unfold vp_in; decide) ?_
        refine s_iconst (v := 1) dX7_cap_56 (by decide) ?_
        refine s_iadd dX7_cap_57 ?_
        refine t_iast dX7_cap_58 rfl (by decide) (show vp_in 4 6 from by unfold vp_in; decide) ?_
        refine s_aload_n dX7_cap_59 rfl rfl ?_
        refine t_getR (o' := 1) dX7_cap_60 fl_X7_10 rfl (by decide) rfl rfl ?_
        refine t_getR (o' := 3) dX7_cap_63 fl_X7_129 rfl (by decide) rfl rfl ?_
        refine s_iload_n dX7_cap_66 rfl rfl ?_
        obtain ⟨g12, h⟩ := h
        refine t_iald dX7_cap_67 rfl (by decide) g12 ?_
        refine t_callS (M' := mJ6_bitCount_0f7a4) (k := 0) (As := [.int ((pI (pI t7 3 p0.toNatClampNeg ((t7.1 3 p0.toNatClampNeg) ||| (jsl 1 p1))) 31 4 (((pI t7 3 p0.toNatClampNeg ((t7.1 3 p0.toNatClampNeg) ||| (jsl 1 p1))).1 31 4) + 1)).1 3 p0.toNatClampNeg)]) (rest := []) dX7_cap_68 ml_X7_221 mstJ6_bitCount_0f7a4 rfl (Nat.le_of_ble_eq_true rfl) (Nat.le_of_ble_eq_true rfl) rfl h (fun rv t13 q => ?_)
        obtain ⟨v14, rfl, h⟩ := q
        show Rt g (d + 1) mX7_cap 71 [some (.ref 0), some (.int p0), some (.int p1)] [.int v14] t13 Q
        exact t_iret dX7_cap_71 (NR_i rfl _) h
      · replace h := h.2 c9
        refine s_bipush (v := (-5)) dX7_cap_31 (by decide) ?_
        exact t_iret dX7_cap_33 (NR_i rfl _) h
    · replace h := h.2 c6
      refine s_iconst (v := (-1)) dX7_cap_17 (by decide) ?_
      exact t_iret dX7_cap_18 (NR_i rfl _) h
theorem bX7_year_0 {g : Gt} {d : Nat} {t : Tt} {Q : Option Value → Tt → Prop} (h : Rt g d mX7_year 4 [some (.ref 0), some (.int 0), some (.int 0)] [] t Q) : Rt g d mX7_year 0 [some (.ref 0), none, none] [] t Q := by
  refine s_iconst (v := 0) dX7_year_0 (by decide) ?_
  refine s_istore_n dX7_year_1 rfl (by decide) rfl (L9 := [some (.ref 0), some (.int 0), none]) rfl ?_
  refine s_iconst (v := 0) dX7_year_2 (by decide) ?_
  refine s_istore_n dX7_year_3 rfl (by decide) rfl (L9 := [some (.ref 0), some (.int 0), some (.int 0)]) rfl ?_
  exact h
theorem bX7_year_4 {g : Gt} {d : Nat} {t : Tt} {Q : Option Value → Tt → Prop} {x1 : Int32} {x2 : Int32} (h : ((t.1 1 0) ≤ x2 → Q (some (.int x1)) (pI t 31 5 ((t.1 31 5) + 1))) ∧ (¬ (t.1 1 0) ≤ x2 → vp_in x2 7 ∧ (∀ z3 : Int32, z3 = (x1 + (t.1 4 x2.toNatClampNeg)) → vp_in x2 7 ∧ Rt g d mX7_year 4 [some (.ref 0), some (.int z3), some (.int (x2 + 1))] [] (pI t 4 x2.toNatClampNeg 0) Q))) : Rt g d mX7_year 4 [some (.ref 0), some (.int x1), some (.int x2)] [] t Q := by
  refine s_iload_n dX7_year_4 rfl rfl ?_
  refine s_aload_n dX7_year_5 rfl rfl ?_
  refine t_getR (o' := 1) dX7_year_6 fl_X7_10 rfl (by decide) rfl rfl ?_
  refine t_getI dX7_year_9 fl_X7_75 rfl (by decide) rfl ?_
  refine s_icmp_ge (tgt := 43) dX7_year_12 (by decide) (fun c1 => ?_) (fun c1 => ?_)
  · replace h := h.1 c1
    refine s_aload_n dX7_year_43 rfl rfl ?_
    refine t_getR (o' := 31) dX7_year_44 fl_X7_49 rfl (by decide) rfl rfl ?_
    refine s_iconst (v := 5) dX7_year_47 (by decide) ?_
    refine s_dup2 dX7_year_48 rfl rfl ?_
    refine t_iald dX7_year_49 rfl (by decide) (show vp_in 5 6 from by unfold vp_in; decide) ?_
    refine s_iconst (v := 1) dX7_year_50 (by decide) ?_
    refine s_iadd dX7_year_51 ?_
    refine t_iast dX7_year_52 rfl (by decide) (show vp_in 5 6 from by unfold vp_in; decide) ?_
    refine s_iload_n dX7_year_53 rfl rfl ?_
    exact t_iret dX7_year_54 (NR_i rfl _) h
  · replace h := h.2 c1
    refine s_iload_n dX7_year_15 rfl rfl ?_
    refine s_aload_n dX7_year_16 rfl rfl ?_
    refine t_getR (o' := 1) dX7_year_17 fl_X7_10 rfl (by decide) rfl rfl ?_
    refine t_getR (o' := 4) dX7_year_20 fl_X7_141 rfl (by decide) rfl rfl ?_
    refine s_iload_n dX7_year_23 rfl rfl ?_
    obtain ⟨g2, h⟩ := h
    refine t_iald dX7_year_24 rfl (by decide) g2 ?_
    refine s_iadd dX7_year_25 ?_
    refine t_nmI (fun z3 ez3 => ?_)
    replace h := h z3 ez3
    refine s_istore_n dX7_year_26 rfl (by decide) rfl (L9 := [some (.ref 0), some (.int z3), some (.int x2)]) rfl ?_
    refine s_aload_n dX7_year_27 rfl rfl ?_
    refine t_getR (o' := 1) dX7_year_28 fl_X7_10 rfl (by decide) rfl rfl ?_
    refine t_getR (o' := 4) dX7_year_31 fl_X7_141 rfl (by decide) rfl rfl ?_
    refine s_iload_n dX7_year_34 rfl rfl ?_
    refine s_iconst (v := 0) dX7_year_35 (by decide) ?_
    obtain ⟨g4, h⟩ := h
    refine t_iast dX7_year_36 rfl (by decide) g4 ?_
    refine s_iinc (w := x2 + 1) dX7_year_37 rfl (by rfl) (by decide) rfl (L9 := [some (.ref 0), some (.int z3), some (.int (x2 + 1))]) rfl ?_
    refine s_goto (tgt := 4) dX7_year_40 (by decide) ?_
    exact h
theorem bX7_led_0 {g : Gt} {d : Nat} {t : Tt} {Q : Option Value → Tt → Prop} {p0 : Int32} (h : Rt g d mX7_outside 0 [some (.int p0), some (.int (6 - 1))] [] t (QI (fun v2 t1 => (v2 = 0 → vp_in p0 6 ∧ Q (some (.int (t1.1 31 p0.toNatClampNeg))) t1) ∧ (¬ v2 = 0 → Q (some (.int (-1))) t1)))) : Rt g (d + 1) mX7_led 0 [some (.ref 0), some (.int p0)] [] t Q := by
  refine s_iload_n dX7_led_0 rfl rfl ?_
  refine s_aload_n dX7_led_1 rfl rfl ?_
  refine t_getR (o' := 31) dX7_led_2 fl_X7_49 rfl (by decide) rfl rfl ?_
  refine s_alen (v := 6) dX7_led_5 rfl (Or.inl ⟨rfl, by decide⟩) (by decide) rfl ?_
  refine s_iconst (v := 1) dX7_led_6 (by decide) ?_
  refine s_isub dX7_led_7 ?_
  refine t_callS (M' := mX7_outside) (k := 0) (As := [.int p0, .int (6 - 1)]) (rest := []) dX7_led_8 ml_X7_71 mstX7_outside rfl (Nat.le_of_ble_eq_true rfl) (Nat.le_of_ble_eq_true rfl) rfl h (fun rv t1 q => ?_)
  obtain ⟨v2, rfl, h⟩ := q
  show Rt g (d + 1) mX7_led 11 [some (.ref 0), some (.int p0)] [.int v2] t1 Q
  refine s_if_eq (tgt := 18) dX7_led_11 (by decide) (fun c3 => ?_) (fun c3 => ?_)
  · replace h := h.1 c3
    refine s_aload_n dX7_led_18 rfl rfl ?_
    refine t_getR (o' := 31) dX7_led_19 fl_X7_49 rfl (by decide) rfl rfl ?_
    refine s_iload_n dX7_led_22 rfl rfl ?_
    obtain ⟨g4, h⟩ := h
    refine t_iald dX7_led_23 rfl (by decide) g4 ?_
    exact t_iret dX7_led_24 (NR_i rfl _) h
  · replace h := h.2 c3
    refine s_iconst (v := (-1)) dX7_led_14 (by decide) ?_
    refine s_goto (tgt := 24) dX7_led_15 (by decide) ?_
    exact t_iret dX7_led_24 (NR_i rfl _) h
theorem bX7_image_0 {g : Gt} {d : Nat} {t : Tt} {Q : Option Value → Tt → Prop} (h : Rt g d mX5_copyFrom 0 [some (.ref 9), some (.ref 1)] [] t (QV (fun t1 => Q (some (.int ((pI (cI t1 31 32 0 0 (6 : Int32).toNatClampNeg) 0 12 1).1 31 0))) (pI (cI t1 31 32 (0 : Int32).toNatClampNeg (0 : Int32).toNatClampNeg (6 : Int32).toNatClampNeg) 0 12 1)))) : Rt g (d + 1) mX7_image 0 [some (.ref 0)] [] t Q := by
  refine s_aload_n dX7_image_0 rfl rfl ?_
  refine t_getR (o' := 9) dX7_image_1 fl_X7_19 rfl (by decide) rfl rfl ?_
  refine s_aload_n dX7_image_4 rfl rfl ?_
  refine t_getR (o' := 1) dX7_image_5 fl_X7_10 rfl (by decide) rfl rfl ?_
  refine t_callV (M' := mX5_copyFrom) (k := 0) (As := [.ref 1]) (rest := []) dX7_image_8 ml_X7_203 miX5_copyFrom msX5_copyFrom rfl (by decide) rfl rfl (Nat.le_of_ble_eq_true rfl) (Nat.le_of_ble_eq_true rfl) rfl h (fun rv t1 q => ?_)
  obtain ⟨rfl, h⟩ := q
  show Rt g (d + 1) mX7_image 11 [some (.ref 0)] [] t1 Q
  refine s_aload_n dX7_image_11 rfl rfl ?_
  refine t_getR (o' := 31) dX7_image_12 fl_X7_49 rfl (by decide) rfl rfl ?_
  refine s_iconst (v := 0) dX7_image_15 (by decide) ?_
  refine s_aload_n dX7_image_16 rfl rfl ?_
  refine t_getR (o' := 32) dX7_image_17 fl_X7_53 rfl (by decide) rfl rfl ?_
  refine s_iconst (v := 0) dX7_image_20 (by decide) ?_
  refine s_aload_n dX7_image_21 rfl rfl ?_
  refine t_getR (o' := 31) dX7_image_22 fl_X7_49 rfl (by decide) rfl rfl ?_
  refine s_alen (v := 6) dX7_image_25 rfl (Or.inl ⟨rfl, by decide⟩) (by decide) rfl ?_
  refine t_cpyI dX7_image_26 ac_X7_267 rfl (by decide) rfl (by decide) (by decide) (by decide) (by decide) (by decide) (by decide) (Nat.le_of_ble_eq_true rfl) ?_
  refine s_aload_n dX7_image_29 rfl rfl ?_
  refine s_iconst (v := 1) dX7_image_30 (by decide) ?_
  refine t_putI dX7_image_31 fl_X7_273 rfl (by decide) rfl rfl rfl rfl ?_
  refine s_aload_n dX7_image_34 rfl rfl ?_
  refine t_getR (o' := 31) dX7_image_35 fl_X7_49 rfl (by decide) rfl rfl ?_
  refine s_iconst (v := 0) dX7_image_38 (by decide) ?_
  refine t_iald dX7_image_39 rfl (by decide) (show vp_in 0 6 from by unfold vp_in; decide) ?_
  exact t_iret dX7_image_40 (NR_i rfl _) h
theorem bX7_back_0 {g : Gt} {d : Nat} {t : Tt} {Q : Option Value → Tt → Prop} (h : (¬ (t.1 0 12) = 0 → Rt g d mX5_layBack 0 [some (.ref 1), some (.ref 9), none] [] t (QV (fun t2 => Q (some (.int ((cI t2 32 31 0 0 (6 : Int32).toNatClampNeg).1 31 0))) (cI t2 32 31 (0 : Int32).toNatClampNeg (0 : Int32).toNatClampNeg (6 : Int32).toNatClampNeg)))) ∧ ((t.1 0 12) = 0 → Q (some (.int (-5))) t)) : Rt g (d + 1) mX7_back 0 [some (.ref 0)] [] t Q := by
  refine s_aload_n dX7_back_0 rfl rfl ?_
  refine t_getI dX7_back_1 fl_X7_273 rfl (by decide) rfl ?_
  refine s_if_ne (tgt := 10) dX7_back_4 (by decide) (fun c1 => ?_) (fun c1 => ?_)
  · replace h := h.1 c1
    refine s_aload_n dX7_back_10 rfl rfl ?_
    refine t_getR (o' := 1) dX7_back_11 fl_X7_10 rfl (by decide) rfl rfl ?_
    refine s_aload_n dX7_back_14 rfl rfl ?_
    refine t_getR (o' := 9) dX7_back_15 fl_X7_19 rfl (by decide) rfl rfl ?_
    refine t_callV (M' := mX5_layBack) (k := 1) (As := [.ref 9]) (rest := []) dX7_back_18 ml_X7_277 miX5_layBack msX5_layBack rfl (by decide) rfl rfl (Nat.le_of_ble_eq_true rfl) (Nat.le_of_ble_eq_true rfl) rfl h (fun rv t2 q => ?_)
    obtain ⟨rfl, h⟩ := q
    show Rt g (d + 1) mX7_back 21 [some (.ref 0)] [] t2 Q
    refine s_aload_n dX7_back_21 rfl rfl ?_
    refine t_getR (o' := 32) dX7_back_22 fl_X7_53 rfl (by decide) rfl rfl ?_
    refine s_iconst (v := 0) dX7_back_25 (by decide) ?_
    refine s_aload_n dX7_back_26 rfl rfl ?_
    refine t_getR (o' := 31) dX7_back_27 fl_X7_49 rfl (by decide) rfl rfl ?_
    refine s_iconst (v := 0) dX7_back_30 (by decide) ?_
    refine s_aload_n dX7_back_31 rfl rfl ?_
    refine t_getR (o' := 31) dX7_back_32 fl_X7_49 rfl (by decide) rfl rfl ?_
    refine s_alen (v := 6) dX7_back_35 rfl (Or.inl ⟨rfl, by decide⟩) (by decide) rfl ?_
    refine t_cpyI dX7_back_36 ac_X7_267 rfl (by decide) rfl (by decide) (by decide) (by decide) (by decide) (by decide) (by decide) (Nat.le_of_ble_eq_true rfl) ?_
    refine s_aload_n dX7_back_39 rfl rfl ?_
    refine t_getR (o' := 31) dX7_back_40 fl_X7_49 rfl (by decide) rfl rfl ?_
    refine s_iconst (v := 0) dX7_back_43 (by decide) ?_
    refine t_iald dX7_back_44 rfl (by decide) (show vp_in 0 6 from by unfold vp_in; decide) ?_
    exact t_iret dX7_back_45 (NR_i rfl _) h
  · replace h := h.2 c1
    refine s_bipush (v := (-5)) dX7_back_7 (by decide) ?_
    exact t_iret dX7_back_9 (NR_i rfl _) h
theorem bX7_undo_0 {g : Gt} {d : Nat} {t : Tt} {Q : Option Value → Tt → Prop} (h : (1 ≤ (t.1 22 0) → ∀ z2 : Int32, z2 = ((pI t 22 0 ((t.1 22 0) - 1)).1 22 0) → vp_in z2 40 ∧ (vp_in z2 40 ∧ (vp_in z2 40 ∧ Rt g d mX7_makeNumber 0 [some (.ref 0), some (.int ((pI t 22 0 ((t.1 22 0) - 1)).1 23 z2.toNatClampNeg)), some (.int ((pI t 22 0 ((t.1 22 0) - 1)).1 24 z2.toNatClampNeg)), some (.int ((pI t 22 0 ((t.1 22 0) - 1)).1 25 z2.toNatClampNeg))] [] (pI t 22 0 ((t.1 22 0) - 1)) (QV (fun t6 => Q (some (.int (t6.1 22 0))) t6))))) ∧ (¬ 1 ≤ (t.1 22 0) → Q (some (.int (-5))) t)) : Rt g (d + 1) mX7_undo 0 [some (.ref 0), none] [] t Q := by
  refine s_aload_n dX7_undo_0 rfl rfl ?_
  refine t_getR (o' := 22) dX7_undo_1 fl_X7_32 rfl (by decide) rfl rfl ?_
  refine t_getI dX7_undo_4 fl_X7_280 rfl (by decide) rfl ?_
  refine s_iconst (v := 1) dX7_undo_7 (by decide) ?_
  refine s_icmp_ge (tgt := 14) dX7_undo_8 (by decide) (fun c1 => ?_) (fun c1 => ?_)
  · replace h := h.1 c1
    refine s_aload_n dX7_undo_14 rfl rfl ?_
    refine t_getR (o' := 22) dX7_undo_15 fl_X7_32 rfl (by decide) rfl rfl ?_
    refine s_dup dX7_undo_18 rfl ?_
    refine t_getI dX7_undo_19 fl_X7_280 rfl (by decide) rfl ?_
    refine s_iconst (v := 1) dX7_undo_22 (by decide) ?_
    refine s_isub dX7_undo_23 ?_
    refine t_putI dX7_undo_24 fl_X7_280 rfl (by decide) rfl rfl rfl rfl ?_
    refine s_aload_n dX7_undo_27 rfl rfl ?_
    refine t_getR (o' := 22) dX7_undo_28 fl_X7_32 rfl (by decide) rfl rfl ?_
    refine t_getI dX7_undo_31 fl_X7_280 rfl (by decide) rfl ?_
    refine t_nmI (fun z2 ez2 => ?_)
    replace h := h z2 ez2
    refine s_istore_n dX7_undo_34 rfl (by decide) rfl (L9 := [some (.ref 0), some (.int z2)]) rfl ?_
    refine s_aload_n dX7_undo_35 rfl rfl ?_
    refine s_aload_n dX7_undo_36 rfl rfl ?_
    refine t_getR (o' := 22) dX7_undo_37 fl_X7_32 rfl (by decide) rfl rfl ?_
    refine t_getR (o' := 23) dX7_undo_40 fl_X7_283 rfl (by decide) rfl rfl ?_
    refine s_iload_n dX7_undo_43 rfl rfl ?_
    obtain ⟨g3, h⟩ := h
    refine t_iald dX7_undo_44 rfl (by decide) g3 ?_
    refine s_aload_n dX7_undo_45 rfl rfl ?_
    refine t_getR (o' := 22) dX7_undo_46 fl_X7_32 rfl (by decide) rfl rfl ?_
    refine t_getR (o' := 24) dX7_undo_49 fl_X7_286 rfl (by decide) rfl rfl ?_
    refine s_iload_n dX7_undo_52 rfl rfl ?_
    obtain ⟨g4, h⟩ := h
    refine t_iald dX7_undo_53 rfl (by decide) g4 ?_
    refine s_aload_n dX7_undo_54 rfl rfl ?_
    refine t_getR (o' := 22) dX7_undo_55 fl_X7_32 rfl (by decide) rfl rfl ?_
    refine t_getR (o' := 25) dX7_undo_58 fl_X7_289 rfl (by decide) rfl rfl ?_
    refine s_iload_n dX7_undo_61 rfl rfl ?_
    obtain ⟨g5, h⟩ := h
    refine t_iald dX7_undo_62 rfl (by decide) g5 ?_
    refine t_callV (M' := mX7_makeNumber) (k := 0) (As := [.int ((pI t 22 0 ((t.1 22 0) - 1)).1 23 z2.toNatClampNeg), .int ((pI t 22 0 ((t.1 22 0) - 1)).1 24 z2.toNatClampNeg), .int ((pI t 22 0 ((t.1 22 0) - 1)).1 25 z2.toNatClampNeg)]) (rest := []) dX7_undo_63 ml_X7_122 miX7_makeNumber msX7_makeNumber rfl (by decide) rfl rfl (Nat.le_of_ble_eq_true rfl) (Nat.le_of_ble_eq_true rfl) rfl h (fun rv t6 q => ?_)
    obtain ⟨rfl, h⟩ := q
    show Rt g (d + 1) mX7_undo 66 [some (.ref 0), some (.int z2)] [] t6 Q
    refine s_aload_n dX7_undo_66 rfl rfl ?_
    refine t_getR (o' := 22) dX7_undo_67 fl_X7_32 rfl (by decide) rfl rfl ?_
    refine t_getI dX7_undo_70 fl_X7_280 rfl (by decide) rfl ?_
    exact t_iret dX7_undo_73 (NR_i rfl _) h
  · replace h := h.2 c1
    refine s_bipush (v := (-5)) dX7_undo_11 (by decide) ?_
    exact t_iret dX7_undo_13 (NR_i rfl _) h
theorem bX7_redo_0 {g : Gt} {d : Nat} {t : Tt} {Q : Option Value → Tt → Prop} (h : ((t.1 22 0) < (t.1 22 1) → ∀ z2 : Int32, z2 = (t.1 22 0) → vp_in z2 40 ∧ (vp_in z2 40 ∧ (vp_in z2 40 ∧ Rt g d mX7_makeNumber 0 [some (.ref 0), some (.int (t.1 23 z2.toNatClampNeg)), some (.int (t.1 24 z2.toNatClampNeg)), some (.int (t.1 26 z2.toNatClampNeg))] [] t (QV (fun t6 => Q (some (.int (((pI t6 22 0 ((t6.1 22 0) + 1)).1 22 1) - ((pI t6 22 0 ((t6.1 22 0) + 1)).1 22 0)))) (pI t6 22 0 ((t6.1 22 0) + 1))))))) ∧ (¬ (t.1 22 0) < (t.1 22 1) → Q (some (.int (-5))) t)) : Rt g (d + 1) mX7_redo 0 [some (.ref 0), none] [] t Q := by
  refine s_aload_n dX7_redo_0 rfl rfl ?_
  refine t_getR (o' := 22) dX7_redo_1 fl_X7_32 rfl (by decide) rfl rfl ?_
  refine t_getI dX7_redo_4 fl_X7_280 rfl (by decide) rfl ?_
  refine s_aload_n dX7_redo_7 rfl rfl ?_
  refine t_getR (o' := 22) dX7_redo_8 fl_X7_32 rfl (by decide) rfl rfl ?_
  refine t_getI dX7_redo_11 fl_X7_292 rfl (by decide) rfl ?_
  refine s_icmp_lt (tgt := 20) dX7_redo_14 (by decide) (fun c1 => ?_) (fun c1 => ?_)
  · replace h := h.1 c1
    refine s_aload_n dX7_redo_20 rfl rfl ?_
    refine t_getR (o' := 22) dX7_redo_21 fl_X7_32 rfl (by decide) rfl rfl ?_
    refine t_getI dX7_redo_24 fl_X7_280 rfl (by decide) rfl ?_
    refine t_nmI (fun z2 ez2 => ?_)
    replace h := h z2 ez2
    refine s_istore_n dX7_redo_27 rfl (by decide) rfl (L9 := [some (.ref 0), some (.int z2)]) rfl ?_
    refine s_aload_n dX7_redo_28 rfl rfl ?_
    refine s_aload_n dX7_redo_29 rfl rfl ?_
    refine t_getR (o' := 22) dX7_redo_30 fl_X7_32 rfl (by decide) rfl rfl ?_
    refine t_getR (o' := 23) dX7_redo_33 fl_X7_283 rfl (by decide) rfl rfl ?_
    refine s_iload_n dX7_redo_36 rfl rfl ?_
    obtain ⟨g3, h⟩ := h
    refine t_iald dX7_redo_37 rfl (by decide) g3 ?_
    refine s_aload_n dX7_redo_38 rfl rfl ?_
    refine t_getR (o' := 22) dX7_redo_39 fl_X7_32 rfl (by decide) rfl rfl ?_
    refine t_getR (o' := 24) dX7_redo_42 fl_X7_286 rfl (by decide) rfl rfl ?_
    refine s_iload_n dX7_redo_45 rfl rfl ?_
    obtain ⟨g4, h⟩ := h
    refine t_iald dX7_redo_46 rfl (by decide) g4 ?_
    refine s_aload_n dX7_redo_47 rfl rfl ?_
    refine t_getR (o' := 22) dX7_redo_48 fl_X7_32 rfl (by decide) rfl rfl ?_
    refine t_getR (o' := 26) dX7_redo_51 fl_X7_295 rfl (by decide) rfl rfl ?_
    refine s_iload_n dX7_redo_54 rfl rfl ?_
    obtain ⟨g5, h⟩ := h
    refine t_iald dX7_redo_55 rfl (by decide) g5 ?_
    refine t_callV (M' := mX7_makeNumber) (k := 0) (As := [.int (t.1 23 z2.toNatClampNeg), .int (t.1 24 z2.toNatClampNeg), .int (t.1 26 z2.toNatClampNeg)]) (rest := []) dX7_redo_56 ml_X7_122 miX7_makeNumber msX7_makeNumber rfl (by decide) rfl rfl (Nat.le_of_ble_eq_true rfl) (Nat.le_of_ble_eq_true rfl) rfl h (fun rv t6 q => ?_)
    obtain ⟨rfl, h⟩ := q
    show Rt g (d + 1) mX7_redo 59 [some (.ref 0), some (.int z2)] [] t6 Q
    refine s_aload_n dX7_redo_59 rfl rfl ?_
    refine t_getR (o' := 22) dX7_redo_60 fl_X7_32 rfl (by decide) rfl rfl ?_
    refine s_dup dX7_redo_63 rfl ?_
    refine t_getI dX7_redo_64 fl_X7_280 rfl (by decide) rfl ?_
    refine s_iconst (v := 1) dX7_redo_67 (by decide) ?_
    refine s_iadd dX7_redo_68 ?_
    refine t_putI dX7_redo_69 fl_X7_280 rfl (by decide) rfl rfl rfl rfl ?_
    refine s_aload_n dX7_redo_72 rfl rfl ?_
    refine t_getR (o' := 22) dX7_redo_73 fl_X7_32 rfl (by decide) rfl rfl ?_
    refine t_getI dX7_redo_76 fl_X7_292 rfl (by decide) rfl ?_
    refine s_aload_n dX7_redo_79 rfl rfl ?_
    refine t_getR (o' := 22) dX7_redo_80 fl_X7_32 rfl (by decide) rfl rfl ?_
    refine t_getI dX7_redo_83 fl_X7_280 rfl (by decide) rfl ?_
    refine s_isub dX7_redo_86 ?_
    exact t_iret dX7_redo_87 (NR_i rfl _) h
  · replace h := h.2 c1
    refine s_bipush (v := (-5)) dX7_redo_17 (by decide) ?_
    exact t_iret dX7_redo_19 (NR_i rfl _) h
theorem bX7_body_0 {g : Gt} {d : Nat} {t : Tt} {Q : Option Value → Tt → Prop} {p0 : Int32} (h : Rt g d mX7_outside 0 [some (.int p0), some (.int 7)] [] t (QI (fun v2 t1 => (v2 = 0 → Rt g d mX0_bear 0 [some (.ref 27), some (.int p0)] [] t1 (QI (fun v5 t4 => Q (some (.int v5)) t4))) ∧ (¬ v2 = 0 → Q (some (.int (-1))) t1)))) : Rt g (d + 1) mX7_body 0 [some (.ref 0), some (.int p0)] [] t Q := by
  refine s_iload_n dX7_body_0 rfl rfl ?_
  refine s_bipush (v := 7) dX7_body_1 (by decide) ?_
  refine t_callS (M' := mX7_outside) (k := 0) (As := [.int p0, .int 7]) (rest := []) dX7_body_3 ml_X7_71 mstX7_outside rfl (Nat.le_of_ble_eq_true rfl) (Nat.le_of_ble_eq_true rfl) rfl h (fun rv t1 q => ?_)
  obtain ⟨v2, rfl, h⟩ := q
  show Rt g (d + 1) mX7_body 6 [some (.ref 0), some (.int p0)] [.int v2] t1 Q
  refine s_if_eq (tgt := 11) dX7_body_6 (by decide) (fun c3 => ?_) (fun c3 => ?_)
  · replace h := h.1 c3
    refine s_aload_n dX7_body_11 rfl rfl ?_
    refine t_getR (o' := 27) dX7_body_12 fl_X7_39 rfl (by decide) rfl rfl ?_
    refine s_iload_n dX7_body_15 rfl rfl ?_
    refine t_callV (M' := mX0_bear) (k := 0) (As := [.int p0]) (rest := []) dX7_body_16 ml_X7_298 miX0_bear msX0_bear rfl (by decide) rfl rfl (Nat.le_of_ble_eq_true rfl) (Nat.le_of_ble_eq_true rfl) rfl h (fun rv t4 q => ?_)
    obtain ⟨v5, rfl, h⟩ := q
    show Rt g (d + 1) mX7_body 19 [some (.ref 0), some (.int p0)] [.int v5] t4 Q
    exact t_iret dX7_body_19 (NR_i rfl _) h
  · replace h := h.2 c3
    refine s_iconst (v := (-1)) dX7_body_9 (by decide) ?_
    exact t_iret dX7_body_10 (NR_i rfl _) h
theorem bX7_act_0 {g : Gt} {d : Nat} {t : Tt} {Q : Option Value → Tt → Prop} {p0 : Int32} {p1 : Int32} {p2 : Int32} (h : Rt g d mX0_perform 0 [some (.ref 27), some (.int p0), some (.int p1), some (.int p2)] [] t (QI (fun v2 t1 => Q (some (.int v2)) t1))) : Rt g (d + 1) mX7_act 0 [some (.ref 0), some (.int p0), some (.int p1), some (.int p2)] [] t Q := by
  refine s_aload_n dX7_act_0 rfl rfl ?_
  refine t_getR (o' := 27) dX7_act_1 fl_X7_39 rfl (by decide) rfl rfl ?_
  refine s_iload_n dX7_act_4 rfl rfl ?_
  refine s_iload_n dX7_act_5 rfl rfl ?_
  refine s_iload_n dX7_act_6 rfl rfl ?_
  refine t_callV (M' := mX0_perform) (k := 0) (As := [.int p0, .int p1, .int p2]) (rest := []) dX7_act_7 ml_X7_301 miX0_perform msX0_perform rfl (by decide) rfl rfl (Nat.le_of_ble_eq_true rfl) (Nat.le_of_ble_eq_true rfl) rfl h (fun rv t1 q => ?_)
  obtain ⟨v2, rfl, h⟩ := q
  show Rt g (d + 1) mX7_act 10 [some (.ref 0), some (.int p0), some (.int p1), some (.int p2)] [.int v2] t1 Q
  exact t_iret dX7_act_10 (NR_i rfl _) h
theorem bX7_trace_0 {g : Gt} {d : Nat} {t : Tt} {Q : Option Value → Tt → Prop} {p0 : Int32} (h : Rt g d mX0_tracedBodies 0 [some (.ref 27)] [] t (QI (fun v2 t1 => Rt g d mX7_outside 0 [some (.int p0), some (.int (v2 - 1))] [] t1 (QI (fun v4 t3 => (v4 = 0 → vp_in p0 24 ∧ Q (some (.int (t3.1 29 p0.toNatClampNeg))) t3) ∧ (¬ v4 = 0 → Q (some (.int (-1))) t3)))))) : Rt g (d + 1) mX7_trace 0 [some (.ref 0), some (.int p0)] [] t Q := by
  refine s_iload_n dX7_trace_0 rfl rfl ?_
  refine s_aload_n dX7_trace_1 rfl rfl ?_
  refine t_getR (o' := 27) dX7_trace_2 fl_X7_39 rfl (by decide) rfl rfl ?_
  refine t_callV (M' := mX0_tracedBodies) (k := 0) (As := []) (rest := [.int p0]) dX7_trace_5 ml_X7_305 miX0_tracedBodies msX0_tracedBodies rfl (by decide) rfl rfl (Nat.le_of_ble_eq_true rfl) (Nat.le_of_ble_eq_true rfl) rfl h (fun rv t1 q => ?_)
  obtain ⟨v2, rfl, h⟩ := q
  show Rt g (d + 1) mX7_trace 8 [some (.ref 0), some (.int p0)] [.int v2, .int p0] t1 Q
  refine s_iconst (v := 1) dX7_trace_8 (by decide) ?_
  refine s_isub dX7_trace_9 ?_
  refine t_callS (M' := mX7_outside) (k := 0) (As := [.int p0, .int (v2 - 1)]) (rest := []) dX7_trace_10 ml_X7_71 mstX7_outside rfl (Nat.le_of_ble_eq_true rfl) (Nat.le_of_ble_eq_true rfl) rfl h (fun rv t3 q => ?_)
  obtain ⟨v4, rfl, h⟩ := q
  show Rt g (d + 1) mX7_trace 13 [some (.ref 0), some (.int p0)] [.int v4] t3 Q
  refine s_if_eq (tgt := 20) dX7_trace_13 (by decide) (fun c5 => ?_) (fun c5 => ?_)
  · replace h := h.1 c5
    refine s_aload_n dX7_trace_20 rfl rfl ?_
    refine t_getR (o' := 27) dX7_trace_21 fl_X7_39 rfl (by decide) rfl rfl ?_
    refine t_getR (o' := 29) dX7_trace_24 fl_X7_308 rfl (by decide) rfl rfl ?_
    refine s_iload_n dX7_trace_27 rfl rfl ?_
    obtain ⟨g6, h⟩ := h
    refine t_iald dX7_trace_28 rfl (by decide) g6 ?_
    exact t_iret dX7_trace_29 (NR_i rfl _) h
  · replace h := h.2 c5
    refine s_iconst (v := (-1)) dX7_trace_16 (by decide) ?_
    refine s_goto (tgt := 29) dX7_trace_17 (by decide) ?_
    exact t_iret dX7_trace_29 (NR_i rfl _) h
theorem bX7_keep_0 {g : Gt} {d : Nat} {t : Tt} {Q : Option Value → Tt → Prop} {p0 : Int32} {p1 : Int32} (h : Rt g d mX7_noShelf 0 [some (.int p0)] [] t (QI (fun v2 t1 => (¬ v2 = 0 → Q (some (.int (-1))) t1) ∧ (v2 = 0 → (p1 < (-1) → Q (some (.int (-1))) t1) ∧ (¬ p1 < (-1) → (p1 < (t1.1 27 0) → vp_in p0 6 ∧ ((¬ p1 = (-1) → Rt g (d + 1) mX7_keep 42 [some (.ref 0), some (.int p0), some (.int p1)] [.int (-1), .ref (45 + 2 * p0.toNatClampNeg)] t1 Q) ∧ (p1 = (-1) → Rt g (d + 1) mX7_keep 42 [some (.ref 0), some (.int p0), some (.int p1)] [.int (-2), .ref (45 + 2 * p0.toNatClampNeg)] t1 Q))) ∧ (¬ p1 < (t1.1 27 0) → Q (some (.int (-1))) t1)))))) : Rt g (d + 1) mX7_keep 0 [some (.ref 0), some (.int p0), some (.int p1)] [] t Q := by
  refine s_iload_n dX7_keep_0 rfl rfl ?_
  refine t_callS (M' := mX7_noShelf) (k := 0) (As := [.int p0]) (rest := []) dX7_keep_1 ml_X7_86 mstX7_noShelf rfl (Nat.le_of_ble_eq_true rfl) (Nat.le_of_ble_eq_true rfl) rfl h (fun rv t1 q => ?_)
  obtain ⟨v2, rfl, h⟩ := q
  show Rt g (d + 1) mX7_keep 4 [some (.ref 0), some (.int p0), some (.int p1)] [.int v2] t1 Q
  refine s_if_ne (tgt := 23) dX7_keep_4 (by decide) (fun c3 => ?_) (fun c3 => ?_)
  · replace h := h.1 c3
    refine s_iconst (v := (-1)) dX7_keep_23 (by decide) ?_
    exact t_iret dX7_keep_24 (NR_i rfl _) h
  · replace h := h.2 c3
    refine s_iload_n dX7_keep_7 rfl rfl ?_
    refine s_iconst (v := (-1)) dX7_keep_8 (by decide) ?_
    refine s_icmp_lt (tgt := 23) dX7_keep_9 (by decide) (fun c4 => ?_) (fun c4 => ?_)
    · replace h := h.1 c4
      refine s_iconst (v := (-1)) dX7_keep_23 (by decide) ?_
      exact t_iret dX7_keep_24 (NR_i rfl _) h
    · replace h := h.2 c4
      refine s_iload_n dX7_keep_12 rfl rfl ?_
      refine s_aload_n dX7_keep_13 rfl rfl ?_
      refine t_getR (o' := 27) dX7_keep_14 fl_X7_39 rfl (by decide) rfl rfl ?_
      refine t_getI dX7_keep_17 fl_X7_311 rfl (by decide) rfl ?_
      refine s_icmp_lt (tgt := 25) dX7_keep_20 (by decide) (fun c5 => ?_) (fun c5 => ?_)
      · replace h := h.1 c5
        refine s_aload_n dX7_keep_25 rfl rfl ?_
        refine t_getR (o' := 30) dX7_keep_26 fl_X7_45 rfl (by decide) rfl rfl ?_
        refine s_iload_n dX7_keep_29 rfl rfl ?_
        obtain ⟨g6, h⟩ := h
        refine t_aald dX7_keep_30 g6 rfl ?_
        refine s_iload_n dX7_keep_31 rfl rfl ?_
        refine s_iconst (v := (-1)) dX7_keep_32 (by decide) ?_
        refine s_icmp_ne (tgt := 41) dX7_keep_33 (by decide) (fun c7 => ?_) (fun c7 => ?_)
        · replace h := h.1 c7
          refine s_iconst (v := (-1)) dX7_keep_41 (by decide) ?_
          exact h
        · replace h := h.2 c7
          refine s_bipush (v := (-2)) dX7_keep_36 (by decide) ?_
          refine s_goto (tgt := 42) dX7_keep_38 (by decide) ?_
          exact h
      · replace h := h.2 c5
        refine s_iconst (v := (-1)) dX7_keep_23 (by decide) ?_
        exact t_iret dX7_keep_24 (NR_i rfl _) h
theorem bX7_keep_42 {g : Gt} {d : Nat} {t : Tt} {Q : Option Value → Tt → Prop} {x1 : Int32} {x2 : Int32} {s0 : Int32} {ys1 : Nat} (hys1 : isSh ys1) (h : vp_in x1 6 ∧ Q (some (.int 1)) (pI (pI t ys1 0 s0) (45 + 2 * x1.toNatClampNeg) 2 x2)) : Rt g (d + 1) mX7_keep 42 [some (.ref 0), some (.int x1), some (.int x2)] [.int s0, .ref ys1] t Q := by
  refine t_putI dX7_keep_42 fl_X7_90 (isSh_k hys1) (isSh_z hys1) rfl rfl rfl rfl ?_
  refine s_aload_n dX7_keep_45 rfl rfl ?_
  refine t_getR (o' := 30) dX7_keep_46 fl_X7_45 rfl (by decide) rfl rfl ?_
  refine s_iload_n dX7_keep_49 rfl rfl ?_
  obtain ⟨g1, h⟩ := h
  refine t_aald dX7_keep_50 g1 rfl ?_
  refine s_iload_n dX7_keep_51 rfl rfl ?_
  refine t_putI dX7_keep_52 fl_X7_314 (isSh_k (isSh_of g1)) (isSh_z (isSh_of g1)) rfl rfl rfl rfl ?_
  refine s_iconst (v := 1) dX7_keep_55 (by decide) ?_
  exact t_iret dX7_keep_56 (NR_i rfl _) h
theorem bX7_row_0 {g : Gt} {d : Nat} {t : Tt} {Q : Option Value → Tt → Prop} {p0 : Int32} {p1 : Int32} {p2 : Int32} (h : Rt g d mX7_noShelf 0 [some (.int p0)] [] t (QI (fun v2 t1 => (¬ v2 = 0 → Q (some (.int (-1))) t1) ∧ (v2 = 0 → Rt g d mX7_outside 0 [some (.int p1), some (.int 4)] [] t1 (QI (fun v5 t4 => (¬ v5 = 0 → Q (some (.int (-1))) t4) ∧ (v5 = 0 → (p2 ≤ 60 → (0 ≤ p2 → vp_in p0 6 ∧ Rt g d mX6_becomeRow 0 [some (.ref (45 + 2 * p0.toNatClampNeg)), some (.int p1), some (.int p2), none] [] t4 (QV (fun t10 => Q (some (.int 1)) t10))) ∧ (¬ 0 ≤ p2 → Q (some (.int (-14))) t4)) ∧ (¬ p2 ≤ 60 → Q (some (.int (-1))) t4)))))))) : Rt g (d + 1) mX7_row 0 [some (.ref 0), some (.int p0), some (.int p1), some (.int p2)] [] t Q := by
  refine s_iload_n dX7_row_0 rfl rfl ?_
  refine t_callS (M' := mX7_noShelf) (k := 0) (As := [.int p0]) (rest := []) dX7_row_1 ml_X7_86 mstX7_noShelf rfl (Nat.le_of_ble_eq_true rfl) (Nat.le_of_ble_eq_true rfl) rfl h (fun rv t1 q => ?_)
  obtain ⟨v2, rfl, h⟩ := q
  show Rt g (d + 1) mX7_row 4 [some (.ref 0), some (.int p0), some (.int p1), some (.int p2)] [.int v2] t1 Q
  refine s_if_ne (tgt := 21) dX7_row_4 (by decide) (fun c3 => ?_) (fun c3 => ?_)
  · replace h := h.1 c3
    refine s_iconst (v := (-1)) dX7_row_21 (by decide) ?_
    exact t_iret dX7_row_22 (NR_i rfl _) h
  · replace h := h.2 c3
    refine s_iload_n dX7_row_7 rfl rfl ?_
    refine s_iconst (v := 4) dX7_row_8 (by decide) ?_
    refine t_callS (M' := mX7_outside) (k := 0) (As := [.int p1, .int 4]) (rest := []) dX7_row_9 ml_X7_71 mstX7_outside rfl (Nat.le_of_ble_eq_true rfl) (Nat.le_of_ble_eq_true rfl) rfl h (fun rv t4 q => ?_)
    obtain ⟨v5, rfl, h⟩ := q
    show Rt g (d + 1) mX7_row 12 [some (.ref 0), some (.int p0), some (.int p1), some (.int p2)] [.int v5] t4 Q
    refine s_if_ne (tgt := 21) dX7_row_12 (by decide) (fun c6 => ?_) (fun c6 => ?_)
    · replace h := h.1 c6
      refine s_iconst (v := (-1)) dX7_row_21 (by decide) ?_
      exact t_iret dX7_row_22 (NR_i rfl _) h
    · replace h := h.2 c6
      refine s_iload_n dX7_row_15 rfl rfl ?_
      refine s_bipush (v := 60) dX7_row_16 (by decide) ?_
      refine s_icmp_le (tgt := 23) dX7_row_18 (by decide) (fun c7 => ?_) (fun c7 => ?_)
      · replace h := h.1 c7
        refine s_iload_n dX7_row_23 rfl rfl ?_
        refine s_if_ge (tgt := 30) dX7_row_24 (by decide) (fun c8 => ?_) (fun c8 => ?_)
        · replace h := h.1 c8
          refine s_aload_n dX7_row_30 rfl rfl ?_
          refine t_getR (o' := 30) dX7_row_31 fl_X7_45 rfl (by decide) rfl rfl ?_
          refine s_iload_n dX7_row_34 rfl rfl ?_
          obtain ⟨g9, h⟩ := h
          refine t_aald dX7_row_35 g9 rfl ?_
          refine s_iload_n dX7_row_36 rfl rfl ?_
          refine s_iload_n dX7_row_37 rfl rfl ?_
          refine t_callV (M' := mX6_becomeRow) (k := 1) (As := [.int p1, .int p2]) (rest := []) dX7_row_38 ml_X7_317 miX6_becomeRow msX6_becomeRow (isSh_k (isSh_of g9)) (isSh_z (isSh_of g9)) rfl rfl (Nat.le_of_ble_eq_true rfl) (Nat.le_of_ble_eq_true rfl) rfl h (fun rv t10 q => ?_)
          obtain ⟨rfl, h⟩ := q
          show Rt g (d + 1) mX7_row 41 [some (.ref 0), some (.int p0), some (.int p1), some (.int p2)] [] t10 Q
          refine s_iconst (v := 1) dX7_row_41 (by decide) ?_
          exact t_iret dX7_row_42 (NR_i rfl _) h
        · replace h := h.2 c8
          refine s_bipush (v := (-14)) dX7_row_27 (by decide) ?_
          exact t_iret dX7_row_29 (NR_i rfl _) h
      · replace h := h.2 c7
        refine s_iconst (v := (-1)) dX7_row_21 (by decide) ?_
        exact t_iret dX7_row_22 (NR_i rfl _) h
theorem bX7_put_0 {g : Gt} {d : Nat} {t : Tt} {Q : Option Value → Tt → Prop} {p0 : Int32} {p1 : Int32} {p2 : Int64} (h : Rt g d mX7_refusalOfPlace 0 [some (.ref 0), some (.int p0), some (.int p1), none] [] t (QI (fun v2 t1 => (v2 = 0 → vp_in p0 6 ∧ (vp_in p0 6 ∧ (Rt g d mX6_narrowed 0 [some (.int (t1.1 (45 + 2 * p0.toNatClampNeg) 0)), some (.long p2), none] [] t1 (QL (fun v7 t6 => vp_in p1 60 ∧ Q (some (.int 1)) (pJ t6 ((45 + 2 * p0.toNatClampNeg) + 1) p1.toNatClampNeg v7)))))) ∧ (¬ v2 = 0 → Q (some (.int v2)) t1)))) : Rt g (d + 1) mX7_put 0 [some (.ref 0), some (.int p0), some (.int p1), some (.long p2), none, none] [] t Q := by
  refine s_aload_n dX7_put_0 rfl rfl ?_
  refine s_iload_n dX7_put_1 rfl rfl ?_
  refine s_iload_n dX7_put_2 rfl rfl ?_
  refine t_callV (M' := mX7_refusalOfPlace) (k := 1) (As := [.int p0, .int p1]) (rest := []) dX7_put_3 ml_X7_321 miX7_refusalOfPlace msX7_refusalOfPlace rfl (by decide) rfl rfl (Nat.le_of_ble_eq_true rfl) (Nat.le_of_ble_eq_true rfl) rfl h (fun rv t1 q => ?_)
  obtain ⟨v2, rfl, h⟩ := q
  show Rt g (d + 1) mX7_put 6 [some (.ref 0), some (.int p0), some (.int p1), some (.long p2), none, none] [.int v2] t1 Q
  refine s_istore dX7_put_6 (by decide) rfl (L9 := [some (.ref 0), some (.int p0), some (.int p1), some (.long p2), none, some (.int v2)]) rfl ?_
  refine s_iload dX7_put_8 rfl ?_
  refine s_if_eq (tgt := 16) dX7_put_10 (by decide) (fun c3 => ?_) (fun c3 => ?_)
  · replace h := h.1 c3
    refine s_aload_n dX7_put_16 rfl rfl ?_
    refine t_getR (o' := 30) dX7_put_17 fl_X7_45 rfl (by decide) rfl rfl ?_
    refine s_iload_n dX7_put_20 rfl rfl ?_
    obtain ⟨g4, h⟩ := h
    refine t_aald dX7_put_21 g4 rfl ?_
    refine t_getR dX7_put_22 fl_X7_104 (isSh_k (isSh_of g4)) (isSh_z (isSh_of g4)) rfl (isSh_r3 _ (isSh_of g4)) ?_
    refine s_iload_n dX7_put_25 rfl rfl ?_
    refine s_aload_n dX7_put_26 rfl rfl ?_
    refine t_getR (o' := 30) dX7_put_27 fl_X7_45 rfl (by decide) rfl rfl ?_
    refine s_iload_n dX7_put_30 rfl rfl ?_
    obtain ⟨g5, h⟩ := h
    refine t_aald dX7_put_31 g5 rfl ?_
    refine t_getI dX7_put_32 fl_X7_90 (isSh_k (isSh_of g5)) (isSh_z (isSh_of g5)) rfl ?_
    refine s_lload_n dX7_put_35 rfl rfl ?_
    refine t_callS (M' := mX6_narrowed) (k := 0) (As := [.int (t1.1 (45 + 2 * p0.toNatClampNeg) 0), .long p2]) (rest := [.int p1, .ref ((45 + 2 * p0.toNatClampNeg) + 1)]) dX7_put_36 ml_X7_324 mstX6_narrowed rfl (Nat.le_of_ble_eq_true rfl) (Nat.le_of_ble_eq_true rfl) rfl h (fun rv t6 q => ?_)
    obtain ⟨v7, rfl, h⟩ := q
    show Rt g (d + 1) mX7_put 39 [some (.ref 0), some (.int p0), some (.int p1), some (.long p2), none, some (.int v2)] [.long v7, .int p1, .ref ((45 + 2 * p0.toNatClampNeg) + 1)] t6 Q
    obtain ⟨g8, h⟩ := h
    refine t_last dX7_put_39 (isSh_k3 (isSh_of g4)) (isSh_z3 (isSh_of g4)) g8 ?_
    refine s_iconst (v := 1) dX7_put_40 (by decide) ?_
    exact t_iret dX7_put_41 (NR_i rfl _) h
  · replace h := h.2 c3
    refine s_iload dX7_put_13 rfl ?_
    exact t_iret dX7_put_15 (NR_i rfl _) h
theorem bX7_element_0 {g : Gt} {d : Nat} {t : Tt} {Q : Option Value → Tt → Prop} {p0 : Int32} {p1 : Int32} (h : Rt g d mX7_refusalOfPlace 0 [some (.ref 0), some (.int p0), some (.int p1), none] [] t (QI (fun v2 t1 => (v2 = 0 → vp_in p0 6 ∧ (vp_in p1 60 ∧ Q (some (.long (t1.2.1 ((45 + 2 * p0.toNatClampNeg) + 1) p1.toNatClampNeg))) t1)) ∧ (¬ v2 = 0 → Q (some (.long (-9223372036854775808))) t1)))) : Rt g (d + 1) mX7_element 0 [some (.ref 0), some (.int p0), some (.int p1)] [] t Q := by
  refine s_aload_n dX7_element_0 rfl rfl ?_
  refine s_iload_n dX7_element_1 rfl rfl ?_
  refine s_iload_n dX7_element_2 rfl rfl ?_
  refine t_callV (M' := mX7_refusalOfPlace) (k := 1) (As := [.int p0, .int p1]) (rest := []) dX7_element_3 ml_X7_321 miX7_refusalOfPlace msX7_refusalOfPlace rfl (by decide) rfl rfl (Nat.le_of_ble_eq_true rfl) (Nat.le_of_ble_eq_true rfl) rfl h (fun rv t1 q => ?_)
  obtain ⟨v2, rfl, h⟩ := q
  show Rt g (d + 1) mX7_element 6 [some (.ref 0), some (.int p0), some (.int p1)] [.int v2] t1 Q
  refine s_if_eq (tgt := 15) dX7_element_6 (by decide) (fun c3 => ?_) (fun c3 => ?_)
  · replace h := h.1 c3
    refine s_aload_n dX7_element_15 rfl rfl ?_
    refine t_getR (o' := 30) dX7_element_16 fl_X7_45 rfl (by decide) rfl rfl ?_
    refine s_iload_n dX7_element_19 rfl rfl ?_
    obtain ⟨g4, h⟩ := h
    refine t_aald dX7_element_20 g4 rfl ?_
    refine t_getR dX7_element_21 fl_X7_104 (isSh_k (isSh_of g4)) (isSh_z (isSh_of g4)) rfl (isSh_r3 _ (isSh_of g4)) ?_
    refine s_iload_n dX7_element_24 rfl rfl ?_
    obtain ⟨g5, h⟩ := h
    refine t_lald dX7_element_25 (isSh_k3 (isSh_of g4)) (isSh_z3 (isSh_of g4)) g5 ?_
    exact t_lret dX7_element_26 rfl h
  · replace h := h.2 c3
    refine s_ldc2 (v := (-9223372036854775808)) dX7_element_9 cl_X7_330 ?_
    refine s_goto (tgt := 26) dX7_element_12 (by decide) ?_
    exact t_lret dX7_element_26 rfl h
theorem bX7_shift_0 {g : Gt} {d : Nat} {t : Tt} {Q : Option Value → Tt → Prop} {p0 : Int32} {p1 : Int32} {p2 : Int32} {p3 : Int32} {p4 : Int32} (h : Rt g d mX7_noShelf 0 [some (.int p0)] [] t (QI (fun v2 t1 => (¬ v2 = 0 → Q (some (.int (-1))) t1) ∧ (v2 = 0 → Rt g d mX7_noShelf 0 [some (.int p2)] [] t1 (QI (fun v5 t4 => (v5 = 0 → vp_in p0 6 ∧ (vp_in p2 6 ∧ (((t4.1 (45 + 2 * p0.toNatClampNeg) 0) = (-2) → Q (some (.int (-11))) t4) ∧ (¬ (t4.1 (45 + 2 * p0.toNatClampNeg) 0) = (-2) → (¬ (t4.1 (45 + 2 * p2.toNatClampNeg) 0) = (-2) → ((t4.1 (45 + 2 * p0.toNatClampNeg) 0) = (-1) → Q (some (.int (-12))) t4) ∧ (¬ (t4.1 (45 + 2 * p0.toNatClampNeg) 0) = (-1) → ((t4.1 (45 + 2 * p0.toNatClampNeg) 0) = (t4.1 (45 + 2 * p2.toNatClampNeg) 0) → Rt g d mX6_lacks 0 [some (.ref (45 + 2 * p0.toNatClampNeg)), some (.int p1), some (.int p4)] [] t4 (QI (fun v14 t13 => (¬ v14 = 0 → Q (some (.int (-13))) t13) ∧ (v14 = 0 → Rt g d mX6_lacks 0 [some (.ref (45 + 2 * p2.toNatClampNeg)), some (.int p3), some (.int p4)] [] t13 (QI (fun v17 t16 => (v17 = 0 → ¬ p1 < 0 ∧ (¬ p3 < 0 ∧ (¬ p4 < 0 ∧ (p1.toNatClampNeg + p4.toNatClampNeg ≤ 60 ∧ (p3.toNatClampNeg + p4.toNatClampNeg ≤ 60 ∧ Q (some (.int p4)) (cJ t16 ((45 + 2 * p0.toNatClampNeg) + 1) ((45 + 2 * p2.toNatClampNeg) + 1) p1.toNatClampNeg p3.toNatClampNeg p4.toNatClampNeg)))))) ∧ (¬ v17 = 0 → Q (some (.int (-13))) t16))))))) ∧ (¬ (t4.1 (45 + 2 * p0.toNatClampNeg) 0) = (t4.1 (45 + 2 * p2.toNatClampNeg) 0) → Q (some (.int (-12))) t4))) ∧ ((t4.1 (45 + 2 * p2.toNatClampNeg) 0) = (-2) → Q (some (.int (-11))) t4))))) ∧ (¬ v5 = 0 → Q (some (.int (-1))) t4))))))) : Rt g (d + 1) mX7_shift 0 [some (.ref 0), some (.int p0), some (.int p1), some (.int p2), some (.int p3), some (.int p4), none, none] [] t Q := by
  refine s_iload_n dX7_shift_0 rfl rfl ?_
  refine t_callS (M' := mX7_noShelf) (k := 0) (As := [.int p0]) (rest := []) dX7_shift_1 ml_X7_86 mstX7_noShelf rfl (Nat.le_of_ble_eq_true rfl) (Nat.le_of_ble_eq_true rfl) rfl h (fun rv t1 q => ?_)
  obtain ⟨v2, rfl, h⟩ := q
  show Rt g (d + 1) mX7_shift 4 [some (.ref 0), some (.int p0), some (.int p1), some (.int p2), some (.int p3), some (.int p4), none, none] [.int v2] t1 Q
  refine s_if_ne (tgt := 14) dX7_shift_4 (by decide) (fun c3 => ?_) (fun c3 => ?_)
  · replace h := h.1 c3
    refine s_iconst (v := (-1)) dX7_shift_14 (by decide) ?_
    exact t_iret dX7_shift_15 (NR_i rfl _) h
  · replace h := h.2 c3
    refine s_iload_n dX7_shift_7 rfl rfl ?_
    refine t_callS (M' := mX7_noShelf) (k := 0) (As := [.int p2]) (rest := []) dX7_shift_8 ml_X7_86 mstX7_noShelf rfl (Nat.le_of_ble_eq_true rfl) (Nat.le_of_ble_eq_true rfl) rfl h (fun rv t4 q => ?_)
    obtain ⟨v5, rfl, h⟩ := q
    show Rt g (d + 1) mX7_shift 11 [some (.ref 0), some (.int p0), some (.int p1), some (.int p2), some (.int p3), some (.int p4), none, none] [.int v5] t4 Q
    refine s_if_eq (tgt := 16) dX7_shift_11 (by decide) (fun c6 => ?_) (fun c6 => ?_)
    · replace h := h.1 c6
      refine s_aload_n dX7_shift_16 rfl rfl ?_
      refine t_getR (o' := 30) dX7_shift_17 fl_X7_45 rfl (by decide) rfl rfl ?_
      refine s_iload_n dX7_shift_20 rfl rfl ?_
      obtain ⟨g7, h⟩ := h
      refine t_aald dX7_shift_21 g7 rfl ?_
      refine s_astore dX7_shift_22 (by decide) rfl (L9 := [some (.ref 0), some (.int p0), some (.int p1), some (.int p2), some (.int p3), some (.int p4), some (.ref (45 + 2 * p0.toNatClampNeg)), none]) rfl ?_
      refine s_aload_n dX7_shift_24 rfl rfl ?_
      refine t_getR (o' := 30) dX7_shift_25 fl_X7_45 rfl (by decide) rfl rfl ?_
      refine s_iload_n dX7_shift_28 rfl rfl ?_
      obtain ⟨g8, h⟩ := h
      refine t_aald dX7_shift_29 g8 rfl ?_
      refine s_astore dX7_shift_30 (by decide) rfl (L9 := [some (.ref 0), some (.int p0), some (.int p1), some (.int p2), some (.int p3), some (.int p4), some (.ref (45 + 2 * p0.toNatClampNeg)), some (.ref (45 + 2 * p2.toNatClampNeg))]) rfl ?_
      refine s_aload dX7_shift_32 rfl ?_
      refine t_getI dX7_shift_34 fl_X7_90 (isSh_k (isSh_of g7)) (isSh_z (isSh_of g7)) rfl ?_
      refine s_bipush (v := (-2)) dX7_shift_37 (by decide) ?_
      refine s_icmp_eq (tgt := 52) dX7_shift_39 (by decide) (fun c9 => ?_) (fun c9 => ?_)
      · replace h := h.1 c9
        refine s_bipush (v := (-11)) dX7_shift_52 (by decide) ?_
        exact t_iret dX7_shift_54 (NR_i rfl _) h
      · replace h := h.2 c9
        refine s_aload dX7_shift_42 rfl ?_
        refine t_getI dX7_shift_44 fl_X7_90 (isSh_k (isSh_of g8)) (isSh_z (isSh_of g8)) rfl ?_
        refine s_bipush (v := (-2)) dX7_shift_47 (by decide) ?_
        refine s_icmp_ne (tgt := 55) dX7_shift_49 (by decide) (fun c10 => ?_) (fun c10 => ?_)
        · replace h := h.1 c10
          refine s_aload dX7_shift_55 rfl ?_
          refine t_getI dX7_shift_57 fl_X7_90 (isSh_k (isSh_of g7)) (isSh_z (isSh_of g7)) rfl ?_
          refine s_iconst (v := (-1)) dX7_shift_60 (by decide) ?_
          refine s_icmp_eq (tgt := 77) dX7_shift_61 (by decide) (fun c11 => ?_) (fun c11 => ?_)
          · replace h := h.1 c11
            refine s_bipush (v := (-12)) dX7_shift_77 (by decide) ?_
            exact t_iret dX7_shift_79 (NR_i rfl _) h
          · replace h := h.2 c11
            refine s_aload dX7_shift_64 rfl ?_
            refine t_getI dX7_shift_66 fl_X7_90 (isSh_k (isSh_of g7)) (isSh_z (isSh_of g7)) rfl ?_
            refine s_aload dX7_shift_69 rfl ?_
            refine t_getI dX7_shift_71 fl_X7_90 (isSh_k (isSh_of g8)) (isSh_z (isSh_of g8)) rfl ?_
            refine s_icmp_eq (tgt := 80) dX7_shift_74 (by decide) (fun c12 => ?_) (fun c12 => ?_)
            · replace h := h.1 c12
              refine s_aload dX7_shift_80 rfl ?_
              refine s_iload_n dX7_shift_82 rfl rfl ?_
              refine s_iload dX7_shift_83 rfl ?_
              refine t_callV (M' := mX6_lacks) (k := 0) (As := [.int p1, .int p4]) (rest := []) dX7_shift_85 ml_X7_332 miX6_lacks msX6_lacks (isSh_k (isSh_of g7)) (isSh_z (isSh_of g7)) rfl rfl (Nat.le_of_ble_eq_true rfl) (Nat.le_of_ble_eq_true rfl) rfl h (fun rv t13 q => ?_)
              obtain ⟨v14, rfl, h⟩ := q
              show Rt g (d + 1) mX7_shift 88 [some (.ref 0), some (.int p0), some (.int p1), some (.int p2), some (.int p3), some (.int p4), some (.ref (45 + 2 * p0.toNatClampNeg)), some (.ref (45 + 2 * p2.toNatClampNeg))] [.int v14] t13 Q
              refine s_if_ne (tgt := 103) dX7_shift_88 (by decide) (fun c15 => ?_) (fun c15 => ?_)
              · replace h := h.1 c15
                refine s_bipush (v := (-13)) dX7_shift_103 (by decide) ?_
                exact t_iret dX7_shift_105 (NR_i rfl _) h
              · replace h := h.2 c15
                refine s_aload dX7_shift_91 rfl ?_
                refine s_iload dX7_shift_93 rfl ?_
                refine s_iload dX7_shift_95 rfl ?_
                refine t_callV (M' := mX6_lacks) (k := 0) (As := [.int p3, .int p4]) (rest := []) dX7_shift_97 ml_X7_332 miX6_lacks msX6_lacks (isSh_k (isSh_of g8)) (isSh_z (isSh_of g8)) rfl rfl (Nat.le_of_ble_eq_true rfl) (Nat.le_of_ble_eq_true rfl) rfl h (fun rv t16 q => ?_)
                obtain ⟨v17, rfl, h⟩ := q
                show Rt g (d + 1) mX7_shift 100 [some (.ref 0), some (.int p0), some (.int p1), some (.int p2), some (.int p3), some (.int p4), some (.ref (45 + 2 * p0.toNatClampNeg)), some (.ref (45 + 2 * p2.toNatClampNeg))] [.int v17] t16 Q
                refine s_if_eq (tgt := 106) dX7_shift_100 (by decide) (fun c18 => ?_) (fun c18 => ?_)
                · replace h := h.1 c18
                  refine s_aload dX7_shift_106 rfl ?_
                  refine t_getR dX7_shift_108 fl_X7_104 (isSh_k (isSh_of g7)) (isSh_z (isSh_of g7)) rfl (isSh_r3 _ (isSh_of g7)) ?_
                  refine s_iload_n dX7_shift_111 rfl rfl ?_
                  refine s_aload dX7_shift_112 rfl ?_
                  refine t_getR dX7_shift_114 fl_X7_104 (isSh_k (isSh_of g8)) (isSh_z (isSh_of g8)) rfl (isSh_r3 _ (isSh_of g8)) ?_
                  refine s_iload dX7_shift_117 rfl ?_
                  refine s_iload dX7_shift_119 rfl ?_
                  obtain ⟨g19, h⟩ := h
                  obtain ⟨g20, h⟩ := h
                  obtain ⟨g21, h⟩ := h
                  obtain ⟨g22, h⟩ := h
                  obtain ⟨g23, h⟩ := h
                  refine t_cpyJ dX7_shift_121 ac_X7_267 (isSh_k3 (isSh_of g7)) (isSh_z3 (isSh_of g7)) (isSh_k3 (isSh_of g8)) (isSh_z3 (isSh_of g8)) g19 g20 g21 g22 g23 (Nat.le_of_ble_eq_true rfl) ?_
                  refine s_iload dX7_shift_124 rfl ?_
                  exact t_iret dX7_shift_126 (NR_i rfl _) h
                · replace h := h.2 c18
                  refine s_bipush (v := (-13)) dX7_shift_103 (by decide) ?_
                  exact t_iret dX7_shift_105 (NR_i rfl _) h
            · replace h := h.2 c12
              refine s_bipush (v := (-12)) dX7_shift_77 (by decide) ?_
              exact t_iret dX7_shift_79 (NR_i rfl _) h
        · replace h := h.2 c10
          refine s_bipush (v := (-11)) dX7_shift_52 (by decide) ?_
          exact t_iret dX7_shift_54 (NR_i rfl _) h
    · replace h := h.2 c6
      refine s_iconst (v := (-1)) dX7_shift_14 (by decide) ?_
      exact t_iret dX7_shift_15 (NR_i rfl _) h
theorem bX7_taken_0 {g : Gt} {d : Nat} {t : Tt} {Q : Option Value → Tt → Prop} {p0 : Int32} {p1 : Int32} (h : Rt g d mX7_noShelf 0 [some (.int p0)] [] t (QI (fun v2 t1 => (¬ v2 = 0 → Q (some (.int (-1))) t1) ∧ (v2 = 0 → Rt g d mX7_outside 0 [some (.int p1), some (.int 7)] [] t1 (QI (fun v5 t4 => (v5 = 0 → vp_in p0 6 ∧ ((¬ (t4.1 (45 + 2 * p0.toNatClampNeg) 0) = (-2) → ((t4.1 (45 + 2 * p0.toNatClampNeg) 0) = (-1) → vp_in (t4.1 (45 + 2 * p0.toNatClampNeg) 2) 50 ∧ (∀ z11 : Int32, z11 = (t4.1 28 (t4.1 (45 + 2 * p0.toNatClampNeg) 2).toNatClampNeg) → Rt g d mX0_isUnder 0 [some (.int z11), some (.int p1), none, none] [] t4 (QI (fun v13 t12 => (v13 = 0 → Q (some (.int (-12))) t12) ∧ (¬ v13 = 0 → Q (some (.int z11)) t12))))) ∧ (¬ (t4.1 (45 + 2 * p0.toNatClampNeg) 0) = (-1) → Q (some (.int (-12))) t4)) ∧ ((t4.1 (45 + 2 * p0.toNatClampNeg) 0) = (-2) → Q (some (.int (-11))) t4))) ∧ (¬ v5 = 0 → Q (some (.int (-1))) t4))))))) : Rt g (d + 1) mX7_taken 0 [some (.ref 0), some (.int p0), some (.int p1), none, none] [] t Q := by
  refine s_iload_n dX7_taken_0 rfl rfl ?_
  refine t_callS (M' := mX7_noShelf) (k := 0) (As := [.int p0]) (rest := []) dX7_taken_1 ml_X7_86 mstX7_noShelf rfl (Nat.le_of_ble_eq_true rfl) (Nat.le_of_ble_eq_true rfl) rfl h (fun rv t1 q => ?_)
  obtain ⟨v2, rfl, h⟩ := q
  show Rt g (d + 1) mX7_taken 4 [some (.ref 0), some (.int p0), some (.int p1), none, none] [.int v2] t1 Q
  refine s_if_ne (tgt := 16) dX7_taken_4 (by decide) (fun c3 => ?_) (fun c3 => ?_)
  · replace h := h.1 c3
    refine s_iconst (v := (-1)) dX7_taken_16 (by decide) ?_
    exact t_iret dX7_taken_17 (NR_i rfl _) h
  · replace h := h.2 c3
    refine s_iload_n dX7_taken_7 rfl rfl ?_
    refine s_bipush (v := 7) dX7_taken_8 (by decide) ?_
    refine t_callS (M' := mX7_outside) (k := 0) (As := [.int p1, .int 7]) (rest := []) dX7_taken_10 ml_X7_71 mstX7_outside rfl (Nat.le_of_ble_eq_true rfl) (Nat.le_of_ble_eq_true rfl) rfl h (fun rv t4 q => ?_)
    obtain ⟨v5, rfl, h⟩ := q
    show Rt g (d + 1) mX7_taken 13 [some (.ref 0), some (.int p0), some (.int p1), none, none] [.int v5] t4 Q
    refine s_if_eq (tgt := 18) dX7_taken_13 (by decide) (fun c6 => ?_) (fun c6 => ?_)
    · replace h := h.1 c6
      refine s_aload_n dX7_taken_18 rfl rfl ?_
      refine t_getR (o' := 30) dX7_taken_19 fl_X7_45 rfl (by decide) rfl rfl ?_
      refine s_iload_n dX7_taken_22 rfl rfl ?_
      obtain ⟨g7, h⟩ := h
      refine t_aald dX7_taken_23 g7 rfl ?_
      refine s_astore_n dX7_taken_24 rfl (by decide) rfl (L9 := [some (.ref 0), some (.int p0), some (.int p1), some (.ref (45 + 2 * p0.toNatClampNeg)), none]) rfl ?_
      refine s_aload_n dX7_taken_25 rfl rfl ?_
      refine t_getI dX7_taken_26 fl_X7_90 (isSh_k (isSh_of g7)) (isSh_z (isSh_of g7)) rfl ?_
      refine s_bipush (v := (-2)) dX7_taken_29 (by decide) ?_
      refine s_icmp_ne (tgt := 37) dX7_taken_31 (by decide) (fun c8 => ?_) (fun c8 => ?_)
      · replace h := h.1 c8
        refine s_aload_n dX7_taken_37 rfl rfl ?_
        refine t_getI dX7_taken_38 fl_X7_90 (isSh_k (isSh_of g7)) (isSh_z (isSh_of g7)) rfl ?_
        refine s_iconst (v := (-1)) dX7_taken_41 (by decide) ?_
        refine s_icmp_eq (tgt := 48) dX7_taken_42 (by decide) (fun c9 => ?_) (fun c9 => ?_)
        · replace h := h.1 c9
          refine s_aload_n dX7_taken_48 rfl rfl ?_
          refine t_getR (o' := 27) dX7_taken_49 fl_X7_39 rfl (by decide) rfl rfl ?_
          refine t_getR (o' := 28) dX7_taken_52 fl_X7_335 rfl (by decide) rfl rfl ?_
          refine s_aload_n dX7_taken_55 rfl rfl ?_
          refine t_getI dX7_taken_56 fl_X7_314 (isSh_k (isSh_of g7)) (isSh_z (isSh_of g7)) rfl ?_
          obtain ⟨g10, h⟩ := h
          refine t_iald dX7_taken_59 rfl (by decide) g10 ?_
          refine t_nmI (fun z11 ez11 => ?_)
          replace h := h z11 ez11
          refine s_istore dX7_taken_60 (by decide) rfl (L9 := [some (.ref 0), some (.int p0), some (.int p1), some (.ref (45 + 2 * p0.toNatClampNeg)), some (.int z11)]) rfl ?_
          refine s_iload dX7_taken_62 rfl ?_
          refine s_iload_n dX7_taken_64 rfl rfl ?_
          refine t_callS (M' := mX0_isUnder) (k := 2) (As := [.int z11, .int p1]) (rest := []) dX7_taken_65 ml_X7_338 mstX0_isUnder rfl (Nat.le_of_ble_eq_true rfl) (Nat.le_of_ble_eq_true rfl) rfl h (fun rv t12 q => ?_)
          obtain ⟨v13, rfl, h⟩ := q
          show Rt g (d + 1) mX7_taken 68 [some (.ref 0), some (.int p0), some (.int p1), some (.ref (45 + 2 * p0.toNatClampNeg)), some (.int z11)] [.int v13] t12 Q
          refine s_if_eq (tgt := 76) dX7_taken_68 (by decide) (fun c14 => ?_) (fun c14 => ?_)
          · replace h := h.1 c14
            refine s_bipush (v := (-12)) dX7_taken_76 (by decide) ?_
            exact t_iret dX7_taken_78 (NR_i rfl _) h
          · replace h := h.2 c14
            refine s_iload dX7_taken_71 rfl ?_
            refine s_goto (tgt := 78) dX7_taken_73 (by decide) ?_
            exact t_iret dX7_taken_78 (NR_i rfl _) h
        · replace h := h.2 c9
          refine s_bipush (v := (-12)) dX7_taken_45 (by decide) ?_
          exact t_iret dX7_taken_47 (NR_i rfl _) h
      · replace h := h.2 c8
        refine s_bipush (v := (-11)) dX7_taken_34 (by decide) ?_
        exact t_iret dX7_taken_36 (NR_i rfl _) h
    · replace h := h.2 c6
      refine s_iconst (v := (-1)) dX7_taken_16 (by decide) ?_
      exact t_iret dX7_taken_17 (NR_i rfl _) h
theorem bX7_count_0 {g : Gt} {d : Nat} {t : Tt} {Q : Option Value → Tt → Prop} {p0 : Int32} (h : (p0 = 0 → Q (some (.int (t.1 1 0))) t) ∧ (¬ p0 = 0 → (p0 = 1 → Rt g d mX5_howManyGone 0 [some (.ref 1), none, none] [] t (QI (fun v4 t3 => Q (some (.int v4)) t3))) ∧ (¬ p0 = 1 → (p0 = 2 → Q (some (.int (t.1 33 1))) t) ∧ (¬ p0 = 2 → (p0 = 3 → Q (some (.int (t.1 22 0))) t) ∧ (¬ p0 = 3 → (p0 = 4 → Q (some (.int (t.1 27 0))) t) ∧ (¬ p0 = 4 → (p0 = 5 → Q (some (.int (t.1 27 2))) t) ∧ (¬ p0 = 5 → Q (some (.int (-1))) t))))))) : Rt g (d + 1) mX7_count 0 [some (.ref 0), some (.int p0)] [] t Q := by
  refine s_iload_n dX7_count_0 rfl rfl ?_
  by_cases c1 : p0 = 0
  · replace h := h.1 c1
    refine s_tin (off := 39) (tgt := 40) dX7_count_1 (by rw [c1]; decide) (by rw [c1]; decide) (by rw [c1]; rfl) (by decide) ?_
    refine s_aload_n dX7_count_40 rfl rfl ?_
    refine t_getR (o' := 1) dX7_count_41 fl_X7_10 rfl (by decide) rfl rfl ?_
    refine t_getI dX7_count_44 fl_X7_75 rfl (by decide) rfl ?_
    exact t_iret dX7_count_47 (NR_i rfl _) h
  · replace h := h.2 c1
    by_cases c2 : p0 = 1
    · replace h := h.1 c2
      refine s_tin (off := 47) (tgt := 48) dX7_count_1 (by rw [c2]; decide) (by rw [c2]; decide) (by rw [c2]; rfl) (by decide) ?_
      refine s_aload_n dX7_count_48 rfl rfl ?_
      refine t_getR (o' := 1) dX7_count_49 fl_X7_10 rfl (by decide) rfl rfl ?_
      refine t_callV (M' := mX5_howManyGone) (k := 2) (As := []) (rest := []) dX7_count_52 ml_X7_341 miX5_howManyGone msX5_howManyGone rfl (by decide) rfl rfl (Nat.le_of_ble_eq_true rfl) (Nat.le_of_ble_eq_true rfl) rfl h (fun rv t3 q => ?_)
      obtain ⟨v4, rfl, h⟩ := q
      show Rt g (d + 1) mX7_count 55 [some (.ref 0), some (.int p0)] [.int v4] t3 Q
      exact t_iret dX7_count_55 (NR_i rfl _) h
    · replace h := h.2 c2
      by_cases c5 : p0 = 2
      · replace h := h.1 c5
        refine s_tin (off := 55) (tgt := 56) dX7_count_1 (by rw [c5]; decide) (by rw [c5]; decide) (by rw [c5]; rfl) (by decide) ?_
        refine s_aload_n dX7_count_56 rfl rfl ?_
        refine t_getR (o' := 33) dX7_count_57 fl_X7_59 rfl (by decide) rfl rfl ?_
        refine t_getI dX7_count_60 fl_X7_151 rfl (by decide) rfl ?_
        exact t_iret dX7_count_63 (NR_i rfl _) h
      · replace h := h.2 c5
        by_cases c6 : p0 = 3
        · replace h := h.1 c6
          refine s_tin (off := 63) (tgt := 64) dX7_count_1 (by rw [c6]; decide) (by rw [c6]; decide) (by rw [c6]; rfl) (by decide) ?_
          refine s_aload_n dX7_count_64 rfl rfl ?_
          refine t_getR (o' := 22) dX7_count_65 fl_X7_32 rfl (by decide) rfl rfl ?_
          refine t_getI dX7_count_68 fl_X7_280 rfl (by decide) rfl ?_
          exact t_iret dX7_count_71 (NR_i rfl _) h
        · replace h := h.2 c6
          by_cases c7 : p0 = 4
          · replace h := h.1 c7
            refine s_tin (off := 71) (tgt := 72) dX7_count_1 (by rw [c7]; decide) (by rw [c7]; decide) (by rw [c7]; rfl) (by decide) ?_
            refine s_aload_n dX7_count_72 rfl rfl ?_
            refine t_getR (o' := 27) dX7_count_73 fl_X7_39 rfl (by decide) rfl rfl ?_
            refine t_getI dX7_count_76 fl_X7_311 rfl (by decide) rfl ?_
            exact t_iret dX7_count_79 (NR_i rfl _) h
          · replace h := h.2 c7
            by_cases c8 : p0 = 5
            · replace h := h.1 c8
              refine s_tin (off := 79) (tgt := 80) dX7_count_1 (by rw [c8]; decide) (by rw [c8]; decide) (by rw [c8]; rfl) (by decide) ?_
              refine s_aload_n dX7_count_80 rfl rfl ?_
              refine t_getR (o' := 27) dX7_count_81 fl_X7_39 rfl (by decide) rfl rfl ?_
              refine t_getI dX7_count_84 fl_X7_344 rfl (by decide) rfl ?_
              exact t_iret dX7_count_87 (NR_i rfl _) h
            · replace h := h.2 c8
              refine s_tout (tgt := 88) dX7_count_1 (by have q0 := lv_neT c1 (a := 0) rfl; have q1 := lv_neT c2 (a := 1) rfl; have q2 := lv_neT c5 (a := 2) rfl; have q3 := lv_neT c6 (a := 3) rfl; have q4 := lv_neT c7 (a := 4) rfl; have q5 := lv_neT c8 (a := 5) rfl; omega) (by decide) ?_
              refine s_iconst (v := (-1)) dX7_count_88 (by decide) ?_
              exact t_iret dX7_count_89 (NR_i rfl _) h
theorem bX7_outside_0 {g : Gt} {d : Nat} {t : Tt} {Q : Option Value → Tt → Prop} {p0 : Int32} {p1 : Int32} (h : (p0 < 0 → Rt g d mX7_outside 9 [none, none] [] t Q) ∧ (¬ p0 < 0 → (p0 ≤ p1 → Q (some (.int 0)) t) ∧ (¬ p0 ≤ p1 → Rt g d mX7_outside 9 [none, none] [] t Q))) : Rt g d mX7_outside 0 [some (.int p0), some (.int p1)] [] t Q := by
  refine s_iload_n dX7_outside_0 rfl rfl ?_
  refine s_if_lt (tgt := 9) dX7_outside_1 (by decide) (fun c1 => ?_) (fun c1 => ?_)
  · replace h := h.1 c1
    exact Rt.lc h (lc_none (lc_none lc_nil))
  · replace h := h.2 c1
    refine s_iload_n dX7_outside_4 rfl rfl ?_
    refine s_iload_n dX7_outside_5 rfl rfl ?_
    refine s_icmp_le (tgt := 13) dX7_outside_6 (by decide) (fun c2 => ?_) (fun c2 => ?_)
    · replace h := h.1 c2
      refine s_iconst (v := 0) dX7_outside_13 (by decide) ?_
      exact t_iret dX7_outside_14 (NR_z rfl (Or.inl rfl)) h
    · replace h := h.2 c2
      exact Rt.lc h (lc_none (lc_none lc_nil))
theorem bX7_outside_9 {g : Gt} {d : Nat} {t : Tt} {Q : Option Value → Tt → Prop} (h : Q (some (.int 1)) t) : Rt g d mX7_outside 9 [none, none] [] t Q := by
  refine s_iconst (v := 1) dX7_outside_9 (by decide) ?_
  refine s_goto (tgt := 14) dX7_outside_10 (by decide) ?_
  exact t_iret dX7_outside_14 (NR_z rfl (Or.inr rfl)) h
theorem bX7_noShelf_0 {g : Gt} {d : Nat} {t : Tt} {Q : Option Value → Tt → Prop} {p0 : Int32} (h : Rt g d mX7_outside 0 [some (.int p0), some (.int 5)] [] t (QI (fun v2 t1 => (v2 = 0 ∨ v2 = 1) ∧ Q (some (.int v2)) t1))) : Rt g (d + 1) mX7_noShelf 0 [some (.int p0)] [] t Q := by
  refine s_iload_n dX7_noShelf_0 rfl rfl ?_
  refine s_iconst (v := 5) dX7_noShelf_1 (by decide) ?_
  refine t_callS (M' := mX7_outside) (k := 0) (As := [.int p0, .int 5]) (rest := []) dX7_noShelf_2 ml_X7_71 mstX7_outside rfl (Nat.le_of_ble_eq_true rfl) (Nat.le_of_ble_eq_true rfl) rfl h (fun rv t1 q => ?_)
  obtain ⟨v2, rfl, h⟩ := q
  show Rt g (d + 1) mX7_noShelf 5 [some (.int p0)] [.int v2] t1 Q
  exact t_iret dX7_noShelf_5 (NR_z rfl h.1) h.2
theorem bX7_noClaim_0 {g : Gt} {d : Nat} {t : Tt} {Q : Option Value → Tt → Prop} {p0 : Int32} (h : (p0 < 0 → Rt g (d + 1) mX7_noClaim 24 [none] [] t Q) ∧ (¬ p0 < 0 → Rt g d mX7_outside 0 [some (.int (p0 / 10)), some (.int 9)] [] t (QI (fun v3 t2 => (¬ v3 = 0 → Rt g (d + 1) mX7_noClaim 24 [none] [] t2 Q) ∧ (v3 = 0 → ((jr p0 10) ≤ 1 → Q (some (.int 0)) t2) ∧ (¬ (jr p0 10) ≤ 1 → Rt g (d + 1) mX7_noClaim 24 [none] [] t2 Q)))))) : Rt g (d + 1) mX7_noClaim 0 [some (.int p0)] [] t Q := by
  refine s_iload_n dX7_noClaim_0 rfl rfl ?_
  refine s_if_lt (tgt := 24) dX7_noClaim_1 (by decide) (fun c1 => ?_) (fun c1 => ?_)
  · replace h := h.1 c1
    exact Rt.lc h (lc_none lc_nil)
  · replace h := h.2 c1
    refine s_iload_n dX7_noClaim_4 rfl rfl ?_
    refine s_bipush (v := 10) dX7_noClaim_5 (by decide) ?_
    refine s_idiv dX7_noClaim_7 (by decide) ?_
    refine s_bipush (v := 9) dX7_noClaim_8 (by decide) ?_
    refine t_callS (M' := mX7_outside) (k := 0) (As := [.int (p0 / 10), .int 9]) (rest := []) dX7_noClaim_10 ml_X7_71 mstX7_outside rfl (Nat.le_of_ble_eq_true rfl) (Nat.le_of_ble_eq_true rfl) rfl h (fun rv t2 q => ?_)
    obtain ⟨v3, rfl, h⟩ := q
    show Rt g (d + 1) mX7_noClaim 13 [some (.int p0)] [.int v3] t2 Q
    refine s_if_ne (tgt := 24) dX7_noClaim_13 (by decide) (fun c4 => ?_) (fun c4 => ?_)
    · replace h := h.1 c4
      exact Rt.lc h (lc_none lc_nil)
    · replace h := h.2 c4
      refine s_iload_n dX7_noClaim_16 rfl rfl ?_
      refine s_bipush (v := 10) dX7_noClaim_17 (by decide) ?_
      refine s_irem dX7_noClaim_19 (by decide) ?_
      refine s_iconst (v := 1) dX7_noClaim_20 (by decide) ?_
      refine s_icmp_le (tgt := 28) dX7_noClaim_21 (by decide) (fun c5 => ?_) (fun c5 => ?_)
      · replace h := h.1 c5
        refine s_iconst (v := 0) dX7_noClaim_28 (by decide) ?_
        exact t_iret dX7_noClaim_29 (NR_z rfl (Or.inl rfl)) h
      · replace h := h.2 c5
        exact Rt.lc h (lc_none lc_nil)
theorem bX7_noClaim_24 {g : Gt} {d : Nat} {t : Tt} {Q : Option Value → Tt → Prop} (h : Q (some (.int 1)) t) : Rt g (d + 1) mX7_noClaim 24 [none] [] t Q := by
  refine s_iconst (v := 1) dX7_noClaim_24 (by decide) ?_
  refine s_goto (tgt := 29) dX7_noClaim_25 (by decide) ?_
  exact t_iret dX7_noClaim_29 (NR_z rfl (Or.inr rfl)) h
theorem bX7_nobody_0 {g : Gt} {d : Nat} {t : Tt} {Q : Option Value → Tt → Prop} {p0 : Int32} (h : Rt g d mX7_outside 0 [some (.int p0), some (.int ((t.1 1 0) - 1))] [] t (QI (fun v2 t1 => (v2 = 0 ∨ v2 = 1) ∧ Q (some (.int v2)) t1))) : Rt g (d + 1) mX7_nobody 0 [some (.ref 0), some (.int p0)] [] t Q := by
  refine s_iload_n dX7_nobody_0 rfl rfl ?_
  refine s_aload_n dX7_nobody_1 rfl rfl ?_
  refine t_getR (o' := 1) dX7_nobody_2 fl_X7_10 rfl (by decide) rfl rfl ?_
  refine t_getI dX7_nobody_5 fl_X7_75 rfl (by decide) rfl ?_
  refine s_iconst (v := 1) dX7_nobody_8 (by decide) ?_
  refine s_isub dX7_nobody_9 ?_
  refine t_callS (M' := mX7_outside) (k := 0) (As := [.int p0, .int ((t.1 1 0) - 1)]) (rest := []) dX7_nobody_10 ml_X7_71 mstX7_outside rfl (Nat.le_of_ble_eq_true rfl) (Nat.le_of_ble_eq_true rfl) rfl h (fun rv t1 q => ?_)
  obtain ⟨v2, rfl, h⟩ := q
  show Rt g (d + 1) mX7_nobody 13 [some (.ref 0), some (.int p0)] [.int v2] t1 Q
  exact t_iret dX7_nobody_13 (NR_z rfl h.1) h.2
theorem bX7_noTooth_0 {g : Gt} {d : Nat} {t : Tt} {Q : Option Value → Tt → Prop} {p0 : Int32} (h : (p0 < 0 → Rt g (d + 1) mX7_noTooth 24 [none, none] [] t Q) ∧ (¬ p0 < 0 → Rt g d mX7_nobody 0 [some (.ref 0), some (.int (p0 / 10))] [] t (QI (fun v3 t2 => (¬ v3 = 0 → Rt g (d + 1) mX7_noTooth 24 [none, none] [] t2 Q) ∧ (v3 = 0 → ((jr p0 10) < 8 → Q (some (.int 0)) t2) ∧ (¬ (jr p0 10) < 8 → Rt g (d + 1) mX7_noTooth 24 [none, none] [] t2 Q)))))) : Rt g (d + 1) mX7_noTooth 0 [some (.ref 0), some (.int p0)] [] t Q := by
  refine s_iload_n dX7_noTooth_0 rfl rfl ?_
  refine s_if_lt (tgt := 24) dX7_noTooth_1 (by decide) (fun c1 => ?_) (fun c1 => ?_)
  · replace h := h.1 c1
    exact Rt.lc h (lc_none (lc_none lc_nil))
  · replace h := h.2 c1
    refine s_aload_n dX7_noTooth_4 rfl rfl ?_
    refine s_iload_n dX7_noTooth_5 rfl rfl ?_
    refine s_bipush (v := 10) dX7_noTooth_6 (by decide) ?_
    refine s_idiv dX7_noTooth_8 (by decide) ?_
    refine t_callV (M' := mX7_nobody) (k := 0) (As := [.int (p0 / 10)]) (rest := []) dX7_noTooth_9 ml_X7_126 miX7_nobody msX7_nobody rfl (by decide) rfl rfl (Nat.le_of_ble_eq_true rfl) (Nat.le_of_ble_eq_true rfl) rfl h (fun rv t2 q => ?_)
    obtain ⟨v3, rfl, h⟩ := q
    show Rt g (d + 1) mX7_noTooth 12 [some (.ref 0), some (.int p0)] [.int v3] t2 Q
    refine s_if_ne (tgt := 24) dX7_noTooth_12 (by decide) (fun c4 => ?_) (fun c4 => ?_)
    · replace h := h.1 c4
      exact Rt.lc h (lc_none (lc_none lc_nil))
    · replace h := h.2 c4
      refine s_iload_n dX7_noTooth_15 rfl rfl ?_
      refine s_bipush (v := 10) dX7_noTooth_16 (by decide) ?_
      refine s_irem dX7_noTooth_18 (by decide) ?_
      refine s_bipush (v := 8) dX7_noTooth_19 (by decide) ?_
      refine s_icmp_lt (tgt := 28) dX7_noTooth_21 (by decide) (fun c5 => ?_) (fun c5 => ?_)
      · replace h := h.1 c5
        refine s_iconst (v := 0) dX7_noTooth_28 (by decide) ?_
        exact t_iret dX7_noTooth_29 (NR_z rfl (Or.inl rfl)) h
      · replace h := h.2 c5
        exact Rt.lc h (lc_none (lc_none lc_nil))
theorem bX7_noTooth_24 {g : Gt} {d : Nat} {t : Tt} {Q : Option Value → Tt → Prop} (h : Q (some (.int 1)) t) : Rt g (d + 1) mX7_noTooth 24 [none, none] [] t Q := by
  refine s_iconst (v := 1) dX7_noTooth_24 (by decide) ?_
  refine s_goto (tgt := 29) dX7_noTooth_25 (by decide) ?_
  exact t_iret dX7_noTooth_29 (NR_z rfl (Or.inr rfl)) h
theorem bX7_isLie_0 {g : Gt} {d : Nat} {t : Tt} {Q : Option Value → Tt → Prop} {p0 : Int32} {p1 : Int32} {p2 : Int32} (h : (((jsr p0 p1) &&& 1) = p2 → Q (some (.int 0)) t) ∧ (¬ ((jsr p0 p1) &&& 1) = p2 → Q (some (.int 1)) t)) : Rt g d mX7_isLie 0 [some (.int p0), some (.int p1), some (.int p2)] [] t Q := by
  refine s_iload_n dX7_isLie_0 rfl rfl ?_
  refine s_iload_n dX7_isLie_1 rfl rfl ?_
  refine s_ishr dX7_isLie_2 ?_
  refine s_iconst (v := 1) dX7_isLie_3 (by decide) ?_
  refine s_iand dX7_isLie_4 ?_
  refine s_iload_n dX7_isLie_5 rfl rfl ?_
  refine s_icmp_eq (tgt := 13) dX7_isLie_6 (by decide) (fun c1 => ?_) (fun c1 => ?_)
  · replace h := h.1 c1
    refine s_iconst (v := 0) dX7_isLie_13 (by decide) ?_
    exact t_iret dX7_isLie_14 (NR_z rfl (Or.inl rfl)) h
  · replace h := h.2 c1
    refine s_iconst (v := 1) dX7_isLie_9 (by decide) ?_
    refine s_goto (tgt := 14) dX7_isLie_10 (by decide) ?_
    exact t_iret dX7_isLie_14 (NR_z rfl (Or.inr rfl)) h
theorem bX7_refusalOfBytes_0 {g : Gt} {d : Nat} {t : Tt} {Q : Option Value → Tt → Prop} {p0 : Int32} (h : vp_in p0 6 ∧ (∀ z2 : Int32, z2 = (t.1 (45 + 2 * p0.toNatClampNeg) 0) → (¬ z2 = (-2) → (¬ z2 = 0 → Q (some (.int (-12))) t) ∧ (z2 = 0 → Q (some (.int 0)) t)) ∧ (z2 = (-2) → Q (some (.int (-11))) t))) : Rt g d mX7_refusalOfBytes 0 [some (.ref 0), some (.int p0), none] [] t Q := by
  refine s_aload_n dX7_refusalOfBytes_0 rfl rfl ?_
  refine t_getR (o' := 30) dX7_refusalOfBytes_1 fl_X7_45 rfl (by decide) rfl rfl ?_
  refine s_iload_n dX7_refusalOfBytes_4 rfl rfl ?_
  obtain ⟨g1, h⟩ := h
  refine t_aald dX7_refusalOfBytes_5 g1 rfl ?_
  refine t_getI dX7_refusalOfBytes_6 fl_X7_90 (isSh_k (isSh_of g1)) (isSh_z (isSh_of g1)) rfl ?_
  refine t_nmI (fun z2 ez2 => ?_)
  replace h := h z2 ez2
  refine s_istore_n dX7_refusalOfBytes_9 rfl (by decide) rfl (L9 := [some (.ref 0), some (.int p0), some (.int z2)]) rfl ?_
  refine s_iload_n dX7_refusalOfBytes_10 rfl rfl ?_
  refine s_bipush (v := (-2)) dX7_refusalOfBytes_11 (by decide) ?_
  refine s_icmp_ne (tgt := 19) dX7_refusalOfBytes_13 (by decide) (fun c3 => ?_) (fun c3 => ?_)
  · replace h := h.1 c3
    refine s_iload_n dX7_refusalOfBytes_19 rfl rfl ?_
    refine s_if_ne (tgt := 27) dX7_refusalOfBytes_20 (by decide) (fun c4 => ?_) (fun c4 => ?_)
    · replace h := h.1 c4
      refine s_bipush (v := (-12)) dX7_refusalOfBytes_27 (by decide) ?_
      exact t_iret dX7_refusalOfBytes_29 (NR_i rfl _) h
    · replace h := h.2 c4
      refine s_iconst (v := 0) dX7_refusalOfBytes_23 (by decide) ?_
      refine s_goto (tgt := 29) dX7_refusalOfBytes_24 (by decide) ?_
      exact t_iret dX7_refusalOfBytes_29 (NR_i rfl _) h
  · replace h := h.2 c3
    refine s_bipush (v := (-11)) dX7_refusalOfBytes_16 (by decide) ?_
    exact t_iret dX7_refusalOfBytes_18 (NR_i rfl _) h
theorem bX7_refusalOfMirror_0 {g : Gt} {d : Nat} {t : Tt} {Q : Option Value → Tt → Prop} {p0 : Int32} (h : Rt g d mX7_refusalOfBytes 0 [some (.ref 0), some (.int p0), none] [] t (QI (fun v2 t1 => (¬ v2 = 0 → Q (some (.int v2)) t1) ∧ (v2 = 0 → vp_in p0 6 ∧ (((t1.1 (45 + 2 * p0.toNatClampNeg) 1) = 8 → Q (some (.int v2)) t1) ∧ (¬ (t1.1 (45 + 2 * p0.toNatClampNeg) 1) = 8 → Q (some (.int (-2))) t1)))))) : Rt g (d + 1) mX7_refusalOfMirror 0 [some (.ref 0), some (.int p0), none] [] t Q := by
  refine s_aload_n dX7_refusalOfMirror_0 rfl rfl ?_
  refine s_iload_n dX7_refusalOfMirror_1 rfl rfl ?_
  refine t_callV (M' := mX7_refusalOfBytes) (k := 1) (As := [.int p0]) (rest := []) dX7_refusalOfMirror_2 ml_X7_162 miX7_refusalOfBytes msX7_refusalOfBytes rfl (by decide) rfl rfl (Nat.le_of_ble_eq_true rfl) (Nat.le_of_ble_eq_true rfl) rfl h (fun rv t1 q => ?_)
  obtain ⟨v2, rfl, h⟩ := q
  show Rt g (d + 1) mX7_refusalOfMirror 5 [some (.ref 0), some (.int p0), none] [.int v2] t1 Q
  refine s_istore_n dX7_refusalOfMirror_5 rfl (by decide) rfl (L9 := [some (.ref 0), some (.int p0), some (.int v2)]) rfl ?_
  refine s_iload_n dX7_refusalOfMirror_6 rfl rfl ?_
  refine s_if_ne (tgt := 29) dX7_refusalOfMirror_7 (by decide) (fun c3 => ?_) (fun c3 => ?_)
  · replace h := h.1 c3
    refine s_iload_n dX7_refusalOfMirror_29 rfl rfl ?_
    exact t_iret dX7_refusalOfMirror_30 (NR_i rfl _) h
  · replace h := h.2 c3
    refine s_aload_n dX7_refusalOfMirror_10 rfl rfl ?_
    refine t_getR (o' := 30) dX7_refusalOfMirror_11 fl_X7_45 rfl (by decide) rfl rfl ?_
    refine s_iload_n dX7_refusalOfMirror_14 rfl rfl ?_
    obtain ⟨g4, h⟩ := h
    refine t_aald dX7_refusalOfMirror_15 g4 rfl ?_
    refine t_getI dX7_refusalOfMirror_16 fl_X7_101 (isSh_k (isSh_of g4)) (isSh_z (isSh_of g4)) rfl ?_
    refine s_bipush (v := 8) dX7_refusalOfMirror_19 (by decide) ?_
    refine s_icmp_eq (tgt := 29) dX7_refusalOfMirror_21 (by decide) (fun c5 => ?_) (fun c5 => ?_)
    · replace h := h.1 c5
      refine s_iload_n dX7_refusalOfMirror_29 rfl rfl ?_
      exact t_iret dX7_refusalOfMirror_30 (NR_i rfl _) h
    · replace h := h.2 c5
      refine s_bipush (v := (-2)) dX7_refusalOfMirror_24 (by decide) ?_
      refine s_goto (tgt := 30) dX7_refusalOfMirror_26 (by decide) ?_
      exact t_iret dX7_refusalOfMirror_30 (NR_i rfl _) h
theorem bX7_refusalOfPlace_0 {g : Gt} {d : Nat} {t : Tt} {Q : Option Value → Tt → Prop} {p0 : Int32} {p1 : Int32} (h : Rt g d mX7_noShelf 0 [some (.int p0)] [] t (QI (fun v2 t1 => (v2 = 0 → vp_in p0 6 ∧ (∀ z5 : Int32, z5 = (t1.1 (45 + 2 * p0.toNatClampNeg) 0) → (¬ z5 = (-2) → (¬ z5 = (-1) → vp_in p0 6 ∧ (Rt g d mX7_outside 0 [some (.int p1), some (.int ((t1.1 (45 + 2 * p0.toNatClampNeg) 1) - 1))] [] t1 (QI (fun v10 t9 => (v10 = 0 → Q (some (.int 0)) t9) ∧ (¬ v10 = 0 → Q (some (.int (-13))) t9))))) ∧ (z5 = (-1) → Q (some (.int (-12))) t1)) ∧ (z5 = (-2) → Q (some (.int (-11))) t1))) ∧ (¬ v2 = 0 → Q (some (.int (-1))) t1)))) : Rt g (d + 1) mX7_refusalOfPlace 0 [some (.ref 0), some (.int p0), some (.int p1), none] [] t Q := by
  refine s_iload_n dX7_refusalOfPlace_0 rfl rfl ?_
  refine t_callS (M' := mX7_noShelf) (k := 0) (As := [.int p0]) (rest := []) dX7_refusalOfPlace_1 ml_X7_86 mstX7_noShelf rfl (Nat.le_of_ble_eq_true rfl) (Nat.le_of_ble_eq_true rfl) rfl h (fun rv t1 q => ?_)
  obtain ⟨v2, rfl, h⟩ := q
  show Rt g (d + 1) mX7_refusalOfPlace 4 [some (.ref 0), some (.int p0), some (.int p1), none] [.int v2] t1 Q
  refine s_if_eq (tgt := 9) dX7_refusalOfPlace_4 (by decide) (fun c3 => ?_) (fun c3 => ?_)
  · replace h := h.1 c3
    refine s_aload_n dX7_refusalOfPlace_9 rfl rfl ?_
    refine t_getR (o' := 30) dX7_refusalOfPlace_10 fl_X7_45 rfl (by decide) rfl rfl ?_
    refine s_iload_n dX7_refusalOfPlace_13 rfl rfl ?_
    obtain ⟨g4, h⟩ := h
    refine t_aald dX7_refusalOfPlace_14 g4 rfl ?_
    refine t_getI dX7_refusalOfPlace_15 fl_X7_90 (isSh_k (isSh_of g4)) (isSh_z (isSh_of g4)) rfl ?_
    refine t_nmI (fun z5 ez5 => ?_)
    replace h := h z5 ez5
    refine s_istore_n dX7_refusalOfPlace_18 rfl (by decide) rfl (L9 := [some (.ref 0), some (.int p0), some (.int p1), some (.int z5)]) rfl ?_
    refine s_iload_n dX7_refusalOfPlace_19 rfl rfl ?_
    refine s_bipush (v := (-2)) dX7_refusalOfPlace_20 (by decide) ?_
    refine s_icmp_ne (tgt := 28) dX7_refusalOfPlace_22 (by decide) (fun c6 => ?_) (fun c6 => ?_)
    · replace h := h.1 c6
      refine s_iload_n dX7_refusalOfPlace_28 rfl rfl ?_
      refine s_iconst (v := (-1)) dX7_refusalOfPlace_29 (by decide) ?_
      refine s_icmp_ne (tgt := 36) dX7_refusalOfPlace_30 (by decide) (fun c7 => ?_) (fun c7 => ?_)
      · replace h := h.1 c7
        refine s_iload_n dX7_refusalOfPlace_36 rfl rfl ?_
        refine s_aload_n dX7_refusalOfPlace_37 rfl rfl ?_
        refine t_getR (o' := 30) dX7_refusalOfPlace_38 fl_X7_45 rfl (by decide) rfl rfl ?_
        refine s_iload_n dX7_refusalOfPlace_41 rfl rfl ?_
        obtain ⟨g8, h⟩ := h
        refine t_aald dX7_refusalOfPlace_42 g8 rfl ?_
        refine t_getI dX7_refusalOfPlace_43 fl_X7_101 (isSh_k (isSh_of g8)) (isSh_z (isSh_of g8)) rfl ?_
        refine s_iconst (v := 1) dX7_refusalOfPlace_46 (by decide) ?_
        refine s_isub dX7_refusalOfPlace_47 ?_
        refine t_callS (M' := mX7_outside) (k := 0) (As := [.int p1, .int ((t1.1 (45 + 2 * p0.toNatClampNeg) 1) - 1)]) (rest := []) dX7_refusalOfPlace_48 ml_X7_71 mstX7_outside rfl (Nat.le_of_ble_eq_true rfl) (Nat.le_of_ble_eq_true rfl) rfl h (fun rv t9 q => ?_)
        obtain ⟨v10, rfl, h⟩ := q
        show Rt g (d + 1) mX7_refusalOfPlace 51 [some (.ref 0), some (.int p0), some (.int p1), some (.int z5)] [.int v10] t9 Q
        refine s_if_eq (tgt := 59) dX7_refusalOfPlace_51 (by decide) (fun c11 => ?_) (fun c11 => ?_)
        · replace h := h.1 c11
          refine s_iconst (v := 0) dX7_refusalOfPlace_59 (by decide) ?_
          exact t_iret dX7_refusalOfPlace_60 (NR_i rfl _) h
        · replace h := h.2 c11
          refine s_bipush (v := (-13)) dX7_refusalOfPlace_54 (by decide) ?_
          refine s_goto (tgt := 60) dX7_refusalOfPlace_56 (by decide) ?_
          exact t_iret dX7_refusalOfPlace_60 (NR_i rfl _) h
      · replace h := h.2 c7
        refine s_bipush (v := (-12)) dX7_refusalOfPlace_33 (by decide) ?_
        exact t_iret dX7_refusalOfPlace_35 (NR_i rfl _) h
    · replace h := h.2 c6
      refine s_bipush (v := (-11)) dX7_refusalOfPlace_25 (by decide) ?_
      exact t_iret dX7_refusalOfPlace_27 (NR_i rfl _) h
  · replace h := h.2 c3
    refine s_iconst (v := (-1)) dX7_refusalOfPlace_7 (by decide) ?_
    exact t_iret dX7_refusalOfPlace_8 (NR_i rfl _) h
theorem bX7_hear_0 {g : Gt} {d : Nat} {t : Tt} {Q : Option Value → Tt → Prop} {p0 : Int32} (h : vp_in p0 6 ∧ (Rt g d mX2_summon 0 [some (.ref 13), some (.ref (45 + 2 * p0.toNatClampNeg)), some (.int (t.1 1 0)), none, none, none, none, none, none, none, none, none, none, none] [] t (QV (fun t2 => isLw t2.2.2.1 ∧ Rt g d mX2_hold 0 [some (.ref 13), some (.ref 1), some (.ref t2.2.2.1), some (.int (t2.1 0 11)), some (.int 0), none] [] t2 (QV (fun t4 => Q none t4)))))) : Rt g (d + 1) mX7_hear 0 [some (.ref 0), some (.int p0)] [] t Q := by
  refine s_aload_n dX7_hear_0 rfl rfl ?_
  refine t_getR (o' := 13) dX7_hear_1 fl_X7_25 rfl (by decide) rfl rfl ?_
  refine s_aload_n dX7_hear_4 rfl rfl ?_
  refine t_getR (o' := 30) dX7_hear_5 fl_X7_45 rfl (by decide) rfl rfl ?_
  refine s_iload_n dX7_hear_8 rfl rfl ?_
  obtain ⟨g1, h⟩ := h
  refine t_aald dX7_hear_9 g1 rfl ?_
  refine s_aload_n dX7_hear_10 rfl rfl ?_
  refine t_getR (o' := 1) dX7_hear_11 fl_X7_10 rfl (by decide) rfl rfl ?_
  refine t_getI dX7_hear_14 fl_X7_75 rfl (by decide) rfl ?_
  refine t_callV (M' := mX2_summon) (k := 11) (As := [.ref (45 + 2 * p0.toNatClampNeg), .int (t.1 1 0)]) (rest := []) dX7_hear_17 ml_X7_232 miX2_summon msX2_summon rfl (by decide) rfl rfl (Nat.le_of_ble_eq_true rfl) (Nat.le_of_ble_eq_true rfl) rfl h (fun rv t2 q => ?_)
  obtain ⟨rfl, h⟩ := q
  show Rt g (d + 1) mX7_hear 20 [some (.ref 0), some (.int p0)] [] t2 Q
  refine s_aload_n dX7_hear_20 rfl rfl ?_
  refine t_getR (o' := 13) dX7_hear_21 fl_X7_25 rfl (by decide) rfl rfl ?_
  refine s_aload_n dX7_hear_24 rfl rfl ?_
  refine t_getR (o' := 1) dX7_hear_25 fl_X7_10 rfl (by decide) rfl rfl ?_
  refine s_aload_n dX7_hear_28 rfl rfl ?_
  obtain ⟨g3, h⟩ := h
  refine t_getR dX7_hear_29 fl_X7_66 rfl (by decide) rfl rfl ?_
  refine s_aload_n dX7_hear_32 rfl rfl ?_
  refine t_getI dX7_hear_33 fl_X7_132 rfl (by decide) rfl ?_
  refine s_iconst (v := 0) dX7_hear_36 (by decide) ?_
  refine t_callV (M' := mX2_hold) (k := 1) (As := [.ref 1, .ref t2.2.2.1, .int (t2.1 0 11), .int 0]) (rest := []) dX7_hear_37 ml_X7_238 miX2_hold msX2_hold rfl (by decide) rfl rfl (Nat.le_of_ble_eq_true rfl) (Nat.le_of_ble_eq_true rfl) rfl h (fun rv t4 q => ?_)
  obtain ⟨rfl, h⟩ := q
  show Rt g (d + 1) mX7_hear 40 [some (.ref 0), some (.int p0)] [] t4 Q
  exact t_vret dX7_hear_40 rfl h
theorem bJ6_bitCount_0f7a4_0 {g : Gt} {d : Nat} {t : Tt} {Q : Option Value → Tt → Prop} {p0 : Int32} (h : ∀ z1 : Int32, z1 = (p0 - ((jus p0 1) &&& 1431655765)) → ∀ z2 : Int32, z2 = ((z1 &&& 858993459) + ((jus z1 2) &&& 858993459)) → ∀ z3 : Int32, z3 = ((z2 + (jus z2 4)) &&& 252645135) → ∀ z4 : Int32, z4 = (z3 + (jus z3 8)) → ∀ z5 : Int32, z5 = (z4 + (jus z4 16)) → Q (some (.int (z5 &&& 63))) t) : Rt g d mJ6_bitCount_0f7a4 0 [some (.int p0)] [] t Q := by
  refine s_iload_n dJ6_bitCount_0f7a4_0 rfl rfl ?_
  refine s_iload_n dJ6_bitCount_0f7a4_1 rfl rfl ?_
  refine s_iconst (v := 1) dJ6_bitCount_0f7a4_2 (by decide) ?_
  refine s_iushr dJ6_bitCount_0f7a4_3 ?_
  refine s_ldcw (v := 1431655765) dJ6_bitCount_0f7a4_4 ct_J6_265 ?_
  refine s_iand dJ6_bitCount_0f7a4_7 ?_
  refine s_isub dJ6_bitCount_0f7a4_8 ?_
  refine t_nmI (fun z1 ez1 => ?_)
  replace h := h z1 ez1
  refine s_istore_n dJ6_bitCount_0f7a4_9 rfl (by decide) rfl (L9 := [some (.int z1)]) rfl ?_
  refine s_iload_n dJ6_bitCount_0f7a4_10 rfl rfl ?_
  refine s_ldcw (v := 858993459) dJ6_bitCount_0f7a4_11 ct_J6_266 ?_
  refine s_iand dJ6_bitCount_0f7a4_14 ?_
  refine s_iload_n dJ6_bitCount_0f7a4_15 rfl rfl ?_
  refine s_iconst (v := 2) dJ6_bitCount_0f7a4_16 (by decide) ?_
  refine s_iushr dJ6_bitCount_0f7a4_17 ?_
  refine s_ldcw (v := 858993459) dJ6_bitCount_0f7a4_18 ct_J6_266 ?_
  refine s_iand dJ6_bitCount_0f7a4_21 ?_
  refine s_iadd dJ6_bitCount_0f7a4_22 ?_
  refine t_nmI (fun z2 ez2 => ?_)
  replace h := h z2 ez2
  refine s_istore_n dJ6_bitCount_0f7a4_23 rfl (by decide) rfl (L9 := [some (.int z2)]) rfl ?_
  refine s_iload_n dJ6_bitCount_0f7a4_24 rfl rfl ?_
  refine s_iload_n dJ6_bitCount_0f7a4_25 rfl rfl ?_
  refine s_iconst (v := 4) dJ6_bitCount_0f7a4_26 (by decide) ?_
  refine s_iushr dJ6_bitCount_0f7a4_27 ?_
  refine s_iadd dJ6_bitCount_0f7a4_28 ?_
  refine s_ldcw (v := 252645135) dJ6_bitCount_0f7a4_29 ct_J6_267 ?_
  refine s_iand dJ6_bitCount_0f7a4_32 ?_
  refine t_nmI (fun z3 ez3 => ?_)
  replace h := h z3 ez3
  refine s_istore_n dJ6_bitCount_0f7a4_33 rfl (by decide) rfl (L9 := [some (.int z3)]) rfl ?_
  refine s_iload_n dJ6_bitCount_0f7a4_34 rfl rfl ?_
  refine s_iload_n dJ6_bitCount_0f7a4_35 rfl rfl ?_
  refine s_bipush (v := 8) dJ6_bitCount_0f7a4_36 (by decide) ?_
  refine s_iushr dJ6_bitCount_0f7a4_38 ?_
  refine s_iadd dJ6_bitCount_0f7a4_39 ?_
  refine t_nmI (fun z4 ez4 => ?_)
  replace h := h z4 ez4
  refine s_istore_n dJ6_bitCount_0f7a4_40 rfl (by decide) rfl (L9 := [some (.int z4)]) rfl ?_
  refine s_iload_n dJ6_bitCount_0f7a4_41 rfl rfl ?_
  refine s_iload_n dJ6_bitCount_0f7a4_42 rfl rfl ?_
  refine s_bipush (v := 16) dJ6_bitCount_0f7a4_43 (by decide) ?_
  refine s_iushr dJ6_bitCount_0f7a4_45 ?_
  refine s_iadd dJ6_bitCount_0f7a4_46 ?_
  refine t_nmI (fun z5 ez5 => ?_)
  replace h := h z5 ez5
  refine s_istore_n dJ6_bitCount_0f7a4_47 rfl (by decide) rfl (L9 := [some (.int z5)]) rfl ?_
  refine s_iload_n dJ6_bitCount_0f7a4_48 rfl rfl ?_
  refine s_bipush (v := 63) dJ6_bitCount_0f7a4_49 (by decide) ?_
  refine s_iand dJ6_bitCount_0f7a4_51 ?_
  exact t_iret dJ6_bitCount_0f7a4_52 (NR_i rfl _) h
theorem bJ0_length_8abf5_0 {g : Gt} {d : Nat} {t : Tt} {Q : Option Value → Tt → Prop} (h : Rt g d mJ0_coder_7d493 0 [some (.ref 1003)] [] t (QI (fun v2 t1 => Q (some (.int (jsr 6 v2))) t1))) : Rt g (d + 1) mJ0_length_8abf5 0 [some (.ref 1003)] [] t Q := by
  refine s_aload_n dJ0_length_8abf5_0 rfl rfl ?_
  refine s_strV dJ0_length_8abf5_1 sf_J0_9 ?_
  refine s_tabNl dJ0_length_8abf5_4 ?_
  refine s_aload_n dJ0_length_8abf5_5 rfl rfl ?_
  refine t_callStr (M' := mJ0_coder_7d493) (k := 0) (As := []) (rest := [.int 6]) dJ0_length_8abf5_6 ml_J0_335 miJ0_coder_7d493 msJ0_coder_7d493 rfl rfl (Nat.le_of_ble_eq_true rfl) (Nat.le_of_ble_eq_true rfl) rfl h (fun rv t1 q => ?_)
  obtain ⟨v2, rfl, h⟩ := q
  show Rt g (d + 1) mJ0_length_8abf5 9 [some (.ref 1003)] [.int v2, .int 6] t1 Q
  refine s_ishr dJ0_length_8abf5_9 ?_
  exact t_iret dJ0_length_8abf5_10 (NR_i rfl _) h
theorem bJ0_indexOf_0f7a4_0 {g : Gt} {d : Nat} {t : Tt} {Q : Option Value → Tt → Prop} {p0 : Int32} (h : Rt g d mJ0_indexOf_7cf53 0 [some (.ref 1003), some (.int p0), some (.int 0)] [] t (QI (fun v2 t1 => Q (some (.int v2)) t1))) : Rt g (d + 1) mJ0_indexOf_0f7a4 0 [some (.ref 1003), some (.int p0)] [] t Q := by
  refine s_aload_n dJ0_indexOf_0f7a4_0 rfl rfl ?_
  refine s_iload_n dJ0_indexOf_0f7a4_1 rfl rfl ?_
  refine s_iconst (v := 0) dJ0_indexOf_0f7a4_2 (by decide) ?_
  refine t_callStr (M' := mJ0_indexOf_7cf53) (k := 0) (As := [.int p0, .int 0]) (rest := []) dJ0_indexOf_0f7a4_3 ml_J0_633 miJ0_indexOf_7cf53 msJ0_indexOf_7cf53 rfl rfl (Nat.le_of_ble_eq_true rfl) (Nat.le_of_ble_eq_true rfl) rfl h (fun rv t1 q => ?_)
  obtain ⟨v2, rfl, h⟩ := q
  show Rt g (d + 1) mJ0_indexOf_0f7a4 6 [some (.ref 1003), some (.int p0)] [.int v2] t1 Q
  exact t_iret dJ0_indexOf_0f7a4_6 (NR_i rfl _) h
theorem bJ0_indexOf_7cf53_0 {g : Gt} {d : Nat} {t : Tt} {Q : Option Value → Tt → Prop} {p0 : Int32} {p1 : Int32} (h : Rt g d mJ0_isLatin1_aae02 0 [some (.ref 1003)] [] t (QI (fun v2 t1 => (v2 = 0 → Rt g d mJ0_length_8abf5 0 [some (.ref 1003)] [] t1 (QI (fun v5 t4 => False))) ∧ (¬ v2 = 0 → Rt g d mJ0_length_8abf5 0 [some (.ref 1003)] [] t1 (QI (fun v7 t6 => Rt g d mJ1_indexOf_4cfef 0 [some (.ref 1004), some (.int p0), some (.int p1), some (.int v7)] [] t6 (QI (fun v9 t8 => Q (some (.int v9)) t8)))))))) : Rt g (d + 1) mJ0_indexOf_7cf53 0 [some (.ref 1003), some (.int p0), some (.int p1)] [] t Q := by
  refine s_aload_n dJ0_indexOf_7cf53_0 rfl rfl ?_
  refine t_callStr (M' := mJ0_isLatin1_aae02) (k := 0) (As := []) (rest := []) dJ0_indexOf_7cf53_1 ml_J0_492 miJ0_isLatin1_aae02 msJ0_isLatin1_aae02 rfl rfl (Nat.le_of_ble_eq_true rfl) (Nat.le_of_ble_eq_true rfl) rfl h (fun rv t1 q => ?_)
  obtain ⟨v2, rfl, h⟩ := q
  show Rt g (d + 1) mJ0_indexOf_7cf53 4 [some (.ref 1003), some (.int p0), some (.int p1)] [.int v2] t1 Q
  refine s_if_eq (tgt := 23) dJ0_indexOf_7cf53_4 (by decide) (fun c3 => ?_) (fun c3 => ?_)
  · replace h := h.1 c3
    refine s_aload_n dJ0_indexOf_7cf53_23 rfl rfl ?_
    refine s_strV dJ0_indexOf_7cf53_24 sf_J0_9 ?_
    refine s_iload_n dJ0_indexOf_7cf53_27 rfl rfl ?_
    refine s_iload_n dJ0_indexOf_7cf53_28 rfl rfl ?_
    refine s_aload_n dJ0_indexOf_7cf53_29 rfl rfl ?_
    refine t_callStr (M' := mJ0_length_8abf5) (k := 0) (As := []) (rest := [.int p1, .int p0, .ref 1004]) dJ0_indexOf_7cf53_30 ml_J0_505 miJ0_length_8abf5 msJ0_length_8abf5 rfl rfl (Nat.le_of_ble_eq_true rfl) (Nat.le_of_ble_eq_true rfl) rfl h (fun rv t4 q => ?_)
    obtain ⟨v5, rfl, h⟩ := q
    show Rt g (d + 1) mJ0_indexOf_7cf53 33 [some (.ref 1003), some (.int p0), some (.int p1)] [.int v5, .int p1, .int p0, .ref 1004] t4 Q
    exact h.elim
  · replace h := h.2 c3
    refine s_aload_n dJ0_indexOf_7cf53_7 rfl rfl ?_
    refine s_strV dJ0_indexOf_7cf53_8 sf_J0_9 ?_
    refine s_iload_n dJ0_indexOf_7cf53_11 rfl rfl ?_
    refine s_iload_n dJ0_indexOf_7cf53_12 rfl rfl ?_
    refine s_aload_n dJ0_indexOf_7cf53_13 rfl rfl ?_
    refine t_callStr (M' := mJ0_length_8abf5) (k := 0) (As := []) (rest := [.int p1, .int p0, .ref 1004]) dJ0_indexOf_7cf53_14 ml_J0_505 miJ0_length_8abf5 msJ0_length_8abf5 rfl rfl (Nat.le_of_ble_eq_true rfl) (Nat.le_of_ble_eq_true rfl) rfl h (fun rv t6 q => ?_)
    obtain ⟨v7, rfl, h⟩ := q
    show Rt g (d + 1) mJ0_indexOf_7cf53 17 [some (.ref 1003), some (.int p0), some (.int p1)] [.int v7, .int p1, .int p0, .ref 1004] t6 Q
    refine t_callS (M' := mJ1_indexOf_4cfef) (k := 0) (As := [.ref 1004, .int p0, .int p1, .int v7]) (rest := []) dJ0_indexOf_7cf53_17 ml_J0_637 mstJ1_indexOf_4cfef rfl (Nat.le_of_ble_eq_true rfl) (Nat.le_of_ble_eq_true rfl) rfl h (fun rv t8 q => ?_)
    obtain ⟨v9, rfl, h⟩ := q
    show Rt g (d + 1) mJ0_indexOf_7cf53 20 [some (.ref 1003), some (.int p0), some (.int p1)] [.int v9] t8 Q
    refine s_goto (tgt := 36) dJ0_indexOf_7cf53_20 (by decide) ?_
    exact t_iret dJ0_indexOf_7cf53_36 (NR_i rfl _) h
theorem bJ0_coder_7d493_0 {g : Gt} {d : Nat} {t : Tt} {Q : Option Value → Tt → Prop} (h : ((1 : Int32) = 0 → Q (some (.int 1)) t) ∧ (¬ (1 : Int32) = 0 → Q (some (.int 0)) t)) : Rt g d mJ0_coder_7d493 0 [some (.ref 1003)] [] t Q := by
  refine s_gsC dJ0_coder_7d493_0 sf_J0_38 ?_
  refine s_if_eq (tgt := 13) dJ0_coder_7d493_3 (by decide) (fun c1 => ?_) (fun c1 => ?_)
  · replace h := h.1 c1
    refine s_iconst (v := 1) dJ0_coder_7d493_13 (by decide) ?_
    exact t_iret dJ0_coder_7d493_14 ⟨.byte, rfl, rfl⟩ h
  · replace h := h.2 c1
    refine s_aload_n dJ0_coder_7d493_6 rfl rfl ?_
    refine s_strC dJ0_coder_7d493_7 sf_J0_15 ?_
    refine s_goto (tgt := 14) dJ0_coder_7d493_10 (by decide) ?_
    exact t_iret dJ0_coder_7d493_14 ⟨.byte, rfl, rfl⟩ h
theorem bJ0_isLatin1_aae02_0 {g : Gt} {d : Nat} {t : Tt} {Q : Option Value → Tt → Prop} (h : ((1 : Int32) = 0 → Q (some (.int 0)) t) ∧ (¬ (1 : Int32) = 0 → (¬ (0 : Int32) = 0 → Q (some (.int 0)) t) ∧ ((0 : Int32) = 0 → Q (some (.int 1)) t))) : Rt g d mJ0_isLatin1_aae02 0 [some (.ref 1003)] [] t Q := by
  refine s_gsC dJ0_isLatin1_aae02_0 sf_J0_38 ?_
  refine s_if_eq (tgt := 17) dJ0_isLatin1_aae02_3 (by decide) (fun c1 => ?_) (fun c1 => ?_)
  · replace h := h.1 c1
    refine s_iconst (v := 0) dJ0_isLatin1_aae02_17 (by decide) ?_
    exact t_iret dJ0_isLatin1_aae02_18 (NR_z rfl (Or.inl rfl)) h
  · replace h := h.2 c1
    refine s_aload_n dJ0_isLatin1_aae02_6 rfl rfl ?_
    refine s_strC dJ0_isLatin1_aae02_7 sf_J0_15 ?_
    refine s_if_ne (tgt := 17) dJ0_isLatin1_aae02_10 (by decide) (fun c2 => ?_) (fun c2 => ?_)
    · replace h := h.1 c2
      refine s_iconst (v := 0) dJ0_isLatin1_aae02_17 (by decide) ?_
      exact t_iret dJ0_isLatin1_aae02_18 (NR_z rfl (Or.inl rfl)) h
    · replace h := h.2 c2
      refine s_iconst (v := 1) dJ0_isLatin1_aae02_13 (by decide) ?_
      refine s_goto (tgt := 18) dJ0_isLatin1_aae02_14 (by decide) ?_
      exact t_iret dJ0_isLatin1_aae02_18 (NR_z rfl (Or.inr rfl)) h
theorem bJ1_canEncode_9a6ad_0 {g : Gt} {d : Nat} {t : Tt} {Q : Option Value → Tt → Prop} {p0 : Int32} (h : (p0 < 0 → Q (some (.int 0)) t) ∧ (¬ p0 < 0 → (255 < p0 → Q (some (.int 0)) t) ∧ (¬ 255 < p0 → Q (some (.int 1)) t))) : Rt g d mJ1_canEncode_9a6ad 0 [some (.int p0)] [] t Q := by
  refine s_iload_n dJ1_canEncode_9a6ad_0 rfl rfl ?_
  refine s_if_lt (tgt := 15) dJ1_canEncode_9a6ad_1 (by decide) (fun c1 => ?_) (fun c1 => ?_)
  · replace h := h.1 c1
    refine s_iconst (v := 0) dJ1_canEncode_9a6ad_15 (by decide) ?_
    exact t_iret dJ1_canEncode_9a6ad_16 (NR_z rfl (Or.inl rfl)) h
  · replace h := h.2 c1
    refine s_iload_n dJ1_canEncode_9a6ad_4 rfl rfl ?_
    refine s_sipush (v := 255) dJ1_canEncode_9a6ad_5 (by decide) ?_
    refine s_icmp_gt (tgt := 15) dJ1_canEncode_9a6ad_8 (by decide) (fun c2 => ?_) (fun c2 => ?_)
    · replace h := h.1 c2
      refine s_iconst (v := 0) dJ1_canEncode_9a6ad_15 (by decide) ?_
      exact t_iret dJ1_canEncode_9a6ad_16 (NR_z rfl (Or.inl rfl)) h
    · replace h := h.2 c2
      refine s_iconst (v := 1) dJ1_canEncode_9a6ad_11 (by decide) ?_
      refine s_goto (tgt := 16) dJ1_canEncode_9a6ad_12 (by decide) ?_
      exact t_iret dJ1_canEncode_9a6ad_16 (NR_z rfl (Or.inr rfl)) h
theorem bJ1_indexOf_4cfef_0 {g : Gt} {d : Nat} {t : Tt} {Q : Option Value → Tt → Prop} {p1 : Int32} {p2 : Int32} {p3 : Int32} (h : Rt g d mJ1_canEncode_9a6ad 0 [some (.int p1)] [] t (QI (fun v2 t1 => (¬ v2 = 0 → ∀ z4 : Int32, z4 = (imax p2 0) → ∀ z5 : Int32, z5 = (imin p3 6) → (z4 < z5 → Rt g d mJ1_indexOfChar_4cfef 0 [some (.ref 1004), some (.int p1), some (.int z4), some (.int z5), none, none] [] t1 (QI (fun v8 t7 => Q (some (.int v8)) t7))) ∧ (¬ z4 < z5 → Q (some (.int (-1))) t1)) ∧ (v2 = 0 → Q (some (.int (-1))) t1)))) : Rt g (d + 1) mJ1_indexOf_4cfef 0 [some (.ref 1004), some (.int p1), some (.int p2), some (.int p3)] [] t Q := by
  refine s_iload_n dJ1_indexOf_4cfef_0 rfl rfl ?_
  refine t_callS (M' := mJ1_canEncode_9a6ad) (k := 0) (As := [.int p1]) (rest := []) dJ1_indexOf_4cfef_1 ml_J1_88 mstJ1_canEncode_9a6ad rfl (Nat.le_of_ble_eq_true rfl) (Nat.le_of_ble_eq_true rfl) rfl h (fun rv t1 q => ?_)
  obtain ⟨v2, rfl, h⟩ := q
  show Rt g (d + 1) mJ1_indexOf_4cfef 4 [some (.ref 1004), some (.int p1), some (.int p2), some (.int p3)] [.int v2] t1 Q
  refine s_if_ne (tgt := 9) dJ1_indexOf_4cfef_4 (by decide) (fun c3 => ?_) (fun c3 => ?_)
  · replace h := h.1 c3
    refine s_iload_n dJ1_indexOf_4cfef_9 rfl rfl ?_
    refine s_iconst (v := 0) dJ1_indexOf_4cfef_10 (by decide) ?_
    refine t_max dJ1_indexOf_4cfef_11 mmax_J1_92 (Nat.le_of_ble_eq_true rfl) ?_
    refine t_nmI (fun z4 ez4 => ?_)
    replace h := h z4 ez4
    refine s_istore_n dJ1_indexOf_4cfef_14 rfl (by decide) rfl (L9 := [some (.ref 1004), some (.int p1), some (.int z4), some (.int p3)]) rfl ?_
    refine s_iload_n dJ1_indexOf_4cfef_15 rfl rfl ?_
    refine s_aload_n dJ1_indexOf_4cfef_16 rfl rfl ?_
    refine s_tabNl dJ1_indexOf_4cfef_17 ?_
    refine t_min dJ1_indexOf_4cfef_18 mmin_J1_38 (Nat.le_of_ble_eq_true rfl) ?_
    refine t_nmI (fun z5 ez5 => ?_)
    replace h := h z5 ez5
    refine s_istore_n dJ1_indexOf_4cfef_21 rfl (by decide) rfl (L9 := [some (.ref 1004), some (.int p1), some (.int z4), some (.int z5)]) rfl ?_
    refine s_iload_n dJ1_indexOf_4cfef_22 rfl rfl ?_
    refine s_iload_n dJ1_indexOf_4cfef_23 rfl rfl ?_
    refine s_icmp_lt (tgt := 29) dJ1_indexOf_4cfef_24 (by decide) (fun c6 => ?_) (fun c6 => ?_)
    · replace h := h.1 c6
      refine s_aload_n dJ1_indexOf_4cfef_29 rfl rfl ?_
      refine s_iload_n dJ1_indexOf_4cfef_30 rfl rfl ?_
      refine s_iload_n dJ1_indexOf_4cfef_31 rfl rfl ?_
      refine s_iload_n dJ1_indexOf_4cfef_32 rfl rfl ?_
      refine t_callS (M' := mJ1_indexOfChar_4cfef) (k := 2) (As := [.ref 1004, .int p1, .int z4, .int z5]) (rest := []) dJ1_indexOf_4cfef_33 ml_J1_95 mstJ1_indexOfChar_4cfef rfl (Nat.le_of_ble_eq_true rfl) (Nat.le_of_ble_eq_true rfl) rfl h (fun rv t7 q => ?_)
      obtain ⟨v8, rfl, h⟩ := q
      show Rt g (d + 1) mJ1_indexOf_4cfef 36 [some (.ref 1004), some (.int p1), some (.int z4), some (.int z5)] [.int v8] t7 Q
      exact t_iret dJ1_indexOf_4cfef_36 (NR_i rfl _) h
    · replace h := h.2 c6
      refine s_iconst (v := (-1)) dJ1_indexOf_4cfef_27 (by decide) ?_
      exact t_iret dJ1_indexOf_4cfef_28 (NR_i rfl _) h
  · replace h := h.2 c3
    refine s_iconst (v := (-1)) dJ1_indexOf_4cfef_7 (by decide) ?_
    exact t_iret dJ1_indexOf_4cfef_8 (NR_i rfl _) h
theorem bJ1_indexOfChar_4cfef_0 {g : Gt} {d : Nat} {t : Tt} {Q : Option Value → Tt → Prop} {p1 : Int32} {p2 : Int32} {p3 : Int32} (h : ∀ z1 : Int32, z1 = (p1.toInt8.toInt32) → Rt g d mJ1_indexOfChar_4cfef 7 [some (.ref 1004), none, none, some (.int p3), some (.int z1), some (.int p2)] [] t Q) : Rt g d mJ1_indexOfChar_4cfef 0 [some (.ref 1004), some (.int p1), some (.int p2), some (.int p3), none, none] [] t Q := by
  refine s_iload_n dJ1_indexOfChar_4cfef_0 rfl rfl ?_
  refine s_i2b dJ1_indexOfChar_4cfef_1 ?_
  refine t_nmI (fun z1 ez1 => ?_)
  replace h := h z1 ez1
  refine s_istore dJ1_indexOfChar_4cfef_2 (by decide) rfl (L9 := [some (.ref 1004), some (.int p1), some (.int p2), some (.int p3), some (.int z1), none]) rfl ?_
  refine s_iload_n dJ1_indexOfChar_4cfef_4 rfl rfl ?_
  refine s_istore dJ1_indexOfChar_4cfef_5 (by decide) rfl (L9 := [some (.ref 1004), some (.int p1), some (.int p2), some (.int p3), some (.int z1), some (.int p2)]) rfl ?_
  exact Rt.lc h (lc_some (lc_none (lc_none (lc_some (lc_some (lc_some lc_nil))))))
theorem bJ1_indexOfChar_4cfef_7 {g : Gt} {d : Nat} {t : Tt} {Q : Option Value → Tt → Prop} {x3 : Int32} {x4 : Int32} {x5 : Int32} (h : (x3 ≤ x5 → Q (some (.int (-1))) t) ∧ (¬ x3 ≤ x5 → vp_in x5 6 ∧ ((¬ (tabN x5.toNatClampNeg) = x4 → Rt g d mJ1_indexOfChar_4cfef 7 [some (.ref 1004), none, none, some (.int x3), some (.int x4), some (.int (x5 + 1))] [] t Q) ∧ ((tabN x5.toNatClampNeg) = x4 → Q (some (.int x5)) t)))) : Rt g d mJ1_indexOfChar_4cfef 7 [some (.ref 1004), none, none, some (.int x3), some (.int x4), some (.int x5)] [] t Q := by
  refine s_iload dJ1_indexOfChar_4cfef_7 rfl ?_
  refine s_iload_n dJ1_indexOfChar_4cfef_9 rfl rfl ?_
  refine s_icmp_ge (tgt := 31) dJ1_indexOfChar_4cfef_10 (by decide) (fun c1 => ?_) (fun c1 => ?_)
  · replace h := h.1 c1
    refine s_iconst (v := (-1)) dJ1_indexOfChar_4cfef_31 (by decide) ?_
    exact t_iret dJ1_indexOfChar_4cfef_32 (NR_i rfl _) h
  · replace h := h.2 c1
    refine s_aload_n dJ1_indexOfChar_4cfef_13 rfl rfl ?_
    refine s_iload dJ1_indexOfChar_4cfef_14 rfl ?_
    obtain ⟨g2, h⟩ := h
    refine s_tabN dJ1_indexOfChar_4cfef_16 g2 ?_
    refine s_iload dJ1_indexOfChar_4cfef_17 rfl ?_
    refine s_icmp_ne (tgt := 25) dJ1_indexOfChar_4cfef_19 (by decide) (fun c3 => ?_) (fun c3 => ?_)
    · replace h := h.1 c3
      refine s_iinc (w := x5 + 1) dJ1_indexOfChar_4cfef_25 rfl (by rfl) (by decide) rfl (L9 := [some (.ref 1004), none, none, some (.int x3), some (.int x4), some (.int (x5 + 1))]) rfl ?_
      refine s_goto (tgt := 7) dJ1_indexOfChar_4cfef_28 (by decide) ?_
      exact h
    · replace h := h.2 c3
      refine s_iload dJ1_indexOfChar_4cfef_22 rfl ?_
      exact t_iret dJ1_indexOfChar_4cfef_24 (NR_i rfl _) h
