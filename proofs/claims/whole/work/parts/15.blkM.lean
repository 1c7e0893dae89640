theorem bX8_in_0 {g : Gt} {d : Nat} {t : Tt} {Q : Option Value → Tt → Prop} {p0 : Int32} {p1 : Int32} {p2 : Int32} (h : (p0 < p1 → Q (some (.int 0)) t) ∧ (¬ p0 < p1 → (p2 < p0 → Q (some (.int 0)) t) ∧ (¬ p2 < p0 → Q (some (.int 1)) t))) : Rt g d mX8_in 0 [some (.int p0), some (.int p1), some (.int p2)] [] t Q := by
  refine s_iload_n dX8_in_0 rfl rfl ?_
  refine s_iload_n dX8_in_1 rfl rfl ?_
  refine s_icmp_lt (tgt := 14) dX8_in_2 (by decide) (fun c1 => ?_) (fun c1 => ?_)
  · replace h := h.1 c1
    refine s_iconst (v := 0) dX8_in_14 (by decide) ?_
    exact t_iret dX8_in_15 (NR_z rfl (Or.inl rfl)) h
  · replace h := h.2 c1
    refine s_iload_n dX8_in_5 rfl rfl ?_
    refine s_iload_n dX8_in_6 rfl rfl ?_
    refine s_icmp_gt (tgt := 14) dX8_in_7 (by decide) (fun c2 => ?_) (fun c2 => ?_)
    · replace h := h.1 c2
      refine s_iconst (v := 0) dX8_in_14 (by decide) ?_
      exact t_iret dX8_in_15 (NR_z rfl (Or.inl rfl)) h
    · replace h := h.2 c2
      refine s_iconst (v := 1) dX8_in_10 (by decide) ?_
      refine s_goto (tgt := 15) dX8_in_11 (by decide) ?_
      exact t_iret dX8_in_15 (NR_z rfl (Or.inr rfl)) h
theorem bX8_bitsOf_0 {g : Gt} {d : Nat} {t : Tt} {Q : Option Value → Tt → Prop} {p0 : Int32} (h : Rt g d mX8_bitsOf 4 [none, some (.int 0), some (.int p0)] [] t Q) : Rt g d mX8_bitsOf 0 [some (.int p0), none, none] [] t Q := by
  refine s_iconst (v := 0) dX8_bitsOf_0 (by decide) ?_
  refine s_istore_n dX8_bitsOf_1 rfl (by decide) rfl (L9 := [some (.int p0), some (.int 0), none]) rfl ?_
  refine s_iload_n dX8_bitsOf_2 rfl rfl ?_
  refine s_istore_n dX8_bitsOf_3 rfl (by decide) rfl (L9 := [some (.int p0), some (.int 0), some (.int p0)]) rfl ?_
  exact Rt.lc h (lc_none (lc_some (lc_some lc_nil)))
theorem bX8_bitsOf_4 {g : Gt} {d : Nat} {t : Tt} {Q : Option Value → Tt → Prop} {x1 : Int32} {x2 : Int32} (h : (x2 = 0 → Q (some (.int x1)) t) ∧ (¬ x2 = 0 → ∀ z2 : Int32, z2 = (x2 &&& (x2 - 1)) → Rt g d mX8_bitsOf 4 [none, some (.int (x1 + 1)), some (.int z2)] [] t Q)) : Rt g d mX8_bitsOf 4 [none, some (.int x1), some (.int x2)] [] t Q := by
  refine s_iload_n dX8_bitsOf_4 rfl rfl ?_
  refine s_if_eq (tgt := 20) dX8_bitsOf_5 (by decide) (fun c1 => ?_) (fun c1 => ?_)
  · replace h := h.1 c1
    refine s_iload_n dX8_bitsOf_20 rfl rfl ?_
    exact t_iret dX8_bitsOf_21 (NR_i rfl _) h
  · replace h := h.2 c1
    refine s_iinc (w := x1 + 1) dX8_bitsOf_8 rfl (by rfl) (by decide) rfl (L9 := [none, some (.int (x1 + 1)), some (.int x2)]) rfl ?_
    refine s_iload_n dX8_bitsOf_11 rfl rfl ?_
    refine s_iload_n dX8_bitsOf_12 rfl rfl ?_
    refine s_iconst (v := 1) dX8_bitsOf_13 (by decide) ?_
    refine s_isub dX8_bitsOf_14 ?_
    refine s_iand dX8_bitsOf_15 ?_
    refine t_nmI (fun z2 ez2 => ?_)
    replace h := h z2 ez2
    refine s_istore_n dX8_bitsOf_16 rfl (by decide) rfl (L9 := [none, some (.int (x1 + 1)), some (.int z2)]) rfl ?_
    refine s_goto (tgt := 4) dX8_bitsOf_17 (by decide) ?_
    exact h
theorem bX8_isPerson_0 {g : Gt} {d : Nat} {t : Tt} {Q : Option Value → Tt → Prop} {p0 : Int32} (h : Rt g d mX8_in 0 [some (.int p0), some (.int 0), some (.int ((t.1 57 1) - 1))] [] t (QI (fun v2 t1 => (v2 = 0 ∨ v2 = 1) ∧ Q (some (.int v2)) t1))) : Rt g (d + 1) mX8_isPerson 0 [some (.ref 57), some (.int p0)] [] t Q := by
  refine s_iload_n dX8_isPerson_0 rfl rfl ?_
  refine s_iconst (v := 0) dX8_isPerson_1 (by decide) ?_
  refine s_aload_n dX8_isPerson_2 rfl rfl ?_
  refine t_getI dX8_isPerson_3 fl_X8_125 rfl (by decide) rfl ?_
  refine s_iconst (v := 1) dX8_isPerson_6 (by decide) ?_
  refine s_isub dX8_isPerson_7 ?_
  refine t_callS (M' := mX8_in) (k := 0) (As := [.int p0, .int 0, .int ((t.1 57 1) - 1)]) (rest := []) dX8_isPerson_8 ml_X8_128 mstX8_in rfl (Nat.le_of_ble_eq_true rfl) (Nat.le_of_ble_eq_true rfl) rfl h (fun rv t1 q => ?_)
  obtain ⟨v2, rfl, h⟩ := q
  show Rt g (d + 1) mX8_isPerson 11 [some (.ref 57), some (.int p0)] [.int v2] t1 Q
  exact t_iret dX8_isPerson_11 (NR_z rfl h.1) h.2
theorem bX8_isFact_0 {g : Gt} {d : Nat} {t : Tt} {Q : Option Value → Tt → Prop} {p0 : Int32} (h : Rt g d mX8_in 0 [some (.int p0), some (.int 0), some (.int 9)] [] t (QI (fun v2 t1 => (v2 = 0 ∨ v2 = 1) ∧ Q (some (.int v2)) t1))) : Rt g (d + 1) mX8_isFact 0 [some (.int p0)] [] t Q := by
  refine s_iload_n dX8_isFact_0 rfl rfl ?_
  refine s_iconst (v := 0) dX8_isFact_1 (by decide) ?_
  refine s_bipush (v := 9) dX8_isFact_2 (by decide) ?_
  refine t_callS (M' := mX8_in) (k := 0) (As := [.int p0, .int 0, .int 9]) (rest := []) dX8_isFact_4 ml_X8_128 mstX8_in rfl (Nat.le_of_ble_eq_true rfl) (Nat.le_of_ble_eq_true rfl) rfl h (fun rv t1 q => ?_)
  obtain ⟨v2, rfl, h⟩ := q
  show Rt g (d + 1) mX8_isFact 7 [some (.int p0)] [.int v2] t1 Q
  exact t_iret dX8_isFact_7 (NR_z rfl h.1) h.2
theorem bX8_person_0 {g : Gt} {d : Nat} {t : Tt} {Q : Option Value → Tt → Prop} {p0 : Int32} (h : Rt g d mX8_in 0 [some (.int p0), some (.int 0), some (.int 9)] [] t (QI (fun v2 t1 => (¬ v2 = 0 → (¬ (t1.1 57 1) = 7 → Rt g (d + 1) mX8_person 26 [some (.ref 57), some (.int p0), some (.int 0)] [] t1 Q) ∧ ((t1.1 57 1) = 7 → Q (some (.int (-3))) t1)) ∧ (v2 = 0 → Q (some (.int (-1))) t1)))) : Rt g (d + 1) mX8_person 0 [some (.ref 57), some (.int p0), none] [] t Q := by
  refine s_iload_n dX8_person_0 rfl rfl ?_
  refine s_iconst (v := 0) dX8_person_1 (by decide) ?_
  refine s_bipush (v := 9) dX8_person_2 (by decide) ?_
  refine t_callS (M' := mX8_in) (k := 0) (As := [.int p0, .int 0, .int 9]) (rest := []) dX8_person_4 ml_X8_128 mstX8_in rfl (Nat.le_of_ble_eq_true rfl) (Nat.le_of_ble_eq_true rfl) rfl h (fun rv t1 q => ?_)
  obtain ⟨v2, rfl, h⟩ := q
  show Rt g (d + 1) mX8_person 7 [some (.ref 57), some (.int p0), none] [.int v2] t1 Q
  refine s_if_ne (tgt := 12) dX8_person_7 (by decide) (fun c3 => ?_) (fun c3 => ?_)
  · replace h := h.1 c3
    refine s_aload_n dX8_person_12 rfl rfl ?_
    refine t_getI dX8_person_13 fl_X8_125 rfl (by decide) rfl ?_
    refine s_bipush (v := 7) dX8_person_16 (by decide) ?_
    refine s_icmp_ne (tgt := 24) dX8_person_18 (by decide) (fun c4 => ?_) (fun c4 => ?_)
    · replace h := h.1 c4
      refine s_iconst (v := 0) dX8_person_24 (by decide) ?_
      refine s_istore_n dX8_person_25 rfl (by decide) rfl (L9 := [some (.ref 57), some (.int p0), some (.int 0)]) rfl ?_
      exact h
    · replace h := h.2 c4
      refine s_bipush (v := (-3)) dX8_person_21 (by decide) ?_
      exact t_iret dX8_person_23 (NR_i rfl _) h
  · replace h := h.2 c3
    refine s_iconst (v := (-1)) dX8_person_10 (by decide) ?_
    exact t_iret dX8_person_11 (NR_i rfl _) h
theorem bX8_person_26 {g : Gt} {d : Nat} {t : Tt} {Q : Option Value → Tt → Prop} {x1 : Int32} {x2 : Int32} (h : (8 ≤ x2 → vp_in (t.1 57 1) 7 ∧ (vp_in ((pI t 59 (t.1 57 1).toNatClampNeg 0).1 57 1) 7 ∧ Q (some (.int (((pI (pI (pI t 59 (t.1 57 1).toNatClampNeg 0) 60 ((pI t 59 (t.1 57 1).toNatClampNeg 0).1 57 1).toNatClampNeg 0) 57 1 (((pI (pI t 59 (t.1 57 1).toNatClampNeg 0) 60 ((pI t 59 (t.1 57 1).toNatClampNeg 0).1 57 1).toNatClampNeg 0).1 57 1) + 1)).1 57 1) - 1))) (pI (pI (pI t 59 (t.1 57 1).toNatClampNeg 0) 60 ((pI t 59 (t.1 57 1).toNatClampNeg 0).1 57 1).toNatClampNeg 0) 57 1 (((pI (pI t 59 (t.1 57 1).toNatClampNeg 0) 60 ((pI t 59 (t.1 57 1).toNatClampNeg 0).1 57 1).toNatClampNeg 0).1 57 1) + 1)))) ∧ (¬ 8 ≤ x2 → vp_in ((8 * (t.1 57 1)) + x2) 56 ∧ Rt g (d + 1) mX8_person 26 [some (.ref 57), some (.int x1), some (.int (x2 + 1))] [] (pI t 58 ((8 * (t.1 57 1)) + x2).toNatClampNeg x1) Q)) : Rt g (d + 1) mX8_person 26 [some (.ref 57), some (.int x1), some (.int x2)] [] t Q := by
  refine s_iload_n dX8_person_26 rfl rfl ?_
  refine s_bipush (v := 8) dX8_person_27 (by decide) ?_
  refine s_icmp_ge (tgt := 53) dX8_person_29 (by decide) (fun c1 => ?_) (fun c1 => ?_)
  · replace h := h.1 c1
    refine s_aload_n dX8_person_53 rfl rfl ?_
    refine t_getR (o' := 59) dX8_person_54 fl_X8_13 rfl (by decide) rfl rfl ?_
    refine s_aload_n dX8_person_57 rfl rfl ?_
    refine t_getI dX8_person_58 fl_X8_125 rfl (by decide) rfl ?_
    refine s_iconst (v := 0) dX8_person_61 (by decide) ?_
    obtain ⟨g2, h⟩ := h
    refine t_iast dX8_person_62 rfl (by decide) g2 ?_
    refine s_aload_n dX8_person_63 rfl rfl ?_
    refine t_getR (o' := 60) dX8_person_64 fl_X8_16 rfl (by decide) rfl rfl ?_
    refine s_aload_n dX8_person_67 rfl rfl ?_
    refine t_getI dX8_person_68 fl_X8_125 rfl (by decide) rfl ?_
    refine s_iconst (v := 0) dX8_person_71 (by decide) ?_
    obtain ⟨g3, h⟩ := h
    refine t_iast dX8_person_72 rfl (by decide) g3 ?_
    refine s_aload_n dX8_person_73 rfl rfl ?_
    refine s_dup dX8_person_74 rfl ?_
    refine t_getI dX8_person_75 fl_X8_125 rfl (by decide) rfl ?_
    refine s_iconst (v := 1) dX8_person_78 (by decide) ?_
    refine s_iadd dX8_person_79 ?_
    refine t_putI dX8_person_80 fl_X8_125 rfl (by decide) rfl rfl rfl rfl ?_
    refine s_aload_n dX8_person_83 rfl rfl ?_
    refine t_getI dX8_person_84 fl_X8_125 rfl (by decide) rfl ?_
    refine s_iconst (v := 1) dX8_person_87 (by decide) ?_
    refine s_isub dX8_person_88 ?_
    exact t_iret dX8_person_89 (NR_i rfl _) h
  · replace h := h.2 c1
    refine s_aload_n dX8_person_32 rfl rfl ?_
    refine t_getR (o' := 58) dX8_person_33 fl_X8_7 rfl (by decide) rfl rfl ?_
    refine s_bipush (v := 8) dX8_person_36 (by decide) ?_
    refine s_aload_n dX8_person_38 rfl rfl ?_
    refine t_getI dX8_person_39 fl_X8_125 rfl (by decide) rfl ?_
    refine s_imul dX8_person_42 ?_
    refine s_iload_n dX8_person_43 rfl rfl ?_
    refine s_iadd dX8_person_44 ?_
    refine s_iload_n dX8_person_45 rfl rfl ?_
    obtain ⟨g4, h⟩ := h
    refine t_iast dX8_person_46 rfl (by decide) g4 ?_
    refine s_iinc (w := x2 + 1) dX8_person_47 rfl (by rfl) (by decide) rfl (L9 := [some (.ref 57), some (.int x1), some (.int (x2 + 1))]) rfl ?_
    refine s_goto (tgt := 26) dX8_person_50 (by decide) ?_
    exact h
theorem bX8_isMouth_0 {g : Gt} {d : Nat} {t : Tt} {Q : Option Value → Tt → Prop} {p0 : Int32} {p1 : Int32} (h : Rt g (d + 1) mX8_isMouth 2 [some (.ref 57), some (.int p0), some (.int p1), some (.int 1)] [] t Q) : Rt g (d + 1) mX8_isMouth 0 [some (.ref 57), some (.int p0), some (.int p1), none] [] t Q := by
  refine s_iconst (v := 1) dX8_isMouth_0 (by decide) ?_
  refine s_istore_n dX8_isMouth_1 rfl (by decide) rfl (L9 := [some (.ref 57), some (.int p0), some (.int p1), some (.int 1)]) rfl ?_
  exact h
theorem bX8_isMouth_2 {g : Gt} {d : Nat} {t : Tt} {Q : Option Value → Tt → Prop} {x1 : Int32} {x2 : Int32} {x3 : Int32} (h : (8 < x3 → Q (some (.int 1)) t) ∧ (¬ 8 < x3 → vp_in (((60 * x1) + x2) + x3) 360 ∧ (Rt g d mX8_in 0 [some (.int ((t.2.1 91 (((60 * x1) + x2) + x3).toNatClampNeg).toInt32)), some (.int 0), some (.int 9)] [] t (QI (fun v4 t3 => (¬ v4 = 0 → Rt g (d + 1) mX8_isMouth 2 [some (.ref 57), some (.int x1), some (.int x2), some (.int (x3 + 1))] [] t3 Q) ∧ (v4 = 0 → Q (some (.int 0)) t3)))))) : Rt g (d + 1) mX8_isMouth 2 [some (.ref 57), some (.int x1), some (.int x2), some (.int x3)] [] t Q := by
  refine s_iload_n dX8_isMouth_2 rfl rfl ?_
  refine s_bipush (v := 8) dX8_isMouth_3 (by decide) ?_
  refine s_icmp_gt (tgt := 39) dX8_isMouth_5 (by decide) (fun c1 => ?_) (fun c1 => ?_)
  · replace h := h.1 c1
    refine s_iconst (v := 1) dX8_isMouth_39 (by decide) ?_
    exact t_iret dX8_isMouth_40 (NR_z rfl (Or.inr rfl)) h
  · replace h := h.2 c1
    refine s_aload_n dX8_isMouth_8 rfl rfl ?_
    refine t_getR (o' := 91) dX8_isMouth_9 fl_X8_115 rfl (by decide) rfl rfl ?_
    refine s_bipush (v := 60) dX8_isMouth_12 (by decide) ?_
    refine s_iload_n dX8_isMouth_14 rfl rfl ?_
    refine s_imul dX8_isMouth_15 ?_
    refine s_iload_n dX8_isMouth_16 rfl rfl ?_
    refine s_iadd dX8_isMouth_17 ?_
    refine s_iload_n dX8_isMouth_18 rfl rfl ?_
    refine s_iadd dX8_isMouth_19 ?_
    obtain ⟨g2, h⟩ := h
    refine t_lald dX8_isMouth_20 rfl (by decide) g2 ?_
    refine s_l2i dX8_isMouth_21 ?_
    refine s_iconst (v := 0) dX8_isMouth_22 (by decide) ?_
    refine s_bipush (v := 9) dX8_isMouth_23 (by decide) ?_
    refine t_callS (M' := mX8_in) (k := 0) (As := [.int ((t.2.1 91 (((60 * x1) + x2) + x3).toNatClampNeg).toInt32), .int 0, .int 9]) (rest := []) dX8_isMouth_25 ml_X8_128 mstX8_in rfl (Nat.le_of_ble_eq_true rfl) (Nat.le_of_ble_eq_true rfl) rfl h (fun rv t3 q => ?_)
    obtain ⟨v4, rfl, h⟩ := q
    show Rt g (d + 1) mX8_isMouth 28 [some (.ref 57), some (.int x1), some (.int x2), some (.int x3)] [.int v4] t3 Q
    refine s_if_ne (tgt := 33) dX8_isMouth_28 (by decide) (fun c5 => ?_) (fun c5 => ?_)
    · replace h := h.1 c5
      refine s_iinc (w := x3 + 1) dX8_isMouth_33 rfl (by rfl) (by decide) rfl (L9 := [some (.ref 57), some (.int x1), some (.int x2), some (.int (x3 + 1))]) rfl ?_
      refine s_goto (tgt := 2) dX8_isMouth_36 (by decide) ?_
      exact h
    · replace h := h.2 c5
      refine s_iconst (v := 0) dX8_isMouth_31 (by decide) ?_
      exact t_iret dX8_isMouth_32 (NR_z rfl (Or.inl rfl)) h
theorem bX8_people_0 {g : Gt} {d : Nat} {t : Tt} {Q : Option Value → Tt → Prop} {p0 : Int32} {p1 : Int32} {p2 : Int32} (h : Rt g d mX8_isShelf 0 [some (.int p0)] [] t (QI (fun v2 t1 => (v2 = 0 → Q (some (.int (-1))) t1) ∧ (¬ v2 = 0 → Rt g d mX8_in 0 [some (.int p2), some (.int 1), some (.int 7)] [] t1 (QI (fun v5 t4 => (¬ v5 = 0 → vp_in p0 6 ∧ (((t4.1 89 p0.toNatClampNeg) = (-1) → Rt g (d + 1) mX8_people 43 [some (.ref 57), some (.int p0), some (.int p1), some (.int p2), none, none, none, none] [] t4 Q) ∧ (¬ (t4.1 89 p0.toNatClampNeg) = (-1) → vp_in p0 6 ∧ (((t4.1 89 p0.toNatClampNeg) = (-2) → Rt g (d + 1) mX8_people 43 [some (.ref 57), some (.int p0), some (.int p1), some (.int p2), none, none, none, none] [] t4 Q) ∧ (¬ (t4.1 89 p0.toNatClampNeg) = (-2) → Q (some (.int (-12))) t4))))) ∧ (v5 = 0 → Q (some (.int (-1))) t4))))))) : Rt g (d + 1) mX8_people 0 [some (.ref 57), some (.int p0), some (.int p1), some (.int p2), none, none, none, none] [] t Q := by
  refine s_iload_n dX8_people_0 rfl rfl ?_
  refine t_callS (M' := mX8_isShelf) (k := 0) (As := [.int p0]) (rest := []) dX8_people_1 ml_X8_132 mstX8_isShelf rfl (Nat.le_of_ble_eq_true rfl) (Nat.le_of_ble_eq_true rfl) rfl h (fun rv t1 q => ?_)
  obtain ⟨v2, rfl, h⟩ := q
  show Rt g (d + 1) mX8_people 4 [some (.ref 57), some (.int p0), some (.int p1), some (.int p2), none, none, none, none] [.int v2] t1 Q
  refine s_if_eq (tgt := 17) dX8_people_4 (by decide) (fun c3 => ?_) (fun c3 => ?_)
  · replace h := h.1 c3
    refine s_iconst (v := (-1)) dX8_people_17 (by decide) ?_
    exact t_iret dX8_people_18 (NR_i rfl _) h
  · replace h := h.2 c3
    refine s_iload_n dX8_people_7 rfl rfl ?_
    refine s_iconst (v := 1) dX8_people_8 (by decide) ?_
    refine s_bipush (v := 7) dX8_people_9 (by decide) ?_
    refine t_callS (M' := mX8_in) (k := 0) (As := [.int p2, .int 1, .int 7]) (rest := []) dX8_people_11 ml_X8_128 mstX8_in rfl (Nat.le_of_ble_eq_true rfl) (Nat.le_of_ble_eq_true rfl) rfl h (fun rv t4 q => ?_)
    obtain ⟨v5, rfl, h⟩ := q
    show Rt g (d + 1) mX8_people 14 [some (.ref 57), some (.int p0), some (.int p1), some (.int p2), none, none, none, none] [.int v5] t4 Q
    refine s_if_ne (tgt := 19) dX8_people_14 (by decide) (fun c6 => ?_) (fun c6 => ?_)
    · replace h := h.1 c6
      refine s_aload_n dX8_people_19 rfl rfl ?_
      refine t_getR (o' := 89) dX8_people_20 fl_X8_109 rfl (by decide) rfl rfl ?_
      refine s_iload_n dX8_people_23 rfl rfl ?_
      obtain ⟨g7, h⟩ := h
      refine t_iald dX8_people_24 rfl (by decide) g7 ?_
      refine s_iconst (v := (-1)) dX8_people_25 (by decide) ?_
      refine s_icmp_eq (tgt := 43) dX8_people_26 (by decide) (fun c8 => ?_) (fun c8 => ?_)
      · replace h := h.1 c8
        exact h
      · replace h := h.2 c8
        refine s_aload_n dX8_people_29 rfl rfl ?_
        refine t_getR (o' := 89) dX8_people_30 fl_X8_109 rfl (by decide) rfl rfl ?_
        refine s_iload_n dX8_people_33 rfl rfl ?_
        obtain ⟨g9, h⟩ := h
        refine t_iald dX8_people_34 rfl (by decide) g9 ?_
        refine s_bipush (v := (-2)) dX8_people_35 (by decide) ?_
        refine s_icmp_eq (tgt := 43) dX8_people_37 (by decide) (fun c10 => ?_) (fun c10 => ?_)
        · replace h := h.1 c10
          exact h
        · replace h := h.2 c10
          refine s_bipush (v := (-12)) dX8_people_40 (by decide) ?_
          exact t_iret dX8_people_42 (NR_i rfl _) h
    · replace h := h.2 c6
      refine s_iconst (v := (-1)) dX8_people_17 (by decide) ?_
      exact t_iret dX8_people_18 (NR_i rfl _) h
theorem bX8_people_43 {g : Gt} {d : Nat} {t : Tt} {Q : Option Value → Tt → Prop} {x1 : Int32} {x2 : Int32} {x3 : Int32} (h : vp_in x1 6 ∧ ((¬ (t.1 89 x1.toNatClampNeg) = (-1) → Rt g (d + 1) mX8_people 58 [some (.ref 57), some (.int x1), some (.int x2), some (.int x3), some (.int 0), none, none, none] [] t Q) ∧ ((t.1 89 x1.toNatClampNeg) = (-1) → Q (some (.int 0)) t))) : Rt g (d + 1) mX8_people 43 [some (.ref 57), some (.int x1), some (.int x2), some (.int x3), none, none, none, none] [] t Q := by
  refine s_aload_n dX8_people_43 rfl rfl ?_
  refine t_getR (o' := 89) dX8_people_44 fl_X8_109 rfl (by decide) rfl rfl ?_
  refine s_iload_n dX8_people_47 rfl rfl ?_
  obtain ⟨g1, h⟩ := h
  refine t_iald dX8_people_48 rfl (by decide) g1 ?_
  refine s_iconst (v := (-1)) dX8_people_49 (by decide) ?_
  refine s_icmp_ne (tgt := 55) dX8_people_50 (by decide) (fun c2 => ?_) (fun c2 => ?_)
  · replace h := h.1 c2
    refine s_iconst (v := 0) dX8_people_55 (by decide) ?_
    refine s_istore dX8_people_56 (by decide) rfl (L9 := [some (.ref 57), some (.int x1), some (.int x2), some (.int x3), some (.int 0), none, none, none]) rfl ?_
    exact h
  · replace h := h.2 c2
    refine s_iconst (v := 0) dX8_people_53 (by decide) ?_
    exact t_iret dX8_people_54 (NR_i rfl _) h
theorem bX8_people_58 {g : Gt} {d : Nat} {t : Tt} {Q : Option Value → Tt → Prop} {x1 : Int32} {x2 : Int32} {x3 : Int32} {x4 : Int32} (h : (x3 ≤ x4 → Q (some (.int x3)) t) ∧ (¬ x3 ≤ x4 → ∀ z2 : Int64, z2 = ((x2.toInt64) + ((9 * x4).toInt64)) → (z2 < 0 → Q (some (.int x4)) t) ∧ (¬ z2 < 0 → vp_in x1 6 ∧ ((((t.1 90 x1.toNatClampNeg).toInt64) ≤ (z2 + 8) → Q (some (.int x4)) t) ∧ (¬ ((t.1 90 x1.toNatClampNeg).toInt64) ≤ (z2 + 8) → ((t.1 57 1) = 7 → Q (some (.int x4)) t) ∧ (¬ (t.1 57 1) = 7 → Rt g d mX8_isMouth 0 [some (.ref 57), some (.int x1), some (.int (z2.toInt32)), none] [] t (QI (fun v8 t7 => (¬ v8 = 0 → Rt g (d + 1) mX8_people 125 [some (.ref 57), some (.int x1), some (.int x2), some (.int x3), some (.int x4), some (.long z2), none, some (.int 0)] [] t7 Q) ∧ (v8 = 0 → Q (some (.int x4)) t7))))))))) : Rt g (d + 1) mX8_people 58 [some (.ref 57), some (.int x1), some (.int x2), some (.int x3), some (.int x4), none, none, none] [] t Q := by
  refine s_iload dX8_people_58 rfl ?_
  refine s_iload_n dX8_people_60 rfl rfl ?_
  refine s_icmp_ge (tgt := 225) dX8_people_61 (by decide) (fun c1 => ?_) (fun c1 => ?_)
  · replace h := h.1 c1
    refine s_iload_n dX8_people_225 rfl rfl ?_
    exact t_iret dX8_people_226 (NR_i rfl _) h
  · replace h := h.2 c1
    refine s_iload_n dX8_people_64 rfl rfl ?_
    refine s_i2l dX8_people_65 ?_
    refine s_bipush (v := 9) dX8_people_66 (by decide) ?_
    refine s_iload dX8_people_68 rfl ?_
    refine s_imul dX8_people_70 ?_
    refine s_i2l dX8_people_71 ?_
    refine s_ladd dX8_people_72 ?_
    refine t_nmJ (fun z2 ez2 => ?_)
    replace h := h z2 ez2
    refine s_lstore dX8_people_73 (by decide) rfl (L9 := [some (.ref 57), some (.int x1), some (.int x2), some (.int x3), some (.int x4), some (.long z2), none, none]) rfl ?_
    refine s_lload dX8_people_75 rfl ?_
    refine s_lconst (v := 0) dX8_people_77 rfl ?_
    refine t_cmp_lt (tgt := 119) dX8_people_78 dX8_people_79 (by decide) (fun c3 => ?_) (fun c3 => ?_)
    · replace h := h.1 c3
      refine s_iload dX8_people_119 rfl ?_
      exact t_iret dX8_people_121 (NR_i rfl _) h
    · replace h := h.2 c3
      refine s_lload dX8_people_82 rfl ?_
      refine s_ldc2 (v := 8) dX8_people_84 cl_X8_136 ?_
      refine s_ladd dX8_people_87 ?_
      refine s_aload_n dX8_people_88 rfl rfl ?_
      refine t_getR (o' := 90) dX8_people_89 fl_X8_112 rfl (by decide) rfl rfl ?_
      refine s_iload_n dX8_people_92 rfl rfl ?_
      obtain ⟨g4, h⟩ := h
      refine t_iald dX8_people_93 rfl (by decide) g4 ?_
      refine s_i2l dX8_people_94 ?_
      refine t_cmp_ge (tgt := 119) dX8_people_95 dX8_people_96 (by decide) (fun c5 => ?_) (fun c5 => ?_)
      · replace h := h.1 c5
        refine s_iload dX8_people_119 rfl ?_
        exact t_iret dX8_people_121 (NR_i rfl _) h
      · replace h := h.2 c5
        refine s_aload_n dX8_people_99 rfl rfl ?_
        refine t_getI dX8_people_100 fl_X8_125 rfl (by decide) rfl ?_
        refine s_bipush (v := 7) dX8_people_103 (by decide) ?_
        refine s_icmp_eq (tgt := 119) dX8_people_105 (by decide) (fun c6 => ?_) (fun c6 => ?_)
        · replace h := h.1 c6
          refine s_iload dX8_people_119 rfl ?_
          exact t_iret dX8_people_121 (NR_i rfl _) h
        · replace h := h.2 c6
          refine s_aload_n dX8_people_108 rfl rfl ?_
          refine s_iload_n dX8_people_109 rfl rfl ?_
          refine s_lload dX8_people_110 rfl ?_
          refine s_l2i dX8_people_112 ?_
          refine t_callV (M' := mX8_isMouth) (k := 1) (As := [.int x1, .int (z2.toInt32)]) (rest := []) dX8_people_113 ml_X8_138 miX8_isMouth msX8_isMouth rfl (by decide) rfl rfl (Nat.le_of_ble_eq_true rfl) (Nat.le_of_ble_eq_true rfl) rfl h (fun rv t7 q => ?_)
          obtain ⟨v8, rfl, h⟩ := q
          show Rt g (d + 1) mX8_people 116 [some (.ref 57), some (.int x1), some (.int x2), some (.int x3), some (.int x4), some (.long z2), none, none] [.int v8] t7 Q
          refine s_if_ne (tgt := 122) dX8_people_116 (by decide) (fun c9 => ?_) (fun c9 => ?_)
          · replace h := h.1 c9
            refine s_iconst (v := 0) dX8_people_122 (by decide) ?_
            refine s_istore dX8_people_123 (by decide) rfl (L9 := [some (.ref 57), some (.int x1), some (.int x2), some (.int x3), some (.int x4), some (.long z2), none, some (.int 0)]) rfl ?_
            exact h
          · replace h := h.2 c9
            refine s_iload dX8_people_119 rfl ?_
            exact t_iret dX8_people_121 (NR_i rfl _) h
theorem bX8_people_125 {g : Gt} {d : Nat} {t : Tt} {Q : Option Value → Tt → Prop} {x1 : Int32} {x2 : Int32} {x3 : Int32} {x4 : Int32} {x5 : Int64} {x7 : Int32} (h : (8 ≤ x7 → vp_in ((60 * x1) + (x5.toInt32)) 360 ∧ (vp_in (t.1 57 1) 7 ∧ (vp_in ((pI t 59 (t.1 57 1).toNatClampNeg (((t.2.1 91 ((60 * x1) + (x5.toInt32)).toNatClampNeg).toInt32) &&& 255)).1 57 1) 7 ∧ Rt g (d + 1) mX8_people 58 [some (.ref 57), some (.int x1), some (.int x2), some (.int x3), some (.int (x4 + 1)), none, none, none] [] (pI (pI (pI t 59 (t.1 57 1).toNatClampNeg (((t.2.1 91 ((60 * x1) + (x5.toInt32)).toNatClampNeg).toInt32) &&& 255)) 60 ((pI t 59 (t.1 57 1).toNatClampNeg (((t.2.1 91 ((60 * x1) + (x5.toInt32)).toNatClampNeg).toInt32) &&& 255)).1 57 1).toNatClampNeg 0) 57 1 (((pI (pI t 59 (t.1 57 1).toNatClampNeg (((t.2.1 91 ((60 * x1) + (x5.toInt32)).toNatClampNeg).toInt32) &&& 255)) 60 ((pI t 59 (t.1 57 1).toNatClampNeg (((t.2.1 91 ((60 * x1) + (x5.toInt32)).toNatClampNeg).toInt32) &&& 255)).1 57 1).toNatClampNeg 0).1 57 1) + 1)) Q))) ∧ (¬ 8 ≤ x7 → vp_in ((((60 * x1) + (x5.toInt32)) + 1) + x7) 360 ∧ (vp_in ((8 * (t.1 57 1)) + x7) 56 ∧ Rt g (d + 1) mX8_people 125 [some (.ref 57), some (.int x1), some (.int x2), some (.int x3), some (.int x4), some (.long x5), none, some (.int (x7 + 1))] [] (pI t 58 ((8 * (t.1 57 1)) + x7).toNatClampNeg ((t.2.1 91 ((((60 * x1) + (x5.toInt32)) + 1) + x7).toNatClampNeg).toInt32)) Q))) : Rt g (d + 1) mX8_people 125 [some (.ref 57), some (.int x1), some (.int x2), some (.int x3), some (.int x4), some (.long x5), none, some (.int x7)] [] t Q := by
  refine s_iload dX8_people_125 rfl ?_
  refine s_bipush (v := 8) dX8_people_127 (by decide) ?_
  refine s_icmp_ge (tgt := 172) dX8_people_129 (by decide) (fun c1 => ?_) (fun c1 => ?_)
  · replace h := h.1 c1
    refine s_aload_n dX8_people_172 rfl rfl ?_
    refine t_getR (o' := 59) dX8_people_173 fl_X8_13 rfl (by decide) rfl rfl ?_
    refine s_aload_n dX8_people_176 rfl rfl ?_
    refine t_getI dX8_people_177 fl_X8_125 rfl (by decide) rfl ?_
    refine s_aload_n dX8_people_180 rfl rfl ?_
    refine t_getR (o' := 91) dX8_people_181 fl_X8_115 rfl (by decide) rfl rfl ?_
    refine s_bipush (v := 60) dX8_people_184 (by decide) ?_
    refine s_iload_n dX8_people_186 rfl rfl ?_
    refine s_imul dX8_people_187 ?_
    refine s_lload dX8_people_188 rfl ?_
    refine s_l2i dX8_people_190 ?_
    refine s_iadd dX8_people_191 ?_
    obtain ⟨g2, h⟩ := h
    refine t_lald dX8_people_192 rfl (by decide) g2 ?_
    refine s_l2i dX8_people_193 ?_
    refine s_sipush (v := 255) dX8_people_194 (by decide) ?_
    refine s_iand dX8_people_197 ?_
    obtain ⟨g3, h⟩ := h
    refine t_iast dX8_people_198 rfl (by decide) g3 ?_
    refine s_aload_n dX8_people_199 rfl rfl ?_
    refine t_getR (o' := 60) dX8_people_200 fl_X8_16 rfl (by decide) rfl rfl ?_
    refine s_aload_n dX8_people_203 rfl rfl ?_
    refine t_getI dX8_people_204 fl_X8_125 rfl (by decide) rfl ?_
    refine s_iconst (v := 0) dX8_people_207 (by decide) ?_
    obtain ⟨g4, h⟩ := h
    refine t_iast dX8_people_208 rfl (by decide) g4 ?_
    refine s_aload_n dX8_people_209 rfl rfl ?_
    refine s_dup dX8_people_210 rfl ?_
    refine t_getI dX8_people_211 fl_X8_125 rfl (by decide) rfl ?_
    refine s_iconst (v := 1) dX8_people_214 (by decide) ?_
    refine s_iadd dX8_people_215 ?_
    refine t_putI dX8_people_216 fl_X8_125 rfl (by decide) rfl rfl rfl rfl ?_
    refine s_iinc (w := x4 + 1) dX8_people_219 rfl (by rfl) (by decide) rfl (L9 := [some (.ref 57), some (.int x1), some (.int x2), some (.int x3), some (.int (x4 + 1)), some (.long x5), none, some (.int x7)]) rfl ?_
    refine s_goto (tgt := 58) dX8_people_222 (by decide) ?_
    exact Rt.lc h (lc_some (lc_some (lc_some (lc_some (lc_some (lc_none (lc_none (lc_none lc_nil))))))))
  · replace h := h.2 c1
    refine s_aload_n dX8_people_132 rfl rfl ?_
    refine t_getR (o' := 58) dX8_people_133 fl_X8_7 rfl (by decide) rfl rfl ?_
    refine s_bipush (v := 8) dX8_people_136 (by decide) ?_
    refine s_aload_n dX8_people_138 rfl rfl ?_
    refine t_getI dX8_people_139 fl_X8_125 rfl (by decide) rfl ?_
    refine s_imul dX8_people_142 ?_
    refine s_iload dX8_people_143 rfl ?_
    refine s_iadd dX8_people_145 ?_
    refine s_aload_n dX8_people_146 rfl rfl ?_
    refine t_getR (o' := 91) dX8_people_147 fl_X8_115 rfl (by decide) rfl rfl ?_
    refine s_bipush (v := 60) dX8_people_150 (by decide) ?_
    refine s_iload_n dX8_people_152 rfl rfl ?_
    refine s_imul dX8_people_153 ?_
    refine s_lload dX8_people_154 rfl ?_
    refine s_l2i dX8_people_156 ?_
    refine s_iadd dX8_people_157 ?_
    refine s_iconst (v := 1) dX8_people_158 (by decide) ?_
    refine s_iadd dX8_people_159 ?_
    refine s_iload dX8_people_160 rfl ?_
    refine s_iadd dX8_people_162 ?_
    obtain ⟨g5, h⟩ := h
    refine t_lald dX8_people_163 rfl (by decide) g5 ?_
    refine s_l2i dX8_people_164 ?_
    obtain ⟨g6, h⟩ := h
    refine t_iast dX8_people_165 rfl (by decide) g6 ?_
    refine s_iinc (w := x7 + 1) dX8_people_166 rfl (by rfl) (by decide) rfl (L9 := [some (.ref 57), some (.int x1), some (.int x2), some (.int x3), some (.int x4), some (.long x5), none, some (.int (x7 + 1))]) rfl ?_
    refine s_goto (tgt := 125) dX8_people_169 (by decide) ?_
    exact h
theorem bX8_valueAt_0 {g : Gt} {d : Nat} {t : Tt} {Q : Option Value → Tt → Prop} {p0 : Int32} {p1 : Int32} (h : (8 ≤ p0 → (¬ p0 = 8 → (¬ p0 = 9 → Q (some (.int (t.1 57 6))) t) ∧ (p0 = 9 → vp_in p1 10 ∧ Q (some (.int (t.1 61 p1.toNatClampNeg))) t)) ∧ (p0 = 8 → vp_in p1 7 ∧ Q (some (.int (t.1 59 p1.toNatClampNeg))) t)) ∧ (¬ 8 ≤ p0 → vp_in ((8 * p1) + p0) 56 ∧ Q (some (.int (t.1 58 ((8 * p1) + p0).toNatClampNeg))) t)) : Rt g d mX8_valueAt 0 [some (.ref 57), some (.int p0), some (.int p1)] [] t Q := by
  refine s_iload_n dX8_valueAt_0 rfl rfl ?_
  refine s_bipush (v := 8) dX8_valueAt_1 (by decide) ?_
  refine s_icmp_ge (tgt := 20) dX8_valueAt_3 (by decide) (fun c1 => ?_) (fun c1 => ?_)
  · replace h := h.1 c1
    refine s_iload_n dX8_valueAt_20 rfl rfl ?_
    refine s_bipush (v := 8) dX8_valueAt_21 (by decide) ?_
    refine s_icmp_ne (tgt := 35) dX8_valueAt_23 (by decide) (fun c2 => ?_) (fun c2 => ?_)
    · replace h := h.1 c2
      refine s_iload_n dX8_valueAt_35 rfl rfl ?_
      refine s_bipush (v := 9) dX8_valueAt_36 (by decide) ?_
      refine s_icmp_ne (tgt := 50) dX8_valueAt_38 (by decide) (fun c3 => ?_) (fun c3 => ?_)
      · replace h := h.1 c3
        refine s_aload_n dX8_valueAt_50 rfl rfl ?_
        refine t_getI dX8_valueAt_51 fl_X8_22 rfl (by decide) rfl ?_
        exact t_iret dX8_valueAt_54 (NR_i rfl _) h
      · replace h := h.2 c3
        refine s_aload_n dX8_valueAt_41 rfl rfl ?_
        refine t_getR (o' := 61) dX8_valueAt_42 fl_X8_19 rfl (by decide) rfl rfl ?_
        refine s_iload_n dX8_valueAt_45 rfl rfl ?_
        obtain ⟨g4, h⟩ := h
        refine t_iald dX8_valueAt_46 rfl (by decide) g4 ?_
        refine s_goto (tgt := 54) dX8_valueAt_47 (by decide) ?_
        exact t_iret dX8_valueAt_54 (NR_i rfl _) h
    · replace h := h.2 c2
      refine s_aload_n dX8_valueAt_26 rfl rfl ?_
      refine t_getR (o' := 59) dX8_valueAt_27 fl_X8_13 rfl (by decide) rfl rfl ?_
      refine s_iload_n dX8_valueAt_30 rfl rfl ?_
      obtain ⟨g5, h⟩ := h
      refine t_iald dX8_valueAt_31 rfl (by decide) g5 ?_
      refine s_goto (tgt := 54) dX8_valueAt_32 (by decide) ?_
      exact t_iret dX8_valueAt_54 (NR_i rfl _) h
  · replace h := h.2 c1
    refine s_aload_n dX8_valueAt_6 rfl rfl ?_
    refine t_getR (o' := 58) dX8_valueAt_7 fl_X8_7 rfl (by decide) rfl rfl ?_
    refine s_bipush (v := 8) dX8_valueAt_10 (by decide) ?_
    refine s_iload_n dX8_valueAt_12 rfl rfl ?_
    refine s_imul dX8_valueAt_13 ?_
    refine s_iload_n dX8_valueAt_14 rfl rfl ?_
    refine s_iadd dX8_valueAt_15 ?_
    obtain ⟨g6, h⟩ := h
    refine t_iald dX8_valueAt_16 rfl (by decide) g6 ?_
    refine s_goto (tgt := 54) dX8_valueAt_17 (by decide) ?_
    exact t_iret dX8_valueAt_54 (NR_i rfl _) h
theorem bX8_lays_0 {g : Gt} {d : Nat} {t : Tt} {Q : Option Value → Tt → Prop} {p0 : Int32} {p1 : Int32} {p2 : Int32} (h : (8 ≤ p0 → (¬ p0 = 8 → (¬ p0 = 9 → Q none (pI t 57 6 p2)) ∧ (p0 = 9 → vp_in p1 10 ∧ Q none (pI t 61 p1.toNatClampNeg p2))) ∧ (p0 = 8 → vp_in p1 7 ∧ Q none (pI t 59 p1.toNatClampNeg p2))) ∧ (¬ 8 ≤ p0 → vp_in ((8 * p1) + p0) 56 ∧ Q none (pI t 58 ((8 * p1) + p0).toNatClampNeg p2))) : Rt g d mX8_lays 0 [some (.ref 57), some (.int p0), some (.int p1), some (.int p2)] [] t Q := by
  refine s_iload_n dX8_lays_0 rfl rfl ?_
  refine s_bipush (v := 8) dX8_lays_1 (by decide) ?_
  refine s_icmp_ge (tgt := 21) dX8_lays_3 (by decide) (fun c1 => ?_) (fun c1 => ?_)
  · replace h := h.1 c1
    refine s_iload_n dX8_lays_21 rfl rfl ?_
    refine s_bipush (v := 8) dX8_lays_22 (by decide) ?_
    refine s_icmp_ne (tgt := 37) dX8_lays_24 (by decide) (fun c2 => ?_) (fun c2 => ?_)
    · replace h := h.1 c2
      refine s_iload_n dX8_lays_37 rfl rfl ?_
      refine s_bipush (v := 9) dX8_lays_38 (by decide) ?_
      refine s_icmp_ne (tgt := 53) dX8_lays_40 (by decide) (fun c3 => ?_) (fun c3 => ?_)
      · replace h := h.1 c3
        refine s_aload_n dX8_lays_53 rfl rfl ?_
        refine s_iload_n dX8_lays_54 rfl rfl ?_
        refine t_putI dX8_lays_55 fl_X8_22 rfl (by decide) rfl rfl rfl rfl ?_
        exact t_vret dX8_lays_58 rfl h
      · replace h := h.2 c3
        refine s_aload_n dX8_lays_43 rfl rfl ?_
        refine t_getR (o' := 61) dX8_lays_44 fl_X8_19 rfl (by decide) rfl rfl ?_
        refine s_iload_n dX8_lays_47 rfl rfl ?_
        refine s_iload_n dX8_lays_48 rfl rfl ?_
        obtain ⟨g4, h⟩ := h
        refine t_iast dX8_lays_49 rfl (by decide) g4 ?_
        refine s_goto (tgt := 58) dX8_lays_50 (by decide) ?_
        exact t_vret dX8_lays_58 rfl h
    · replace h := h.2 c2
      refine s_aload_n dX8_lays_27 rfl rfl ?_
      refine t_getR (o' := 59) dX8_lays_28 fl_X8_13 rfl (by decide) rfl rfl ?_
      refine s_iload_n dX8_lays_31 rfl rfl ?_
      refine s_iload_n dX8_lays_32 rfl rfl ?_
      obtain ⟨g5, h⟩ := h
      refine t_iast dX8_lays_33 rfl (by decide) g5 ?_
      refine s_goto (tgt := 58) dX8_lays_34 (by decide) ?_
      exact t_vret dX8_lays_58 rfl h
  · replace h := h.2 c1
    refine s_aload_n dX8_lays_6 rfl rfl ?_
    refine t_getR (o' := 58) dX8_lays_7 fl_X8_7 rfl (by decide) rfl rfl ?_
    refine s_bipush (v := 8) dX8_lays_10 (by decide) ?_
    refine s_iload_n dX8_lays_12 rfl rfl ?_
    refine s_imul dX8_lays_13 ?_
    refine s_iload_n dX8_lays_14 rfl rfl ?_
    refine s_iadd dX8_lays_15 ?_
    refine s_iload_n dX8_lays_16 rfl rfl ?_
    obtain ⟨g6, h⟩ := h
    refine t_iast dX8_lays_17 rfl (by decide) g6 ?_
    refine s_goto (tgt := 58) dX8_lays_18 (by decide) ?_
    exact t_vret dX8_lays_58 rfl h
theorem bX8_changes_0 {g : Gt} {d : Nat} {t : Tt} {Q : Option Value → Tt → Prop} {p0 : Int32} {p1 : Int32} {p2 : Int32} (h : Rt g d mX8_valueAt 0 [some (.ref 57), some (.int p0), some (.int p1)] [] t (QI (fun v2 t1 => (¬ v2 = p2 → (¬ ((pI t1 57 8 0).1 57 7) = 40 → Rt g (d + 1) mX8_changes 121 [some (.ref 57), some (.int p0), some (.int p1), some (.int p2), some (.int v2), none] [] (pI t1 57 8 0) Q) ∧ (((pI t1 57 8 0).1 57 7) = 40 → Rt g (d + 1) mX8_changes 34 [some (.ref 57), some (.int p0), some (.int p1), some (.int p2), some (.int v2), some (.int 1)] [] (pI t1 57 8 0) Q)) ∧ (v2 = p2 → Q (some (.int v2)) t1)))) : Rt g (d + 1) mX8_changes 0 [some (.ref 57), some (.int p0), some (.int p1), some (.int p2), none, none] [] t Q := by
  refine s_aload_n dX8_changes_0 rfl rfl ?_
  refine s_iload_n dX8_changes_1 rfl rfl ?_
  refine s_iload_n dX8_changes_2 rfl rfl ?_
  refine t_callV (M' := mX8_valueAt) (k := 0) (As := [.int p0, .int p1]) (rest := []) dX8_changes_3 ml_X8_142 miX8_valueAt msX8_valueAt rfl (by decide) rfl rfl (Nat.le_of_ble_eq_true rfl) (Nat.le_of_ble_eq_true rfl) rfl h (fun rv t1 q => ?_)
  obtain ⟨v2, rfl, h⟩ := q
  show Rt g (d + 1) mX8_changes 6 [some (.ref 57), some (.int p0), some (.int p1), some (.int p2), none, none] [.int v2] t1 Q
  refine s_istore dX8_changes_6 (by decide) rfl (L9 := [some (.ref 57), some (.int p0), some (.int p1), some (.int p2), some (.int v2), none]) rfl ?_
  refine s_iload dX8_changes_8 rfl ?_
  refine s_iload_n dX8_changes_10 rfl rfl ?_
  refine s_icmp_ne (tgt := 17) dX8_changes_11 (by decide) (fun c3 => ?_) (fun c3 => ?_)
  · replace h := h.1 c3
    refine s_aload_n dX8_changes_17 rfl rfl ?_
    refine s_iconst (v := 0) dX8_changes_18 (by decide) ?_
    refine t_putI dX8_changes_19 fl_X8_146 rfl (by decide) rfl rfl rfl rfl ?_
    refine s_aload_n dX8_changes_22 rfl rfl ?_
    refine t_getI dX8_changes_23 fl_X8_149 rfl (by decide) rfl ?_
    refine s_bipush (v := 40) dX8_changes_26 (by decide) ?_
    refine s_icmp_ne (tgt := 121) dX8_changes_28 (by decide) (fun c4 => ?_) (fun c4 => ?_)
    · replace h := h.1 c4
      exact h
    · replace h := h.2 c4
      refine s_iconst (v := 1) dX8_changes_31 (by decide) ?_
      refine s_istore dX8_changes_32 (by decide) rfl (L9 := [some (.ref 57), some (.int p0), some (.int p1), some (.int p2), some (.int v2), some (.int 1)]) rfl ?_
      exact h
  · replace h := h.2 c3
    refine s_iload dX8_changes_14 rfl ?_
    exact t_iret dX8_changes_16 (NR_i rfl _) h
theorem bX8_changes_121 {g : Gt} {d : Nat} {t : Tt} {Q : Option Value → Tt → Prop} {x1 : Int32} {x2 : Int32} {x3 : Int32} {x4 : Int32} (h : vp_in (t.1 57 7) 40 ∧ (vp_in ((pI t 62 (t.1 57 7).toNatClampNeg x1).1 57 7) 40 ∧ (vp_in ((pI (pI t 62 (t.1 57 7).toNatClampNeg x1) 63 ((pI t 62 (t.1 57 7).toNatClampNeg x1).1 57 7).toNatClampNeg x2).1 57 7) 40 ∧ (vp_in ((pI (pI (pI t 62 (t.1 57 7).toNatClampNeg x1) 63 ((pI t 62 (t.1 57 7).toNatClampNeg x1).1 57 7).toNatClampNeg x2) 64 ((pI (pI t 62 (t.1 57 7).toNatClampNeg x1) 63 ((pI t 62 (t.1 57 7).toNatClampNeg x1).1 57 7).toNatClampNeg x2).1 57 7).toNatClampNeg x4).1 57 7) 40 ∧ Rt g d mX8_lays 0 [some (.ref 57), some (.int x1), some (.int x2), some (.int x3)] [] (pI (pI (pI (pI (pI t 62 (t.1 57 7).toNatClampNeg x1) 63 ((pI t 62 (t.1 57 7).toNatClampNeg x1).1 57 7).toNatClampNeg x2) 64 ((pI (pI t 62 (t.1 57 7).toNatClampNeg x1) 63 ((pI t 62 (t.1 57 7).toNatClampNeg x1).1 57 7).toNatClampNeg x2).1 57 7).toNatClampNeg x4) 65 ((pI (pI (pI t 62 (t.1 57 7).toNatClampNeg x1) 63 ((pI t 62 (t.1 57 7).toNatClampNeg x1).1 57 7).toNatClampNeg x2) 64 ((pI (pI t 62 (t.1 57 7).toNatClampNeg x1) 63 ((pI t 62 (t.1 57 7).toNatClampNeg x1).1 57 7).toNatClampNeg x2).1 57 7).toNatClampNeg x4).1 57 7).toNatClampNeg x3) 57 7 (((pI (pI (pI (pI t 62 (t.1 57 7).toNatClampNeg x1) 63 ((pI t 62 (t.1 57 7).toNatClampNeg x1).1 57 7).toNatClampNeg x2) 64 ((pI (pI t 62 (t.1 57 7).toNatClampNeg x1) 63 ((pI t 62 (t.1 57 7).toNatClampNeg x1).1 57 7).toNatClampNeg x2).1 57 7).toNatClampNeg x4) 65 ((pI (pI (pI t 62 (t.1 57 7).toNatClampNeg x1) 63 ((pI t 62 (t.1 57 7).toNatClampNeg x1).1 57 7).toNatClampNeg x2) 64 ((pI (pI t 62 (t.1 57 7).toNatClampNeg x1) 63 ((pI t 62 (t.1 57 7).toNatClampNeg x1).1 57 7).toNatClampNeg x2).1 57 7).toNatClampNeg x4).1 57 7).toNatClampNeg x3).1 57 7) + 1)) (QV (fun t5 => Q (some (.int x4)) t5)))))) : Rt g (d + 1) mX8_changes 121 [some (.ref 57), some (.int x1), some (.int x2), some (.int x3), some (.int x4), none] [] t Q := by
  refine s_aload_n dX8_changes_121 rfl rfl ?_
  refine t_getR (o' := 62) dX8_changes_122 fl_X8_26 rfl (by decide) rfl rfl ?_
  refine s_aload_n dX8_changes_125 rfl rfl ?_
  refine t_getI dX8_changes_126 fl_X8_149 rfl (by decide) rfl ?_
  refine s_iload_n dX8_changes_129 rfl rfl ?_
  obtain ⟨g1, h⟩ := h
  refine t_iast dX8_changes_130 rfl (by decide) g1 ?_
  refine s_aload_n dX8_changes_131 rfl rfl ?_
  refine t_getR (o' := 63) dX8_changes_132 fl_X8_29 rfl (by decide) rfl rfl ?_
  refine s_aload_n dX8_changes_135 rfl rfl ?_
  refine t_getI dX8_changes_136 fl_X8_149 rfl (by decide) rfl ?_
  refine s_iload_n dX8_changes_139 rfl rfl ?_
  obtain ⟨g2, h⟩ := h
  refine t_iast dX8_changes_140 rfl (by decide) g2 ?_
  refine s_aload_n dX8_changes_141 rfl rfl ?_
  refine t_getR (o' := 64) dX8_changes_142 fl_X8_32 rfl (by decide) rfl rfl ?_
  refine s_aload_n dX8_changes_145 rfl rfl ?_
  refine t_getI dX8_changes_146 fl_X8_149 rfl (by decide) rfl ?_
  refine s_iload dX8_changes_149 rfl ?_
  obtain ⟨g3, h⟩ := h
  refine t_iast dX8_changes_151 rfl (by decide) g3 ?_
  refine s_aload_n dX8_changes_152 rfl rfl ?_
  refine t_getR (o' := 65) dX8_changes_153 fl_X8_35 rfl (by decide) rfl rfl ?_
  refine s_aload_n dX8_changes_156 rfl rfl ?_
  refine t_getI dX8_changes_157 fl_X8_149 rfl (by decide) rfl ?_
  refine s_iload_n dX8_changes_160 rfl rfl ?_
  obtain ⟨g4, h⟩ := h
  refine t_iast dX8_changes_161 rfl (by decide) g4 ?_
  refine s_aload_n dX8_changes_162 rfl rfl ?_
  refine s_dup dX8_changes_163 rfl ?_
  refine t_getI dX8_changes_164 fl_X8_149 rfl (by decide) rfl ?_
  refine s_iconst (v := 1) dX8_changes_167 (by decide) ?_
  refine s_iadd dX8_changes_168 ?_
  refine t_putI dX8_changes_169 fl_X8_149 rfl (by decide) rfl rfl rfl rfl ?_
  refine s_aload_n dX8_changes_172 rfl rfl ?_
  refine s_iload_n dX8_changes_173 rfl rfl ?_
  refine s_iload_n dX8_changes_174 rfl rfl ?_
  refine s_iload_n dX8_changes_175 rfl rfl ?_
  refine t_callV (M' := mX8_lays) (k := 0) (As := [.int x1, .int x2, .int x3]) (rest := []) dX8_changes_176 ml_X8_152 miX8_lays msX8_lays rfl (by decide) rfl rfl (Nat.le_of_ble_eq_true rfl) (Nat.le_of_ble_eq_true rfl) rfl h (fun rv t5 q => ?_)
  obtain ⟨rfl, h⟩ := q
  show Rt g (d + 1) mX8_changes 179 [some (.ref 57), some (.int x1), some (.int x2), some (.int x3), some (.int x4), none] [] t5 Q
  refine s_iload dX8_changes_179 rfl ?_
  exact t_iret dX8_changes_181 (NR_i rfl _) h
theorem bX8_changes_34 {g : Gt} {d : Nat} {t : Tt} {Q : Option Value → Tt → Prop} {x1 : Int32} {x2 : Int32} {x3 : Int32} {x4 : Int32} {x5 : Int32} (h : (40 ≤ x5 → Rt g (d + 1) mX8_changes 121 [some (.ref 57), some (.int x1), some (.int x2), some (.int x3), some (.int x4), none] [] (pI t 57 7 ((t.1 57 7) - 1)) Q) ∧ (¬ 40 ≤ x5 → vp_in x5 40 ∧ (vp_in (x5 - 1) 40 ∧ (vp_in x5 40 ∧ (vp_in (x5 - 1) 40 ∧ (vp_in x5 40 ∧ (vp_in (x5 - 1) 40 ∧ (vp_in x5 40 ∧ (vp_in (x5 - 1) 40 ∧ Rt g (d + 1) mX8_changes 34 [some (.ref 57), some (.int x1), some (.int x2), some (.int x3), some (.int x4), some (.int (x5 + 1))] [] (pI (pI (pI (pI t 62 (x5 - 1).toNatClampNeg (t.1 62 x5.toNatClampNeg)) 63 (x5 - 1).toNatClampNeg ((pI t 62 (x5 - 1).toNatClampNeg (t.1 62 x5.toNatClampNeg)).1 63 x5.toNatClampNeg)) 64 (x5 - 1).toNatClampNeg ((pI (pI t 62 (x5 - 1).toNatClampNeg (t.1 62 x5.toNatClampNeg)) 63 (x5 - 1).toNatClampNeg ((pI t 62 (x5 - 1).toNatClampNeg (t.1 62 x5.toNatClampNeg)).1 63 x5.toNatClampNeg)).1 64 x5.toNatClampNeg)) 65 (x5 - 1).toNatClampNeg ((pI (pI (pI t 62 (x5 - 1).toNatClampNeg (t.1 62 x5.toNatClampNeg)) 63 (x5 - 1).toNatClampNeg ((pI t 62 (x5 - 1).toNatClampNeg (t.1 62 x5.toNatClampNeg)).1 63 x5.toNatClampNeg)) 64 (x5 - 1).toNatClampNeg ((pI (pI t 62 (x5 - 1).toNatClampNeg (t.1 62 x5.toNatClampNeg)) 63 (x5 - 1).toNatClampNeg ((pI t 62 (x5 - 1).toNatClampNeg (t.1 62 x5.toNatClampNeg)).1 63 x5.toNatClampNeg)).1 64 x5.toNatClampNeg)).1 65 x5.toNatClampNeg)) Q))))))))) : Rt g (d + 1) mX8_changes 34 [some (.ref 57), some (.int x1), some (.int x2), some (.int x3), some (.int x4), some (.int x5)] [] t Q := by
  refine s_iload dX8_changes_34 rfl ?_
  refine s_bipush (v := 40) dX8_changes_36 (by decide) ?_
  refine s_icmp_ge (tgt := 111) dX8_changes_38 (by decide) (fun c1 => ?_) (fun c1 => ?_)
  · replace h := h.1 c1
    refine s_aload_n dX8_changes_111 rfl rfl ?_
    refine s_dup dX8_changes_112 rfl ?_
    refine t_getI dX8_changes_113 fl_X8_149 rfl (by decide) rfl ?_
    refine s_iconst (v := 1) dX8_changes_116 (by decide) ?_
    refine s_isub dX8_changes_117 ?_
    refine t_putI dX8_changes_118 fl_X8_149 rfl (by decide) rfl rfl rfl rfl ?_
    exact Rt.lc h (lc_some (lc_some (lc_some (lc_some (lc_some (lc_none lc_nil))))))
  · replace h := h.2 c1
    refine s_aload_n dX8_changes_41 rfl rfl ?_
    refine t_getR (o' := 62) dX8_changes_42 fl_X8_26 rfl (by decide) rfl rfl ?_
    refine s_iload dX8_changes_45 rfl ?_
    refine s_iconst (v := 1) dX8_changes_47 (by decide) ?_
    refine s_isub dX8_changes_48 ?_
    refine s_aload_n dX8_changes_49 rfl rfl ?_
    refine t_getR (o' := 62) dX8_changes_50 fl_X8_26 rfl (by decide) rfl rfl ?_
    refine s_iload dX8_changes_53 rfl ?_
    obtain ⟨g2, h⟩ := h
    refine t_iald dX8_changes_55 rfl (by decide) g2 ?_
    obtain ⟨g3, h⟩ := h
    refine t_iast dX8_changes_56 rfl (by decide) g3 ?_
    refine s_aload_n dX8_changes_57 rfl rfl ?_
    refine t_getR (o' := 63) dX8_changes_58 fl_X8_29 rfl (by decide) rfl rfl ?_
    refine s_iload dX8_changes_61 rfl ?_
    refine s_iconst (v := 1) dX8_changes_63 (by decide) ?_
    refine s_isub dX8_changes_64 ?_
    refine s_aload_n dX8_changes_65 rfl rfl ?_
    refine t_getR (o' := 63) dX8_changes_66 fl_X8_29 rfl (by decide) rfl rfl ?_
    refine s_iload dX8_changes_69 rfl ?_
    obtain ⟨g4, h⟩ := h
    refine t_iald dX8_changes_71 rfl (by decide) g4 ?_
    obtain ⟨g5, h⟩ := h
    refine t_iast dX8_changes_72 rfl (by decide) g5 ?_
    refine s_aload_n dX8_changes_73 rfl rfl ?_
    refine t_getR (o' := 64) dX8_changes_74 fl_X8_32 rfl (by decide) rfl rfl ?_
    refine s_iload dX8_changes_77 rfl ?_
    refine s_iconst (v := 1) dX8_changes_79 (by decide) ?_
    refine s_isub dX8_changes_80 ?_
    refine s_aload_n dX8_changes_81 rfl rfl ?_
    refine t_getR (o' := 64) dX8_changes_82 fl_X8_32 rfl (by decide) rfl rfl ?_
    refine s_iload dX8_changes_85 rfl ?_
    obtain ⟨g6, h⟩ := h
    refine t_iald dX8_changes_87 rfl (by decide) g6 ?_
    obtain ⟨g7, h⟩ := h
    refine t_iast dX8_changes_88 rfl (by decide) g7 ?_
    refine s_aload_n dX8_changes_89 rfl rfl ?_
    refine t_getR (o' := 65) dX8_changes_90 fl_X8_35 rfl (by decide) rfl rfl ?_
    refine s_iload dX8_changes_93 rfl ?_
    refine s_iconst (v := 1) dX8_changes_95 (by decide) ?_
    refine s_isub dX8_changes_96 ?_
    refine s_aload_n dX8_changes_97 rfl rfl ?_
    refine t_getR (o' := 65) dX8_changes_98 fl_X8_35 rfl (by decide) rfl rfl ?_
    refine s_iload dX8_changes_101 rfl ?_
    obtain ⟨g8, h⟩ := h
    refine t_iald dX8_changes_103 rfl (by decide) g8 ?_
    obtain ⟨g9, h⟩ := h
    refine t_iast dX8_changes_104 rfl (by decide) g9 ?_
    refine s_iinc (w := x5 + 1) dX8_changes_105 rfl (by rfl) (by decide) rfl (L9 := [some (.ref 57), some (.int x1), some (.int x2), some (.int x3), some (.int x4), some (.int (x5 + 1))]) rfl ?_
    refine s_goto (tgt := 34) dX8_changes_108 (by decide) ?_
    exact h
theorem bX8_undo_0 {g : Gt} {d : Nat} {t : Tt} {Q : Option Value → Tt → Prop} (h : (¬ (t.1 57 7) = 0 → vp_in ((pI (pI t 57 7 ((t.1 57 7) - 1)) 57 8 (((pI t 57 7 ((t.1 57 7) - 1)).1 57 8) + 1)).1 57 7) 40 ∧ (vp_in ((pI (pI t 57 7 ((t.1 57 7) - 1)) 57 8 (((pI t 57 7 ((t.1 57 7) - 1)).1 57 8) + 1)).1 57 7) 40 ∧ (vp_in ((pI (pI t 57 7 ((t.1 57 7) - 1)) 57 8 (((pI t 57 7 ((t.1 57 7) - 1)).1 57 8) + 1)).1 57 7) 40 ∧ Rt g d mX8_lays 0 [some (.ref 57), some (.int ((pI (pI t 57 7 ((t.1 57 7) - 1)) 57 8 (((pI t 57 7 ((t.1 57 7) - 1)).1 57 8) + 1)).1 62 ((pI (pI t 57 7 ((t.1 57 7) - 1)) 57 8 (((pI t 57 7 ((t.1 57 7) - 1)).1 57 8) + 1)).1 57 7).toNatClampNeg)), some (.int ((pI (pI t 57 7 ((t.1 57 7) - 1)) 57 8 (((pI t 57 7 ((t.1 57 7) - 1)).1 57 8) + 1)).1 63 ((pI (pI t 57 7 ((t.1 57 7) - 1)) 57 8 (((pI t 57 7 ((t.1 57 7) - 1)).1 57 8) + 1)).1 57 7).toNatClampNeg)), some (.int ((pI (pI t 57 7 ((t.1 57 7) - 1)) 57 8 (((pI t 57 7 ((t.1 57 7) - 1)).1 57 8) + 1)).1 64 ((pI (pI t 57 7 ((t.1 57 7) - 1)) 57 8 (((pI t 57 7 ((t.1 57 7) - 1)).1 57 8) + 1)).1 57 7).toNatClampNeg))] [] (pI (pI t 57 7 ((t.1 57 7) - 1)) 57 8 (((pI t 57 7 ((t.1 57 7) - 1)).1 57 8) + 1)) (QV (fun t5 => Q (some (.int (t5.1 57 7))) t5))))) ∧ ((t.1 57 7) = 0 → Q (some (.int (-5))) t)) : Rt g (d + 1) mX8_undo 0 [some (.ref 57)] [] t Q := by
  refine s_aload_n dX8_undo_0 rfl rfl ?_
  refine t_getI dX8_undo_1 fl_X8_149 rfl (by decide) rfl ?_
  refine s_if_ne (tgt := 10) dX8_undo_4 (by decide) (fun c1 => ?_) (fun c1 => ?_)
  · replace h := h.1 c1
    refine s_aload_n dX8_undo_10 rfl rfl ?_
    refine s_dup dX8_undo_11 rfl ?_
    refine t_getI dX8_undo_12 fl_X8_149 rfl (by decide) rfl ?_
    refine s_iconst (v := 1) dX8_undo_15 (by decide) ?_
    refine s_isub dX8_undo_16 ?_
    refine t_putI dX8_undo_17 fl_X8_149 rfl (by decide) rfl rfl rfl rfl ?_
    refine s_aload_n dX8_undo_20 rfl rfl ?_
    refine s_dup dX8_undo_21 rfl ?_
    refine t_getI dX8_undo_22 fl_X8_146 rfl (by decide) rfl ?_
    refine s_iconst (v := 1) dX8_undo_25 (by decide) ?_
    refine s_iadd dX8_undo_26 ?_
    refine t_putI dX8_undo_27 fl_X8_146 rfl (by decide) rfl rfl rfl rfl ?_
    refine s_aload_n dX8_undo_30 rfl rfl ?_
    refine s_aload_n dX8_undo_31 rfl rfl ?_
    refine t_getR (o' := 62) dX8_undo_32 fl_X8_26 rfl (by decide) rfl rfl ?_
    refine s_aload_n dX8_undo_35 rfl rfl ?_
    refine t_getI dX8_undo_36 fl_X8_149 rfl (by decide) rfl ?_
    obtain ⟨g2, h⟩ := h
    refine t_iald dX8_undo_39 rfl (by decide) g2 ?_
    refine s_aload_n dX8_undo_40 rfl rfl ?_
    refine t_getR (o' := 63) dX8_undo_41 fl_X8_29 rfl (by decide) rfl rfl ?_
    refine s_aload_n dX8_undo_44 rfl rfl ?_
    refine t_getI dX8_undo_45 fl_X8_149 rfl (by decide) rfl ?_
    obtain ⟨g3, h⟩ := h
    refine t_iald dX8_undo_48 rfl (by decide) g3 ?_
    refine s_aload_n dX8_undo_49 rfl rfl ?_
    refine t_getR (o' := 64) dX8_undo_50 fl_X8_32 rfl (by decide) rfl rfl ?_
    refine s_aload_n dX8_undo_53 rfl rfl ?_
    refine t_getI dX8_undo_54 fl_X8_149 rfl (by decide) rfl ?_
    obtain ⟨g4, h⟩ := h
    refine t_iald dX8_undo_57 rfl (by decide) g4 ?_
    refine t_callV (M' := mX8_lays) (k := 0) (As := [.int ((pI (pI t 57 7 ((t.1 57 7) - 1)) 57 8 (((pI t 57 7 ((t.1 57 7) - 1)).1 57 8) + 1)).1 62 ((pI (pI t 57 7 ((t.1 57 7) - 1)) 57 8 (((pI t 57 7 ((t.1 57 7) - 1)).1 57 8) + 1)).1 57 7).toNatClampNeg), .int ((pI (pI t 57 7 ((t.1 57 7) - 1)) 57 8 (((pI t 57 7 ((t.1 57 7) - 1)).1 57 8) + 1)).1 63 ((pI (pI t 57 7 ((t.1 57 7) - 1)) 57 8 (((pI t 57 7 ((t.1 57 7) - 1)).1 57 8) + 1)).1 57 7).toNatClampNeg), .int ((pI (pI t 57 7 ((t.1 57 7) - 1)) 57 8 (((pI t 57 7 ((t.1 57 7) - 1)).1 57 8) + 1)).1 64 ((pI (pI t 57 7 ((t.1 57 7) - 1)) 57 8 (((pI t 57 7 ((t.1 57 7) - 1)).1 57 8) + 1)).1 57 7).toNatClampNeg)]) (rest := []) dX8_undo_58 ml_X8_152 miX8_lays msX8_lays rfl (by decide) rfl rfl (Nat.le_of_ble_eq_true rfl) (Nat.le_of_ble_eq_true rfl) rfl h (fun rv t5 q => ?_)
    obtain ⟨rfl, h⟩ := q
    show Rt g (d + 1) mX8_undo 61 [some (.ref 57)] [] t5 Q
    refine s_aload_n dX8_undo_61 rfl rfl ?_
    refine t_getI dX8_undo_62 fl_X8_149 rfl (by decide) rfl ?_
    exact t_iret dX8_undo_65 (NR_i rfl _) h
  · replace h := h.2 c1
    refine s_bipush (v := (-5)) dX8_undo_7 (by decide) ?_
    exact t_iret dX8_undo_9 (NR_i rfl _) h
theorem bX8_redo_0 {g : Gt} {d : Nat} {t : Tt} {Q : Option Value → Tt → Prop} (h : (¬ (t.1 57 8) = 0 → vp_in (t.1 57 7) 40 ∧ (vp_in (t.1 57 7) 40 ∧ (vp_in (t.1 57 7) 40 ∧ Rt g d mX8_lays 0 [some (.ref 57), some (.int (t.1 62 (t.1 57 7).toNatClampNeg)), some (.int (t.1 63 (t.1 57 7).toNatClampNeg)), some (.int (t.1 65 (t.1 57 7).toNatClampNeg))] [] t (QV (fun t5 => Q (some (.int ((pI (pI t5 57 7 ((t5.1 57 7) + 1)) 57 8 (((pI t5 57 7 ((t5.1 57 7) + 1)).1 57 8) - 1)).1 57 8))) (pI (pI t5 57 7 ((t5.1 57 7) + 1)) 57 8 (((pI t5 57 7 ((t5.1 57 7) + 1)).1 57 8) - 1))))))) ∧ ((t.1 57 8) = 0 → Q (some (.int (-5))) t)) : Rt g (d + 1) mX8_redo 0 [some (.ref 57)] [] t Q := by
  refine s_aload_n dX8_redo_0 rfl rfl ?_
  refine t_getI dX8_redo_1 fl_X8_146 rfl (by decide) rfl ?_
  refine s_if_ne (tgt := 10) dX8_redo_4 (by decide) (fun c1 => ?_) (fun c1 => ?_)
  · replace h := h.1 c1
    refine s_aload_n dX8_redo_10 rfl rfl ?_
    refine s_aload_n dX8_redo_11 rfl rfl ?_
    refine t_getR (o' := 62) dX8_redo_12 fl_X8_26 rfl (by decide) rfl rfl ?_
    refine s_aload_n dX8_redo_15 rfl rfl ?_
    refine t_getI dX8_redo_16 fl_X8_149 rfl (by decide) rfl ?_
    obtain ⟨g2, h⟩ := h
    refine t_iald dX8_redo_19 rfl (by decide) g2 ?_
    refine s_aload_n dX8_redo_20 rfl rfl ?_
    refine t_getR (o' := 63) dX8_redo_21 fl_X8_29 rfl (by decide) rfl rfl ?_
    refine s_aload_n dX8_redo_24 rfl rfl ?_
    refine t_getI dX8_redo_25 fl_X8_149 rfl (by decide) rfl ?_
    obtain ⟨g3, h⟩ := h
    refine t_iald dX8_redo_28 rfl (by decide) g3 ?_
    refine s_aload_n dX8_redo_29 rfl rfl ?_
    refine t_getR (o' := 65) dX8_redo_30 fl_X8_35 rfl (by decide) rfl rfl ?_
    refine s_aload_n dX8_redo_33 rfl rfl ?_
    refine t_getI dX8_redo_34 fl_X8_149 rfl (by decide) rfl ?_
    obtain ⟨g4, h⟩ := h
    refine t_iald dX8_redo_37 rfl (by decide) g4 ?_
    refine t_callV (M' := mX8_lays) (k := 0) (As := [.int (t.1 62 (t.1 57 7).toNatClampNeg), .int (t.1 63 (t.1 57 7).toNatClampNeg), .int (t.1 65 (t.1 57 7).toNatClampNeg)]) (rest := []) dX8_redo_38 ml_X8_152 miX8_lays msX8_lays rfl (by decide) rfl rfl (Nat.le_of_ble_eq_true rfl) (Nat.le_of_ble_eq_true rfl) rfl h (fun rv t5 q => ?_)
    obtain ⟨rfl, h⟩ := q
    show Rt g (d + 1) mX8_redo 41 [some (.ref 57)] [] t5 Q
    refine s_aload_n dX8_redo_41 rfl rfl ?_
    refine s_dup dX8_redo_42 rfl ?_
    refine t_getI dX8_redo_43 fl_X8_149 rfl (by decide) rfl ?_
    refine s_iconst (v := 1) dX8_redo_46 (by decide) ?_
    refine s_iadd dX8_redo_47 ?_
    refine t_putI dX8_redo_48 fl_X8_149 rfl (by decide) rfl rfl rfl rfl ?_
    refine s_aload_n dX8_redo_51 rfl rfl ?_
    refine s_dup dX8_redo_52 rfl ?_
    refine t_getI dX8_redo_53 fl_X8_146 rfl (by decide) rfl ?_
    refine s_iconst (v := 1) dX8_redo_56 (by decide) ?_
    refine s_isub dX8_redo_57 ?_
    refine t_putI dX8_redo_58 fl_X8_146 rfl (by decide) rfl rfl rfl rfl ?_
    refine s_aload_n dX8_redo_61 rfl rfl ?_
    refine t_getI dX8_redo_62 fl_X8_146 rfl (by decide) rfl ?_
    exact t_iret dX8_redo_65 (NR_i rfl _) h
  · replace h := h.2 c1
    refine s_bipush (v := (-5)) dX8_redo_7 (by decide) ?_
    exact t_iret dX8_redo_9 (NR_i rfl _) h
theorem bX8_isOne_0 {g : Gt} {d : Nat} {t : Tt} {Q : Option Value → Tt → Prop} {p0 : Int32} {p1 : Int32} (h : Rt g d mX8_in 0 [some (.int p1), some (.int 0), some (.int 8)] [] t (QI (fun v2 t1 => (v2 = 0 → (¬ p1 = 9 → (¬ p1 = 10 → Q (some (.int 0)) t1) ∧ (p1 = 10 → (¬ p0 = 0 → Q (some (.int 0)) t1) ∧ (p0 = 0 → Q (some (.int 1)) t1))) ∧ (p1 = 9 → Rt g d mX8_isFact 0 [some (.int p0)] [] t1 (QI (fun v8 t7 => (v8 = 0 ∨ v8 = 1) ∧ Q (some (.int v8)) t7)))) ∧ (¬ v2 = 0 → Rt g d mX8_isPerson 0 [some (.ref 57), some (.int p0)] [] t1 (QI (fun v10 t9 => (v10 = 0 ∨ v10 = 1) ∧ Q (some (.int v10)) t9)))))) : Rt g (d + 1) mX8_isOne 0 [some (.ref 57), some (.int p0), some (.int p1)] [] t Q := by
  refine s_iload_n dX8_isOne_0 rfl rfl ?_
  refine s_iconst (v := 0) dX8_isOne_1 (by decide) ?_
  refine s_bipush (v := 8) dX8_isOne_2 (by decide) ?_
  refine t_callS (M' := mX8_in) (k := 0) (As := [.int p1, .int 0, .int 8]) (rest := []) dX8_isOne_4 ml_X8_128 mstX8_in rfl (Nat.le_of_ble_eq_true rfl) (Nat.le_of_ble_eq_true rfl) rfl h (fun rv t1 q => ?_)
  obtain ⟨v2, rfl, h⟩ := q
  show Rt g (d + 1) mX8_isOne 7 [some (.ref 57), some (.int p0), some (.int p1)] [.int v2] t1 Q
  refine s_if_eq (tgt := 18) dX8_isOne_7 (by decide) (fun c3 => ?_) (fun c3 => ?_)
  · replace h := h.1 c3
    refine s_iload_n dX8_isOne_18 rfl rfl ?_
    refine s_bipush (v := 9) dX8_isOne_19 (by decide) ?_
    refine s_icmp_ne (tgt := 31) dX8_isOne_21 (by decide) (fun c4 => ?_) (fun c4 => ?_)
    · replace h := h.1 c4
      refine s_iload_n dX8_isOne_31 rfl rfl ?_
      refine s_bipush (v := 10) dX8_isOne_32 (by decide) ?_
      refine s_icmp_ne (tgt := 45) dX8_isOne_34 (by decide) (fun c5 => ?_) (fun c5 => ?_)
      · replace h := h.1 c5
        refine s_iconst (v := 0) dX8_isOne_45 (by decide) ?_
        exact t_iret dX8_isOne_46 (NR_z rfl (Or.inl rfl)) h
      · replace h := h.2 c5
        refine s_iload_n dX8_isOne_37 rfl rfl ?_
        refine s_if_ne (tgt := 45) dX8_isOne_38 (by decide) (fun c6 => ?_) (fun c6 => ?_)
        · replace h := h.1 c6
          refine s_iconst (v := 0) dX8_isOne_45 (by decide) ?_
          exact t_iret dX8_isOne_46 (NR_z rfl (Or.inl rfl)) h
        · replace h := h.2 c6
          refine s_iconst (v := 1) dX8_isOne_41 (by decide) ?_
          refine s_goto (tgt := 46) dX8_isOne_42 (by decide) ?_
          exact t_iret dX8_isOne_46 (NR_z rfl (Or.inr rfl)) h
    · replace h := h.2 c4
      refine s_iload_n dX8_isOne_24 rfl rfl ?_
      refine t_callS (M' := mX8_isFact) (k := 0) (As := [.int p0]) (rest := []) dX8_isOne_25 ml_X8_159 mstX8_isFact rfl (Nat.le_of_ble_eq_true rfl) (Nat.le_of_ble_eq_true rfl) rfl h (fun rv t7 q => ?_)
      obtain ⟨v8, rfl, h⟩ := q
      show Rt g (d + 1) mX8_isOne 28 [some (.ref 57), some (.int p0), some (.int p1)] [.int v8] t7 Q
      refine s_goto (tgt := 46) dX8_isOne_28 (by decide) ?_
      exact t_iret dX8_isOne_46 (NR_z rfl h.1) h.2
  · replace h := h.2 c3
    refine s_aload_n dX8_isOne_10 rfl rfl ?_
    refine s_iload_n dX8_isOne_11 rfl rfl ?_
    refine t_callV (M' := mX8_isPerson) (k := 0) (As := [.int p0]) (rest := []) dX8_isOne_12 ml_X8_156 miX8_isPerson msX8_isPerson rfl (by decide) rfl rfl (Nat.le_of_ble_eq_true rfl) (Nat.le_of_ble_eq_true rfl) rfl h (fun rv t9 q => ?_)
    obtain ⟨v10, rfl, h⟩ := q
    show Rt g (d + 1) mX8_isOne 15 [some (.ref 57), some (.int p0), some (.int p1)] [.int v10] t9 Q
    refine s_goto (tgt := 46) dX8_isOne_15 (by decide) ?_
    exact t_iret dX8_isOne_46 (NR_z rfl h.1) h.2
theorem bX8_mayBe_0 {g : Gt} {d : Nat} {t : Tt} {Q : Option Value → Tt → Prop} {p0 : Int32} {p1 : Int32} (h : (¬ p0 = 8 → (¬ p0 = 9 → Rt g d mX8_in 0 [some (.int p1), some (.int 0), some (.int 9)] [] t (QI (fun v4 t3 => (v4 = 0 ∨ v4 = 1) ∧ Q (some (.int v4)) t3))) ∧ (p0 = 9 → Rt g d mX8_in 0 [some (.int p1), some (.int 0), some (.int 1)] [] t (QI (fun v6 t5 => (v6 = 0 ∨ v6 = 1) ∧ Q (some (.int v6)) t5)))) ∧ (p0 = 8 → Rt g d mX8_in 0 [some (.int p1), some (.int 0), some (.int 255)] [] t (QI (fun v8 t7 => (v8 = 0 ∨ v8 = 1) ∧ Q (some (.int v8)) t7)))) : Rt g (d + 1) mX8_mayBe 0 [some (.int p0), some (.int p1)] [] t Q := by
  refine s_iload_n dX8_mayBe_0 rfl rfl ?_
  refine s_bipush (v := 8) dX8_mayBe_1 (by decide) ?_
  refine s_icmp_ne (tgt := 17) dX8_mayBe_3 (by decide) (fun c1 => ?_) (fun c1 => ?_)
  · replace h := h.1 c1
    refine s_iload_n dX8_mayBe_17 rfl rfl ?_
    refine s_bipush (v := 9) dX8_mayBe_18 (by decide) ?_
    refine s_icmp_ne (tgt := 32) dX8_mayBe_20 (by decide) (fun c2 => ?_) (fun c2 => ?_)
    · replace h := h.1 c2
      refine s_iload_n dX8_mayBe_32 rfl rfl ?_
      refine s_iconst (v := 0) dX8_mayBe_33 (by decide) ?_
      refine s_bipush (v := 9) dX8_mayBe_34 (by decide) ?_
      refine t_callS (M' := mX8_in) (k := 0) (As := [.int p1, .int 0, .int 9]) (rest := []) dX8_mayBe_36 ml_X8_128 mstX8_in rfl (Nat.le_of_ble_eq_true rfl) (Nat.le_of_ble_eq_true rfl) rfl h (fun rv t3 q => ?_)
      obtain ⟨v4, rfl, h⟩ := q
      show Rt g (d + 1) mX8_mayBe 39 [some (.int p0), some (.int p1)] [.int v4] t3 Q
      exact t_iret dX8_mayBe_39 (NR_z rfl h.1) h.2
    · replace h := h.2 c2
      refine s_iload_n dX8_mayBe_23 rfl rfl ?_
      refine s_iconst (v := 0) dX8_mayBe_24 (by decide) ?_
      refine s_iconst (v := 1) dX8_mayBe_25 (by decide) ?_
      refine t_callS (M' := mX8_in) (k := 0) (As := [.int p1, .int 0, .int 1]) (rest := []) dX8_mayBe_26 ml_X8_128 mstX8_in rfl (Nat.le_of_ble_eq_true rfl) (Nat.le_of_ble_eq_true rfl) rfl h (fun rv t5 q => ?_)
      obtain ⟨v6, rfl, h⟩ := q
      show Rt g (d + 1) mX8_mayBe 29 [some (.int p0), some (.int p1)] [.int v6] t5 Q
      refine s_goto (tgt := 39) dX8_mayBe_29 (by decide) ?_
      exact t_iret dX8_mayBe_39 (NR_z rfl h.1) h.2
  · replace h := h.2 c1
    refine s_iload_n dX8_mayBe_6 rfl rfl ?_
    refine s_iconst (v := 0) dX8_mayBe_7 (by decide) ?_
    refine s_sipush (v := 255) dX8_mayBe_8 (by decide) ?_
    refine t_callS (M' := mX8_in) (k := 0) (As := [.int p1, .int 0, .int 255]) (rest := []) dX8_mayBe_11 ml_X8_128 mstX8_in rfl (Nat.le_of_ble_eq_true rfl) (Nat.le_of_ble_eq_true rfl) rfl h (fun rv t7 q => ?_)
    obtain ⟨v8, rfl, h⟩ := q
    show Rt g (d + 1) mX8_mayBe 14 [some (.int p0), some (.int p1)] [.int v8] t7 Q
    refine s_goto (tgt := 39) dX8_mayBe_14 (by decide) ?_
    exact t_iret dX8_mayBe_39 (NR_z rfl h.1) h.2
theorem bX8_mend_0 {g : Gt} {d : Nat} {t : Tt} {Q : Option Value → Tt → Prop} {p0 : Int32} {p1 : Int32} {p2 : Int32} (h : Rt g d mX8_isOne 0 [some (.ref 57), some (.int p0), some (.int p1)] [] t (QI (fun v2 t1 => (v2 = 0 → Q (some (.int (-1))) t1) ∧ (¬ v2 = 0 → Rt g d mX8_mayBe 0 [some (.int p1), some (.int p2)] [] t1 (QI (fun v5 t4 => (v5 = 0 → Q (some (.int (-1))) t4) ∧ (¬ v5 = 0 → Rt g d mX8_changes 0 [some (.ref 57), some (.int p1), some (.int p0), some (.int p2), none, none] [] t4 (QI (fun v8 t7 => Q (some (.int v8)) t7))))))))) : Rt g (d + 1) mX8_mend 0 [some (.ref 57), some (.int p0), some (.int p1), some (.int p2)] [] t Q := by
  refine s_aload_n dX8_mend_0 rfl rfl ?_
  refine s_iload_n dX8_mend_1 rfl rfl ?_
  refine s_iload_n dX8_mend_2 rfl rfl ?_
  refine t_callV (M' := mX8_isOne) (k := 0) (As := [.int p0, .int p1]) (rest := []) dX8_mend_3 ml_X8_162 miX8_isOne msX8_isOne rfl (by decide) rfl rfl (Nat.le_of_ble_eq_true rfl) (Nat.le_of_ble_eq_true rfl) rfl h (fun rv t1 q => ?_)
  obtain ⟨v2, rfl, h⟩ := q
  show Rt g (d + 1) mX8_mend 6 [some (.ref 57), some (.int p0), some (.int p1), some (.int p2)] [.int v2] t1 Q
  refine s_if_eq (tgt := 27) dX8_mend_6 (by decide) (fun c3 => ?_) (fun c3 => ?_)
  · replace h := h.1 c3
    refine s_iconst (v := (-1)) dX8_mend_27 (by decide) ?_
    exact t_iret dX8_mend_28 (NR_i rfl _) h
  · replace h := h.2 c3
    refine s_iload_n dX8_mend_9 rfl rfl ?_
    refine s_iload_n dX8_mend_10 rfl rfl ?_
    refine t_callS (M' := mX8_mayBe) (k := 0) (As := [.int p1, .int p2]) (rest := []) dX8_mend_11 ml_X8_165 mstX8_mayBe rfl (Nat.le_of_ble_eq_true rfl) (Nat.le_of_ble_eq_true rfl) rfl h (fun rv t4 q => ?_)
    obtain ⟨v5, rfl, h⟩ := q
    show Rt g (d + 1) mX8_mend 14 [some (.ref 57), some (.int p0), some (.int p1), some (.int p2)] [.int v5] t4 Q
    refine s_if_eq (tgt := 27) dX8_mend_14 (by decide) (fun c6 => ?_) (fun c6 => ?_)
    · replace h := h.1 c6
      refine s_iconst (v := (-1)) dX8_mend_27 (by decide) ?_
      exact t_iret dX8_mend_28 (NR_i rfl _) h
    · replace h := h.2 c6
      refine s_aload_n dX8_mend_17 rfl rfl ?_
      refine s_iload_n dX8_mend_18 rfl rfl ?_
      refine s_iload_n dX8_mend_19 rfl rfl ?_
      refine s_iload_n dX8_mend_20 rfl rfl ?_
      refine t_callV (M' := mX8_changes) (k := 2) (As := [.int p1, .int p0, .int p2]) (rest := []) dX8_mend_21 ml_X8_168 miX8_changes msX8_changes rfl (by decide) rfl rfl (Nat.le_of_ble_eq_true rfl) (Nat.le_of_ble_eq_true rfl) rfl h (fun rv t7 q => ?_)
      obtain ⟨v8, rfl, h⟩ := q
      show Rt g (d + 1) mX8_mend 24 [some (.ref 57), some (.int p0), some (.int p1), some (.int p2)] [.int v8] t7 Q
      refine s_goto (tgt := 28) dX8_mend_24 (by decide) ?_
      exact t_iret dX8_mend_28 (NR_i rfl _) h
theorem bX8_of_0 {g : Gt} {d : Nat} {t : Tt} {Q : Option Value → Tt → Prop} {p0 : Int32} {p1 : Int32} (h : Rt g d mX8_in 0 [some (.int p1), some (.int 11), some (.int 12)] [] t (QI (fun v2 t1 => (v2 = 0 → Rt g d mX8_isOne 0 [some (.ref 57), some (.int p0), some (.int p1)] [] t1 (QI (fun v5 t4 => (v5 = 0 → Q (some (.int (-1))) t4) ∧ (¬ v5 = 0 → Rt g d mX8_valueAt 0 [some (.ref 57), some (.int p1), some (.int p0)] [] t4 (QI (fun v8 t7 => Q (some (.int v8)) t7)))))) ∧ (¬ v2 = 0 → Rt g d mX8_isPerson 0 [some (.ref 57), some (.int p0)] [] t1 (QI (fun v10 t9 => (¬ v10 = 0 → Rt g d mX8_beginMouths 0 [some (.ref 57), none] [] t9 (QV (fun t12 => (¬ p1 = 11 → vp_in p0 7 ∧ Q (some (.int (t12.1 60 p0.toNatClampNeg))) t12) ∧ (p1 = 11 → Rt g d mX8_worthOf 0 [some (.ref 57), some (.int p0)] [] t12 (QI (fun v16 t15 => Q (some (.int v16)) t15)))))) ∧ (v10 = 0 → Q (some (.int (-1))) t9))))))) : Rt g (d + 1) mX8_of 0 [some (.ref 57), some (.int p0), some (.int p1)] [] t Q := by
  refine s_iload_n dX8_of_0 rfl rfl ?_
  refine s_bipush (v := 11) dX8_of_1 (by decide) ?_
  refine s_bipush (v := 12) dX8_of_3 (by decide) ?_
  refine t_callS (M' := mX8_in) (k := 0) (As := [.int p1, .int 11, .int 12]) (rest := []) dX8_of_5 ml_X8_128 mstX8_in rfl (Nat.le_of_ble_eq_true rfl) (Nat.le_of_ble_eq_true rfl) rfl h (fun rv t1 q => ?_)
  obtain ⟨v2, rfl, h⟩ := q
  show Rt g (d + 1) mX8_of 8 [some (.ref 57), some (.int p0), some (.int p1)] [.int v2] t1 Q
  refine s_if_eq (tgt := 46) dX8_of_8 (by decide) (fun c3 => ?_) (fun c3 => ?_)
  · replace h := h.1 c3
    refine s_aload_n dX8_of_46 rfl rfl ?_
    refine s_iload_n dX8_of_47 rfl rfl ?_
    refine s_iload_n dX8_of_48 rfl rfl ?_
    refine t_callV (M' := mX8_isOne) (k := 0) (As := [.int p0, .int p1]) (rest := []) dX8_of_49 ml_X8_162 miX8_isOne msX8_isOne rfl (by decide) rfl rfl (Nat.le_of_ble_eq_true rfl) (Nat.le_of_ble_eq_true rfl) rfl h (fun rv t4 q => ?_)
    obtain ⟨v5, rfl, h⟩ := q
    show Rt g (d + 1) mX8_of 52 [some (.ref 57), some (.int p0), some (.int p1)] [.int v5] t4 Q
    refine s_if_eq (tgt := 64) dX8_of_52 (by decide) (fun c6 => ?_) (fun c6 => ?_)
    · replace h := h.1 c6
      refine s_iconst (v := (-1)) dX8_of_64 (by decide) ?_
      exact t_iret dX8_of_65 (NR_i rfl _) h
    · replace h := h.2 c6
      refine s_aload_n dX8_of_55 rfl rfl ?_
      refine s_iload_n dX8_of_56 rfl rfl ?_
      refine s_iload_n dX8_of_57 rfl rfl ?_
      refine t_callV (M' := mX8_valueAt) (k := 0) (As := [.int p1, .int p0]) (rest := []) dX8_of_58 ml_X8_142 miX8_valueAt msX8_valueAt rfl (by decide) rfl rfl (Nat.le_of_ble_eq_true rfl) (Nat.le_of_ble_eq_true rfl) rfl h (fun rv t7 q => ?_)
      obtain ⟨v8, rfl, h⟩ := q
      show Rt g (d + 1) mX8_of 61 [some (.ref 57), some (.int p0), some (.int p1)] [.int v8] t7 Q
      refine s_goto (tgt := 65) dX8_of_61 (by decide) ?_
      exact t_iret dX8_of_65 (NR_i rfl _) h
  · replace h := h.2 c3
    refine s_aload_n dX8_of_11 rfl rfl ?_
    refine s_iload_n dX8_of_12 rfl rfl ?_
    refine t_callV (M' := mX8_isPerson) (k := 0) (As := [.int p0]) (rest := []) dX8_of_13 ml_X8_156 miX8_isPerson msX8_isPerson rfl (by decide) rfl rfl (Nat.le_of_ble_eq_true rfl) (Nat.le_of_ble_eq_true rfl) rfl h (fun rv t9 q => ?_)
    obtain ⟨v10, rfl, h⟩ := q
    show Rt g (d + 1) mX8_of 16 [some (.ref 57), some (.int p0), some (.int p1)] [.int v10] t9 Q
    refine s_if_ne (tgt := 21) dX8_of_16 (by decide) (fun c11 => ?_) (fun c11 => ?_)
    · replace h := h.1 c11
      refine s_aload_n dX8_of_21 rfl rfl ?_
      refine t_callV (M' := mX8_beginMouths) (k := 1) (As := []) (rest := []) dX8_of_22 ml_X8_172 miX8_beginMouths msX8_beginMouths rfl (by decide) rfl rfl (Nat.le_of_ble_eq_true rfl) (Nat.le_of_ble_eq_true rfl) rfl h (fun rv t12 q => ?_)
      obtain ⟨rfl, h⟩ := q
      show Rt g (d + 1) mX8_of 25 [some (.ref 57), some (.int p0), some (.int p1)] [] t12 Q
      refine s_iload_n dX8_of_25 rfl rfl ?_
      refine s_bipush (v := 11) dX8_of_26 (by decide) ?_
      refine s_icmp_ne (tgt := 39) dX8_of_28 (by decide) (fun c13 => ?_) (fun c13 => ?_)
      · replace h := h.1 c13
        refine s_aload_n dX8_of_39 rfl rfl ?_
        refine t_getR (o' := 60) dX8_of_40 fl_X8_16 rfl (by decide) rfl rfl ?_
        refine s_iload_n dX8_of_43 rfl rfl ?_
        obtain ⟨g14, h⟩ := h
        refine t_iald dX8_of_44 rfl (by decide) g14 ?_
        exact t_iret dX8_of_45 (NR_i rfl _) h
      · replace h := h.2 c13
        refine s_aload_n dX8_of_31 rfl rfl ?_
        refine s_iload_n dX8_of_32 rfl rfl ?_
        refine t_callV (M' := mX8_worthOf) (k := 0) (As := [.int p0]) (rest := []) dX8_of_33 ml_X8_175 miX8_worthOf msX8_worthOf rfl (by decide) rfl rfl (Nat.le_of_ble_eq_true rfl) (Nat.le_of_ble_eq_true rfl) rfl h (fun rv t15 q => ?_)
        obtain ⟨v16, rfl, h⟩ := q
        show Rt g (d + 1) mX8_of 36 [some (.ref 57), some (.int p0), some (.int p1)] [.int v16] t15 Q
        refine s_goto (tgt := 45) dX8_of_36 (by decide) ?_
        exact t_iret dX8_of_45 (NR_i rfl _) h
    · replace h := h.2 c11
      refine s_iconst (v := (-1)) dX8_of_19 (by decide) ?_
      exact t_iret dX8_of_20 (NR_i rfl _) h
theorem bX8_feed_0 {g : Gt} {d : Nat} {t : Tt} {Q : Option Value → Tt → Prop} {p0 : Int32} (h : Rt g d mX8_in 0 [some (.int p0), some (.int 0), some (.int 255)] [] t (QI (fun v2 t1 => (¬ v2 = 0 → (¬ (t1.1 57 14) = 120 → vp_in (t1.1 57 14) 120 ∧ Q (some (.int ((pI (pI t1 66 (t1.1 57 14).toNatClampNeg (vp_nar .byte (p0.toInt8.toInt32))) 57 14 (((pI t1 66 (t1.1 57 14).toNatClampNeg (vp_nar .byte (p0.toInt8.toInt32))).1 57 14) + 1)).1 57 14))) (pI (pI t1 66 (t1.1 57 14).toNatClampNeg (vp_nar .byte (p0.toInt8.toInt32))) 57 14 (((pI t1 66 (t1.1 57 14).toNatClampNeg (vp_nar .byte (p0.toInt8.toInt32))).1 57 14) + 1))) ∧ ((t1.1 57 14) = 120 → Q (some (.int (-3))) t1)) ∧ (v2 = 0 → Q (some (.int (-1))) t1)))) : Rt g (d + 1) mX8_feed 0 [some (.ref 57), some (.int p0)] [] t Q := by
  refine s_iload_n dX8_feed_0 rfl rfl ?_
  refine s_iconst (v := 0) dX8_feed_1 (by decide) ?_
  refine s_sipush (v := 255) dX8_feed_2 (by decide) ?_
  refine t_callS (M' := mX8_in) (k := 0) (As := [.int p0, .int 0, .int 255]) (rest := []) dX8_feed_5 ml_X8_128 mstX8_in rfl (Nat.le_of_ble_eq_true rfl) (Nat.le_of_ble_eq_true rfl) rfl h (fun rv t1 q => ?_)
  obtain ⟨v2, rfl, h⟩ := q
  show Rt g (d + 1) mX8_feed 8 [some (.ref 57), some (.int p0)] [.int v2] t1 Q
  refine s_if_ne (tgt := 13) dX8_feed_8 (by decide) (fun c3 => ?_) (fun c3 => ?_)
  · replace h := h.1 c3
    refine s_aload_n dX8_feed_13 rfl rfl ?_
    refine t_getI dX8_feed_14 fl_X8_179 rfl (by decide) rfl ?_
    refine s_bipush (v := 120) dX8_feed_17 (by decide) ?_
    refine s_icmp_ne (tgt := 25) dX8_feed_19 (by decide) (fun c4 => ?_) (fun c4 => ?_)
    · replace h := h.1 c4
      refine s_aload_n dX8_feed_25 rfl rfl ?_
      refine t_getR (o' := 66) dX8_feed_26 fl_X8_38 rfl (by decide) rfl rfl ?_
      refine s_aload_n dX8_feed_29 rfl rfl ?_
      refine t_getI dX8_feed_30 fl_X8_179 rfl (by decide) rfl ?_
      refine s_iload_n dX8_feed_33 rfl rfl ?_
      refine s_i2b dX8_feed_34 ?_
      obtain ⟨g5, h⟩ := h
      refine t_bast dX8_feed_35 rfl (by decide) g5 ?_
      refine s_aload_n dX8_feed_36 rfl rfl ?_
      refine s_dup dX8_feed_37 rfl ?_
      refine t_getI dX8_feed_38 fl_X8_179 rfl (by decide) rfl ?_
      refine s_iconst (v := 1) dX8_feed_41 (by decide) ?_
      refine s_iadd dX8_feed_42 ?_
      refine t_putI dX8_feed_43 fl_X8_179 rfl (by decide) rfl rfl rfl rfl ?_
      refine s_aload_n dX8_feed_46 rfl rfl ?_
      refine t_getI dX8_feed_47 fl_X8_179 rfl (by decide) rfl ?_
      exact t_iret dX8_feed_50 (NR_i rfl _) h
    · replace h := h.2 c4
      refine s_bipush (v := (-3)) dX8_feed_22 (by decide) ?_
      exact t_iret dX8_feed_24 (NR_i rfl _) h
  · replace h := h.2 c3
    refine s_iconst (v := (-1)) dX8_feed_11 (by decide) ?_
    exact t_iret dX8_feed_12 (NR_i rfl _) h
theorem bX8_look_0 {g : Gt} {d : Nat} {t : Tt} {Q : Option Value → Tt → Prop} (h : ((t.1 57 14) ≤ (t.1 57 15) → Q (some (.int (-1))) t) ∧ (¬ (t.1 57 14) ≤ (t.1 57 15) → vp_in (t.1 57 15) 120 ∧ Q (some (.int (t.1 66 (t.1 57 15).toNatClampNeg))) t)) : Rt g d mX8_look 0 [some (.ref 57)] [] t Q := by
  refine s_aload_n dX8_look_0 rfl rfl ?_
  refine t_getI dX8_look_1 fl_X8_182 rfl (by decide) rfl ?_
  refine s_aload_n dX8_look_4 rfl rfl ?_
  refine t_getI dX8_look_5 fl_X8_179 rfl (by decide) rfl ?_
  refine s_icmp_ge (tgt := 23) dX8_look_8 (by decide) (fun c1 => ?_) (fun c1 => ?_)
  · replace h := h.1 c1
    refine s_iconst (v := (-1)) dX8_look_23 (by decide) ?_
    exact t_iret dX8_look_24 (NR_i rfl _) h
  · replace h := h.2 c1
    refine s_aload_n dX8_look_11 rfl rfl ?_
    refine t_getR (o' := 66) dX8_look_12 fl_X8_38 rfl (by decide) rfl rfl ?_
    refine s_aload_n dX8_look_15 rfl rfl ?_
    refine t_getI dX8_look_16 fl_X8_182 rfl (by decide) rfl ?_
    obtain ⟨g2, h⟩ := h
    refine t_bald dX8_look_19 rfl (by decide) g2 ?_
    refine s_goto (tgt := 24) dX8_look_20 (by decide) ?_
    exact t_iret dX8_look_24 (NR_i rfl _) h
theorem bX8_wrong_0 {g : Gt} {d : Nat} {t : Tt} {Q : Option Value → Tt → Prop} (h : (0 ≤ (t.1 57 16) → Q none t) ∧ (¬ 0 ≤ (t.1 57 16) → Q none (pI t 57 16 (t.1 57 15)))) : Rt g d mX8_wrong 0 [some (.ref 57)] [] t Q := by
  refine s_aload_n dX8_wrong_0 rfl rfl ?_
  refine t_getI dX8_wrong_1 fl_X8_185 rfl (by decide) rfl ?_
  refine s_if_ge (tgt := 15) dX8_wrong_4 (by decide) (fun c1 => ?_) (fun c1 => ?_)
  · replace h := h.1 c1
    exact t_vret dX8_wrong_15 rfl h
  · replace h := h.2 c1
    refine s_aload_n dX8_wrong_7 rfl rfl ?_
    refine s_aload_n dX8_wrong_8 rfl rfl ?_
    refine t_getI dX8_wrong_9 fl_X8_182 rfl (by decide) rfl ?_
    refine t_putI dX8_wrong_12 fl_X8_185 rfl (by decide) rfl rfl rfl rfl ?_
    exact t_vret dX8_wrong_15 rfl h
theorem bX8_addStep_0 {g : Gt} {d : Nat} {t : Tt} {Q : Option Value → Tt → Prop} {p0 : Int32} {p1 : Int32} (h : vp_in (130 + (t.1 57 18)) 260 ∧ (vp_in (130 + ((pI t 67 (130 + (t.1 57 18)).toNatClampNeg (vp_nar .byte (p0.toInt8.toInt32))).1 57 18)) 260 ∧ Q none (pI (pI (pI t 67 (130 + (t.1 57 18)).toNatClampNeg (vp_nar .byte (p0.toInt8.toInt32))) 68 (130 + ((pI t 67 (130 + (t.1 57 18)).toNatClampNeg (vp_nar .byte (p0.toInt8.toInt32))).1 57 18)).toNatClampNeg p1) 57 18 (((pI (pI t 67 (130 + (t.1 57 18)).toNatClampNeg (vp_nar .byte (p0.toInt8.toInt32))) 68 (130 + ((pI t 67 (130 + (t.1 57 18)).toNatClampNeg (vp_nar .byte (p0.toInt8.toInt32))).1 57 18)).toNatClampNeg p1).1 57 18) + 1)))) : Rt g d mX8_addStep 0 [some (.ref 57), some (.int p0), some (.int p1)] [] t Q := by
  refine s_aload_n dX8_addStep_0 rfl rfl ?_
  refine t_getR (o' := 67) dX8_addStep_1 fl_X8_42 rfl (by decide) rfl rfl ?_
  refine s_sipush (v := 130) dX8_addStep_4 (by decide) ?_
  refine s_aload_n dX8_addStep_7 rfl rfl ?_
  refine t_getI dX8_addStep_8 fl_X8_188 rfl (by decide) rfl ?_
  refine s_iadd dX8_addStep_11 ?_
  refine s_iload_n dX8_addStep_12 rfl rfl ?_
  refine s_i2b dX8_addStep_13 ?_
  obtain ⟨g1, h⟩ := h
  refine t_bast dX8_addStep_14 rfl (by decide) g1 ?_
  refine s_aload_n dX8_addStep_15 rfl rfl ?_
  refine t_getR (o' := 68) dX8_addStep_16 fl_X8_45 rfl (by decide) rfl rfl ?_
  refine s_sipush (v := 130) dX8_addStep_19 (by decide) ?_
  refine s_aload_n dX8_addStep_22 rfl rfl ?_
  refine t_getI dX8_addStep_23 fl_X8_188 rfl (by decide) rfl ?_
  refine s_iadd dX8_addStep_26 ?_
  refine s_iload_n dX8_addStep_27 rfl rfl ?_
  obtain ⟨g2, h⟩ := h
  refine t_iast dX8_addStep_28 rfl (by decide) g2 ?_
  refine s_aload_n dX8_addStep_29 rfl rfl ?_
  refine s_dup dX8_addStep_30 rfl ?_
  refine t_getI dX8_addStep_31 fl_X8_188 rfl (by decide) rfl ?_
  refine s_iconst (v := 1) dX8_addStep_34 (by decide) ?_
  refine s_iadd dX8_addStep_35 ?_
  refine t_putI dX8_addStep_36 fl_X8_188 rfl (by decide) rfl rfl rfl rfl ?_
  exact t_vret dX8_addStep_39 rfl h
theorem bX8_nameOf_0 {g : Gt} {d : Nat} {t : Tt} {Q : Option Value → Tt → Prop} {p0 : Int32} (h : (p0 = 99 → Q (some (.int 4)) t) ∧ (¬ p0 = 99 → (p0 = 102 → Q (some (.int 5)) t) ∧ (¬ p0 = 102 → (p0 = 108 → Q (some (.int 1)) t) ∧ (¬ p0 = 108 → (p0 = 116 → Q (some (.int 3)) t) ∧ (¬ p0 = 116 → (p0 = 119 → Q (some (.int 2)) t) ∧ (¬ p0 = 119 → (p0 = 122 → Q (some (.int 0)) t) ∧ (¬ p0 = 122 → Q (some (.int (-1))) t))))))) : Rt g d mX8_nameOf 0 [some (.int p0)] [] t Q := by
  refine s_iload_n dX8_nameOf_0 rfl rfl ?_
  by_cases c1 : p0 = 99
  · replace h := h.1 c1
    refine s_lsw (off := 67) (tgt := 68) dX8_nameOf_1 (by decide) (by rw [c1]; rfl) (by decide) ?_
    refine s_iconst (v := 4) dX8_nameOf_68 (by decide) ?_
    exact t_iret dX8_nameOf_69 (NR_i rfl _) h
  · replace h := h.2 c1
    by_cases c2 : p0 = 102
    · replace h := h.1 c2
      refine s_lsw (off := 69) (tgt := 70) dX8_nameOf_1 (by decide) (by rw [c2]; rfl) (by decide) ?_
      refine s_iconst (v := 5) dX8_nameOf_70 (by decide) ?_
      exact t_iret dX8_nameOf_71 (NR_i rfl _) h
    · replace h := h.2 c2
      by_cases c3 : p0 = 108
      · replace h := h.1 c3
        refine s_lsw (off := 61) (tgt := 62) dX8_nameOf_1 (by decide) (by rw [c3]; rfl) (by decide) ?_
        refine s_iconst (v := 1) dX8_nameOf_62 (by decide) ?_
        exact t_iret dX8_nameOf_63 (NR_i rfl _) h
      · replace h := h.2 c3
        by_cases c4 : p0 = 116
        · replace h := h.1 c4
          refine s_lsw (off := 65) (tgt := 66) dX8_nameOf_1 (by decide) (by rw [c4]; rfl) (by decide) ?_
          refine s_iconst (v := 3) dX8_nameOf_66 (by decide) ?_
          exact t_iret dX8_nameOf_67 (NR_i rfl _) h
        · replace h := h.2 c4
          by_cases c5 : p0 = 119
          · replace h := h.1 c5
            refine s_lsw (off := 63) (tgt := 64) dX8_nameOf_1 (by decide) (by rw [c5]; rfl) (by decide) ?_
            refine s_iconst (v := 2) dX8_nameOf_64 (by decide) ?_
            exact t_iret dX8_nameOf_65 (NR_i rfl _) h
          · replace h := h.2 c5
            by_cases c6 : p0 = 122
            · replace h := h.1 c6
              refine s_lsw (off := 59) (tgt := 60) dX8_nameOf_1 (by decide) (by rw [c6]; rfl) (by decide) ?_
              refine s_iconst (v := 0) dX8_nameOf_60 (by decide) ?_
              exact t_iret dX8_nameOf_61 (NR_i rfl _) h
            · replace h := h.2 c6
              refine s_lsw (off := 71) (tgt := 72) dX8_nameOf_1 (by decide) ((lv_osw c1 rfl).trans ((lv_osw c2 rfl).trans ((lv_osw c3 rfl).trans ((lv_osw c4 rfl).trans ((lv_osw c5 rfl).trans ((lv_osw c6 rfl).trans rfl)))))) (by decide) ?_
              refine s_iconst (v := (-1)) dX8_nameOf_72 (by decide) ?_
              exact t_iret dX8_nameOf_73 (NR_i rfl _) h
theorem bX8_opens_0 {g : Gt} {d : Nat} {t : Tt} {Q : Option Value → Tt → Prop} (h : (¬ (t.1 57 17) = 6 → Q (some (.int 1)) (pI (pI t 57 17 ((t.1 57 17) + 1)) 57 15 (((pI t 57 17 ((t.1 57 17) + 1)).1 57 15) + 1))) ∧ ((t.1 57 17) = 6 → Rt g d mX8_wrong 0 [some (.ref 57)] [] t (QV (fun t2 => Q (some (.int 0)) t2)))) : Rt g (d + 1) mX8_opens 0 [some (.ref 57)] [] t Q := by
  refine s_aload_n dX8_opens_0 rfl rfl ?_
  refine t_getI dX8_opens_1 fl_X8_191 rfl (by decide) rfl ?_
  refine s_bipush (v := 6) dX8_opens_4 (by decide) ?_
  refine s_icmp_ne (tgt := 15) dX8_opens_6 (by decide) (fun c1 => ?_) (fun c1 => ?_)
  · replace h := h.1 c1
    refine s_aload_n dX8_opens_15 rfl rfl ?_
    refine s_dup dX8_opens_16 rfl ?_
    refine t_getI dX8_opens_17 fl_X8_191 rfl (by decide) rfl ?_
    refine s_iconst (v := 1) dX8_opens_20 (by decide) ?_
    refine s_iadd dX8_opens_21 ?_
    refine t_putI dX8_opens_22 fl_X8_191 rfl (by decide) rfl rfl rfl rfl ?_
    refine s_aload_n dX8_opens_25 rfl rfl ?_
    refine s_dup dX8_opens_26 rfl ?_
    refine t_getI dX8_opens_27 fl_X8_182 rfl (by decide) rfl ?_
    refine s_iconst (v := 1) dX8_opens_30 (by decide) ?_
    refine s_iadd dX8_opens_31 ?_
    refine t_putI dX8_opens_32 fl_X8_182 rfl (by decide) rfl rfl rfl rfl ?_
    refine s_iconst (v := 1) dX8_opens_35 (by decide) ?_
    exact t_iret dX8_opens_36 (NR_z rfl (Or.inr rfl)) h
  · replace h := h.2 c1
    refine s_aload_n dX8_opens_9 rfl rfl ?_
    refine t_callV (M' := mX8_wrong) (k := 0) (As := []) (rest := []) dX8_opens_10 ml_X8_194 miX8_wrong msX8_wrong rfl (by decide) rfl rfl (Nat.le_of_ble_eq_true rfl) (Nat.le_of_ble_eq_true rfl) rfl h (fun rv t2 q => ?_)
    obtain ⟨rfl, h⟩ := q
    show Rt g (d + 1) mX8_opens 13 [some (.ref 57)] [] t2 Q
    refine s_iconst (v := 0) dX8_opens_13 (by decide) ?_
    exact t_iret dX8_opens_14 (NR_z rfl (Or.inl rfl)) h
theorem bX8_figure_0 {g : Gt} {d : Nat} {t : Tt} {Q : Option Value → Tt → Prop} (h : Rt g (d + 1) mX8_figure 4 [some (.ref 57), some (.int 0), some (.int 0)] [] t Q) : Rt g (d + 1) mX8_figure 0 [some (.ref 57), none, none] [] t Q := by
  refine s_iconst (v := 0) dX8_figure_0 (by decide) ?_
  refine s_istore_n dX8_figure_1 rfl (by decide) rfl (L9 := [some (.ref 57), some (.int 0), none]) rfl ?_
  refine s_iconst (v := 0) dX8_figure_2 (by decide) ?_
  refine s_istore_n dX8_figure_3 rfl (by decide) rfl (L9 := [some (.ref 57), some (.int 0), some (.int 0)]) rfl ?_
  exact h
theorem bX8_figure_4 {g : Gt} {d : Nat} {t : Tt} {Q : Option Value → Tt → Prop} {x1 : Int32} {x2 : Int32} (h : (4 ≤ x2 → Rt g (d + 1) mX8_figure 52 [some (.ref 57), some (.int x1), some (.int x2)] [] t Q) ∧ (¬ 4 ≤ x2 → Rt g d mX8_look 0 [some (.ref 57)] [] t (QI (fun v3 t2 => Rt g d mX8_in 0 [some (.int v3), some (.int 48), some (.int 57)] [] t2 (QI (fun v5 t4 => (v5 = 0 → Rt g (d + 1) mX8_figure 52 [some (.ref 57), some (.int x1), some (.int x2)] [] t4 Q) ∧ (¬ v5 = 0 → Rt g d mX8_look 0 [some (.ref 57)] [] t4 (QI (fun v8 t7 => ∀ z9 : Int32, z9 = (((10 * x1) + v8) - 48) → Rt g (d + 1) mX8_figure 4 [some (.ref 57), some (.int z9), some (.int (x2 + 1))] [] (pI t7 57 15 ((t7.1 57 15) + 1)) Q))))))))) : Rt g (d + 1) mX8_figure 4 [some (.ref 57), some (.int x1), some (.int x2)] [] t Q := by
  refine s_iload_n dX8_figure_4 rfl rfl ?_
  refine s_iconst (v := 4) dX8_figure_5 (by decide) ?_
  refine s_icmp_ge (tgt := 52) dX8_figure_6 (by decide) (fun c1 => ?_) (fun c1 => ?_)
  · replace h := h.1 c1
    exact h
  · replace h := h.2 c1
    refine s_aload_n dX8_figure_9 rfl rfl ?_
    refine t_callV (M' := mX8_look) (k := 0) (As := []) (rest := []) dX8_figure_10 ml_X8_197 miX8_look msX8_look rfl (by decide) rfl rfl (Nat.le_of_ble_eq_true rfl) (Nat.le_of_ble_eq_true rfl) rfl h (fun rv t2 q => ?_)
    obtain ⟨v3, rfl, h⟩ := q
    show Rt g (d + 1) mX8_figure 13 [some (.ref 57), some (.int x1), some (.int x2)] [.int v3] t2 Q
    refine s_bipush (v := 48) dX8_figure_13 (by decide) ?_
    refine s_bipush (v := 57) dX8_figure_15 (by decide) ?_
    refine t_callS (M' := mX8_in) (k := 0) (As := [.int v3, .int 48, .int 57]) (rest := []) dX8_figure_17 ml_X8_128 mstX8_in rfl (Nat.le_of_ble_eq_true rfl) (Nat.le_of_ble_eq_true rfl) rfl h (fun rv t4 q => ?_)
    obtain ⟨v5, rfl, h⟩ := q
    show Rt g (d + 1) mX8_figure 20 [some (.ref 57), some (.int x1), some (.int x2)] [.int v5] t4 Q
    refine s_if_eq (tgt := 52) dX8_figure_20 (by decide) (fun c6 => ?_) (fun c6 => ?_)
    · replace h := h.1 c6
      exact h
    · replace h := h.2 c6
      refine s_bipush (v := 10) dX8_figure_23 (by decide) ?_
      refine s_iload_n dX8_figure_25 rfl rfl ?_
      refine s_imul dX8_figure_26 ?_
      refine s_aload_n dX8_figure_27 rfl rfl ?_
      refine t_callV (M' := mX8_look) (k := 0) (As := []) (rest := [.int (10 * x1)]) dX8_figure_28 ml_X8_197 miX8_look msX8_look rfl (by decide) rfl rfl (Nat.le_of_ble_eq_true rfl) (Nat.le_of_ble_eq_true rfl) rfl h (fun rv t7 q => ?_)
      obtain ⟨v8, rfl, h⟩ := q
      show Rt g (d + 1) mX8_figure 31 [some (.ref 57), some (.int x1), some (.int x2)] [.int v8, .int (10 * x1)] t7 Q
      refine s_iadd dX8_figure_31 ?_
      refine s_bipush (v := 48) dX8_figure_32 (by decide) ?_
      refine s_isub dX8_figure_34 ?_
      refine t_nmI (fun z9 ez9 => ?_)
      replace h := h z9 ez9
      refine s_istore_n dX8_figure_35 rfl (by decide) rfl (L9 := [some (.ref 57), some (.int z9), some (.int x2)]) rfl ?_
      refine s_iinc (w := x2 + 1) dX8_figure_36 rfl (by rfl) (by decide) rfl (L9 := [some (.ref 57), some (.int z9), some (.int (x2 + 1))]) rfl ?_
      refine s_aload_n dX8_figure_39 rfl rfl ?_
      refine s_dup dX8_figure_40 rfl ?_
      refine t_getI dX8_figure_41 fl_X8_182 rfl (by decide) rfl ?_
      refine s_iconst (v := 1) dX8_figure_44 (by decide) ?_
      refine s_iadd dX8_figure_45 ?_
      refine t_putI dX8_figure_46 fl_X8_182 rfl (by decide) rfl rfl rfl rfl ?_
      refine s_goto (tgt := 4) dX8_figure_49 (by decide) ?_
      exact h
theorem bX8_figure_52 {g : Gt} {d : Nat} {t : Tt} {Q : Option Value → Tt → Prop} {x1 : Int32} {x2 : Int32} (h : (x2 = 0 → Rt g (d + 1) mX8_figure 70 [some (.ref 57), some (.int x1), none] [] t Q) ∧ (¬ x2 = 0 → Rt g d mX8_look 0 [some (.ref 57)] [] t (QI (fun v3 t2 => Rt g d mX8_in 0 [some (.int v3), some (.int 48), some (.int 57)] [] t2 (QI (fun v5 t4 => (v5 = 0 → Rt g (d + 1) mX8_figure 74 [some (.ref 57), some (.int x1), none] [] t4 Q) ∧ (¬ v5 = 0 → Rt g (d + 1) mX8_figure 70 [some (.ref 57), some (.int x1), none] [] t4 Q))))))) : Rt g (d + 1) mX8_figure 52 [some (.ref 57), some (.int x1), some (.int x2)] [] t Q := by
  refine s_iload_n dX8_figure_52 rfl rfl ?_
  refine s_if_eq (tgt := 70) dX8_figure_53 (by decide) (fun c1 => ?_) (fun c1 => ?_)
  · replace h := h.1 c1
    exact Rt.lc h (lc_some (lc_some (lc_none lc_nil)))
  · replace h := h.2 c1
    refine s_aload_n dX8_figure_56 rfl rfl ?_
    refine t_callV (M' := mX8_look) (k := 0) (As := []) (rest := []) dX8_figure_57 ml_X8_197 miX8_look msX8_look rfl (by decide) rfl rfl (Nat.le_of_ble_eq_true rfl) (Nat.le_of_ble_eq_true rfl) rfl h (fun rv t2 q => ?_)
    obtain ⟨v3, rfl, h⟩ := q
    show Rt g (d + 1) mX8_figure 60 [some (.ref 57), some (.int x1), some (.int x2)] [.int v3] t2 Q
    refine s_bipush (v := 48) dX8_figure_60 (by decide) ?_
    refine s_bipush (v := 57) dX8_figure_62 (by decide) ?_
    refine t_callS (M' := mX8_in) (k := 0) (As := [.int v3, .int 48, .int 57]) (rest := []) dX8_figure_64 ml_X8_128 mstX8_in rfl (Nat.le_of_ble_eq_true rfl) (Nat.le_of_ble_eq_true rfl) rfl h (fun rv t4 q => ?_)
    obtain ⟨v5, rfl, h⟩ := q
    show Rt g (d + 1) mX8_figure 67 [some (.ref 57), some (.int x1), some (.int x2)] [.int v5] t4 Q
    refine s_if_eq (tgt := 74) dX8_figure_67 (by decide) (fun c6 => ?_) (fun c6 => ?_)
    · replace h := h.1 c6
      exact Rt.lc h (lc_some (lc_some (lc_none lc_nil)))
    · replace h := h.2 c6
      exact Rt.lc h (lc_some (lc_some (lc_none lc_nil)))
theorem bX8_figure_70 {g : Gt} {d : Nat} {t : Tt} {Q : Option Value → Tt → Prop} {x1 : Int32} (h : Rt g d mX8_wrong 0 [some (.ref 57)] [] t (QV (fun t1 => Rt g (d + 1) mX8_figure 74 [some (.ref 57), some (.int x1), none] [] t1 Q))) : Rt g (d + 1) mX8_figure 70 [some (.ref 57), some (.int x1), none] [] t Q := by
  refine s_aload_n dX8_figure_70 rfl rfl ?_
  refine t_callV (M' := mX8_wrong) (k := 0) (As := []) (rest := []) dX8_figure_71 ml_X8_194 miX8_wrong msX8_wrong rfl (by decide) rfl rfl (Nat.le_of_ble_eq_true rfl) (Nat.le_of_ble_eq_true rfl) rfl h (fun rv t1 q => ?_)
  obtain ⟨rfl, h⟩ := q
  show Rt g (d + 1) mX8_figure 74 [some (.ref 57), some (.int x1), none] [] t1 Q
  exact h
theorem bX8_figure_74 {g : Gt} {d : Nat} {t : Tt} {Q : Option Value → Tt → Prop} {x1 : Int32} (h : Rt g d mX8_addStep 0 [some (.ref 57), some (.int 1), some (.int x1)] [] t (QV (fun t1 => Q none t1))) : Rt g (d + 1) mX8_figure 74 [some (.ref 57), some (.int x1), none] [] t Q := by
  refine s_aload_n dX8_figure_74 rfl rfl ?_
  refine s_iconst (v := 1) dX8_figure_75 (by decide) ?_
  refine s_iload_n dX8_figure_76 rfl rfl ?_
  refine t_callV (M' := mX8_addStep) (k := 0) (As := [.int 1, .int x1]) (rest := []) dX8_figure_77 ml_X8_201 miX8_addStep msX8_addStep rfl (by decide) rfl rfl (Nat.le_of_ble_eq_true rfl) (Nat.le_of_ble_eq_true rfl) rfl h (fun rv t1 q => ?_)
  obtain ⟨rfl, h⟩ := q
  show Rt g (d + 1) mX8_figure 80 [some (.ref 57), some (.int x1), none] [] t1 Q
  exact t_vret dX8_figure_80 rfl h
theorem bX8_operand_0 {g : Gt} {d : Nat} {t : Tt} {Q : Option Value → Tt → Prop} (h : Rt g d mX8_look 0 [some (.ref 57)] [] t (QI (fun v2 t1 => Rt g d mX8_nameOf 0 [some (.int v2)] [] t1 (QI (fun v4 t3 => (v4 < 0 → (v2 = 33 → Rt g (d + 1) mX8_operand 46 [some (.ref 57), some (.int v2)] [] t3 Q) ∧ (¬ v2 = 33 → (¬ v2 = 45 → (¬ v2 = 40 → Rt g d mX8_figure 0 [some (.ref 57), none, none] [] t3 (QV (fun t9 => Q none t9))) ∧ (v2 = 40 → Rt g d mX8_opens 0 [some (.ref 57)] [] t3 (QI (fun v11 t10 => (¬ v11 = 0 → Rt g d mX8_either 0 [some (.ref 57)] [] t10 (QV (fun t13 => ((t13.1 57 16) < 0 → Rt g d mX8_look 0 [some (.ref 57)] [] t13 (QI (fun v16 t15 => (v16 = 41 → Q none (pI (pI t15 57 15 ((t15.1 57 15) + 1)) 57 17 (((pI t15 57 15 ((t15.1 57 15) + 1)).1 57 17) - 1))) ∧ (¬ v16 = 41 → Rt g d mX8_wrong 0 [some (.ref 57)] [] t15 (QV (fun t18 => Q none t18)))))) ∧ (¬ (t13.1 57 16) < 0 → Q none t13)))) ∧ (v11 = 0 → Q none t10))))) ∧ (v2 = 45 → Rt g (d + 1) mX8_operand 46 [some (.ref 57), some (.int v2)] [] t3 Q))) ∧ (¬ v4 < 0 → Rt g d mX8_nameOf 0 [some (.int v2)] [] t3 (QI (fun v20 t19 => Rt g d mX8_addStep 0 [some (.ref 57), some (.int 2), some (.int v20)] [] t19 (QV (fun t21 => Q none (pI t21 57 15 ((t21.1 57 15) + 1)))))))))))) : Rt g (d + 1) mX8_operand 0 [some (.ref 57), none] [] t Q := by
  refine s_aload_n dX8_operand_0 rfl rfl ?_
  refine t_callV (M' := mX8_look) (k := 0) (As := []) (rest := []) dX8_operand_1 ml_X8_197 miX8_look msX8_look rfl (by decide) rfl rfl (Nat.le_of_ble_eq_true rfl) (Nat.le_of_ble_eq_true rfl) rfl h (fun rv t1 q => ?_)
  obtain ⟨v2, rfl, h⟩ := q
  show Rt g (d + 1) mX8_operand 4 [some (.ref 57), none] [.int v2] t1 Q
  refine s_istore_n dX8_operand_4 rfl (by decide) rfl (L9 := [some (.ref 57), some (.int v2)]) rfl ?_
  refine s_iload_n dX8_operand_5 rfl rfl ?_
  refine t_callS (M' := mX8_nameOf) (k := 0) (As := [.int v2]) (rest := []) dX8_operand_6 ml_X8_205 mstX8_nameOf rfl (Nat.le_of_ble_eq_true rfl) (Nat.le_of_ble_eq_true rfl) rfl h (fun rv t3 q => ?_)
  obtain ⟨v4, rfl, h⟩ := q
  show Rt g (d + 1) mX8_operand 9 [some (.ref 57), some (.int v2)] [.int v4] t3 Q
  refine s_if_lt (tgt := 34) dX8_operand_9 (by decide) (fun c5 => ?_) (fun c5 => ?_)
  · replace h := h.1 c5
    refine s_iload_n dX8_operand_34 rfl rfl ?_
    refine s_bipush (v := 33) dX8_operand_35 (by decide) ?_
    refine s_icmp_eq (tgt := 46) dX8_operand_37 (by decide) (fun c6 => ?_) (fun c6 => ?_)
    · replace h := h.1 c6
      exact h
    · replace h := h.2 c6
      refine s_iload_n dX8_operand_40 rfl rfl ?_
      refine s_bipush (v := 45) dX8_operand_41 (by decide) ?_
      refine s_icmp_ne (tgt := 87) dX8_operand_43 (by decide) (fun c7 => ?_) (fun c7 => ?_)
      · replace h := h.1 c7
        refine s_iload_n dX8_operand_87 rfl rfl ?_
        refine s_bipush (v := 40) dX8_operand_88 (by decide) ?_
        refine s_icmp_ne (tgt := 150) dX8_operand_90 (by decide) (fun c8 => ?_) (fun c8 => ?_)
        · replace h := h.1 c8
          refine s_aload_n dX8_operand_150 rfl rfl ?_
          refine t_callV (M' := mX8_figure) (k := 2) (As := []) (rest := []) dX8_operand_151 ml_X8_218 miX8_figure msX8_figure rfl (by decide) rfl rfl (Nat.le_of_ble_eq_true rfl) (Nat.le_of_ble_eq_true rfl) rfl h (fun rv t9 q => ?_)
          obtain ⟨rfl, h⟩ := q
          show Rt g (d + 1) mX8_operand 154 [some (.ref 57), some (.int v2)] [] t9 Q
          exact t_vret dX8_operand_154 rfl h
        · replace h := h.2 c8
          refine s_aload_n dX8_operand_93 rfl rfl ?_
          refine t_callV (M' := mX8_opens) (k := 0) (As := []) (rest := []) dX8_operand_94 ml_X8_208 miX8_opens msX8_opens rfl (by decide) rfl rfl (Nat.le_of_ble_eq_true rfl) (Nat.le_of_ble_eq_true rfl) rfl h (fun rv t10 q => ?_)
          obtain ⟨v11, rfl, h⟩ := q
          show Rt g (d + 1) mX8_operand 97 [some (.ref 57), some (.int v2)] [.int v11] t10 Q
          refine s_if_ne (tgt := 101) dX8_operand_97 (by decide) (fun c12 => ?_) (fun c12 => ?_)
          · replace h := h.1 c12
            refine s_aload_n dX8_operand_101 rfl rfl ?_
            refine t_callV (M' := mX8_either) (k := 0) (As := []) (rest := []) dX8_operand_102 ml_X8_215 miX8_either msX8_either rfl (by decide) rfl rfl (Nat.le_of_ble_eq_true rfl) (Nat.le_of_ble_eq_true rfl) rfl h (fun rv t13 q => ?_)
            obtain ⟨rfl, h⟩ := q
            show Rt g (d + 1) mX8_operand 105 [some (.ref 57), some (.int v2)] [] t13 Q
            refine s_aload_n dX8_operand_105 rfl rfl ?_
            refine t_getI dX8_operand_106 fl_X8_185 rfl (by decide) rfl ?_
            refine s_if_lt (tgt := 113) dX8_operand_109 (by decide) (fun c14 => ?_) (fun c14 => ?_)
            · replace h := h.1 c14
              refine s_aload_n dX8_operand_113 rfl rfl ?_
              refine t_callV (M' := mX8_look) (k := 0) (As := []) (rest := []) dX8_operand_114 ml_X8_197 miX8_look msX8_look rfl (by decide) rfl rfl (Nat.le_of_ble_eq_true rfl) (Nat.le_of_ble_eq_true rfl) rfl h (fun rv t15 q => ?_)
              obtain ⟨v16, rfl, h⟩ := q
              show Rt g (d + 1) mX8_operand 117 [some (.ref 57), some (.int v2)] [.int v16] t15 Q
              refine s_bipush (v := 41) dX8_operand_117 (by decide) ?_
              refine s_icmp_eq (tgt := 127) dX8_operand_119 (by decide) (fun c17 => ?_) (fun c17 => ?_)
              · replace h := h.1 c17
                refine s_aload_n dX8_operand_127 rfl rfl ?_
                refine s_dup dX8_operand_128 rfl ?_
                refine t_getI dX8_operand_129 fl_X8_182 rfl (by decide) rfl ?_
                refine s_iconst (v := 1) dX8_operand_132 (by decide) ?_
                refine s_iadd dX8_operand_133 ?_
                refine t_putI dX8_operand_134 fl_X8_182 rfl (by decide) rfl rfl rfl rfl ?_
                refine s_aload_n dX8_operand_137 rfl rfl ?_
                refine s_dup dX8_operand_138 rfl ?_
                refine t_getI dX8_operand_139 fl_X8_191 rfl (by decide) rfl ?_
                refine s_iconst (v := 1) dX8_operand_142 (by decide) ?_
                refine s_isub dX8_operand_143 ?_
                refine t_putI dX8_operand_144 fl_X8_191 rfl (by decide) rfl rfl rfl rfl ?_
                refine s_goto (tgt := 154) dX8_operand_147 (by decide) ?_
                exact t_vret dX8_operand_154 rfl h
              · replace h := h.2 c17
                refine s_aload_n dX8_operand_122 rfl rfl ?_
                refine t_callV (M' := mX8_wrong) (k := 0) (As := []) (rest := []) dX8_operand_123 ml_X8_194 miX8_wrong msX8_wrong rfl (by decide) rfl rfl (Nat.le_of_ble_eq_true rfl) (Nat.le_of_ble_eq_true rfl) rfl h (fun rv t18 q => ?_)
                obtain ⟨rfl, h⟩ := q
                show Rt g (d + 1) mX8_operand 126 [some (.ref 57), some (.int v2)] [] t18 Q
                exact t_vret dX8_operand_126 rfl h
            · replace h := h.2 c14
              exact t_vret dX8_operand_112 rfl h
          · replace h := h.2 c12
            exact t_vret dX8_operand_100 rfl h
      · replace h := h.2 c7
        exact h
  · replace h := h.2 c5
    refine s_aload_n dX8_operand_12 rfl rfl ?_
    refine s_iconst (v := 2) dX8_operand_13 (by decide) ?_
    refine s_iload_n dX8_operand_14 rfl rfl ?_
    refine t_callS (M' := mX8_nameOf) (k := 0) (As := [.int v2]) (rest := [.int 2, .ref 57]) dX8_operand_15 ml_X8_205 mstX8_nameOf rfl (Nat.le_of_ble_eq_true rfl) (Nat.le_of_ble_eq_true rfl) rfl h (fun rv t19 q => ?_)
    obtain ⟨v20, rfl, h⟩ := q
    show Rt g (d + 1) mX8_operand 18 [some (.ref 57), some (.int v2)] [.int v20, .int 2, .ref 57] t19 Q
    refine t_callV (M' := mX8_addStep) (k := 0) (As := [.int 2, .int v20]) (rest := []) dX8_operand_18 ml_X8_201 miX8_addStep msX8_addStep rfl (by decide) rfl rfl (Nat.le_of_ble_eq_true rfl) (Nat.le_of_ble_eq_true rfl) rfl h (fun rv t21 q => ?_)
    obtain ⟨rfl, h⟩ := q
    show Rt g (d + 1) mX8_operand 21 [some (.ref 57), some (.int v2)] [] t21 Q
    refine s_aload_n dX8_operand_21 rfl rfl ?_
    refine s_dup dX8_operand_22 rfl ?_
    refine t_getI dX8_operand_23 fl_X8_182 rfl (by decide) rfl ?_
    refine s_iconst (v := 1) dX8_operand_26 (by decide) ?_
    refine s_iadd dX8_operand_27 ?_
    refine t_putI dX8_operand_28 fl_X8_182 rfl (by decide) rfl rfl rfl rfl ?_
    refine s_goto (tgt := 154) dX8_operand_31 (by decide) ?_
    exact t_vret dX8_operand_154 rfl h
theorem bX8_operand_46 {g : Gt} {d : Nat} {t : Tt} {Q : Option Value → Tt → Prop} {x1 : Int32} (h : Rt g d mX8_opens 0 [some (.ref 57)] [] t (QI (fun v2 t1 => (¬ v2 = 0 → Rt g d mX8_operand 0 [some (.ref 57), none] [] t1 (QV (fun t4 => (¬ x1 = 33 → Rt g (d + 1) mX8_operand 80 [none, none] [.int 4, .ref 57] (pI t4 57 17 ((t4.1 57 17) - 1)) Q) ∧ (x1 = 33 → Rt g (d + 1) mX8_operand 80 [none, none] [.int 3, .ref 57] (pI t4 57 17 ((t4.1 57 17) - 1)) Q)))) ∧ (v2 = 0 → Q none t1)))) : Rt g (d + 1) mX8_operand 46 [some (.ref 57), some (.int x1)] [] t Q := by
  refine s_aload_n dX8_operand_46 rfl rfl ?_
  refine t_callV (M' := mX8_opens) (k := 0) (As := []) (rest := []) dX8_operand_47 ml_X8_208 miX8_opens msX8_opens rfl (by decide) rfl rfl (Nat.le_of_ble_eq_true rfl) (Nat.le_of_ble_eq_true rfl) rfl h (fun rv t1 q => ?_)
  obtain ⟨v2, rfl, h⟩ := q
  show Rt g (d + 1) mX8_operand 50 [some (.ref 57), some (.int x1)] [.int v2] t1 Q
  refine s_if_ne (tgt := 54) dX8_operand_50 (by decide) (fun c3 => ?_) (fun c3 => ?_)
  · replace h := h.1 c3
    refine s_aload_n dX8_operand_54 rfl rfl ?_
    refine t_callV (M' := mX8_operand) (k := 1) (As := []) (rest := []) dX8_operand_55 ml_X8_212 miX8_operand msX8_operand rfl (by decide) rfl rfl (Nat.le_of_ble_eq_true rfl) (Nat.le_of_ble_eq_true rfl) rfl h (fun rv t4 q => ?_)
    obtain ⟨rfl, h⟩ := q
    show Rt g (d + 1) mX8_operand 58 [some (.ref 57), some (.int x1)] [] t4 Q
    refine s_aload_n dX8_operand_58 rfl rfl ?_
    refine s_dup dX8_operand_59 rfl ?_
    refine t_getI dX8_operand_60 fl_X8_191 rfl (by decide) rfl ?_
    refine s_iconst (v := 1) dX8_operand_63 (by decide) ?_
    refine s_isub dX8_operand_64 ?_
    refine t_putI dX8_operand_65 fl_X8_191 rfl (by decide) rfl rfl rfl rfl ?_
    refine s_aload_n dX8_operand_68 rfl rfl ?_
    refine s_iload_n dX8_operand_69 rfl rfl ?_
    refine s_bipush (v := 33) dX8_operand_70 (by decide) ?_
    refine s_icmp_ne (tgt := 79) dX8_operand_72 (by decide) (fun c5 => ?_) (fun c5 => ?_)
    · replace h := h.1 c5
      refine s_iconst (v := 4) dX8_operand_79 (by decide) ?_
      exact Rt.lc h (lc_none (lc_none lc_nil))
    · replace h := h.2 c5
      refine s_iconst (v := 3) dX8_operand_75 (by decide) ?_
      refine s_goto (tgt := 80) dX8_operand_76 (by decide) ?_
      exact Rt.lc h (lc_none (lc_none lc_nil))
  · replace h := h.2 c3
    exact t_vret dX8_operand_53 rfl h
theorem bX8_operand_80 {g : Gt} {d : Nat} {t : Tt} {Q : Option Value → Tt → Prop} {s0 : Int32} (h : Rt g d mX8_addStep 0 [some (.ref 57), some (.int s0), some (.int 0)] [] t (QV (fun t1 => Q none t1))) : Rt g (d + 1) mX8_operand 80 [none, none] [.int s0, .ref 57] t Q := by
  refine s_iconst (v := 0) dX8_operand_80 (by decide) ?_
  refine t_callV (M' := mX8_addStep) (k := 0) (As := [.int s0, .int 0]) (rest := []) dX8_operand_81 ml_X8_201 miX8_addStep msX8_addStep rfl (by decide) rfl rfl (Nat.le_of_ble_eq_true rfl) (Nat.le_of_ble_eq_true rfl) rfl h (fun rv t1 q => ?_)
  obtain ⟨rfl, h⟩ := q
  show Rt g (d + 1) mX8_operand 84 [none, none] [] t1 Q
  refine s_goto (tgt := 154) dX8_operand_84 (by decide) ?_
  exact t_vret dX8_operand_154 rfl h
theorem bX8_product_0 {g : Gt} {d : Nat} {t : Tt} {Q : Option Value → Tt → Prop} (h : Rt g d mX8_operand 0 [some (.ref 57), none] [] t (QV (fun t1 => Rt g (d + 1) mX8_product 4 [some (.ref 57), none] [] t1 Q))) : Rt g (d + 1) mX8_product 0 [some (.ref 57), none] [] t Q := by
  refine s_aload_n dX8_product_0 rfl rfl ?_
  refine t_callV (M' := mX8_operand) (k := 1) (As := []) (rest := []) dX8_product_1 ml_X8_212 miX8_operand msX8_operand rfl (by decide) rfl rfl (Nat.le_of_ble_eq_true rfl) (Nat.le_of_ble_eq_true rfl) rfl h (fun rv t1 q => ?_)
  obtain ⟨rfl, h⟩ := q
  show Rt g (d + 1) mX8_product 4 [some (.ref 57), none] [] t1 Q
  exact h
theorem bX8_product_4 {g : Gt} {d : Nat} {t : Tt} {Q : Option Value → Tt → Prop} (h : (0 ≤ (t.1 57 16) → Q none t) ∧ (¬ 0 ≤ (t.1 57 16) → Rt g d mX8_look 0 [some (.ref 57)] [] t (QI (fun v3 t2 => (v3 = 42 → Rt g (d + 1) mX8_product 38 [some (.ref 57), none] [] t2 Q) ∧ (¬ v3 = 42 → Rt g d mX8_look 0 [some (.ref 57)] [] t2 (QI (fun v6 t5 => (v6 = 47 → Rt g (d + 1) mX8_product 38 [some (.ref 57), none] [] t5 Q) ∧ (¬ v6 = 47 → Rt g d mX8_look 0 [some (.ref 57)] [] t5 (QI (fun v9 t8 => (¬ v9 = 37 → Q none t8) ∧ (v9 = 37 → Rt g (d + 1) mX8_product 38 [some (.ref 57), none] [] t8 Q))))))))))) : Rt g (d + 1) mX8_product 4 [some (.ref 57), none] [] t Q := by
  refine s_aload_n dX8_product_4 rfl rfl ?_
  refine t_getI dX8_product_5 fl_X8_185 rfl (by decide) rfl ?_
  refine s_if_ge (tgt := 66) dX8_product_8 (by decide) (fun c1 => ?_) (fun c1 => ?_)
  · replace h := h.1 c1
    exact t_vret dX8_product_66 rfl h
  · replace h := h.2 c1
    refine s_aload_n dX8_product_11 rfl rfl ?_
    refine t_callV (M' := mX8_look) (k := 0) (As := []) (rest := []) dX8_product_12 ml_X8_197 miX8_look msX8_look rfl (by decide) rfl rfl (Nat.le_of_ble_eq_true rfl) (Nat.le_of_ble_eq_true rfl) rfl h (fun rv t2 q => ?_)
    obtain ⟨v3, rfl, h⟩ := q
    show Rt g (d + 1) mX8_product 15 [some (.ref 57), none] [.int v3] t2 Q
    refine s_bipush (v := 42) dX8_product_15 (by decide) ?_
    refine s_icmp_eq (tgt := 38) dX8_product_17 (by decide) (fun c4 => ?_) (fun c4 => ?_)
    · replace h := h.1 c4
      exact h
    · replace h := h.2 c4
      refine s_aload_n dX8_product_20 rfl rfl ?_
      refine t_callV (M' := mX8_look) (k := 0) (As := []) (rest := []) dX8_product_21 ml_X8_197 miX8_look msX8_look rfl (by decide) rfl rfl (Nat.le_of_ble_eq_true rfl) (Nat.le_of_ble_eq_true rfl) rfl h (fun rv t5 q => ?_)
      obtain ⟨v6, rfl, h⟩ := q
      show Rt g (d + 1) mX8_product 24 [some (.ref 57), none] [.int v6] t5 Q
      refine s_bipush (v := 47) dX8_product_24 (by decide) ?_
      refine s_icmp_eq (tgt := 38) dX8_product_26 (by decide) (fun c7 => ?_) (fun c7 => ?_)
      · replace h := h.1 c7
        exact h
      · replace h := h.2 c7
        refine s_aload_n dX8_product_29 rfl rfl ?_
        refine t_callV (M' := mX8_look) (k := 0) (As := []) (rest := []) dX8_product_30 ml_X8_197 miX8_look msX8_look rfl (by decide) rfl rfl (Nat.le_of_ble_eq_true rfl) (Nat.le_of_ble_eq_true rfl) rfl h (fun rv t8 q => ?_)
        obtain ⟨v9, rfl, h⟩ := q
        show Rt g (d + 1) mX8_product 33 [some (.ref 57), none] [.int v9] t8 Q
        refine s_bipush (v := 37) dX8_product_33 (by decide) ?_
        refine s_icmp_ne (tgt := 66) dX8_product_35 (by decide) (fun c10 => ?_) (fun c10 => ?_)
        · replace h := h.1 c10
          exact t_vret dX8_product_66 rfl h
        · replace h := h.2 c10
          exact h
theorem bX8_product_38 {g : Gt} {d : Nat} {t : Tt} {Q : Option Value → Tt → Prop} (h : Rt g d mX8_look 0 [some (.ref 57)] [] t (QI (fun v2 t1 => Rt g d mX8_operand 0 [some (.ref 57), none] [] (pI t1 57 15 ((t1.1 57 15) + 1)) (QV (fun t3 => Rt g d mX8_addStep 0 [some (.ref 57), some (.int v2), some (.int 0)] [] t3 (QV (fun t4 => Rt g (d + 1) mX8_product 4 [some (.ref 57), none] [] t4 Q))))))) : Rt g (d + 1) mX8_product 38 [some (.ref 57), none] [] t Q := by
  refine s_aload_n dX8_product_38 rfl rfl ?_
  refine t_callV (M' := mX8_look) (k := 0) (As := []) (rest := []) dX8_product_39 ml_X8_197 miX8_look msX8_look rfl (by decide) rfl rfl (Nat.le_of_ble_eq_true rfl) (Nat.le_of_ble_eq_true rfl) rfl h (fun rv t1 q => ?_)
  obtain ⟨v2, rfl, h⟩ := q
  show Rt g (d + 1) mX8_product 42 [some (.ref 57), none] [.int v2] t1 Q
  refine s_istore_n dX8_product_42 rfl (by decide) rfl (L9 := [some (.ref 57), some (.int v2)]) rfl ?_
  refine s_aload_n dX8_product_43 rfl rfl ?_
  refine s_dup dX8_product_44 rfl ?_
  refine t_getI dX8_product_45 fl_X8_182 rfl (by decide) rfl ?_
  refine s_iconst (v := 1) dX8_product_48 (by decide) ?_
  refine s_iadd dX8_product_49 ?_
  refine t_putI dX8_product_50 fl_X8_182 rfl (by decide) rfl rfl rfl rfl ?_
  refine s_aload_n dX8_product_53 rfl rfl ?_
  refine t_callV (M' := mX8_operand) (k := 1) (As := []) (rest := []) dX8_product_54 ml_X8_212 miX8_operand msX8_operand rfl (by decide) rfl rfl (Nat.le_of_ble_eq_true rfl) (Nat.le_of_ble_eq_true rfl) rfl h (fun rv t3 q => ?_)
  obtain ⟨rfl, h⟩ := q
  show Rt g (d + 1) mX8_product 57 [some (.ref 57), some (.int v2)] [] t3 Q
  refine s_aload_n dX8_product_57 rfl rfl ?_
  refine s_iload_n dX8_product_58 rfl rfl ?_
  refine s_iconst (v := 0) dX8_product_59 (by decide) ?_
  refine t_callV (M' := mX8_addStep) (k := 0) (As := [.int v2, .int 0]) (rest := []) dX8_product_60 ml_X8_201 miX8_addStep msX8_addStep rfl (by decide) rfl rfl (Nat.le_of_ble_eq_true rfl) (Nat.le_of_ble_eq_true rfl) rfl h (fun rv t4 q => ?_)
  obtain ⟨rfl, h⟩ := q
  show Rt g (d + 1) mX8_product 63 [some (.ref 57), some (.int v2)] [] t4 Q
  refine s_goto (tgt := 4) dX8_product_63 (by decide) ?_
  exact Rt.lc h (lc_some (lc_none lc_nil))
theorem bX8_sum_0 {g : Gt} {d : Nat} {t : Tt} {Q : Option Value → Tt → Prop} (h : Rt g d mX8_product 0 [some (.ref 57), none] [] t (QV (fun t1 => Rt g (d + 1) mX8_sum 4 [some (.ref 57), none] [] t1 Q))) : Rt g (d + 1) mX8_sum 0 [some (.ref 57), none] [] t Q := by
  refine s_aload_n dX8_sum_0 rfl rfl ?_
  refine t_callV (M' := mX8_product) (k := 1) (As := []) (rest := []) dX8_sum_1 ml_X8_221 miX8_product msX8_product rfl (by decide) rfl rfl (Nat.le_of_ble_eq_true rfl) (Nat.le_of_ble_eq_true rfl) rfl h (fun rv t1 q => ?_)
  obtain ⟨rfl, h⟩ := q
  show Rt g (d + 1) mX8_sum 4 [some (.ref 57), none] [] t1 Q
  exact h
theorem bX8_sum_4 {g : Gt} {d : Nat} {t : Tt} {Q : Option Value → Tt → Prop} (h : (0 ≤ (t.1 57 16) → Q none t) ∧ (¬ 0 ≤ (t.1 57 16) → Rt g d mX8_look 0 [some (.ref 57)] [] t (QI (fun v3 t2 => (v3 = 43 → Rt g (d + 1) mX8_sum 29 [some (.ref 57), none] [] t2 Q) ∧ (¬ v3 = 43 → Rt g d mX8_look 0 [some (.ref 57)] [] t2 (QI (fun v6 t5 => (¬ v6 = 45 → Q none t5) ∧ (v6 = 45 → Rt g (d + 1) mX8_sum 29 [some (.ref 57), none] [] t5 Q)))))))) : Rt g (d + 1) mX8_sum 4 [some (.ref 57), none] [] t Q := by
  refine s_aload_n dX8_sum_4 rfl rfl ?_
  refine t_getI dX8_sum_5 fl_X8_185 rfl (by decide) rfl ?_
  refine s_if_ge (tgt := 57) dX8_sum_8 (by decide) (fun c1 => ?_) (fun c1 => ?_)
  · replace h := h.1 c1
    exact t_vret dX8_sum_57 rfl h
  · replace h := h.2 c1
    refine s_aload_n dX8_sum_11 rfl rfl ?_
    refine t_callV (M' := mX8_look) (k := 0) (As := []) (rest := []) dX8_sum_12 ml_X8_197 miX8_look msX8_look rfl (by decide) rfl rfl (Nat.le_of_ble_eq_true rfl) (Nat.le_of_ble_eq_true rfl) rfl h (fun rv t2 q => ?_)
    obtain ⟨v3, rfl, h⟩ := q
    show Rt g (d + 1) mX8_sum 15 [some (.ref 57), none] [.int v3] t2 Q
    refine s_bipush (v := 43) dX8_sum_15 (by decide) ?_
    refine s_icmp_eq (tgt := 29) dX8_sum_17 (by decide) (fun c4 => ?_) (fun c4 => ?_)
    · replace h := h.1 c4
      exact h
    · replace h := h.2 c4
      refine s_aload_n dX8_sum_20 rfl rfl ?_
      refine t_callV (M' := mX8_look) (k := 0) (As := []) (rest := []) dX8_sum_21 ml_X8_197 miX8_look msX8_look rfl (by decide) rfl rfl (Nat.le_of_ble_eq_true rfl) (Nat.le_of_ble_eq_true rfl) rfl h (fun rv t5 q => ?_)
      obtain ⟨v6, rfl, h⟩ := q
      show Rt g (d + 1) mX8_sum 24 [some (.ref 57), none] [.int v6] t5 Q
      refine s_bipush (v := 45) dX8_sum_24 (by decide) ?_
      refine s_icmp_ne (tgt := 57) dX8_sum_26 (by decide) (fun c7 => ?_) (fun c7 => ?_)
      · replace h := h.1 c7
        exact t_vret dX8_sum_57 rfl h
      · replace h := h.2 c7
        exact h
theorem bX8_sum_29 {g : Gt} {d : Nat} {t : Tt} {Q : Option Value → Tt → Prop} (h : Rt g d mX8_look 0 [some (.ref 57)] [] t (QI (fun v2 t1 => Rt g d mX8_product 0 [some (.ref 57), none] [] (pI t1 57 15 ((t1.1 57 15) + 1)) (QV (fun t3 => Rt g d mX8_addStep 0 [some (.ref 57), some (.int v2), some (.int 0)] [] t3 (QV (fun t4 => Rt g (d + 1) mX8_sum 4 [some (.ref 57), none] [] t4 Q))))))) : Rt g (d + 1) mX8_sum 29 [some (.ref 57), none] [] t Q := by
  refine s_aload_n dX8_sum_29 rfl rfl ?_
  refine t_callV (M' := mX8_look) (k := 0) (As := []) (rest := []) dX8_sum_30 ml_X8_197 miX8_look msX8_look rfl (by decide) rfl rfl (Nat.le_of_ble_eq_true rfl) (Nat.le_of_ble_eq_true rfl) rfl h (fun rv t1 q => ?_)
  obtain ⟨v2, rfl, h⟩ := q
  show Rt g (d + 1) mX8_sum 33 [some (.ref 57), none] [.int v2] t1 Q
  refine s_istore_n dX8_sum_33 rfl (by decide) rfl (L9 := [some (.ref 57), some (.int v2)]) rfl ?_
  refine s_aload_n dX8_sum_34 rfl rfl ?_
  refine s_dup dX8_sum_35 rfl ?_
  refine t_getI dX8_sum_36 fl_X8_182 rfl (by decide) rfl ?_
  refine s_iconst (v := 1) dX8_sum_39 (by decide) ?_
  refine s_iadd dX8_sum_40 ?_
  refine t_putI dX8_sum_41 fl_X8_182 rfl (by decide) rfl rfl rfl rfl ?_
  refine s_aload_n dX8_sum_44 rfl rfl ?_
  refine t_callV (M' := mX8_product) (k := 1) (As := []) (rest := []) dX8_sum_45 ml_X8_221 miX8_product msX8_product rfl (by decide) rfl rfl (Nat.le_of_ble_eq_true rfl) (Nat.le_of_ble_eq_true rfl) rfl h (fun rv t3 q => ?_)
  obtain ⟨rfl, h⟩ := q
  show Rt g (d + 1) mX8_sum 48 [some (.ref 57), some (.int v2)] [] t3 Q
  refine s_aload_n dX8_sum_48 rfl rfl ?_
  refine s_iload_n dX8_sum_49 rfl rfl ?_
  refine s_iconst (v := 0) dX8_sum_50 (by decide) ?_
  refine t_callV (M' := mX8_addStep) (k := 0) (As := [.int v2, .int 0]) (rest := []) dX8_sum_51 ml_X8_201 miX8_addStep msX8_addStep rfl (by decide) rfl rfl (Nat.le_of_ble_eq_true rfl) (Nat.le_of_ble_eq_true rfl) rfl h (fun rv t4 q => ?_)
  obtain ⟨rfl, h⟩ := q
  show Rt g (d + 1) mX8_sum 54 [some (.ref 57), some (.int v2)] [] t4 Q
  refine s_goto (tgt := 4) dX8_sum_54 (by decide) ?_
  exact Rt.lc h (lc_some (lc_none lc_nil))
theorem bX8_compared_0 {g : Gt} {d : Nat} {t : Tt} {Q : Option Value → Tt → Prop} (h : Rt g d mX8_sum 0 [some (.ref 57), none] [] t (QV (fun t1 => Rt g d mX8_look 0 [some (.ref 57)] [] t1 (QI (fun v3 t2 => (0 ≤ (t2.1 57 16) → Q none t2) ∧ (¬ 0 ≤ (t2.1 57 16) → (v3 = 60 → Rt g (d + 1) mX8_compared 35 [some (.ref 57), some (.int v3)] [] t2 Q) ∧ (¬ v3 = 60 → (v3 = 61 → Rt g (d + 1) mX8_compared 35 [some (.ref 57), some (.int v3)] [] t2 Q) ∧ (¬ v3 = 61 → (v3 = 62 → Rt g (d + 1) mX8_compared 35 [some (.ref 57), some (.int v3)] [] t2 Q) ∧ (¬ v3 = 62 → Q none t2))))))))) : Rt g (d + 1) mX8_compared 0 [some (.ref 57), none] [] t Q := by
  refine s_aload_n dX8_compared_0 rfl rfl ?_
  refine t_callV (M' := mX8_sum) (k := 1) (As := []) (rest := []) dX8_compared_1 ml_X8_224 miX8_sum msX8_sum rfl (by decide) rfl rfl (Nat.le_of_ble_eq_true rfl) (Nat.le_of_ble_eq_true rfl) rfl h (fun rv t1 q => ?_)
  obtain ⟨rfl, h⟩ := q
  show Rt g (d + 1) mX8_compared 4 [some (.ref 57), none] [] t1 Q
  refine s_aload_n dX8_compared_4 rfl rfl ?_
  refine t_callV (M' := mX8_look) (k := 0) (As := []) (rest := []) dX8_compared_5 ml_X8_197 miX8_look msX8_look rfl (by decide) rfl rfl (Nat.le_of_ble_eq_true rfl) (Nat.le_of_ble_eq_true rfl) rfl h (fun rv t2 q => ?_)
  obtain ⟨v3, rfl, h⟩ := q
  show Rt g (d + 1) mX8_compared 8 [some (.ref 57), none] [.int v3] t2 Q
  refine s_istore_n dX8_compared_8 rfl (by decide) rfl (L9 := [some (.ref 57), some (.int v3)]) rfl ?_
  refine s_aload_n dX8_compared_9 rfl rfl ?_
  refine t_getI dX8_compared_10 fl_X8_185 rfl (by decide) rfl ?_
  refine s_if_ge (tgt := 34) dX8_compared_13 (by decide) (fun c4 => ?_) (fun c4 => ?_)
  · replace h := h.1 c4
    exact t_vret dX8_compared_34 rfl h
  · replace h := h.2 c4
    refine s_iload_n dX8_compared_16 rfl rfl ?_
    refine s_bipush (v := 60) dX8_compared_17 (by decide) ?_
    refine s_icmp_eq (tgt := 35) dX8_compared_19 (by decide) (fun c5 => ?_) (fun c5 => ?_)
    · replace h := h.1 c5
      exact h
    · replace h := h.2 c5
      refine s_iload_n dX8_compared_22 rfl rfl ?_
      refine s_bipush (v := 61) dX8_compared_23 (by decide) ?_
      refine s_icmp_eq (tgt := 35) dX8_compared_25 (by decide) (fun c6 => ?_) (fun c6 => ?_)
      · replace h := h.1 c6
        exact h
      · replace h := h.2 c6
        refine s_iload_n dX8_compared_28 rfl rfl ?_
        refine s_bipush (v := 62) dX8_compared_29 (by decide) ?_
        refine s_icmp_eq (tgt := 35) dX8_compared_31 (by decide) (fun c7 => ?_) (fun c7 => ?_)
        · replace h := h.1 c7
          exact h
        · replace h := h.2 c7
          exact t_vret dX8_compared_34 rfl h
theorem bX8_compared_35 {g : Gt} {d : Nat} {t : Tt} {Q : Option Value → Tt → Prop} {x1 : Int32} (h : Rt g d mX8_sum 0 [some (.ref 57), none] [] (pI t 57 15 ((t.1 57 15) + 1)) (QV (fun t1 => Rt g d mX8_addStep 0 [some (.ref 57), some (.int x1), some (.int 0)] [] t1 (QV (fun t2 => Q none t2))))) : Rt g (d + 1) mX8_compared 35 [some (.ref 57), some (.int x1)] [] t Q := by
  refine s_aload_n dX8_compared_35 rfl rfl ?_
  refine s_dup dX8_compared_36 rfl ?_
  refine t_getI dX8_compared_37 fl_X8_182 rfl (by decide) rfl ?_
  refine s_iconst (v := 1) dX8_compared_40 (by decide) ?_
  refine s_iadd dX8_compared_41 ?_
  refine t_putI dX8_compared_42 fl_X8_182 rfl (by decide) rfl rfl rfl rfl ?_
  refine s_aload_n dX8_compared_45 rfl rfl ?_
  refine t_callV (M' := mX8_sum) (k := 1) (As := []) (rest := []) dX8_compared_46 ml_X8_224 miX8_sum msX8_sum rfl (by decide) rfl rfl (Nat.le_of_ble_eq_true rfl) (Nat.le_of_ble_eq_true rfl) rfl h (fun rv t1 q => ?_)
  obtain ⟨rfl, h⟩ := q
  show Rt g (d + 1) mX8_compared 49 [some (.ref 57), some (.int x1)] [] t1 Q
  refine s_aload_n dX8_compared_49 rfl rfl ?_
  refine s_iload_n dX8_compared_50 rfl rfl ?_
  refine s_iconst (v := 0) dX8_compared_51 (by decide) ?_
  refine t_callV (M' := mX8_addStep) (k := 0) (As := [.int x1, .int 0]) (rest := []) dX8_compared_52 ml_X8_201 miX8_addStep msX8_addStep rfl (by decide) rfl rfl (Nat.le_of_ble_eq_true rfl) (Nat.le_of_ble_eq_true rfl) rfl h (fun rv t2 q => ?_)
  obtain ⟨rfl, h⟩ := q
  show Rt g (d + 1) mX8_compared 55 [some (.ref 57), some (.int x1)] [] t2 Q
  exact t_vret dX8_compared_55 rfl h
theorem bX8_both_0 {g : Gt} {d : Nat} {t : Tt} {Q : Option Value → Tt → Prop} (h : Rt g d mX8_compared 0 [some (.ref 57), none] [] t (QV (fun t1 => Rt g (d + 1) mX8_both 4 [some (.ref 57)] [] t1 Q))) : Rt g (d + 1) mX8_both 0 [some (.ref 57)] [] t Q := by
  refine s_aload_n dX8_both_0 rfl rfl ?_
  refine t_callV (M' := mX8_compared) (k := 1) (As := []) (rest := []) dX8_both_1 ml_X8_227 miX8_compared msX8_compared rfl (by decide) rfl rfl (Nat.le_of_ble_eq_true rfl) (Nat.le_of_ble_eq_true rfl) rfl h (fun rv t1 q => ?_)
  obtain ⟨rfl, h⟩ := q
  show Rt g (d + 1) mX8_both 4 [some (.ref 57)] [] t1 Q
  exact h
theorem bX8_both_4 {g : Gt} {d : Nat} {t : Tt} {Q : Option Value → Tt → Prop} (h : (0 ≤ (t.1 57 16) → Q none t) ∧ (¬ 0 ≤ (t.1 57 16) → Rt g d mX8_look 0 [some (.ref 57)] [] t (QI (fun v3 t2 => (¬ v3 = 38 → Q none t2) ∧ (v3 = 38 → Rt g d mX8_compared 0 [some (.ref 57), none] [] (pI t2 57 15 ((t2.1 57 15) + 1)) (QV (fun t5 => Rt g d mX8_addStep 0 [some (.ref 57), some (.int 38), some (.int 0)] [] t5 (QV (fun t6 => Rt g (d + 1) mX8_both 4 [some (.ref 57)] [] t6 Q))))))))) : Rt g (d + 1) mX8_both 4 [some (.ref 57)] [] t Q := by
  refine s_aload_n dX8_both_4 rfl rfl ?_
  refine t_getI dX8_both_5 fl_X8_185 rfl (by decide) rfl ?_
  refine s_if_ge (tgt := 44) dX8_both_8 (by decide) (fun c1 => ?_) (fun c1 => ?_)
  · replace h := h.1 c1
    exact t_vret dX8_both_44 rfl h
  · replace h := h.2 c1
    refine s_aload_n dX8_both_11 rfl rfl ?_
    refine t_callV (M' := mX8_look) (k := 0) (As := []) (rest := []) dX8_both_12 ml_X8_197 miX8_look msX8_look rfl (by decide) rfl rfl (Nat.le_of_ble_eq_true rfl) (Nat.le_of_ble_eq_true rfl) rfl h (fun rv t2 q => ?_)
    obtain ⟨v3, rfl, h⟩ := q
    show Rt g (d + 1) mX8_both 15 [some (.ref 57)] [.int v3] t2 Q
    refine s_bipush (v := 38) dX8_both_15 (by decide) ?_
    refine s_icmp_ne (tgt := 44) dX8_both_17 (by decide) (fun c4 => ?_) (fun c4 => ?_)
    · replace h := h.1 c4
      exact t_vret dX8_both_44 rfl h
    · replace h := h.2 c4
      refine s_aload_n dX8_both_20 rfl rfl ?_
      refine s_dup dX8_both_21 rfl ?_
      refine t_getI dX8_both_22 fl_X8_182 rfl (by decide) rfl ?_
      refine s_iconst (v := 1) dX8_both_25 (by decide) ?_
      refine s_iadd dX8_both_26 ?_
      refine t_putI dX8_both_27 fl_X8_182 rfl (by decide) rfl rfl rfl rfl ?_
      refine s_aload_n dX8_both_30 rfl rfl ?_
      refine t_callV (M' := mX8_compared) (k := 1) (As := []) (rest := []) dX8_both_31 ml_X8_227 miX8_compared msX8_compared rfl (by decide) rfl rfl (Nat.le_of_ble_eq_true rfl) (Nat.le_of_ble_eq_true rfl) rfl h (fun rv t5 q => ?_)
      obtain ⟨rfl, h⟩ := q
      show Rt g (d + 1) mX8_both 34 [some (.ref 57)] [] t5 Q
      refine s_aload_n dX8_both_34 rfl rfl ?_
      refine s_bipush (v := 38) dX8_both_35 (by decide) ?_
      refine s_iconst (v := 0) dX8_both_37 (by decide) ?_
      refine t_callV (M' := mX8_addStep) (k := 0) (As := [.int 38, .int 0]) (rest := []) dX8_both_38 ml_X8_201 miX8_addStep msX8_addStep rfl (by decide) rfl rfl (Nat.le_of_ble_eq_true rfl) (Nat.le_of_ble_eq_true rfl) rfl h (fun rv t6 q => ?_)
      obtain ⟨rfl, h⟩ := q
      show Rt g (d + 1) mX8_both 41 [some (.ref 57)] [] t6 Q
      refine s_goto (tgt := 4) dX8_both_41 (by decide) ?_
      exact h
theorem bX8_either_0 {g : Gt} {d : Nat} {t : Tt} {Q : Option Value → Tt → Prop} (h : Rt g d mX8_both 0 [some (.ref 57)] [] t (QV (fun t1 => Rt g (d + 1) mX8_either 4 [some (.ref 57)] [] t1 Q))) : Rt g (d + 1) mX8_either 0 [some (.ref 57)] [] t Q := by
  refine s_aload_n dX8_either_0 rfl rfl ?_
  refine t_callV (M' := mX8_both) (k := 0) (As := []) (rest := []) dX8_either_1 ml_X8_230 miX8_both msX8_both rfl (by decide) rfl rfl (Nat.le_of_ble_eq_true rfl) (Nat.le_of_ble_eq_true rfl) rfl h (fun rv t1 q => ?_)
  obtain ⟨rfl, h⟩ := q
  show Rt g (d + 1) mX8_either 4 [some (.ref 57)] [] t1 Q
  exact h
theorem bX8_either_4 {g : Gt} {d : Nat} {t : Tt} {Q : Option Value → Tt → Prop} (h : (0 ≤ (t.1 57 16) → Q none t) ∧ (¬ 0 ≤ (t.1 57 16) → Rt g d mX8_look 0 [some (.ref 57)] [] t (QI (fun v3 t2 => (¬ v3 = 124 → Q none t2) ∧ (v3 = 124 → Rt g d mX8_both 0 [some (.ref 57)] [] (pI t2 57 15 ((t2.1 57 15) + 1)) (QV (fun t5 => Rt g d mX8_addStep 0 [some (.ref 57), some (.int 124), some (.int 0)] [] t5 (QV (fun t6 => Rt g (d + 1) mX8_either 4 [some (.ref 57)] [] t6 Q))))))))) : Rt g (d + 1) mX8_either 4 [some (.ref 57)] [] t Q := by
  refine s_aload_n dX8_either_4 rfl rfl ?_
  refine t_getI dX8_either_5 fl_X8_185 rfl (by decide) rfl ?_
  refine s_if_ge (tgt := 44) dX8_either_8 (by decide) (fun c1 => ?_) (fun c1 => ?_)
  · replace h := h.1 c1
    exact t_vret dX8_either_44 rfl h
  · replace h := h.2 c1
    refine s_aload_n dX8_either_11 rfl rfl ?_
    refine t_callV (M' := mX8_look) (k := 0) (As := []) (rest := []) dX8_either_12 ml_X8_197 miX8_look msX8_look rfl (by decide) rfl rfl (Nat.le_of_ble_eq_true rfl) (Nat.le_of_ble_eq_true rfl) rfl h (fun rv t2 q => ?_)
    obtain ⟨v3, rfl, h⟩ := q
    show Rt g (d + 1) mX8_either 15 [some (.ref 57)] [.int v3] t2 Q
    refine s_bipush (v := 124) dX8_either_15 (by decide) ?_
    refine s_icmp_ne (tgt := 44) dX8_either_17 (by decide) (fun c4 => ?_) (fun c4 => ?_)
    · replace h := h.1 c4
      exact t_vret dX8_either_44 rfl h
    · replace h := h.2 c4
      refine s_aload_n dX8_either_20 rfl rfl ?_
      refine s_dup dX8_either_21 rfl ?_
      refine t_getI dX8_either_22 fl_X8_182 rfl (by decide) rfl ?_
      refine s_iconst (v := 1) dX8_either_25 (by decide) ?_
      refine s_iadd dX8_either_26 ?_
      refine t_putI dX8_either_27 fl_X8_182 rfl (by decide) rfl rfl rfl rfl ?_
      refine s_aload_n dX8_either_30 rfl rfl ?_
      refine t_callV (M' := mX8_both) (k := 0) (As := []) (rest := []) dX8_either_31 ml_X8_230 miX8_both msX8_both rfl (by decide) rfl rfl (Nat.le_of_ble_eq_true rfl) (Nat.le_of_ble_eq_true rfl) rfl h (fun rv t5 q => ?_)
      obtain ⟨rfl, h⟩ := q
      show Rt g (d + 1) mX8_either 34 [some (.ref 57)] [] t5 Q
      refine s_aload_n dX8_either_34 rfl rfl ?_
      refine s_bipush (v := 124) dX8_either_35 (by decide) ?_
      refine s_iconst (v := 0) dX8_either_37 (by decide) ?_
      refine t_callV (M' := mX8_addStep) (k := 0) (As := [.int 124, .int 0]) (rest := []) dX8_either_38 ml_X8_201 miX8_addStep msX8_addStep rfl (by decide) rfl rfl (Nat.le_of_ble_eq_true rfl) (Nat.le_of_ble_eq_true rfl) rfl h (fun rv t6 q => ?_)
      obtain ⟨rfl, h⟩ := q
      show Rt g (d + 1) mX8_either 41 [some (.ref 57)] [] t6 Q
      refine s_goto (tgt := 4) dX8_either_41 (by decide) ?_
      exact h
theorem bX8_line_0 {g : Gt} {d : Nat} {t : Tt} {Q : Option Value → Tt → Prop} (h : ∀ z1 : Int32, z1 = (61 + (t.1 69 1)) → vp_in z1 122 ∧ (Rt g d mX8_either 0 [some (.ref 57)] [] (pI t 70 z1.toNatClampNeg (vp_nar .short ((t.1 57 18).toInt16.toInt32))) (QV (fun t3 => (0 ≤ (t3.1 57 16) → Rt g (d + 1) mX8_line 66 [some (.ref 57), some (.int z1)] [] t3 Q) ∧ (¬ 0 ≤ (t3.1 57 16) → Rt g d mX8_look 0 [some (.ref 57)] [] t3 (QI (fun v6 t5 => (¬ v6 = 63 → Rt g (d + 1) mX8_line 66 [some (.ref 57), some (.int z1)] [] t5 Q) ∧ (v6 = 63 → vp_in z1 122 ∧ Rt g d mX8_either 0 [some (.ref 57)] [] (pI (pI t5 57 15 ((t5.1 57 15) + 1)) 70 z1.toNatClampNeg (vp_nar .short (((pI t5 57 15 ((t5.1 57 15) + 1)).1 57 18).toInt16.toInt32))) (QV (fun t9 => Rt g (d + 1) mX8_line 66 [some (.ref 57), some (.int z1)] [] t9 Q)))))))))) : Rt g (d + 1) mX8_line 0 [some (.ref 57), none] [] t Q := by
  refine s_bipush (v := 61) dX8_line_0 (by decide) ?_
  refine s_aload_n dX8_line_2 rfl rfl ?_
  refine t_getR (o' := 69) dX8_line_3 fl_X8_48 rfl (by decide) rfl rfl ?_
  refine s_iconst (v := 1) dX8_line_6 (by decide) ?_
  refine t_iald dX8_line_7 rfl (by decide) (show vp_in 1 2 from by unfold vp_in; decide) ?_
  refine s_iadd dX8_line_8 ?_
  refine t_nmI (fun z1 ez1 => ?_)
  replace h := h z1 ez1
  refine s_istore_n dX8_line_9 rfl (by decide) rfl (L9 := [some (.ref 57), some (.int z1)]) rfl ?_
  refine s_aload_n dX8_line_10 rfl rfl ?_
  refine t_getR (o' := 70) dX8_line_11 fl_X8_51 rfl (by decide) rfl rfl ?_
  refine s_iload_n dX8_line_14 rfl rfl ?_
  refine s_aload_n dX8_line_15 rfl rfl ?_
  refine t_getI dX8_line_16 fl_X8_188 rfl (by decide) rfl ?_
  refine s_i2s dX8_line_19 ?_
  obtain ⟨g2, h⟩ := h
  refine t_sast dX8_line_20 rfl (by decide) g2 ?_
  refine s_aload_n dX8_line_21 rfl rfl ?_
  refine t_callV (M' := mX8_either) (k := 0) (As := []) (rest := []) dX8_line_22 ml_X8_215 miX8_either msX8_either rfl (by decide) rfl rfl (Nat.le_of_ble_eq_true rfl) (Nat.le_of_ble_eq_true rfl) rfl h (fun rv t3 q => ?_)
  obtain ⟨rfl, h⟩ := q
  show Rt g (d + 1) mX8_line 25 [some (.ref 57), some (.int z1)] [] t3 Q
  refine s_aload_n dX8_line_25 rfl rfl ?_
  refine t_getI dX8_line_26 fl_X8_185 rfl (by decide) rfl ?_
  refine s_if_ge (tgt := 66) dX8_line_29 (by decide) (fun c4 => ?_) (fun c4 => ?_)
  · replace h := h.1 c4
    exact h
  · replace h := h.2 c4
    refine s_aload_n dX8_line_32 rfl rfl ?_
    refine t_callV (M' := mX8_look) (k := 0) (As := []) (rest := []) dX8_line_33 ml_X8_197 miX8_look msX8_look rfl (by decide) rfl rfl (Nat.le_of_ble_eq_true rfl) (Nat.le_of_ble_eq_true rfl) rfl h (fun rv t5 q => ?_)
    obtain ⟨v6, rfl, h⟩ := q
    show Rt g (d + 1) mX8_line 36 [some (.ref 57), some (.int z1)] [.int v6] t5 Q
    refine s_bipush (v := 63) dX8_line_36 (by decide) ?_
    refine s_icmp_ne (tgt := 66) dX8_line_38 (by decide) (fun c7 => ?_) (fun c7 => ?_)
    · replace h := h.1 c7
      exact h
    · replace h := h.2 c7
      refine s_aload_n dX8_line_41 rfl rfl ?_
      refine s_dup dX8_line_42 rfl ?_
      refine t_getI dX8_line_43 fl_X8_182 rfl (by decide) rfl ?_
      refine s_iconst (v := 1) dX8_line_46 (by decide) ?_
      refine s_iadd dX8_line_47 ?_
      refine t_putI dX8_line_48 fl_X8_182 rfl (by decide) rfl rfl rfl rfl ?_
      refine s_aload_n dX8_line_51 rfl rfl ?_
      refine t_getR (o' := 70) dX8_line_52 fl_X8_51 rfl (by decide) rfl rfl ?_
      refine s_iload_n dX8_line_55 rfl rfl ?_
      refine s_aload_n dX8_line_56 rfl rfl ?_
      refine t_getI dX8_line_57 fl_X8_188 rfl (by decide) rfl ?_
      refine s_i2s dX8_line_60 ?_
      obtain ⟨g8, h⟩ := h
      refine t_sast dX8_line_61 rfl (by decide) g8 ?_
      refine s_aload_n dX8_line_62 rfl rfl ?_
      refine t_callV (M' := mX8_either) (k := 0) (As := []) (rest := []) dX8_line_63 ml_X8_215 miX8_either msX8_either rfl (by decide) rfl rfl (Nat.le_of_ble_eq_true rfl) (Nat.le_of_ble_eq_true rfl) rfl h (fun rv t9 q => ?_)
      obtain ⟨rfl, h⟩ := q
      show Rt g (d + 1) mX8_line 66 [some (.ref 57), some (.int z1)] [] t9 Q
      exact h
theorem bX8_line_66 {g : Gt} {d : Nat} {t : Tt} {Q : Option Value → Tt → Prop} {x1 : Int32} (h : vp_in x1 122 ∧ Q none (pI (pI t 71 x1.toNatClampNeg (vp_nar .short ((t.1 57 18).toInt16.toInt32))) 69 1 (((pI t 71 x1.toNatClampNeg (vp_nar .short ((t.1 57 18).toInt16.toInt32))).1 69 1) + 1))) : Rt g (d + 1) mX8_line 66 [some (.ref 57), some (.int x1)] [] t Q := by
  refine s_aload_n dX8_line_66 rfl rfl ?_
  refine t_getR (o' := 71) dX8_line_67 fl_X8_55 rfl (by decide) rfl rfl ?_
  refine s_iload_n dX8_line_70 rfl rfl ?_
  refine s_aload_n dX8_line_71 rfl rfl ?_
  refine t_getI dX8_line_72 fl_X8_188 rfl (by decide) rfl ?_
  refine s_i2s dX8_line_75 ?_
  obtain ⟨g1, h⟩ := h
  refine t_sast dX8_line_76 rfl (by decide) g1 ?_
  refine s_aload_n dX8_line_77 rfl rfl ?_
  refine t_getR (o' := 69) dX8_line_78 fl_X8_48 rfl (by decide) rfl rfl ?_
  refine s_iconst (v := 1) dX8_line_81 (by decide) ?_
  refine s_dup2 dX8_line_82 rfl rfl ?_
  refine t_iald dX8_line_83 rfl (by decide) (show vp_in 1 2 from by unfold vp_in; decide) ?_
  refine s_iconst (v := 1) dX8_line_84 (by decide) ?_
  refine s_iadd dX8_line_85 ?_
  refine t_iast dX8_line_86 rfl (by decide) (show vp_in 1 2 from by unfold vp_in; decide) ?_
  exact t_vret dX8_line_87 rfl h
theorem bX8_readText_0 {g : Gt} {d : Nat} {t : Tt} {Q : Option Value → Tt → Prop} {p0 : Int32} (h : Rt g d mX8_line 0 [some (.ref 57), none] [] (pI (pI (pI (pI (pI t 57 15 0) 57 16 (-1)) 57 17 0) 57 18 0) 69 1 0) (QV (fun t1 => Rt g (d + 1) mX8_readText 31 [some (.ref 57), some (.int p0), none] [] t1 Q))) : Rt g (d + 1) mX8_readText 0 [some (.ref 57), some (.int p0), none] [] t Q := by
  refine s_aload_n dX8_readText_0 rfl rfl ?_
  refine s_iconst (v := 0) dX8_readText_1 (by decide) ?_
  refine t_putI dX8_readText_2 fl_X8_182 rfl (by decide) rfl rfl rfl rfl ?_
  refine s_aload_n dX8_readText_5 rfl rfl ?_
  refine s_iconst (v := (-1)) dX8_readText_6 (by decide) ?_
  refine t_putI dX8_readText_7 fl_X8_185 rfl (by decide) rfl rfl rfl rfl ?_
  refine s_aload_n dX8_readText_10 rfl rfl ?_
  refine s_iconst (v := 0) dX8_readText_11 (by decide) ?_
  refine t_putI dX8_readText_12 fl_X8_191 rfl (by decide) rfl rfl rfl rfl ?_
  refine s_aload_n dX8_readText_15 rfl rfl ?_
  refine s_iconst (v := 0) dX8_readText_16 (by decide) ?_
  refine t_putI dX8_readText_17 fl_X8_188 rfl (by decide) rfl rfl rfl rfl ?_
  refine s_aload_n dX8_readText_20 rfl rfl ?_
  refine t_getR (o' := 69) dX8_readText_21 fl_X8_48 rfl (by decide) rfl rfl ?_
  refine s_iconst (v := 1) dX8_readText_24 (by decide) ?_
  refine s_iconst (v := 0) dX8_readText_25 (by decide) ?_
  refine t_iast dX8_readText_26 rfl (by decide) (show vp_in 1 2 from by unfold vp_in; decide) ?_
  refine s_aload_n dX8_readText_27 rfl rfl ?_
  refine t_callV (M' := mX8_line) (k := 1) (As := []) (rest := []) dX8_readText_28 ml_X8_233 miX8_line msX8_line rfl (by decide) rfl rfl (Nat.le_of_ble_eq_true rfl) (Nat.le_of_ble_eq_true rfl) rfl h (fun rv t1 q => ?_)
  obtain ⟨rfl, h⟩ := q
  show Rt g (d + 1) mX8_readText 31 [some (.ref 57), some (.int p0), none] [] t1 Q
  exact h
theorem bX8_readText_31 {g : Gt} {d : Nat} {t : Tt} {Q : Option Value → Tt → Prop} {x1 : Int32} (h : (0 ≤ (t.1 57 16) → Rt g (d + 1) mX8_readText 64 [some (.ref 57), some (.int x1), none] [] t Q) ∧ (¬ 0 ≤ (t.1 57 16) → Rt g d mX8_look 0 [some (.ref 57)] [] t (QI (fun v3 t2 => (¬ v3 = 59 → Rt g (d + 1) mX8_readText 64 [some (.ref 57), some (.int x1), none] [] t2 Q) ∧ (v3 = 59 → Rt g d mX8_line 0 [some (.ref 57), none] [] (pI t2 57 15 ((t2.1 57 15) + 1)) (QV (fun t5 => Rt g (d + 1) mX8_readText 31 [some (.ref 57), some (.int x1), none] [] t5 Q))))))) : Rt g (d + 1) mX8_readText 31 [some (.ref 57), some (.int x1), none] [] t Q := by
  refine s_aload_n dX8_readText_31 rfl rfl ?_
  refine t_getI dX8_readText_32 fl_X8_185 rfl (by decide) rfl ?_
  refine s_if_ge (tgt := 64) dX8_readText_35 (by decide) (fun c1 => ?_) (fun c1 => ?_)
  · replace h := h.1 c1
    exact h
  · replace h := h.2 c1
    refine s_aload_n dX8_readText_38 rfl rfl ?_
    refine t_callV (M' := mX8_look) (k := 0) (As := []) (rest := []) dX8_readText_39 ml_X8_197 miX8_look msX8_look rfl (by decide) rfl rfl (Nat.le_of_ble_eq_true rfl) (Nat.le_of_ble_eq_true rfl) rfl h (fun rv t2 q => ?_)
    obtain ⟨v3, rfl, h⟩ := q
    show Rt g (d + 1) mX8_readText 42 [some (.ref 57), some (.int x1), none] [.int v3] t2 Q
    refine s_bipush (v := 59) dX8_readText_42 (by decide) ?_
    refine s_icmp_ne (tgt := 64) dX8_readText_44 (by decide) (fun c4 => ?_) (fun c4 => ?_)
    · replace h := h.1 c4
      exact h
    · replace h := h.2 c4
      refine s_aload_n dX8_readText_47 rfl rfl ?_
      refine s_dup dX8_readText_48 rfl ?_
      refine t_getI dX8_readText_49 fl_X8_182 rfl (by decide) rfl ?_
      refine s_iconst (v := 1) dX8_readText_52 (by decide) ?_
      refine s_iadd dX8_readText_53 ?_
      refine t_putI dX8_readText_54 fl_X8_182 rfl (by decide) rfl rfl rfl rfl ?_
      refine s_aload_n dX8_readText_57 rfl rfl ?_
      refine t_callV (M' := mX8_line) (k := 1) (As := []) (rest := []) dX8_readText_58 ml_X8_233 miX8_line msX8_line rfl (by decide) rfl rfl (Nat.le_of_ble_eq_true rfl) (Nat.le_of_ble_eq_true rfl) rfl h (fun rv t5 q => ?_)
      obtain ⟨rfl, h⟩ := q
      show Rt g (d + 1) mX8_readText 61 [some (.ref 57), some (.int x1), none] [] t5 Q
      refine s_goto (tgt := 31) dX8_readText_61 (by decide) ?_
      exact h
theorem bX8_readText_64 {g : Gt} {d : Nat} {t : Tt} {Q : Option Value → Tt → Prop} {x1 : Int32} (h : (0 ≤ (t.1 57 16) → Rt g (d + 1) mX8_readText 86 [some (.ref 57), some (.int x1), none] [] t Q) ∧ (¬ 0 ≤ (t.1 57 16) → ((t.1 57 14) ≤ (t.1 57 15) → Rt g (d + 1) mX8_readText 86 [some (.ref 57), some (.int x1), none] [] t Q) ∧ (¬ (t.1 57 14) ≤ (t.1 57 15) → Rt g d mX8_wrong 0 [some (.ref 57)] [] t (QV (fun t3 => Rt g (d + 1) mX8_readText 86 [some (.ref 57), some (.int x1), none] [] t3 Q))))) : Rt g (d + 1) mX8_readText 64 [some (.ref 57), some (.int x1), none] [] t Q := by
  refine s_aload_n dX8_readText_64 rfl rfl ?_
  refine t_getI dX8_readText_65 fl_X8_185 rfl (by decide) rfl ?_
  refine s_if_ge (tgt := 86) dX8_readText_68 (by decide) (fun c1 => ?_) (fun c1 => ?_)
  · replace h := h.1 c1
    exact h
  · replace h := h.2 c1
    refine s_aload_n dX8_readText_71 rfl rfl ?_
    refine t_getI dX8_readText_72 fl_X8_182 rfl (by decide) rfl ?_
    refine s_aload_n dX8_readText_75 rfl rfl ?_
    refine t_getI dX8_readText_76 fl_X8_179 rfl (by decide) rfl ?_
    refine s_icmp_ge (tgt := 86) dX8_readText_79 (by decide) (fun c2 => ?_) (fun c2 => ?_)
    · replace h := h.1 c2
      exact h
    · replace h := h.2 c2
      refine s_aload_n dX8_readText_82 rfl rfl ?_
      refine t_callV (M' := mX8_wrong) (k := 0) (As := []) (rest := []) dX8_readText_83 ml_X8_194 miX8_wrong msX8_wrong rfl (by decide) rfl rfl (Nat.le_of_ble_eq_true rfl) (Nat.le_of_ble_eq_true rfl) rfl h (fun rv t3 q => ?_)
      obtain ⟨rfl, h⟩ := q
      show Rt g (d + 1) mX8_readText 86 [some (.ref 57), some (.int x1), none] [] t3 Q
      exact h
theorem bX8_readText_86 {g : Gt} {d : Nat} {t : Tt} {Q : Option Value → Tt → Prop} {x1 : Int32} (h : (((pI t 57 14 0).1 57 16) < 0 → Rt g (d + 1) mX8_readText 105 [some (.ref 57), some (.int x1), some (.int 0)] [] (pI t 57 14 0) Q) ∧ (¬ ((pI t 57 14 0).1 57 16) < 0 → Q (some (.int ((pI t 57 14 0).1 57 16))) (pI t 57 14 0))) : Rt g (d + 1) mX8_readText 86 [some (.ref 57), some (.int x1), none] [] t Q := by
  refine s_aload_n dX8_readText_86 rfl rfl ?_
  refine s_iconst (v := 0) dX8_readText_87 (by decide) ?_
  refine t_putI dX8_readText_88 fl_X8_179 rfl (by decide) rfl rfl rfl rfl ?_
  refine s_aload_n dX8_readText_91 rfl rfl ?_
  refine t_getI dX8_readText_92 fl_X8_185 rfl (by decide) rfl ?_
  refine s_if_lt (tgt := 103) dX8_readText_95 (by decide) (fun c1 => ?_) (fun c1 => ?_)
  · replace h := h.1 c1
    refine s_iconst (v := 0) dX8_readText_103 (by decide) ?_
    refine s_istore_n dX8_readText_104 rfl (by decide) rfl (L9 := [some (.ref 57), some (.int x1), some (.int 0)]) rfl ?_
    exact h
  · replace h := h.2 c1
    refine s_aload_n dX8_readText_98 rfl rfl ?_
    refine t_getI dX8_readText_99 fl_X8_185 rfl (by decide) rfl ?_
    exact t_iret dX8_readText_102 (NR_i rfl _) h
theorem bX8_readText_105 {g : Gt} {d : Nat} {t : Tt} {Q : Option Value → Tt → Prop} {x1 : Int32} {x2 : Int32} (h : ((t.1 57 18) ≤ x2 → vp_in x1 2 ∧ Rt g (d + 1) mX8_readText 177 [some (.ref 57), some (.int x1), some (.int 0)] [] (pI t 69 x1.toNatClampNeg (t.1 69 1)) Q) ∧ (¬ (t.1 57 18) ≤ x2 → vp_in (130 + x2) 260 ∧ (vp_in ((130 * x1) + x2) 260 ∧ (vp_in (130 + x2) 260 ∧ (vp_in ((130 * x1) + x2) 260 ∧ Rt g (d + 1) mX8_readText 105 [some (.ref 57), some (.int x1), some (.int (x2 + 1))] [] (pI (pI t 67 ((130 * x1) + x2).toNatClampNeg (vp_nar .byte (t.1 67 (130 + x2).toNatClampNeg))) 68 ((130 * x1) + x2).toNatClampNeg ((pI t 67 ((130 * x1) + x2).toNatClampNeg (vp_nar .byte (t.1 67 (130 + x2).toNatClampNeg))).1 68 (130 + x2).toNatClampNeg)) Q))))) : Rt g (d + 1) mX8_readText 105 [some (.ref 57), some (.int x1), some (.int x2)] [] t Q := by
  refine s_iload_n dX8_readText_105 rfl rfl ?_
  refine s_aload_n dX8_readText_106 rfl rfl ?_
  refine t_getI dX8_readText_107 fl_X8_188 rfl (by decide) rfl ?_
  refine s_icmp_ge (tgt := 163) dX8_readText_110 (by decide) (fun c1 => ?_) (fun c1 => ?_)
  · replace h := h.1 c1
    refine s_aload_n dX8_readText_163 rfl rfl ?_
    refine t_getR (o' := 69) dX8_readText_164 fl_X8_48 rfl (by decide) rfl rfl ?_
    refine s_iload_n dX8_readText_167 rfl rfl ?_
    refine s_aload_n dX8_readText_168 rfl rfl ?_
    refine t_getR (o' := 69) dX8_readText_169 fl_X8_48 rfl (by decide) rfl rfl ?_
    refine s_iconst (v := 1) dX8_readText_172 (by decide) ?_
    refine t_iald dX8_readText_173 rfl (by decide) (show vp_in 1 2 from by unfold vp_in; decide) ?_
    obtain ⟨g2, h⟩ := h
    refine t_iast dX8_readText_174 rfl (by decide) g2 ?_
    refine s_iconst (v := 0) dX8_readText_175 (by decide) ?_
    refine s_istore_n dX8_readText_176 rfl (by decide) rfl (L9 := [some (.ref 57), some (.int x1), some (.int 0)]) rfl ?_
    exact h
  · replace h := h.2 c1
    refine s_aload_n dX8_readText_113 rfl rfl ?_
    refine t_getR (o' := 67) dX8_readText_114 fl_X8_42 rfl (by decide) rfl rfl ?_
    refine s_sipush (v := 130) dX8_readText_117 (by decide) ?_
    refine s_iload_n dX8_readText_120 rfl rfl ?_
    refine s_imul dX8_readText_121 ?_
    refine s_iload_n dX8_readText_122 rfl rfl ?_
    refine s_iadd dX8_readText_123 ?_
    refine s_aload_n dX8_readText_124 rfl rfl ?_
    refine t_getR (o' := 67) dX8_readText_125 fl_X8_42 rfl (by decide) rfl rfl ?_
    refine s_sipush (v := 130) dX8_readText_128 (by decide) ?_
    refine s_iload_n dX8_readText_131 rfl rfl ?_
    refine s_iadd dX8_readText_132 ?_
    obtain ⟨g3, h⟩ := h
    refine t_bald dX8_readText_133 rfl (by decide) g3 ?_
    obtain ⟨g4, h⟩ := h
    refine t_bast dX8_readText_134 rfl (by decide) g4 ?_
    refine s_aload_n dX8_readText_135 rfl rfl ?_
    refine t_getR (o' := 68) dX8_readText_136 fl_X8_45 rfl (by decide) rfl rfl ?_
    refine s_sipush (v := 130) dX8_readText_139 (by decide) ?_
    refine s_iload_n dX8_readText_142 rfl rfl ?_
    refine s_imul dX8_readText_143 ?_
    refine s_iload_n dX8_readText_144 rfl rfl ?_
    refine s_iadd dX8_readText_145 ?_
    refine s_aload_n dX8_readText_146 rfl rfl ?_
    refine t_getR (o' := 68) dX8_readText_147 fl_X8_45 rfl (by decide) rfl rfl ?_
    refine s_sipush (v := 130) dX8_readText_150 (by decide) ?_
    refine s_iload_n dX8_readText_153 rfl rfl ?_
    refine s_iadd dX8_readText_154 ?_
    obtain ⟨g5, h⟩ := h
    refine t_iald dX8_readText_155 rfl (by decide) g5 ?_
    obtain ⟨g6, h⟩ := h
    refine t_iast dX8_readText_156 rfl (by decide) g6 ?_
    refine s_iinc (w := x2 + 1) dX8_readText_157 rfl (by rfl) (by decide) rfl (L9 := [some (.ref 57), some (.int x1), some (.int (x2 + 1))]) rfl ?_
    refine s_goto (tgt := 105) dX8_readText_160 (by decide) ?_
    exact h
theorem bX8_readText_177 {g : Gt} {d : Nat} {t : Tt} {Q : Option Value → Tt → Prop} {x1 : Int32} {x2 : Int32} (h : vp_in x1 2 ∧ (((t.1 69 x1.toNatClampNeg) ≤ x2 → Q (some (.int (-1))) t) ∧ (¬ (t.1 69 x1.toNatClampNeg) ≤ x2 → vp_in (61 + x2) 122 ∧ (vp_in ((61 * x1) + x2) 122 ∧ (vp_in (61 + x2) 122 ∧ (vp_in ((61 * x1) + x2) 122 ∧ Rt g (d + 1) mX8_readText 177 [some (.ref 57), some (.int x1), some (.int (x2 + 1))] [] (pI (pI t 70 ((61 * x1) + x2).toNatClampNeg (vp_nar .short (t.1 70 (61 + x2).toNatClampNeg))) 71 ((61 * x1) + x2).toNatClampNeg (vp_nar .short ((pI t 70 ((61 * x1) + x2).toNatClampNeg (vp_nar .short (t.1 70 (61 + x2).toNatClampNeg))).1 71 (61 + x2).toNatClampNeg))) Q)))))) : Rt g (d + 1) mX8_readText 177 [some (.ref 57), some (.int x1), some (.int x2)] [] t Q := by
  refine s_iload_n dX8_readText_177 rfl rfl ?_
  refine s_aload_n dX8_readText_178 rfl rfl ?_
  refine t_getR (o' := 69) dX8_readText_179 fl_X8_48 rfl (by decide) rfl rfl ?_
  refine s_iload_n dX8_readText_182 rfl rfl ?_
  obtain ⟨g1, h⟩ := h
  refine t_iald dX8_readText_183 rfl (by decide) g1 ?_
  refine s_icmp_ge (tgt := 233) dX8_readText_184 (by decide) (fun c2 => ?_) (fun c2 => ?_)
  · replace h := h.1 c2
    refine s_iconst (v := (-1)) dX8_readText_233 (by decide) ?_
    exact t_iret dX8_readText_234 (NR_i rfl _) h
  · replace h := h.2 c2
    refine s_aload_n dX8_readText_187 rfl rfl ?_
    refine t_getR (o' := 70) dX8_readText_188 fl_X8_51 rfl (by decide) rfl rfl ?_
    refine s_bipush (v := 61) dX8_readText_191 (by decide) ?_
    refine s_iload_n dX8_readText_193 rfl rfl ?_
    refine s_imul dX8_readText_194 ?_
    refine s_iload_n dX8_readText_195 rfl rfl ?_
    refine s_iadd dX8_readText_196 ?_
    refine s_aload_n dX8_readText_197 rfl rfl ?_
    refine t_getR (o' := 70) dX8_readText_198 fl_X8_51 rfl (by decide) rfl rfl ?_
    refine s_bipush (v := 61) dX8_readText_201 (by decide) ?_
    refine s_iload_n dX8_readText_203 rfl rfl ?_
    refine s_iadd dX8_readText_204 ?_
    obtain ⟨g3, h⟩ := h
    refine t_sald dX8_readText_205 rfl (by decide) g3 ?_
    obtain ⟨g4, h⟩ := h
    refine t_sast dX8_readText_206 rfl (by decide) g4 ?_
    refine s_aload_n dX8_readText_207 rfl rfl ?_
    refine t_getR (o' := 71) dX8_readText_208 fl_X8_55 rfl (by decide) rfl rfl ?_
    refine s_bipush (v := 61) dX8_readText_211 (by decide) ?_
    refine s_iload_n dX8_readText_213 rfl rfl ?_
    refine s_imul dX8_readText_214 ?_
    refine s_iload_n dX8_readText_215 rfl rfl ?_
    refine s_iadd dX8_readText_216 ?_
    refine s_aload_n dX8_readText_217 rfl rfl ?_
    refine t_getR (o' := 71) dX8_readText_218 fl_X8_55 rfl (by decide) rfl rfl ?_
    refine s_bipush (v := 61) dX8_readText_221 (by decide) ?_
    refine s_iload_n dX8_readText_223 rfl rfl ?_
    refine s_iadd dX8_readText_224 ?_
    obtain ⟨g5, h⟩ := h
    refine t_sald dX8_readText_225 rfl (by decide) g5 ?_
    obtain ⟨g6, h⟩ := h
    refine t_sast dX8_readText_226 rfl (by decide) g6 ?_
    refine s_iinc (w := x2 + 1) dX8_readText_227 rfl (by rfl) (by decide) rfl (L9 := [some (.ref 57), some (.int x1), some (.int (x2 + 1))]) rfl ?_
    refine s_goto (tgt := 177) dX8_readText_230 (by decide) ?_
    exact h
theorem bX8_twoOf_0 {g : Gt} {d : Nat} {t : Tt} {Q : Option Value → Tt → Prop} {p0 : Int32} {p1 : Int32} {p2 : Int32} (h : (p0 = 37 → (p2 = 0 → Rt g d mX8_twoOf 163 [none, none, none] [] t Q) ∧ (¬ p2 = 0 → (¬ p2 = (-1) → ¬ p2 = 0 ∧ Q (some (.int (jr p1 p2))) t) ∧ (p2 = (-1) → Rt g d mX8_twoOf 163 [none, none, none] [] t Q))) ∧ (¬ p0 = 37 → (p0 = 38 → (p1 = 0 → Q (some (.int 0)) t) ∧ (¬ p1 = 0 → (p2 = 0 → Q (some (.int 0)) t) ∧ (¬ p2 = 0 → Q (some (.int 1)) t))) ∧ (¬ p0 = 38 → (p0 = 39 → (¬ p1 = 0 → Rt g d mX8_twoOf 226 [none, none, none] [] t Q) ∧ (p1 = 0 → (p2 = 0 → Q (some (.int 0)) t) ∧ (¬ p2 = 0 → Rt g d mX8_twoOf 226 [none, none, none] [] t Q))) ∧ (¬ p0 = 39 → (p0 = 40 → (¬ p1 = 0 → Rt g d mX8_twoOf 226 [none, none, none] [] t Q) ∧ (p1 = 0 → (p2 = 0 → Q (some (.int 0)) t) ∧ (¬ p2 = 0 → Rt g d mX8_twoOf 226 [none, none, none] [] t Q))) ∧ (¬ p0 = 40 → (p0 = 41 → (¬ p1 = 0 → Rt g d mX8_twoOf 226 [none, none, none] [] t Q) ∧ (p1 = 0 → (p2 = 0 → Q (some (.int 0)) t) ∧ (¬ p2 = 0 → Rt g d mX8_twoOf 226 [none, none, none] [] t Q))) ∧ (¬ p0 = 41 → (p0 = 42 → Q (some (.int (p1 * p2))) t) ∧ (¬ p0 = 42 → (p0 = 43 → Q (some (.int (p1 + p2))) t) ∧ (¬ p0 = 43 → (p0 = 44 → (¬ p1 = 0 → Rt g d mX8_twoOf 226 [none, none, none] [] t Q) ∧ (p1 = 0 → (p2 = 0 → Q (some (.int 0)) t) ∧ (¬ p2 = 0 → Rt g d mX8_twoOf 226 [none, none, none] [] t Q))) ∧ (¬ p0 = 44 → (p0 = 45 → Q (some (.int (p1 - p2))) t) ∧ (¬ p0 = 45 → (p0 = 46 → (¬ p1 = 0 → Rt g d mX8_twoOf 226 [none, none, none] [] t Q) ∧ (p1 = 0 → (p2 = 0 → Q (some (.int 0)) t) ∧ (¬ p2 = 0 → Rt g d mX8_twoOf 226 [none, none, none] [] t Q))) ∧ (¬ p0 = 46 → (p0 = 47 → (¬ p2 = 0 → (¬ p2 = (-1) → ¬ p2 = 0 ∧ Q (some (.int (p1 / p2))) t) ∧ (p2 = (-1) → Q (some (.int (-p1))) t)) ∧ (p2 = 0 → Q (some (.int 0)) t)) ∧ (¬ p0 = 47 → (p0 = 48 → (¬ p1 = 0 → Rt g d mX8_twoOf 226 [none, none, none] [] t Q) ∧ (p1 = 0 → (p2 = 0 → Q (some (.int 0)) t) ∧ (¬ p2 = 0 → Rt g d mX8_twoOf 226 [none, none, none] [] t Q))) ∧ (¬ p0 = 48 → (p0 = 49 → (¬ p1 = 0 → Rt g d mX8_twoOf 226 [none, none, none] [] t Q) ∧ (p1 = 0 → (p2 = 0 → Q (some (.int 0)) t) ∧ (¬ p2 = 0 → Rt g d mX8_twoOf 226 [none, none, none] [] t Q))) ∧ (¬ p0 = 49 → (p0 = 50 → (¬ p1 = 0 → Rt g d mX8_twoOf 226 [none, none, none] [] t Q) ∧ (p1 = 0 → (p2 = 0 → Q (some (.int 0)) t) ∧ (¬ p2 = 0 → Rt g d mX8_twoOf 226 [none, none, none] [] t Q))) ∧ (¬ p0 = 50 → (p0 = 51 → (¬ p1 = 0 → Rt g d mX8_twoOf 226 [none, none, none] [] t Q) ∧ (p1 = 0 → (p2 = 0 → Q (some (.int 0)) t) ∧ (¬ p2 = 0 → Rt g d mX8_twoOf 226 [none, none, none] [] t Q))) ∧ (¬ p0 = 51 → (p0 = 52 → (¬ p1 = 0 → Rt g d mX8_twoOf 226 [none, none, none] [] t Q) ∧ (p1 = 0 → (p2 = 0 → Q (some (.int 0)) t) ∧ (¬ p2 = 0 → Rt g d mX8_twoOf 226 [none, none, none] [] t Q))) ∧ (¬ p0 = 52 → (p0 = 53 → (¬ p1 = 0 → Rt g d mX8_twoOf 226 [none, none, none] [] t Q) ∧ (p1 = 0 → (p2 = 0 → Q (some (.int 0)) t) ∧ (¬ p2 = 0 → Rt g d mX8_twoOf 226 [none, none, none] [] t Q))) ∧ (¬ p0 = 53 → (p0 = 54 → (¬ p1 = 0 → Rt g d mX8_twoOf 226 [none, none, none] [] t Q) ∧ (p1 = 0 → (p2 = 0 → Q (some (.int 0)) t) ∧ (¬ p2 = 0 → Rt g d mX8_twoOf 226 [none, none, none] [] t Q))) ∧ (¬ p0 = 54 → (p0 = 55 → (¬ p1 = 0 → Rt g d mX8_twoOf 226 [none, none, none] [] t Q) ∧ (p1 = 0 → (p2 = 0 → Q (some (.int 0)) t) ∧ (¬ p2 = 0 → Rt g d mX8_twoOf 226 [none, none, none] [] t Q))) ∧ (¬ p0 = 55 → (p0 = 56 → (¬ p1 = 0 → Rt g d mX8_twoOf 226 [none, none, none] [] t Q) ∧ (p1 = 0 → (p2 = 0 → Q (some (.int 0)) t) ∧ (¬ p2 = 0 → Rt g d mX8_twoOf 226 [none, none, none] [] t Q))) ∧ (¬ p0 = 56 → (p0 = 57 → (¬ p1 = 0 → Rt g d mX8_twoOf 226 [none, none, none] [] t Q) ∧ (p1 = 0 → (p2 = 0 → Q (some (.int 0)) t) ∧ (¬ p2 = 0 → Rt g d mX8_twoOf 226 [none, none, none] [] t Q))) ∧ (¬ p0 = 57 → (p0 = 58 → (¬ p1 = 0 → Rt g d mX8_twoOf 226 [none, none, none] [] t Q) ∧ (p1 = 0 → (p2 = 0 → Q (some (.int 0)) t) ∧ (¬ p2 = 0 → Rt g d mX8_twoOf 226 [none, none, none] [] t Q))) ∧ (¬ p0 = 58 → (p0 = 59 → (¬ p1 = 0 → Rt g d mX8_twoOf 226 [none, none, none] [] t Q) ∧ (p1 = 0 → (p2 = 0 → Q (some (.int 0)) t) ∧ (¬ p2 = 0 → Rt g d mX8_twoOf 226 [none, none, none] [] t Q))) ∧ (¬ p0 = 59 → (p0 = 60 → (p2 ≤ p1 → Q (some (.int 0)) t) ∧ (¬ p2 ≤ p1 → Q (some (.int 1)) t)) ∧ (¬ p0 = 60 → (p0 = 61 → (¬ p1 = p2 → Q (some (.int 0)) t) ∧ (p1 = p2 → Q (some (.int 1)) t)) ∧ (¬ p0 = 61 → (p0 = 62 → (p1 ≤ p2 → Q (some (.int 0)) t) ∧ (¬ p1 ≤ p2 → Q (some (.int 1)) t)) ∧ (¬ p0 = 62 → (¬ p1 = 0 → Rt g d mX8_twoOf 226 [none, none, none] [] t Q) ∧ (p1 = 0 → (p2 = 0 → Q (some (.int 0)) t) ∧ (¬ p2 = 0 → Rt g d mX8_twoOf 226 [none, none, none] [] t Q))))))))))))))))))))))))))))) : Rt g d mX8_twoOf 0 [some (.int p0), some (.int p1), some (.int p2)] [] t Q := by
  refine s_iload_n dX8_twoOf_0 rfl rfl ?_
  by_cases c1 : p0 = 37
  · replace h := h.1 c1
    refine s_tin (off := 153) (tgt := 154) dX8_twoOf_1 (by rw [c1]; decide) (by rw [c1]; decide) (by rw [c1]; rfl) (by decide) ?_
    refine s_iload_n dX8_twoOf_154 rfl rfl ?_
    refine s_if_eq (tgt := 163) dX8_twoOf_155 (by decide) (fun c2 => ?_) (fun c2 => ?_)
    · replace h := h.1 c2
      exact Rt.lc h (lc_none (lc_none (lc_none lc_nil)))
    · replace h := h.2 c2
      refine s_iload_n dX8_twoOf_158 rfl rfl ?_
      refine s_iconst (v := (-1)) dX8_twoOf_159 (by decide) ?_
      refine s_icmp_ne (tgt := 167) dX8_twoOf_160 (by decide) (fun c3 => ?_) (fun c3 => ?_)
      · replace h := h.1 c3
        refine s_iload_n dX8_twoOf_167 rfl rfl ?_
        refine s_iload_n dX8_twoOf_168 rfl rfl ?_
        obtain ⟨g4, h⟩ := h
        refine s_irem dX8_twoOf_169 g4 ?_
        exact t_iret dX8_twoOf_170 (NR_i rfl _) h
      · replace h := h.2 c3
        exact Rt.lc h (lc_none (lc_none (lc_none lc_nil)))
  · replace h := h.2 c1
    by_cases c5 : p0 = 38
    · replace h := h.1 c5
      refine s_tin (off := 203) (tgt := 204) dX8_twoOf_1 (by rw [c5]; decide) (by rw [c5]; decide) (by rw [c5]; rfl) (by decide) ?_
      refine s_iload_n dX8_twoOf_204 rfl rfl ?_
      refine s_if_eq (tgt := 216) dX8_twoOf_205 (by decide) (fun c6 => ?_) (fun c6 => ?_)
      · replace h := h.1 c6
        refine s_iconst (v := 0) dX8_twoOf_216 (by decide) ?_
        exact t_iret dX8_twoOf_217 (NR_i rfl _) h
      · replace h := h.2 c6
        refine s_iload_n dX8_twoOf_208 rfl rfl ?_
        refine s_if_eq (tgt := 216) dX8_twoOf_209 (by decide) (fun c7 => ?_) (fun c7 => ?_)
        · replace h := h.1 c7
          refine s_iconst (v := 0) dX8_twoOf_216 (by decide) ?_
          exact t_iret dX8_twoOf_217 (NR_i rfl _) h
        · replace h := h.2 c7
          refine s_iconst (v := 1) dX8_twoOf_212 (by decide) ?_
          refine s_goto (tgt := 217) dX8_twoOf_213 (by decide) ?_
          exact t_iret dX8_twoOf_217 (NR_i rfl _) h
    · replace h := h.2 c5
      by_cases c8 : p0 = 39
      · replace h := h.1 c8
        refine s_tin (off := 217) (tgt := 218) dX8_twoOf_1 (by rw [c8]; decide) (by rw [c8]; decide) (by rw [c8]; rfl) (by decide) ?_
        refine s_iload_n dX8_twoOf_218 rfl rfl ?_
        refine s_if_ne (tgt := 226) dX8_twoOf_219 (by decide) (fun c9 => ?_) (fun c9 => ?_)
        · replace h := h.1 c9
          exact Rt.lc h (lc_none (lc_none (lc_none lc_nil)))
        · replace h := h.2 c9
          refine s_iload_n dX8_twoOf_222 rfl rfl ?_
          refine s_if_eq (tgt := 230) dX8_twoOf_223 (by decide) (fun c10 => ?_) (fun c10 => ?_)
          · replace h := h.1 c10
            refine s_iconst (v := 0) dX8_twoOf_230 (by decide) ?_
            exact t_iret dX8_twoOf_231 (NR_i rfl _) h
          · replace h := h.2 c10
            exact Rt.lc h (lc_none (lc_none (lc_none lc_nil)))
      · replace h := h.2 c8
        by_cases c11 : p0 = 40
        · replace h := h.1 c11
          refine s_tin (off := 217) (tgt := 218) dX8_twoOf_1 (by rw [c11]; decide) (by rw [c11]; decide) (by rw [c11]; rfl) (by decide) ?_
          refine s_iload_n dX8_twoOf_218 rfl rfl ?_
          refine s_if_ne (tgt := 226) dX8_twoOf_219 (by decide) (fun c12 => ?_) (fun c12 => ?_)
          · replace h := h.1 c12
            exact Rt.lc h (lc_none (lc_none (lc_none lc_nil)))
          · replace h := h.2 c12
            refine s_iload_n dX8_twoOf_222 rfl rfl ?_
            refine s_if_eq (tgt := 230) dX8_twoOf_223 (by decide) (fun c13 => ?_) (fun c13 => ?_)
            · replace h := h.1 c13
              refine s_iconst (v := 0) dX8_twoOf_230 (by decide) ?_
              exact t_iret dX8_twoOf_231 (NR_i rfl _) h
            · replace h := h.2 c13
              exact Rt.lc h (lc_none (lc_none (lc_none lc_nil)))
        · replace h := h.2 c11
          by_cases c14 : p0 = 41
          · replace h := h.1 c14
            refine s_tin (off := 217) (tgt := 218) dX8_twoOf_1 (by rw [c14]; decide) (by rw [c14]; decide) (by rw [c14]; rfl) (by decide) ?_
            refine s_iload_n dX8_twoOf_218 rfl rfl ?_
            refine s_if_ne (tgt := 226) dX8_twoOf_219 (by decide) (fun c15 => ?_) (fun c15 => ?_)
            · replace h := h.1 c15
              exact Rt.lc h (lc_none (lc_none (lc_none lc_nil)))
            · replace h := h.2 c15
              refine s_iload_n dX8_twoOf_222 rfl rfl ?_
              refine s_if_eq (tgt := 230) dX8_twoOf_223 (by decide) (fun c16 => ?_) (fun c16 => ?_)
              · replace h := h.1 c16
                refine s_iconst (v := 0) dX8_twoOf_230 (by decide) ?_
                exact t_iret dX8_twoOf_231 (NR_i rfl _) h
              · replace h := h.2 c16
                exact Rt.lc h (lc_none (lc_none (lc_none lc_nil)))
          · replace h := h.2 c14
            by_cases c17 : p0 = 42
            · replace h := h.1 c17
              refine s_tin (off := 127) (tgt := 128) dX8_twoOf_1 (by rw [c17]; decide) (by rw [c17]; decide) (by rw [c17]; rfl) (by decide) ?_
              refine s_iload_n dX8_twoOf_128 rfl rfl ?_
              refine s_iload_n dX8_twoOf_129 rfl rfl ?_
              refine s_imul dX8_twoOf_130 ?_
              exact t_iret dX8_twoOf_131 (NR_i rfl _) h
            · replace h := h.2 c17
              by_cases c18 : p0 = 43
              · replace h := h.1 c18
                refine s_tin (off := 119) (tgt := 120) dX8_twoOf_1 (by rw [c18]; decide) (by rw [c18]; decide) (by rw [c18]; rfl) (by decide) ?_
                refine s_iload_n dX8_twoOf_120 rfl rfl ?_
                refine s_iload_n dX8_twoOf_121 rfl rfl ?_
                refine s_iadd dX8_twoOf_122 ?_
                exact t_iret dX8_twoOf_123 (NR_i rfl _) h
              · replace h := h.2 c18
                by_cases c19 : p0 = 44
                · replace h := h.1 c19
                  refine s_tin (off := 217) (tgt := 218) dX8_twoOf_1 (by rw [c19]; decide) (by rw [c19]; decide) (by rw [c19]; rfl) (by decide) ?_
                  refine s_iload_n dX8_twoOf_218 rfl rfl ?_
                  refine s_if_ne (tgt := 226) dX8_twoOf_219 (by decide) (fun c20 => ?_) (fun c20 => ?_)
                  · replace h := h.1 c20
                    exact Rt.lc h (lc_none (lc_none (lc_none lc_nil)))
                  · replace h := h.2 c20
                    refine s_iload_n dX8_twoOf_222 rfl rfl ?_
                    refine s_if_eq (tgt := 230) dX8_twoOf_223 (by decide) (fun c21 => ?_) (fun c21 => ?_)
                    · replace h := h.1 c21
                      refine s_iconst (v := 0) dX8_twoOf_230 (by decide) ?_
                      exact t_iret dX8_twoOf_231 (NR_i rfl _) h
                    · replace h := h.2 c21
                      exact Rt.lc h (lc_none (lc_none (lc_none lc_nil)))
                · replace h := h.2 c19
                  by_cases c22 : p0 = 45
                  · replace h := h.1 c22
                    refine s_tin (off := 123) (tgt := 124) dX8_twoOf_1 (by rw [c22]; decide) (by rw [c22]; decide) (by rw [c22]; rfl) (by decide) ?_
                    refine s_iload_n dX8_twoOf_124 rfl rfl ?_
                    refine s_iload_n dX8_twoOf_125 rfl rfl ?_
                    refine s_isub dX8_twoOf_126 ?_
                    exact t_iret dX8_twoOf_127 (NR_i rfl _) h
                  · replace h := h.2 c22
                    by_cases c23 : p0 = 46
                    · replace h := h.1 c23
                      refine s_tin (off := 217) (tgt := 218) dX8_twoOf_1 (by rw [c23]; decide) (by rw [c23]; decide) (by rw [c23]; rfl) (by decide) ?_
                      refine s_iload_n dX8_twoOf_218 rfl rfl ?_
                      refine s_if_ne (tgt := 226) dX8_twoOf_219 (by decide) (fun c24 => ?_) (fun c24 => ?_)
                      · replace h := h.1 c24
                        exact Rt.lc h (lc_none (lc_none (lc_none lc_nil)))
                      · replace h := h.2 c24
                        refine s_iload_n dX8_twoOf_222 rfl rfl ?_
                        refine s_if_eq (tgt := 230) dX8_twoOf_223 (by decide) (fun c25 => ?_) (fun c25 => ?_)
                        · replace h := h.1 c25
                          refine s_iconst (v := 0) dX8_twoOf_230 (by decide) ?_
                          exact t_iret dX8_twoOf_231 (NR_i rfl _) h
                        · replace h := h.2 c25
                          exact Rt.lc h (lc_none (lc_none (lc_none lc_nil)))
                    · replace h := h.2 c23
                      by_cases c26 : p0 = 47
                      · replace h := h.1 c26
                        refine s_tin (off := 131) (tgt := 132) dX8_twoOf_1 (by rw [c26]; decide) (by rw [c26]; decide) (by rw [c26]; rfl) (by decide) ?_
                        refine s_iload_n dX8_twoOf_132 rfl rfl ?_
                        refine s_if_ne (tgt := 140) dX8_twoOf_133 (by decide) (fun c27 => ?_) (fun c27 => ?_)
                        · replace h := h.1 c27
                          refine s_iload_n dX8_twoOf_140 rfl rfl ?_
                          refine s_iconst (v := (-1)) dX8_twoOf_141 (by decide) ?_
                          refine s_icmp_ne (tgt := 150) dX8_twoOf_142 (by decide) (fun c28 => ?_) (fun c28 => ?_)
                          · replace h := h.1 c28
                            refine s_iload_n dX8_twoOf_150 rfl rfl ?_
                            refine s_iload_n dX8_twoOf_151 rfl rfl ?_
                            obtain ⟨g29, h⟩ := h
                            refine s_idiv dX8_twoOf_152 g29 ?_
                            exact t_iret dX8_twoOf_153 (NR_i rfl _) h
                          · replace h := h.2 c28
                            refine s_iload_n dX8_twoOf_145 rfl rfl ?_
                            refine s_ineg dX8_twoOf_146 ?_
                            refine s_goto (tgt := 153) dX8_twoOf_147 (by decide) ?_
                            exact t_iret dX8_twoOf_153 (NR_i rfl _) h
                        · replace h := h.2 c27
                          refine s_iconst (v := 0) dX8_twoOf_136 (by decide) ?_
                          refine s_goto (tgt := 153) dX8_twoOf_137 (by decide) ?_
                          exact t_iret dX8_twoOf_153 (NR_i rfl _) h
                      · replace h := h.2 c26
                        by_cases c30 : p0 = 48
                        · replace h := h.1 c30
                          refine s_tin (off := 217) (tgt := 218) dX8_twoOf_1 (by rw [c30]; decide) (by rw [c30]; decide) (by rw [c30]; rfl) (by decide) ?_
                          refine s_iload_n dX8_twoOf_218 rfl rfl ?_
                          refine s_if_ne (tgt := 226) dX8_twoOf_219 (by decide) (fun c31 => ?_) (fun c31 => ?_)
                          · replace h := h.1 c31
                            exact Rt.lc h (lc_none (lc_none (lc_none lc_nil)))
                          · replace h := h.2 c31
                            refine s_iload_n dX8_twoOf_222 rfl rfl ?_
                            refine s_if_eq (tgt := 230) dX8_twoOf_223 (by decide) (fun c32 => ?_) (fun c32 => ?_)
                            · replace h := h.1 c32
                              refine s_iconst (v := 0) dX8_twoOf_230 (by decide) ?_
                              exact t_iret dX8_twoOf_231 (NR_i rfl _) h
                            · replace h := h.2 c32
                              exact Rt.lc h (lc_none (lc_none (lc_none lc_nil)))
                        · replace h := h.2 c30
                          by_cases c33 : p0 = 49
                          · replace h := h.1 c33
                            refine s_tin (off := 217) (tgt := 218) dX8_twoOf_1 (by rw [c33]; decide) (by rw [c33]; decide) (by rw [c33]; rfl) (by decide) ?_
                            refine s_iload_n dX8_twoOf_218 rfl rfl ?_
                            refine s_if_ne (tgt := 226) dX8_twoOf_219 (by decide) (fun c34 => ?_) (fun c34 => ?_)
                            · replace h := h.1 c34
                              exact Rt.lc h (lc_none (lc_none (lc_none lc_nil)))
                            · replace h := h.2 c34
                              refine s_iload_n dX8_twoOf_222 rfl rfl ?_
                              refine s_if_eq (tgt := 230) dX8_twoOf_223 (by decide) (fun c35 => ?_) (fun c35 => ?_)
                              · replace h := h.1 c35
                                refine s_iconst (v := 0) dX8_twoOf_230 (by decide) ?_
                                exact t_iret dX8_twoOf_231 (NR_i rfl _) h
                              · replace h := h.2 c35
                                exact Rt.lc h (lc_none (lc_none (lc_none lc_nil)))
                          · replace h := h.2 c33
                            by_cases c36 : p0 = 50
                            · replace h := h.1 c36
                              refine s_tin (off := 217) (tgt := 218) dX8_twoOf_1 (by rw [c36]; decide) (by rw [c36]; decide) (by rw [c36]; rfl) (by decide) ?_
                              refine s_iload_n dX8_twoOf_218 rfl rfl ?_
                              refine s_if_ne (tgt := 226) dX8_twoOf_219 (by decide) (fun c37 => ?_) (fun c37 => ?_)
                              · replace h := h.1 c37
                                exact Rt.lc h (lc_none (lc_none (lc_none lc_nil)))
                              · replace h := h.2 c37
                                refine s_iload_n dX8_twoOf_222 rfl rfl ?_
                                refine s_if_eq (tgt := 230) dX8_twoOf_223 (by decide) (fun c38 => ?_) (fun c38 => ?_)
                                · replace h := h.1 c38
                                  refine s_iconst (v := 0) dX8_twoOf_230 (by decide) ?_
                                  exact t_iret dX8_twoOf_231 (NR_i rfl _) h
                                · replace h := h.2 c38
                                  exact Rt.lc h (lc_none (lc_none (lc_none lc_nil)))
                            · replace h := h.2 c36
                              by_cases c39 : p0 = 51
                              · replace h := h.1 c39
                                refine s_tin (off := 217) (tgt := 218) dX8_twoOf_1 (by rw [c39]; decide) (by rw [c39]; decide) (by rw [c39]; rfl) (by decide) ?_
                                refine s_iload_n dX8_twoOf_218 rfl rfl ?_
                                refine s_if_ne (tgt := 226) dX8_twoOf_219 (by decide) (fun c40 => ?_) (fun c40 => ?_)
                                · replace h := h.1 c40
                                  exact Rt.lc h (lc_none (lc_none (lc_none lc_nil)))
                                · replace h := h.2 c40
                                  refine s_iload_n dX8_twoOf_222 rfl rfl ?_
                                  refine s_if_eq (tgt := 230) dX8_twoOf_223 (by decide) (fun c41 => ?_) (fun c41 => ?_)
                                  · replace h := h.1 c41
                                    refine s_iconst (v := 0) dX8_twoOf_230 (by decide) ?_
                                    exact t_iret dX8_twoOf_231 (NR_i rfl _) h
                                  · replace h := h.2 c41
                                    exact Rt.lc h (lc_none (lc_none (lc_none lc_nil)))
                              · replace h := h.2 c39
                                by_cases c42 : p0 = 52
                                · replace h := h.1 c42
                                  refine s_tin (off := 217) (tgt := 218) dX8_twoOf_1 (by rw [c42]; decide) (by rw [c42]; decide) (by rw [c42]; rfl) (by decide) ?_
                                  refine s_iload_n dX8_twoOf_218 rfl rfl ?_
                                  refine s_if_ne (tgt := 226) dX8_twoOf_219 (by decide) (fun c43 => ?_) (fun c43 => ?_)
                                  · replace h := h.1 c43
                                    exact Rt.lc h (lc_none (lc_none (lc_none lc_nil)))
                                  · replace h := h.2 c43
                                    refine s_iload_n dX8_twoOf_222 rfl rfl ?_
                                    refine s_if_eq (tgt := 230) dX8_twoOf_223 (by decide) (fun c44 => ?_) (fun c44 => ?_)
                                    · replace h := h.1 c44
                                      refine s_iconst (v := 0) dX8_twoOf_230 (by decide) ?_
                                      exact t_iret dX8_twoOf_231 (NR_i rfl _) h
                                    · replace h := h.2 c44
                                      exact Rt.lc h (lc_none (lc_none (lc_none lc_nil)))
                                · replace h := h.2 c42
                                  by_cases c45 : p0 = 53
                                  · replace h := h.1 c45
                                    refine s_tin (off := 217) (tgt := 218) dX8_twoOf_1 (by rw [c45]; decide) (by rw [c45]; decide) (by rw [c45]; rfl) (by decide) ?_
                                    refine s_iload_n dX8_twoOf_218 rfl rfl ?_
                                    refine s_if_ne (tgt := 226) dX8_twoOf_219 (by decide) (fun c46 => ?_) (fun c46 => ?_)
                                    · replace h := h.1 c46
                                      exact Rt.lc h (lc_none (lc_none (lc_none lc_nil)))
                                    · replace h := h.2 c46
                                      refine s_iload_n dX8_twoOf_222 rfl rfl ?_
                                      refine s_if_eq (tgt := 230) dX8_twoOf_223 (by decide) (fun c47 => ?_) (fun c47 => ?_)
                                      · replace h := h.1 c47
                                        refine s_iconst (v := 0) dX8_twoOf_230 (by decide) ?_
                                        exact t_iret dX8_twoOf_231 (NR_i rfl _) h
                                      · replace h := h.2 c47
                                        exact Rt.lc h (lc_none (lc_none (lc_none lc_nil)))
                                  · replace h := h.2 c45
                                    by_cases c48 : p0 = 54
                                    · replace h := h.1 c48
                                      refine s_tin (off := 217) (tgt := 218) dX8_twoOf_1 (by rw [c48]; decide) (by rw [c48]; decide) (by rw [c48]; rfl) (by decide) ?_
                                      refine s_iload_n dX8_twoOf_218 rfl rfl ?_
                                      refine s_if_ne (tgt := 226) dX8_twoOf_219 (by decide) (fun c49 => ?_) (fun c49 => ?_)
                                      · replace h := h.1 c49
                                        exact Rt.lc h (lc_none (lc_none (lc_none lc_nil)))
                                      · replace h := h.2 c49
                                        refine s_iload_n dX8_twoOf_222 rfl rfl ?_
                                        refine s_if_eq (tgt := 230) dX8_twoOf_223 (by decide) (fun c50 => ?_) (fun c50 => ?_)
                                        · replace h := h.1 c50
                                          refine s_iconst (v := 0) dX8_twoOf_230 (by decide) ?_
                                          exact t_iret dX8_twoOf_231 (NR_i rfl _) h
                                        · replace h := h.2 c50
                                          exact Rt.lc h (lc_none (lc_none (lc_none lc_nil)))
                                    · replace h := h.2 c48
                                      by_cases c51 : p0 = 55
                                      · replace h := h.1 c51
                                        refine s_tin (off := 217) (tgt := 218) dX8_twoOf_1 (by rw [c51]; decide) (by rw [c51]; decide) (by rw [c51]; rfl) (by decide) ?_
                                        refine s_iload_n dX8_twoOf_218 rfl rfl ?_
                                        refine s_if_ne (tgt := 226) dX8_twoOf_219 (by decide) (fun c52 => ?_) (fun c52 => ?_)
                                        · replace h := h.1 c52
                                          exact Rt.lc h (lc_none (lc_none (lc_none lc_nil)))
                                        · replace h := h.2 c52
                                          refine s_iload_n dX8_twoOf_222 rfl rfl ?_
                                          refine s_if_eq (tgt := 230) dX8_twoOf_223 (by decide) (fun c53 => ?_) (fun c53 => ?_)
                                          · replace h := h.1 c53
                                            refine s_iconst (v := 0) dX8_twoOf_230 (by decide) ?_
                                            exact t_iret dX8_twoOf_231 (NR_i rfl _) h
                                          · replace h := h.2 c53
                                            exact Rt.lc h (lc_none (lc_none (lc_none lc_nil)))
                                      · replace h := h.2 c51
                                        by_cases c54 : p0 = 56
                                        · replace h := h.1 c54
                                          refine s_tin (off := 217) (tgt := 218) dX8_twoOf_1 (by rw [c54]; decide) (by rw [c54]; decide) (by rw [c54]; rfl) (by decide) ?_
                                          refine s_iload_n dX8_twoOf_218 rfl rfl ?_
                                          refine s_if_ne (tgt := 226) dX8_twoOf_219 (by decide) (fun c55 => ?_) (fun c55 => ?_)
                                          · replace h := h.1 c55
                                            exact Rt.lc h (lc_none (lc_none (lc_none lc_nil)))
                                          · replace h := h.2 c55
                                            refine s_iload_n dX8_twoOf_222 rfl rfl ?_
                                            refine s_if_eq (tgt := 230) dX8_twoOf_223 (by decide) (fun c56 => ?_) (fun c56 => ?_)
                                            · replace h := h.1 c56
                                              refine s_iconst (v := 0) dX8_twoOf_230 (by decide) ?_
                                              exact t_iret dX8_twoOf_231 (NR_i rfl _) h
                                            · replace h := h.2 c56
                                              exact Rt.lc h (lc_none (lc_none (lc_none lc_nil)))
                                        · replace h := h.2 c54
                                          by_cases c57 : p0 = 57
                                          · replace h := h.1 c57
                                            refine s_tin (off := 217) (tgt := 218) dX8_twoOf_1 (by rw [c57]; decide) (by rw [c57]; decide) (by rw [c57]; rfl) (by decide) ?_
                                            refine s_iload_n dX8_twoOf_218 rfl rfl ?_
                                            refine s_if_ne (tgt := 226) dX8_twoOf_219 (by decide) (fun c58 => ?_) (fun c58 => ?_)
                                            · replace h := h.1 c58
                                              exact Rt.lc h (lc_none (lc_none (lc_none lc_nil)))
                                            · replace h := h.2 c58
                                              refine s_iload_n dX8_twoOf_222 rfl rfl ?_
                                              refine s_if_eq (tgt := 230) dX8_twoOf_223 (by decide) (fun c59 => ?_) (fun c59 => ?_)
                                              · replace h := h.1 c59
                                                refine s_iconst (v := 0) dX8_twoOf_230 (by decide) ?_
                                                exact t_iret dX8_twoOf_231 (NR_i rfl _) h
                                              · replace h := h.2 c59
                                                exact Rt.lc h (lc_none (lc_none (lc_none lc_nil)))
                                          · replace h := h.2 c57
                                            by_cases c60 : p0 = 58
                                            · replace h := h.1 c60
                                              refine s_tin (off := 217) (tgt := 218) dX8_twoOf_1 (by rw [c60]; decide) (by rw [c60]; decide) (by rw [c60]; rfl) (by decide) ?_
                                              refine s_iload_n dX8_twoOf_218 rfl rfl ?_
                                              refine s_if_ne (tgt := 226) dX8_twoOf_219 (by decide) (fun c61 => ?_) (fun c61 => ?_)
                                              · replace h := h.1 c61
                                                exact Rt.lc h (lc_none (lc_none (lc_none lc_nil)))
                                              · replace h := h.2 c61
                                                refine s_iload_n dX8_twoOf_222 rfl rfl ?_
                                                refine s_if_eq (tgt := 230) dX8_twoOf_223 (by decide) (fun c62 => ?_) (fun c62 => ?_)
                                                · replace h := h.1 c62
                                                  refine s_iconst (v := 0) dX8_twoOf_230 (by decide) ?_
                                                  exact t_iret dX8_twoOf_231 (NR_i rfl _) h
                                                · replace h := h.2 c62
                                                  exact Rt.lc h (lc_none (lc_none (lc_none lc_nil)))
                                            · replace h := h.2 c60
                                              by_cases c63 : p0 = 59
                                              · replace h := h.1 c63
                                                refine s_tin (off := 217) (tgt := 218) dX8_twoOf_1 (by rw [c63]; decide) (by rw [c63]; decide) (by rw [c63]; rfl) (by decide) ?_
                                                refine s_iload_n dX8_twoOf_218 rfl rfl ?_
                                                refine s_if_ne (tgt := 226) dX8_twoOf_219 (by decide) (fun c64 => ?_) (fun c64 => ?_)
                                                · replace h := h.1 c64
                                                  exact Rt.lc h (lc_none (lc_none (lc_none lc_nil)))
                                                · replace h := h.2 c64
                                                  refine s_iload_n dX8_twoOf_222 rfl rfl ?_
                                                  refine s_if_eq (tgt := 230) dX8_twoOf_223 (by decide) (fun c65 => ?_) (fun c65 => ?_)
                                                  · replace h := h.1 c65
                                                    refine s_iconst (v := 0) dX8_twoOf_230 (by decide) ?_
                                                    exact t_iret dX8_twoOf_231 (NR_i rfl _) h
                                                  · replace h := h.2 c65
                                                    exact Rt.lc h (lc_none (lc_none (lc_none lc_nil)))
                                              · replace h := h.2 c63
                                                by_cases c66 : p0 = 60
                                                · replace h := h.1 c66
                                                  refine s_tin (off := 170) (tgt := 171) dX8_twoOf_1 (by rw [c66]; decide) (by rw [c66]; decide) (by rw [c66]; rfl) (by decide) ?_
                                                  refine s_iload_n dX8_twoOf_171 rfl rfl ?_
                                                  refine s_iload_n dX8_twoOf_172 rfl rfl ?_
                                                  refine s_icmp_ge (tgt := 180) dX8_twoOf_173 (by decide) (fun c67 => ?_) (fun c67 => ?_)
                                                  · replace h := h.1 c67
                                                    refine s_iconst (v := 0) dX8_twoOf_180 (by decide) ?_
                                                    exact t_iret dX8_twoOf_181 (NR_i rfl _) h
                                                  · replace h := h.2 c67
                                                    refine s_iconst (v := 1) dX8_twoOf_176 (by decide) ?_
                                                    refine s_goto (tgt := 181) dX8_twoOf_177 (by decide) ?_
                                                    exact t_iret dX8_twoOf_181 (NR_i rfl _) h
                                                · replace h := h.2 c66
                                                  by_cases c68 : p0 = 61
                                                  · replace h := h.1 c68
                                                    refine s_tin (off := 181) (tgt := 182) dX8_twoOf_1 (by rw [c68]; decide) (by rw [c68]; decide) (by rw [c68]; rfl) (by decide) ?_
                                                    refine s_iload_n dX8_twoOf_182 rfl rfl ?_
                                                    refine s_iload_n dX8_twoOf_183 rfl rfl ?_
                                                    refine s_icmp_ne (tgt := 191) dX8_twoOf_184 (by decide) (fun c69 => ?_) (fun c69 => ?_)
                                                    · replace h := h.1 c69
                                                      refine s_iconst (v := 0) dX8_twoOf_191 (by decide) ?_
                                                      exact t_iret dX8_twoOf_192 (NR_i rfl _) h
                                                    · replace h := h.2 c69
                                                      refine s_iconst (v := 1) dX8_twoOf_187 (by decide) ?_
                                                      refine s_goto (tgt := 192) dX8_twoOf_188 (by decide) ?_
                                                      exact t_iret dX8_twoOf_192 (NR_i rfl _) h
                                                  · replace h := h.2 c68
                                                    by_cases c70 : p0 = 62
                                                    · replace h := h.1 c70
                                                      refine s_tin (off := 192) (tgt := 193) dX8_twoOf_1 (by rw [c70]; decide) (by rw [c70]; decide) (by rw [c70]; rfl) (by decide) ?_
                                                      refine s_iload_n dX8_twoOf_193 rfl rfl ?_
                                                      refine s_iload_n dX8_twoOf_194 rfl rfl ?_
                                                      refine s_icmp_le (tgt := 202) dX8_twoOf_195 (by decide) (fun c71 => ?_) (fun c71 => ?_)
                                                      · replace h := h.1 c71
                                                        refine s_iconst (v := 0) dX8_twoOf_202 (by decide) ?_
                                                        exact t_iret dX8_twoOf_203 (NR_i rfl _) h
                                                      · replace h := h.2 c71
                                                        refine s_iconst (v := 1) dX8_twoOf_198 (by decide) ?_
                                                        refine s_goto (tgt := 203) dX8_twoOf_199 (by decide) ?_
                                                        exact t_iret dX8_twoOf_203 (NR_i rfl _) h
                                                    · replace h := h.2 c70
                                                      refine s_tout (tgt := 218) dX8_twoOf_1 (by have q0 := lv_neT c1 (a := 37) rfl; have q1 := lv_neT c5 (a := 38) rfl; have q2 := lv_neT c8 (a := 39) rfl; have q3 := lv_neT c11 (a := 40) rfl; have q4 := lv_neT c14 (a := 41) rfl; have q5 := lv_neT c17 (a := 42) rfl; have q6 := lv_neT c18 (a := 43) rfl; have q7 := lv_neT c19 (a := 44) rfl; have q8 := lv_neT c22 (a := 45) rfl; have q9 := lv_neT c23 (a := 46) rfl; have q10 := lv_neT c26 (a := 47) rfl; have q11 := lv_neT c30 (a := 48) rfl; have q12 := lv_neT c33 (a := 49) rfl; have q13 := lv_neT c36 (a := 50) rfl; have q14 := lv_neT c39 (a := 51) rfl; have q15 := lv_neT c42 (a := 52) rfl; have q16 := lv_neT c45 (a := 53) rfl; have q17 := lv_neT c48 (a := 54) rfl; have q18 := lv_neT c51 (a := 55) rfl; have q19 := lv_neT c54 (a := 56) rfl; have q20 := lv_neT c57 (a := 57) rfl; have q21 := lv_neT c60 (a := 58) rfl; have q22 := lv_neT c63 (a := 59) rfl; have q23 := lv_neT c66 (a := 60) rfl; have q24 := lv_neT c68 (a := 61) rfl; have q25 := lv_neT c70 (a := 62) rfl; omega) (by decide) ?_
                                                      refine s_iload_n dX8_twoOf_218 rfl rfl ?_
                                                      refine s_if_ne (tgt := 226) dX8_twoOf_219 (by decide) (fun c72 => ?_) (fun c72 => ?_)
                                                      · replace h := h.1 c72
                                                        exact Rt.lc h (lc_none (lc_none (lc_none lc_nil)))
                                                      · replace h := h.2 c72
                                                        refine s_iload_n dX8_twoOf_222 rfl rfl ?_
                                                        refine s_if_eq (tgt := 230) dX8_twoOf_223 (by decide) (fun c73 => ?_) (fun c73 => ?_)
                                                        · replace h := h.1 c73
                                                          refine s_iconst (v := 0) dX8_twoOf_230 (by decide) ?_
                                                          exact t_iret dX8_twoOf_231 (NR_i rfl _) h
                                                        · replace h := h.2 c73
                                                          exact Rt.lc h (lc_none (lc_none (lc_none lc_nil)))
theorem bX8_twoOf_163 {g : Gt} {d : Nat} {t : Tt} {Q : Option Value → Tt → Prop} (h : Q (some (.int 0)) t) : Rt g d mX8_twoOf 163 [none, none, none] [] t Q := by
  refine s_iconst (v := 0) dX8_twoOf_163 (by decide) ?_
  refine s_goto (tgt := 170) dX8_twoOf_164 (by decide) ?_
  exact t_iret dX8_twoOf_170 (NR_i rfl _) h
theorem bX8_twoOf_226 {g : Gt} {d : Nat} {t : Tt} {Q : Option Value → Tt → Prop} (h : Q (some (.int 1)) t) : Rt g d mX8_twoOf 226 [none, none, none] [] t Q := by
  refine s_iconst (v := 1) dX8_twoOf_226 (by decide) ?_
  refine s_goto (tgt := 231) dX8_twoOf_227 (by decide) ?_
  exact t_iret dX8_twoOf_231 (NR_i rfl _) h
theorem bX8_worked_0 {g : Gt} {d : Nat} {t : Tt} {Q : Option Value → Tt → Prop} {p0 : Int32} {p1 : Int32} {p2 : Int32} (h : ∀ z1 : Int32, z1 = ((130 * p0) + p1) → Rt g (d + 1) mX8_worked 12 [some (.ref 57), some (.int p0), none, some (.int p2), some (.int 0), some (.int z1), none] [] t Q) : Rt g (d + 1) mX8_worked 0 [some (.ref 57), some (.int p0), some (.int p1), some (.int p2), none, none, none] [] t Q := by
  refine s_iconst (v := 0) dX8_worked_0 (by decide) ?_
  refine s_istore dX8_worked_1 (by decide) rfl (L9 := [some (.ref 57), some (.int p0), some (.int p1), some (.int p2), some (.int 0), none, none]) rfl ?_
  refine s_sipush (v := 130) dX8_worked_3 (by decide) ?_
  refine s_iload_n dX8_worked_6 rfl rfl ?_
  refine s_imul dX8_worked_7 ?_
  refine s_iload_n dX8_worked_8 rfl rfl ?_
  refine s_iadd dX8_worked_9 ?_
  refine t_nmI (fun z1 ez1 => ?_)
  replace h := h z1 ez1
  refine s_istore dX8_worked_10 (by decide) rfl (L9 := [some (.ref 57), some (.int p0), some (.int p1), some (.int p2), some (.int 0), some (.int z1), none]) rfl ?_
  exact Rt.lc h (lc_some (lc_some (lc_none (lc_some (lc_some (lc_some (lc_none lc_nil)))))))
theorem bX8_worked_12 {g : Gt} {d : Nat} {t : Tt} {Q : Option Value → Tt → Prop} {x1 : Int32} {x3 : Int32} {x4 : Int32} {x5 : Int32} (h : (((130 * x1) + x3) ≤ x5 → Q (some (.int (t.1 73 0))) t) ∧ (¬ ((130 * x1) + x3) ≤ x5 → vp_in x5 260 ∧ (∀ z3 : Int32, z3 = (t.1 67 x5.toNatClampNeg) → (z3 = 1 → Rt g (d + 1) mX8_worked 45 [some (.ref 57), some (.int x1), none, some (.int x3), some (.int x4), some (.int x5), some (.int z3)] [] t Q) ∧ (¬ z3 = 1 → (¬ z3 = 2 → (¬ z3 = 3 → (¬ z3 = 4 → vp_in ((x4 + (-1)) - 1) 130 ∧ (vp_in (x4 + (-1)) 130 ∧ (Rt g d mX8_twoOf 0 [some (.int z3), some (.int (t.1 73 ((x4 + (-1)) - 1).toNatClampNeg)), some (.int (t.1 73 (x4 + (-1)).toNatClampNeg))] [] t (QI (fun v11 t10 => vp_in ((x4 + (-1)) - 1) 130 ∧ Rt g (d + 1) mX8_worked 182 [some (.ref 57), some (.int x1), none, some (.int x3), some (.int (x4 + (-1))), some (.int x5), none] [] (pI t10 73 ((x4 + (-1)) - 1).toNatClampNeg v11) Q))))) ∧ (z3 = 4 → vp_in (x4 - 1) 130 ∧ (vp_in (x4 - 1) 130 ∧ Rt g (d + 1) mX8_worked 182 [some (.ref 57), some (.int x1), none, some (.int x3), some (.int x4), some (.int x5), none] [] (pI t 73 (x4 - 1).toNatClampNeg (-(t.1 73 (x4 - 1).toNatClampNeg))) Q))) ∧ (z3 = 3 → vp_in (x4 - 1) 130 ∧ ((¬ (t.1 73 (x4 - 1).toNatClampNeg) = 0 → Rt g (d + 1) mX8_worked 117 [some (.ref 57), some (.int x1), none, some (.int x3), some (.int x4), some (.int x5), none] [.int 0, .int (x4 - 1), .ref 73] t Q) ∧ ((t.1 73 (x4 - 1).toNatClampNeg) = 0 → Rt g (d + 1) mX8_worked 117 [some (.ref 57), some (.int x1), none, some (.int x3), some (.int x4), some (.int x5), none] [.int 1, .int (x4 - 1), .ref 73] t Q)))) ∧ (z3 = 2 → Rt g (d + 1) mX8_worked 45 [some (.ref 57), some (.int x1), none, some (.int x3), some (.int x4), some (.int x5), some (.int z3)] [] t Q))))) : Rt g (d + 1) mX8_worked 12 [some (.ref 57), some (.int x1), none, some (.int x3), some (.int x4), some (.int x5), none] [] t Q := by
  refine s_iload dX8_worked_12 rfl ?_
  refine s_sipush (v := 130) dX8_worked_14 (by decide) ?_
  refine s_iload_n dX8_worked_17 rfl rfl ?_
  refine s_imul dX8_worked_18 ?_
  refine s_iload_n dX8_worked_19 rfl rfl ?_
  refine s_iadd dX8_worked_20 ?_
  refine s_icmp_ge (tgt := 188) dX8_worked_21 (by decide) (fun c1 => ?_) (fun c1 => ?_)
  · replace h := h.1 c1
    refine s_aload_n dX8_worked_188 rfl rfl ?_
    refine t_getR (o' := 73) dX8_worked_189 fl_X8_61 rfl (by decide) rfl rfl ?_
    refine s_iconst (v := 0) dX8_worked_192 (by decide) ?_
    refine t_iald dX8_worked_193 rfl (by decide) (show vp_in 0 130 from by unfold vp_in; decide) ?_
    exact t_iret dX8_worked_194 (NR_i rfl _) h
  · replace h := h.2 c1
    refine s_aload_n dX8_worked_24 rfl rfl ?_
    refine t_getR (o' := 67) dX8_worked_25 fl_X8_42 rfl (by decide) rfl rfl ?_
    refine s_iload dX8_worked_28 rfl ?_
    obtain ⟨g2, h⟩ := h
    refine t_bald dX8_worked_30 rfl (by decide) g2 ?_
    refine t_nmI (fun z3 ez3 => ?_)
    replace h := h z3 ez3
    refine s_istore dX8_worked_31 (by decide) rfl (L9 := [some (.ref 57), some (.int x1), none, some (.int x3), some (.int x4), some (.int x5), some (.int z3)]) rfl ?_
    refine s_iload dX8_worked_33 rfl ?_
    refine s_iconst (v := 1) dX8_worked_35 (by decide) ?_
    refine s_icmp_eq (tgt := 45) dX8_worked_36 (by decide) (fun c4 => ?_) (fun c4 => ?_)
    · replace h := h.1 c4
      exact h
    · replace h := h.2 c4
      refine s_iload dX8_worked_39 rfl ?_
      refine s_iconst (v := 2) dX8_worked_41 (by decide) ?_
      refine s_icmp_ne (tgt := 86) dX8_worked_42 (by decide) (fun c5 => ?_) (fun c5 => ?_)
      · replace h := h.1 c5
        refine s_iload dX8_worked_86 rfl ?_
        refine s_iconst (v := 3) dX8_worked_88 (by decide) ?_
        refine s_icmp_ne (tgt := 121) dX8_worked_89 (by decide) (fun c6 => ?_) (fun c6 => ?_)
        · replace h := h.1 c6
          refine s_iload dX8_worked_121 rfl ?_
          refine s_iconst (v := 4) dX8_worked_123 (by decide) ?_
          refine s_icmp_ne (tgt := 149) dX8_worked_124 (by decide) (fun c7 => ?_) (fun c7 => ?_)
          · replace h := h.1 c7
            refine s_iinc (w := x4 + (-1)) dX8_worked_149 rfl (by rfl) (by decide) rfl (L9 := [some (.ref 57), some (.int x1), none, some (.int x3), some (.int (x4 + (-1))), some (.int x5), some (.int z3)]) rfl ?_
            refine s_aload_n dX8_worked_152 rfl rfl ?_
            refine t_getR (o' := 73) dX8_worked_153 fl_X8_61 rfl (by decide) rfl rfl ?_
            refine s_iload dX8_worked_156 rfl ?_
            refine s_iconst (v := 1) dX8_worked_158 (by decide) ?_
            refine s_isub dX8_worked_159 ?_
            refine s_iload dX8_worked_160 rfl ?_
            refine s_aload_n dX8_worked_162 rfl rfl ?_
            refine t_getR (o' := 73) dX8_worked_163 fl_X8_61 rfl (by decide) rfl rfl ?_
            refine s_iload dX8_worked_166 rfl ?_
            refine s_iconst (v := 1) dX8_worked_168 (by decide) ?_
            refine s_isub dX8_worked_169 ?_
            obtain ⟨g8, h⟩ := h
            refine t_iald dX8_worked_170 rfl (by decide) g8 ?_
            refine s_aload_n dX8_worked_171 rfl rfl ?_
            refine t_getR (o' := 73) dX8_worked_172 fl_X8_61 rfl (by decide) rfl rfl ?_
            refine s_iload dX8_worked_175 rfl ?_
            obtain ⟨g9, h⟩ := h
            refine t_iald dX8_worked_177 rfl (by decide) g9 ?_
            refine t_callS (M' := mX8_twoOf) (k := 0) (As := [.int z3, .int (t.1 73 ((x4 + (-1)) - 1).toNatClampNeg), .int (t.1 73 (x4 + (-1)).toNatClampNeg)]) (rest := [.int ((x4 + (-1)) - 1), .ref 73]) dX8_worked_178 ml_X8_236 mstX8_twoOf rfl (Nat.le_of_ble_eq_true rfl) (Nat.le_of_ble_eq_true rfl) rfl h (fun rv t10 q => ?_)
            obtain ⟨v11, rfl, h⟩ := q
            show Rt g (d + 1) mX8_worked 181 [some (.ref 57), some (.int x1), none, some (.int x3), some (.int (x4 + (-1))), some (.int x5), some (.int z3)] [.int v11, .int ((x4 + (-1)) - 1), .ref 73] t10 Q
            obtain ⟨g12, h⟩ := h
            refine t_iast dX8_worked_181 rfl (by decide) g12 ?_
            exact Rt.lc h (lc_some (lc_some (lc_none (lc_some (lc_some (lc_some (lc_none lc_nil)))))))
          · replace h := h.2 c7
            refine s_aload_n dX8_worked_127 rfl rfl ?_
            refine t_getR (o' := 73) dX8_worked_128 fl_X8_61 rfl (by decide) rfl rfl ?_
            refine s_iload dX8_worked_131 rfl ?_
            refine s_iconst (v := 1) dX8_worked_133 (by decide) ?_
            refine s_isub dX8_worked_134 ?_
            refine s_aload_n dX8_worked_135 rfl rfl ?_
            refine t_getR (o' := 73) dX8_worked_136 fl_X8_61 rfl (by decide) rfl rfl ?_
            refine s_iload dX8_worked_139 rfl ?_
            refine s_iconst (v := 1) dX8_worked_141 (by decide) ?_
            refine s_isub dX8_worked_142 ?_
            obtain ⟨g13, h⟩ := h
            refine t_iald dX8_worked_143 rfl (by decide) g13 ?_
            refine s_ineg dX8_worked_144 ?_
            obtain ⟨g14, h⟩ := h
            refine t_iast dX8_worked_145 rfl (by decide) g14 ?_
            refine s_goto (tgt := 182) dX8_worked_146 (by decide) ?_
            exact Rt.lc h (lc_some (lc_some (lc_none (lc_some (lc_some (lc_some (lc_none lc_nil)))))))
        · replace h := h.2 c6
          refine s_aload_n dX8_worked_92 rfl rfl ?_
          refine t_getR (o' := 73) dX8_worked_93 fl_X8_61 rfl (by decide) rfl rfl ?_
          refine s_iload dX8_worked_96 rfl ?_
          refine s_iconst (v := 1) dX8_worked_98 (by decide) ?_
          refine s_isub dX8_worked_99 ?_
          refine s_aload_n dX8_worked_100 rfl rfl ?_
          refine t_getR (o' := 73) dX8_worked_101 fl_X8_61 rfl (by decide) rfl rfl ?_
          refine s_iload dX8_worked_104 rfl ?_
          refine s_iconst (v := 1) dX8_worked_106 (by decide) ?_
          refine s_isub dX8_worked_107 ?_
          obtain ⟨g15, h⟩ := h
          refine t_iald dX8_worked_108 rfl (by decide) g15 ?_
          refine s_if_ne (tgt := 116) dX8_worked_109 (by decide) (fun c16 => ?_) (fun c16 => ?_)
          · replace h := h.1 c16
            refine s_iconst (v := 0) dX8_worked_116 (by decide) ?_
            exact Rt.lc h (lc_some (lc_some (lc_none (lc_some (lc_some (lc_some (lc_none lc_nil)))))))
          · replace h := h.2 c16
            refine s_iconst (v := 1) dX8_worked_112 (by decide) ?_
            refine s_goto (tgt := 117) dX8_worked_113 (by decide) ?_
            exact Rt.lc h (lc_some (lc_some (lc_none (lc_some (lc_some (lc_some (lc_none lc_nil)))))))
      · replace h := h.2 c5
        exact h
theorem bX8_worked_45 {g : Gt} {d : Nat} {t : Tt} {Q : Option Value → Tt → Prop} {x1 : Int32} {x3 : Int32} {x4 : Int32} {x5 : Int32} {x6 : Int32} (h : (¬ x6 = 1 → vp_in x5 260 ∧ (vp_in (t.1 68 x5.toNatClampNeg) 6 ∧ Rt g (d + 1) mX8_worked 79 [some (.ref 57), some (.int x1), none, some (.int x3), some (.int x4), some (.int x5), none] [.int (t.1 72 (t.1 68 x5.toNatClampNeg).toNatClampNeg), .int x4, .ref 73] t Q)) ∧ (x6 = 1 → vp_in x5 260 ∧ Rt g (d + 1) mX8_worked 79 [some (.ref 57), some (.int x1), none, some (.int x3), some (.int x4), some (.int x5), none] [.int (t.1 68 x5.toNatClampNeg), .int x4, .ref 73] t Q)) : Rt g (d + 1) mX8_worked 45 [some (.ref 57), some (.int x1), none, some (.int x3), some (.int x4), some (.int x5), some (.int x6)] [] t Q := by
  refine s_aload_n dX8_worked_45 rfl rfl ?_
  refine t_getR (o' := 73) dX8_worked_46 fl_X8_61 rfl (by decide) rfl rfl ?_
  refine s_iload dX8_worked_49 rfl ?_
  refine s_iload dX8_worked_51 rfl ?_
  refine s_iconst (v := 1) dX8_worked_53 (by decide) ?_
  refine s_icmp_ne (tgt := 67) dX8_worked_54 (by decide) (fun c1 => ?_) (fun c1 => ?_)
  · replace h := h.1 c1
    refine s_aload_n dX8_worked_67 rfl rfl ?_
    refine t_getR (o' := 72) dX8_worked_68 fl_X8_58 rfl (by decide) rfl rfl ?_
    refine s_aload_n dX8_worked_71 rfl rfl ?_
    refine t_getR (o' := 68) dX8_worked_72 fl_X8_45 rfl (by decide) rfl rfl ?_
    refine s_iload dX8_worked_75 rfl ?_
    obtain ⟨g2, h⟩ := h
    refine t_iald dX8_worked_77 rfl (by decide) g2 ?_
    obtain ⟨g3, h⟩ := h
    refine t_iald dX8_worked_78 rfl (by decide) g3 ?_
    exact Rt.lc h (lc_some (lc_some (lc_none (lc_some (lc_some (lc_some (lc_none lc_nil)))))))
  · replace h := h.2 c1
    refine s_aload_n dX8_worked_57 rfl rfl ?_
    refine t_getR (o' := 68) dX8_worked_58 fl_X8_45 rfl (by decide) rfl rfl ?_
    refine s_iload dX8_worked_61 rfl ?_
    obtain ⟨g4, h⟩ := h
    refine t_iald dX8_worked_63 rfl (by decide) g4 ?_
    refine s_goto (tgt := 79) dX8_worked_64 (by decide) ?_
    exact Rt.lc h (lc_some (lc_some (lc_none (lc_some (lc_some (lc_some (lc_none lc_nil)))))))
theorem bX8_worked_182 {g : Gt} {d : Nat} {t : Tt} {Q : Option Value → Tt → Prop} {x1 : Int32} {x3 : Int32} {x4 : Int32} {x5 : Int32} (h : Rt g (d + 1) mX8_worked 12 [some (.ref 57), some (.int x1), none, some (.int x3), some (.int x4), some (.int (x5 + 1)), none] [] t Q) : Rt g (d + 1) mX8_worked 182 [some (.ref 57), some (.int x1), none, some (.int x3), some (.int x4), some (.int x5), none] [] t Q := by
  refine s_iinc (w := x5 + 1) dX8_worked_182 rfl (by rfl) (by decide) rfl (L9 := [some (.ref 57), some (.int x1), none, some (.int x3), some (.int x4), some (.int (x5 + 1)), none]) rfl ?_
  refine s_goto (tgt := 12) dX8_worked_185 (by decide) ?_
  exact h
theorem bX8_worked_117 {g : Gt} {d : Nat} {t : Tt} {Q : Option Value → Tt → Prop} {x1 : Int32} {x3 : Int32} {x4 : Int32} {x5 : Int32} {s0 : Int32} {s1 : Int32} (h : vp_in s1 130 ∧ Rt g (d + 1) mX8_worked 182 [some (.ref 57), some (.int x1), none, some (.int x3), some (.int x4), some (.int x5), none] [] (pI t 73 s1.toNatClampNeg s0) Q) : Rt g (d + 1) mX8_worked 117 [some (.ref 57), some (.int x1), none, some (.int x3), some (.int x4), some (.int x5), none] [.int s0, .int s1, .ref 73] t Q := by
  obtain ⟨g1, h⟩ := h
  refine t_iast dX8_worked_117 rfl (by decide) g1 ?_
  refine s_goto (tgt := 182) dX8_worked_118 (by decide) ?_
  exact h
theorem bX8_worked_79 {g : Gt} {d : Nat} {t : Tt} {Q : Option Value → Tt → Prop} {x1 : Int32} {x3 : Int32} {x4 : Int32} {x5 : Int32} {s0 : Int32} {s1 : Int32} (h : vp_in s1 130 ∧ Rt g (d + 1) mX8_worked 182 [some (.ref 57), some (.int x1), none, some (.int x3), some (.int (x4 + 1)), some (.int x5), none] [] (pI t 73 s1.toNatClampNeg s0) Q) : Rt g (d + 1) mX8_worked 79 [some (.ref 57), some (.int x1), none, some (.int x3), some (.int x4), some (.int x5), none] [.int s0, .int s1, .ref 73] t Q := by
  obtain ⟨g1, h⟩ := h
  refine t_iast dX8_worked_79 rfl (by decide) g1 ?_
  refine s_iinc (w := x4 + 1) dX8_worked_80 rfl (by rfl) (by decide) rfl (L9 := [some (.ref 57), some (.int x1), none, some (.int x3), some (.int (x4 + 1)), some (.int x5), none]) rfl ?_
  refine s_goto (tgt := 182) dX8_worked_83 (by decide) ?_
  exact h
theorem bX8_gives_0 {g : Gt} {d : Nat} {t : Tt} {Q : Option Value → Tt → Prop} {p0 : Int32} (h : ∀ z1 : Int32, z1 = (61 * p0) → Rt g (d + 1) mX8_gives 7 [some (.ref 57), some (.int p0), some (.int 0), some (.int z1)] [] t Q) : Rt g (d + 1) mX8_gives 0 [some (.ref 57), some (.int p0), none, none] [] t Q := by
  refine s_iconst (v := 0) dX8_gives_0 (by decide) ?_
  refine s_istore_n dX8_gives_1 rfl (by decide) rfl (L9 := [some (.ref 57), some (.int p0), some (.int 0), none]) rfl ?_
  refine s_bipush (v := 61) dX8_gives_2 (by decide) ?_
  refine s_iload_n dX8_gives_4 rfl rfl ?_
  refine s_imul dX8_gives_5 ?_
  refine t_nmI (fun z1 ez1 => ?_)
  replace h := h z1 ez1
  refine s_istore_n dX8_gives_6 rfl (by decide) rfl (L9 := [some (.ref 57), some (.int p0), some (.int 0), some (.int z1)]) rfl ?_
  exact h
theorem bX8_gives_7 {g : Gt} {d : Nat} {t : Tt} {Q : Option Value → Tt → Prop} {x1 : Int32} {x2 : Int32} {x3 : Int32} (h : vp_in x1 2 ∧ ((((61 * x1) + (t.1 69 x1.toNatClampNeg)) ≤ x3 → Q (some (.int 0)) t) ∧ (¬ ((61 * x1) + (t.1 69 x1.toNatClampNeg)) ≤ x3 → vp_in x3 122 ∧ (((t.1 70 x3.toNatClampNeg) = x2 → Rt g (d + 1) mX8_gives 47 [some (.ref 57), some (.int x1), none, some (.int x3)] [] t Q) ∧ (¬ (t.1 70 x3.toNatClampNeg) = x2 → vp_in x3 122 ∧ (Rt g d mX8_worked 0 [some (.ref 57), some (.int x1), some (.int x2), some (.int (t.1 70 x3.toNatClampNeg)), none, none, none] [] t (QI (fun v7 t6 => (v7 = 0 → vp_in x3 122 ∧ (∀ z10 : Int32, z10 = (t6.1 71 x3.toNatClampNeg) → Rt g (d + 1) mX8_gives 7 [some (.ref 57), some (.int x1), some (.int z10), some (.int (x3 + 1))] [] t6 Q)) ∧ (¬ v7 = 0 → Rt g (d + 1) mX8_gives 47 [some (.ref 57), some (.int x1), none, some (.int x3)] [] t6 Q))))))))) : Rt g (d + 1) mX8_gives 7 [some (.ref 57), some (.int x1), some (.int x2), some (.int x3)] [] t Q := by
  refine s_iload_n dX8_gives_7 rfl rfl ?_
  refine s_bipush (v := 61) dX8_gives_8 (by decide) ?_
  refine s_iload_n dX8_gives_10 rfl rfl ?_
  refine s_imul dX8_gives_11 ?_
  refine s_aload_n dX8_gives_12 rfl rfl ?_
  refine t_getR (o' := 69) dX8_gives_13 fl_X8_48 rfl (by decide) rfl rfl ?_
  refine s_iload_n dX8_gives_16 rfl rfl ?_
  obtain ⟨g1, h⟩ := h
  refine t_iald dX8_gives_17 rfl (by decide) g1 ?_
  refine s_iadd dX8_gives_18 ?_
  refine s_icmp_ge (tgt := 78) dX8_gives_19 (by decide) (fun c2 => ?_) (fun c2 => ?_)
  · replace h := h.1 c2
    refine s_iconst (v := 0) dX8_gives_78 (by decide) ?_
    exact t_iret dX8_gives_79 (NR_i rfl _) h
  · replace h := h.2 c2
    refine s_aload_n dX8_gives_22 rfl rfl ?_
    refine t_getR (o' := 70) dX8_gives_23 fl_X8_51 rfl (by decide) rfl rfl ?_
    refine s_iload_n dX8_gives_26 rfl rfl ?_
    obtain ⟨g3, h⟩ := h
    refine t_sald dX8_gives_27 rfl (by decide) g3 ?_
    refine s_iload_n dX8_gives_28 rfl rfl ?_
    refine s_icmp_eq (tgt := 47) dX8_gives_29 (by decide) (fun c4 => ?_) (fun c4 => ?_)
    · replace h := h.1 c4
      exact Rt.lc h (lc_some (lc_some (lc_none (lc_some lc_nil))))
    · replace h := h.2 c4
      refine s_aload_n dX8_gives_32 rfl rfl ?_
      refine s_iload_n dX8_gives_33 rfl rfl ?_
      refine s_iload_n dX8_gives_34 rfl rfl ?_
      refine s_aload_n dX8_gives_35 rfl rfl ?_
      refine t_getR (o' := 70) dX8_gives_36 fl_X8_51 rfl (by decide) rfl rfl ?_
      refine s_iload_n dX8_gives_39 rfl rfl ?_
      obtain ⟨g5, h⟩ := h
      refine t_sald dX8_gives_40 rfl (by decide) g5 ?_
      refine t_callV (M' := mX8_worked) (k := 3) (As := [.int x1, .int x2, .int (t.1 70 x3.toNatClampNeg)]) (rest := []) dX8_gives_41 ml_X8_239 miX8_worked msX8_worked rfl (by decide) rfl rfl (Nat.le_of_ble_eq_true rfl) (Nat.le_of_ble_eq_true rfl) rfl h (fun rv t6 q => ?_)
      obtain ⟨v7, rfl, h⟩ := q
      show Rt g (d + 1) mX8_gives 44 [some (.ref 57), some (.int x1), some (.int x2), some (.int x3)] [.int v7] t6 Q
      refine s_if_eq (tgt := 65) dX8_gives_44 (by decide) (fun c8 => ?_) (fun c8 => ?_)
      · replace h := h.1 c8
        refine s_aload_n dX8_gives_65 rfl rfl ?_
        refine t_getR (o' := 71) dX8_gives_66 fl_X8_55 rfl (by decide) rfl rfl ?_
        refine s_iload_n dX8_gives_69 rfl rfl ?_
        obtain ⟨g9, h⟩ := h
        refine t_sald dX8_gives_70 rfl (by decide) g9 ?_
        refine t_nmI (fun z10 ez10 => ?_)
        replace h := h z10 ez10
        refine s_istore_n dX8_gives_71 rfl (by decide) rfl (L9 := [some (.ref 57), some (.int x1), some (.int z10), some (.int x3)]) rfl ?_
        refine s_iinc (w := x3 + 1) dX8_gives_72 rfl (by rfl) (by decide) rfl (L9 := [some (.ref 57), some (.int x1), some (.int z10), some (.int (x3 + 1))]) rfl ?_
        refine s_goto (tgt := 7) dX8_gives_75 (by decide) ?_
        exact h
      · replace h := h.2 c8
        exact Rt.lc h (lc_some (lc_some (lc_none (lc_some lc_nil))))
theorem bX8_gives_47 {g : Gt} {d : Nat} {t : Tt} {Q : Option Value → Tt → Prop} {x1 : Int32} {x3 : Int32} (h : vp_in x3 122 ∧ (vp_in x3 122 ∧ Rt g d mX8_worked 0 [some (.ref 57), some (.int x1), some (.int (t.1 70 x3.toNatClampNeg)), some (.int (t.1 71 x3.toNatClampNeg)), none, none, none] [] t (QI (fun v4 t3 => Q (some (.int v4)) t3)))) : Rt g (d + 1) mX8_gives 47 [some (.ref 57), some (.int x1), none, some (.int x3)] [] t Q := by
  refine s_aload_n dX8_gives_47 rfl rfl ?_
  refine s_iload_n dX8_gives_48 rfl rfl ?_
  refine s_aload_n dX8_gives_49 rfl rfl ?_
  refine t_getR (o' := 70) dX8_gives_50 fl_X8_51 rfl (by decide) rfl rfl ?_
  refine s_iload_n dX8_gives_53 rfl rfl ?_
  obtain ⟨g1, h⟩ := h
  refine t_sald dX8_gives_54 rfl (by decide) g1 ?_
  refine s_aload_n dX8_gives_55 rfl rfl ?_
  refine t_getR (o' := 71) dX8_gives_56 fl_X8_55 rfl (by decide) rfl rfl ?_
  refine s_iload_n dX8_gives_59 rfl rfl ?_
  obtain ⟨g2, h⟩ := h
  refine t_sald dX8_gives_60 rfl (by decide) g2 ?_
  refine t_callV (M' := mX8_worked) (k := 3) (As := [.int x1, .int (t.1 70 x3.toNatClampNeg), .int (t.1 71 x3.toNatClampNeg)]) (rest := []) dX8_gives_61 ml_X8_239 miX8_worked msX8_worked rfl (by decide) rfl rfl (Nat.le_of_ble_eq_true rfl) (Nat.le_of_ble_eq_true rfl) rfl h (fun rv t3 q => ?_)
  obtain ⟨v4, rfl, h⟩ := q
  show Rt g (d + 1) mX8_gives 64 [some (.ref 57), some (.int x1), none, some (.int x3)] [.int v4] t3 Q
  exact t_iret dX8_gives_64 (NR_i rfl _) h
theorem bX8_law_0 {g : Gt} {d : Nat} {t : Tt} {Q : Option Value → Tt → Prop} (h : Rt g d mX8_readText 0 [some (.ref 57), some (.int 0), none] [] t (QI (fun v2 t1 => (v2 < 0 → Q (some (.int 1)) (pI t1 57 26 1)) ∧ (¬ v2 < 0 → Q (some (.int ((-100) - v2))) t1)))) : Rt g (d + 1) mX8_law 0 [some (.ref 57), none] [] t Q := by
  refine s_aload_n dX8_law_0 rfl rfl ?_
  refine s_iconst (v := 0) dX8_law_1 (by decide) ?_
  refine t_callV (M' := mX8_readText) (k := 1) (As := [.int 0]) (rest := []) dX8_law_2 ml_X8_242 miX8_readText msX8_readText rfl (by decide) rfl rfl (Nat.le_of_ble_eq_true rfl) (Nat.le_of_ble_eq_true rfl) rfl h (fun rv t1 q => ?_)
  obtain ⟨v2, rfl, h⟩ := q
  show Rt g (d + 1) mX8_law 5 [some (.ref 57), none] [.int v2] t1 Q
  refine s_istore_n dX8_law_5 rfl (by decide) rfl (L9 := [some (.ref 57), some (.int v2)]) rfl ?_
  refine s_iload_n dX8_law_6 rfl rfl ?_
  refine s_if_lt (tgt := 15) dX8_law_7 (by decide) (fun c3 => ?_) (fun c3 => ?_)
  · replace h := h.1 c3
    refine s_aload_n dX8_law_15 rfl rfl ?_
    refine s_iconst (v := 1) dX8_law_16 (by decide) ?_
    refine t_putI dX8_law_17 fl_X8_245 rfl (by decide) rfl rfl rfl rfl ?_
    refine s_iconst (v := 1) dX8_law_20 (by decide) ?_
    exact t_iret dX8_law_21 (NR_i rfl _) h
  · replace h := h.2 c3
    refine s_bipush (v := (-100)) dX8_law_10 (by decide) ?_
    refine s_iload_n dX8_law_12 rfl rfl ?_
    refine s_isub dX8_law_13 ?_
    exact t_iret dX8_law_14 (NR_i rfl _) h
theorem bX8_beginMouths_0 {g : Gt} {d : Nat} {t : Tt} {Q : Option Value → Tt → Prop} (h : Rt g d mX8_beginMouths 2 [some (.ref 57), some (.int 0)] [] t Q) : Rt g d mX8_beginMouths 0 [some (.ref 57), none] [] t Q := by
  refine s_iconst (v := 0) dX8_beginMouths_0 (by decide) ?_
  refine s_istore_n dX8_beginMouths_1 rfl (by decide) rfl (L9 := [some (.ref 57), some (.int 0)]) rfl ?_
  exact h
theorem bX8_beginMouths_2 {g : Gt} {d : Nat} {t : Tt} {Q : Option Value → Tt → Prop} {x1 : Int32} (h : (56 ≤ x1 → Rt g d mX8_beginMouths 28 [some (.ref 57), some (.int 0)] [] t Q) ∧ (¬ 56 ≤ x1 → vp_in x1 56 ∧ (vp_in x1 56 ∧ Rt g d mX8_beginMouths 2 [some (.ref 57), some (.int (x1 + 1))] [] (pI t 74 x1.toNatClampNeg (t.1 58 x1.toNatClampNeg)) Q))) : Rt g d mX8_beginMouths 2 [some (.ref 57), some (.int x1)] [] t Q := by
  refine s_iload_n dX8_beginMouths_2 rfl rfl ?_
  refine s_bipush (v := 56) dX8_beginMouths_3 (by decide) ?_
  refine s_icmp_ge (tgt := 26) dX8_beginMouths_5 (by decide) (fun c1 => ?_) (fun c1 => ?_)
  · replace h := h.1 c1
    refine s_iconst (v := 0) dX8_beginMouths_26 (by decide) ?_
    refine s_istore_n dX8_beginMouths_27 rfl (by decide) rfl (L9 := [some (.ref 57), some (.int 0)]) rfl ?_
    exact h
  · replace h := h.2 c1
    refine s_aload_n dX8_beginMouths_8 rfl rfl ?_
    refine t_getR (o' := 74) dX8_beginMouths_9 fl_X8_64 rfl (by decide) rfl rfl ?_
    refine s_iload_n dX8_beginMouths_12 rfl rfl ?_
    refine s_aload_n dX8_beginMouths_13 rfl rfl ?_
    refine t_getR (o' := 58) dX8_beginMouths_14 fl_X8_7 rfl (by decide) rfl rfl ?_
    refine s_iload_n dX8_beginMouths_17 rfl rfl ?_
    obtain ⟨g2, h⟩ := h
    refine t_iald dX8_beginMouths_18 rfl (by decide) g2 ?_
    obtain ⟨g3, h⟩ := h
    refine t_iast dX8_beginMouths_19 rfl (by decide) g3 ?_
    refine s_iinc (w := x1 + 1) dX8_beginMouths_20 rfl (by rfl) (by decide) rfl (L9 := [some (.ref 57), some (.int (x1 + 1))]) rfl ?_
    refine s_goto (tgt := 2) dX8_beginMouths_23 (by decide) ?_
    exact h
theorem bX8_beginMouths_28 {g : Gt} {d : Nat} {t : Tt} {Q : Option Value → Tt → Prop} {x1 : Int32} (h : (7 ≤ x1 → Q none t) ∧ (¬ 7 ≤ x1 → vp_in x1 7 ∧ (vp_in x1 7 ∧ Rt g d mX8_beginMouths 28 [some (.ref 57), some (.int (x1 + 1))] [] (pI t 75 x1.toNatClampNeg (t.1 60 x1.toNatClampNeg)) Q))) : Rt g d mX8_beginMouths 28 [some (.ref 57), some (.int x1)] [] t Q := by
  refine s_iload_n dX8_beginMouths_28 rfl rfl ?_
  refine s_bipush (v := 7) dX8_beginMouths_29 (by decide) ?_
  refine s_icmp_ge (tgt := 52) dX8_beginMouths_31 (by decide) (fun c1 => ?_) (fun c1 => ?_)
  · replace h := h.1 c1
    exact t_vret dX8_beginMouths_52 rfl h
  · replace h := h.2 c1
    refine s_aload_n dX8_beginMouths_34 rfl rfl ?_
    refine t_getR (o' := 75) dX8_beginMouths_35 fl_X8_67 rfl (by decide) rfl rfl ?_
    refine s_iload_n dX8_beginMouths_38 rfl rfl ?_
    refine s_aload_n dX8_beginMouths_39 rfl rfl ?_
    refine t_getR (o' := 60) dX8_beginMouths_40 fl_X8_16 rfl (by decide) rfl rfl ?_
    refine s_iload_n dX8_beginMouths_43 rfl rfl ?_
    obtain ⟨g2, h⟩ := h
    refine t_iald dX8_beginMouths_44 rfl (by decide) g2 ?_
    obtain ⟨g3, h⟩ := h
    refine t_iast dX8_beginMouths_45 rfl (by decide) g3 ?_
    refine s_iinc (w := x1 + 1) dX8_beginMouths_46 rfl (by rfl) (by decide) rfl (L9 := [some (.ref 57), some (.int (x1 + 1))]) rfl ?_
    refine s_goto (tgt := 28) dX8_beginMouths_49 (by decide) ?_
    exact h
theorem bX8_flakesOf_0 {g : Gt} {d : Nat} {t : Tt} {Q : Option Value → Tt → Prop} {p0 : Int32} (h : Rt g d mX8_flakesOf 4 [some (.ref 57), some (.int p0), some (.int 0), some (.int 0)] [] t Q) : Rt g d mX8_flakesOf 0 [some (.ref 57), some (.int p0), none, none] [] t Q := by
  refine s_iconst (v := 0) dX8_flakesOf_0 (by decide) ?_
  refine s_istore_n dX8_flakesOf_1 rfl (by decide) rfl (L9 := [some (.ref 57), some (.int p0), some (.int 0), none]) rfl ?_
  refine s_iconst (v := 0) dX8_flakesOf_2 (by decide) ?_
  refine s_istore_n dX8_flakesOf_3 rfl (by decide) rfl (L9 := [some (.ref 57), some (.int p0), some (.int 0), some (.int 0)]) rfl ?_
  exact h
theorem bX8_flakesOf_4 {g : Gt} {d : Nat} {t : Tt} {Q : Option Value → Tt → Prop} {x1 : Int32} {x2 : Int32} {x3 : Int32} (h : (8 ≤ x3 → Q (some (.int x2)) t) ∧ (¬ 8 ≤ x3 → vp_in ((8 * x1) + x3) 56 ∧ (∀ z3 : Int32, z3 = (x2 + (t.1 74 ((8 * x1) + x3).toNatClampNeg)) → Rt g d mX8_flakesOf 4 [some (.ref 57), some (.int x1), some (.int z3), some (.int (x3 + 1))] [] t Q))) : Rt g d mX8_flakesOf 4 [some (.ref 57), some (.int x1), some (.int x2), some (.int x3)] [] t Q := by
  refine s_iload_n dX8_flakesOf_4 rfl rfl ?_
  refine s_bipush (v := 8) dX8_flakesOf_5 (by decide) ?_
  refine s_icmp_ge (tgt := 30) dX8_flakesOf_7 (by decide) (fun c1 => ?_) (fun c1 => ?_)
  · replace h := h.1 c1
    refine s_iload_n dX8_flakesOf_30 rfl rfl ?_
    exact t_iret dX8_flakesOf_31 (NR_i rfl _) h
  · replace h := h.2 c1
    refine s_iload_n dX8_flakesOf_10 rfl rfl ?_
    refine s_aload_n dX8_flakesOf_11 rfl rfl ?_
    refine t_getR (o' := 74) dX8_flakesOf_12 fl_X8_64 rfl (by decide) rfl rfl ?_
    refine s_bipush (v := 8) dX8_flakesOf_15 (by decide) ?_
    refine s_iload_n dX8_flakesOf_17 rfl rfl ?_
    refine s_imul dX8_flakesOf_18 ?_
    refine s_iload_n dX8_flakesOf_19 rfl rfl ?_
    refine s_iadd dX8_flakesOf_20 ?_
    obtain ⟨g2, h⟩ := h
    refine t_iald dX8_flakesOf_21 rfl (by decide) g2 ?_
    refine s_iadd dX8_flakesOf_22 ?_
    refine t_nmI (fun z3 ez3 => ?_)
    replace h := h z3 ez3
    refine s_istore_n dX8_flakesOf_23 rfl (by decide) rfl (L9 := [some (.ref 57), some (.int x1), some (.int z3), some (.int x3)]) rfl ?_
    refine s_iinc (w := x3 + 1) dX8_flakesOf_24 rfl (by rfl) (by decide) rfl (L9 := [some (.ref 57), some (.int x1), some (.int z3), some (.int (x3 + 1))]) rfl ?_
    refine s_goto (tgt := 4) dX8_flakesOf_27 (by decide) ?_
    exact h
theorem bX8_worthOf_0 {g : Gt} {d : Nat} {t : Tt} {Q : Option Value → Tt → Prop} {p0 : Int32} (h : Rt g d mX8_flakesOf 0 [some (.ref 57), some (.int p0), none, none] [] t (QI (fun v2 t1 => vp_in p0 7 ∧ Rt g d mX8_bitsOf 0 [some (.int (t1.1 59 p0.toNatClampNeg)), none, none] [] t1 (QI (fun v5 t4 => Q (some (.int (v2 + ((t1.1 57 6) * v5)))) t4))))) : Rt g (d + 1) mX8_worthOf 0 [some (.ref 57), some (.int p0)] [] t Q := by
  refine s_aload_n dX8_worthOf_0 rfl rfl ?_
  refine s_iload_n dX8_worthOf_1 rfl rfl ?_
  refine t_callV (M' := mX8_flakesOf) (k := 2) (As := [.int p0]) (rest := []) dX8_worthOf_2 ml_X8_249 miX8_flakesOf msX8_flakesOf rfl (by decide) rfl rfl (Nat.le_of_ble_eq_true rfl) (Nat.le_of_ble_eq_true rfl) rfl h (fun rv t1 q => ?_)
  obtain ⟨v2, rfl, h⟩ := q
  show Rt g (d + 1) mX8_worthOf 5 [some (.ref 57), some (.int p0)] [.int v2] t1 Q
  refine s_aload_n dX8_worthOf_5 rfl rfl ?_
  refine t_getI dX8_worthOf_6 fl_X8_22 rfl (by decide) rfl ?_
  refine s_aload_n dX8_worthOf_9 rfl rfl ?_
  refine t_getR (o' := 59) dX8_worthOf_10 fl_X8_13 rfl (by decide) rfl rfl ?_
  refine s_iload_n dX8_worthOf_13 rfl rfl ?_
  obtain ⟨g3, h⟩ := h
  refine t_iald dX8_worthOf_14 rfl (by decide) g3 ?_
  refine t_callS (M' := mX8_bitsOf) (k := 2) (As := [.int (t1.1 59 p0.toNatClampNeg)]) (rest := [.int (t1.1 57 6), .int v2]) dX8_worthOf_15 ml_X8_252 mstX8_bitsOf rfl (Nat.le_of_ble_eq_true rfl) (Nat.le_of_ble_eq_true rfl) rfl h (fun rv t4 q => ?_)
  obtain ⟨v5, rfl, h⟩ := q
  show Rt g (d + 1) mX8_worthOf 18 [some (.ref 57), some (.int p0)] [.int v5, .int (t1.1 57 6), .int v2] t4 Q
  refine s_imul dX8_worthOf_18 ?_
  refine s_iadd dX8_worthOf_19 ?_
  exact t_iret dX8_worthOf_20 (NR_i rfl _) h
theorem bX8_isGone_0 {g : Gt} {d : Nat} {t : Tt} {Q : Option Value → Tt → Prop} {p0 : Int32} (h : Rt g d mX8_flakesOf 0 [some (.ref 57), some (.int p0), none, none] [] t (QI (fun v2 t1 => (¬ v2 = 0 → Q (some (.int 0)) t1) ∧ (v2 = 0 → Q (some (.int 1)) t1)))) : Rt g (d + 1) mX8_isGone 0 [some (.ref 57), some (.int p0)] [] t Q := by
  refine s_aload_n dX8_isGone_0 rfl rfl ?_
  refine s_iload_n dX8_isGone_1 rfl rfl ?_
  refine t_callV (M' := mX8_flakesOf) (k := 2) (As := [.int p0]) (rest := []) dX8_isGone_2 ml_X8_249 miX8_flakesOf msX8_flakesOf rfl (by decide) rfl rfl (Nat.le_of_ble_eq_true rfl) (Nat.le_of_ble_eq_true rfl) rfl h (fun rv t1 q => ?_)
  obtain ⟨v2, rfl, h⟩ := q
  show Rt g (d + 1) mX8_isGone 5 [some (.ref 57), some (.int p0)] [.int v2] t1 Q
  refine s_if_ne (tgt := 12) dX8_isGone_5 (by decide) (fun c3 => ?_) (fun c3 => ?_)
  · replace h := h.1 c3
    refine s_iconst (v := 0) dX8_isGone_12 (by decide) ?_
    exact t_iret dX8_isGone_13 (NR_z rfl (Or.inl rfl)) h
  · replace h := h.2 c3
    refine s_iconst (v := 1) dX8_isGone_8 (by decide) ?_
    refine s_goto (tgt := 13) dX8_isGone_9 (by decide) ?_
    exact t_iret dX8_isGone_13 (NR_z rfl (Or.inr rfl)) h
theorem bX8_takesBy_0 {g : Gt} {d : Nat} {t : Tt} {Q : Option Value → Tt → Prop} {p0 : Int32} {p1 : Int32} {p2 : Int32} (h : ∀ z1 : Int32, z1 = (jr p2 8) → ∀ z2 : Int32, z2 = (1 + (p2 / 2)) → ((t.1 57 26) = 0 → Rt g (d + 1) mX8_takesBy 89 [none, none, none, none, none, some (.int z2)] [] t Q) ∧ (¬ (t.1 57 26) = 0 → vp_in p0 7 ∧ (Rt g d mX8_worthOf 0 [some (.ref 57), some (.int p0)] [] (pI (pI t 72 0 p2) 72 1 ((pI t 72 0 p2).1 75 p0.toNatClampNeg)) (QI (fun v6 t5 => vp_in p0 7 ∧ Rt g d mX8_gives 0 [some (.ref 57), some (.int 0), none, none] [] (pI (pI (pI (pI t5 72 2 v6) 72 3 z1) 72 4 ((jsr ((pI (pI t5 72 2 v6) 72 3 z1).1 59 p0.toNatClampNeg) z1) &&& 1)) 72 5 p1) (QI (fun v9 t8 => Rt g (d + 1) mX8_takesBy 89 [none, none, none, none, none, some (.int v9)] [] t8 Q))))))) : Rt g (d + 1) mX8_takesBy 0 [some (.ref 57), some (.int p0), some (.int p1), some (.int p2), none, none] [] t Q := by
  refine s_iload_n dX8_takesBy_0 rfl rfl ?_
  refine s_bipush (v := 8) dX8_takesBy_1 (by decide) ?_
  refine s_irem dX8_takesBy_3 (by decide) ?_
  refine t_nmI (fun z1 ez1 => ?_)
  replace h := h z1 ez1
  refine s_istore dX8_takesBy_4 (by decide) rfl (L9 := [some (.ref 57), some (.int p0), some (.int p1), some (.int p2), some (.int z1), none]) rfl ?_
  refine s_iconst (v := 1) dX8_takesBy_6 (by decide) ?_
  refine s_iload_n dX8_takesBy_7 rfl rfl ?_
  refine s_iconst (v := 2) dX8_takesBy_8 (by decide) ?_
  refine s_idiv dX8_takesBy_9 (by decide) ?_
  refine s_iadd dX8_takesBy_10 ?_
  refine t_nmI (fun z2 ez2 => ?_)
  replace h := h z2 ez2
  refine s_istore dX8_takesBy_11 (by decide) rfl (L9 := [some (.ref 57), some (.int p0), some (.int p1), some (.int p2), some (.int z1), some (.int z2)]) rfl ?_
  refine s_aload_n dX8_takesBy_13 rfl rfl ?_
  refine t_getI dX8_takesBy_14 fl_X8_245 rfl (by decide) rfl ?_
  refine s_if_eq (tgt := 89) dX8_takesBy_17 (by decide) (fun c3 => ?_) (fun c3 => ?_)
  · replace h := h.1 c3
    exact Rt.lc h (lc_none (lc_none (lc_none (lc_none (lc_none (lc_some lc_nil))))))
  · replace h := h.2 c3
    refine s_aload_n dX8_takesBy_20 rfl rfl ?_
    refine t_getR (o' := 72) dX8_takesBy_21 fl_X8_58 rfl (by decide) rfl rfl ?_
    refine s_iconst (v := 0) dX8_takesBy_24 (by decide) ?_
    refine s_iload_n dX8_takesBy_25 rfl rfl ?_
    refine t_iast dX8_takesBy_26 rfl (by decide) (show vp_in 0 6 from by unfold vp_in; decide) ?_
    refine s_aload_n dX8_takesBy_27 rfl rfl ?_
    refine t_getR (o' := 72) dX8_takesBy_28 fl_X8_58 rfl (by decide) rfl rfl ?_
    refine s_iconst (v := 1) dX8_takesBy_31 (by decide) ?_
    refine s_aload_n dX8_takesBy_32 rfl rfl ?_
    refine t_getR (o' := 75) dX8_takesBy_33 fl_X8_67 rfl (by decide) rfl rfl ?_
    refine s_iload_n dX8_takesBy_36 rfl rfl ?_
    obtain ⟨g4, h⟩ := h
    refine t_iald dX8_takesBy_37 rfl (by decide) g4 ?_
    refine t_iast dX8_takesBy_38 rfl (by decide) (show vp_in 1 6 from by unfold vp_in; decide) ?_
    refine s_aload_n dX8_takesBy_39 rfl rfl ?_
    refine t_getR (o' := 72) dX8_takesBy_40 fl_X8_58 rfl (by decide) rfl rfl ?_
    refine s_iconst (v := 2) dX8_takesBy_43 (by decide) ?_
    refine s_aload_n dX8_takesBy_44 rfl rfl ?_
    refine s_iload_n dX8_takesBy_45 rfl rfl ?_
    refine t_callV (M' := mX8_worthOf) (k := 0) (As := [.int p0]) (rest := [.int 2, .ref 72]) dX8_takesBy_46 ml_X8_175 miX8_worthOf msX8_worthOf rfl (by decide) rfl rfl (Nat.le_of_ble_eq_true rfl) (Nat.le_of_ble_eq_true rfl) rfl h (fun rv t5 q => ?_)
    obtain ⟨v6, rfl, h⟩ := q
    show Rt g (d + 1) mX8_takesBy 49 [some (.ref 57), some (.int p0), some (.int p1), some (.int p2), some (.int z1), some (.int z2)] [.int v6, .int 2, .ref 72] t5 Q
    refine t_iast dX8_takesBy_49 rfl (by decide) (show vp_in 2 6 from by unfold vp_in; decide) ?_
    refine s_aload_n dX8_takesBy_50 rfl rfl ?_
    refine t_getR (o' := 72) dX8_takesBy_51 fl_X8_58 rfl (by decide) rfl rfl ?_
    refine s_iconst (v := 3) dX8_takesBy_54 (by decide) ?_
    refine s_iload dX8_takesBy_55 rfl ?_
    refine t_iast dX8_takesBy_57 rfl (by decide) (show vp_in 3 6 from by unfold vp_in; decide) ?_
    refine s_aload_n dX8_takesBy_58 rfl rfl ?_
    refine t_getR (o' := 72) dX8_takesBy_59 fl_X8_58 rfl (by decide) rfl rfl ?_
    refine s_iconst (v := 4) dX8_takesBy_62 (by decide) ?_
    refine s_aload_n dX8_takesBy_63 rfl rfl ?_
    refine t_getR (o' := 59) dX8_takesBy_64 fl_X8_13 rfl (by decide) rfl rfl ?_
    refine s_iload_n dX8_takesBy_67 rfl rfl ?_
    obtain ⟨g7, h⟩ := h
    refine t_iald dX8_takesBy_68 rfl (by decide) g7 ?_
    refine s_iload dX8_takesBy_69 rfl ?_
    refine s_ishr dX8_takesBy_71 ?_
    refine s_iconst (v := 1) dX8_takesBy_72 (by decide) ?_
    refine s_iand dX8_takesBy_73 ?_
    refine t_iast dX8_takesBy_74 rfl (by decide) (show vp_in 4 6 from by unfold vp_in; decide) ?_
    refine s_aload_n dX8_takesBy_75 rfl rfl ?_
    refine t_getR (o' := 72) dX8_takesBy_76 fl_X8_58 rfl (by decide) rfl rfl ?_
    refine s_iconst (v := 5) dX8_takesBy_79 (by decide) ?_
    refine s_iload_n dX8_takesBy_80 rfl rfl ?_
    refine t_iast dX8_takesBy_81 rfl (by decide) (show vp_in 5 6 from by unfold vp_in; decide) ?_
    refine s_aload_n dX8_takesBy_82 rfl rfl ?_
    refine s_iconst (v := 0) dX8_takesBy_83 (by decide) ?_
    refine t_callV (M' := mX8_gives) (k := 2) (As := [.int 0]) (rest := []) dX8_takesBy_84 ml_X8_255 miX8_gives msX8_gives rfl (by decide) rfl rfl (Nat.le_of_ble_eq_true rfl) (Nat.le_of_ble_eq_true rfl) rfl h (fun rv t8 q => ?_)
    obtain ⟨v9, rfl, h⟩ := q
    show Rt g (d + 1) mX8_takesBy 87 [some (.ref 57), some (.int p0), some (.int p1), some (.int p2), some (.int z1), some (.int z2)] [.int v9] t8 Q
    refine s_istore dX8_takesBy_87 (by decide) rfl (L9 := [some (.ref 57), some (.int p0), some (.int p1), some (.int p2), some (.int z1), some (.int v9)]) rfl ?_
    exact Rt.lc h (lc_none (lc_none (lc_none (lc_none (lc_none (lc_some lc_nil))))))
theorem bX8_takesBy_89 {g : Gt} {d : Nat} {t : Tt} {Q : Option Value → Tt → Prop} {x5 : Int32} (h : (0 ≤ x5 → (x5 ≤ 99 → Q (some (.int x5)) t) ∧ (¬ x5 ≤ 99 → Q (some (.int 99)) t)) ∧ (¬ 0 ≤ x5 → Q (some (.int 0)) t)) : Rt g (d + 1) mX8_takesBy 89 [none, none, none, none, none, some (.int x5)] [] t Q := by
  refine s_iload dX8_takesBy_89 rfl ?_
  refine s_if_ge (tgt := 98) dX8_takesBy_91 (by decide) (fun c1 => ?_) (fun c1 => ?_)
  · replace h := h.1 c1
    refine s_iload dX8_takesBy_98 rfl ?_
    refine s_bipush (v := 99) dX8_takesBy_100 (by decide) ?_
    refine s_icmp_le (tgt := 110) dX8_takesBy_102 (by decide) (fun c2 => ?_) (fun c2 => ?_)
    · replace h := h.1 c2
      refine s_iload dX8_takesBy_110 rfl ?_
      exact t_iret dX8_takesBy_112 (NR_i rfl _) h
    · replace h := h.2 c2
      refine s_bipush (v := 99) dX8_takesBy_105 (by decide) ?_
      refine s_goto (tgt := 112) dX8_takesBy_107 (by decide) ?_
      exact t_iret dX8_takesBy_112 (NR_i rfl _) h
  · replace h := h.2 c1
    refine s_iconst (v := 0) dX8_takesBy_94 (by decide) ?_
    refine s_goto (tgt := 112) dX8_takesBy_95 (by decide) ?_
    exact t_iret dX8_takesBy_112 (NR_i rfl _) h
theorem bX8_takes_0 {g : Gt} {d : Nat} {t : Tt} {Q : Option Value → Tt → Prop} {p0 : Int32} {p1 : Int32} (h : Rt g d mX8_isPerson 0 [some (.ref 57), some (.int p0)] [] t (QI (fun v2 t1 => (v2 = 0 → Q (some (.int (-1))) t1) ∧ (¬ v2 = 0 → (p1 < 0 → Q (some (.int (-1))) t1) ∧ (¬ p1 < 0 → Rt g d mX8_isFact 0 [some (.int (p1 / 10))] [] t1 (QI (fun v6 t5 => (¬ v6 = 0 → Rt g d mX8_beginMouths 0 [some (.ref 57), none] [] t5 (QV (fun t8 => Rt g d mX8_takesBy 0 [some (.ref 57), some (.int p0), some (.int (p1 / 10)), some (.int (jr p1 10)), none, none] [] t8 (QI (fun v10 t9 => Q (some (.int v10)) t9))))) ∧ (v6 = 0 → Q (some (.int (-1))) t5)))))))) : Rt g (d + 1) mX8_takes 0 [some (.ref 57), some (.int p0), some (.int p1)] [] t Q := by
  refine s_aload_n dX8_takes_0 rfl rfl ?_
  refine s_iload_n dX8_takes_1 rfl rfl ?_
  refine t_callV (M' := mX8_isPerson) (k := 0) (As := [.int p0]) (rest := []) dX8_takes_2 ml_X8_156 miX8_isPerson msX8_isPerson rfl (by decide) rfl rfl (Nat.le_of_ble_eq_true rfl) (Nat.le_of_ble_eq_true rfl) rfl h (fun rv t1 q => ?_)
  obtain ⟨v2, rfl, h⟩ := q
  show Rt g (d + 1) mX8_takes 5 [some (.ref 57), some (.int p0), some (.int p1)] [.int v2] t1 Q
  refine s_if_eq (tgt := 22) dX8_takes_5 (by decide) (fun c3 => ?_) (fun c3 => ?_)
  · replace h := h.1 c3
    refine s_iconst (v := (-1)) dX8_takes_22 (by decide) ?_
    exact t_iret dX8_takes_23 (NR_i rfl _) h
  · replace h := h.2 c3
    refine s_iload_n dX8_takes_8 rfl rfl ?_
    refine s_if_lt (tgt := 22) dX8_takes_9 (by decide) (fun c4 => ?_) (fun c4 => ?_)
    · replace h := h.1 c4
      refine s_iconst (v := (-1)) dX8_takes_22 (by decide) ?_
      exact t_iret dX8_takes_23 (NR_i rfl _) h
    · replace h := h.2 c4
      refine s_iload_n dX8_takes_12 rfl rfl ?_
      refine s_bipush (v := 10) dX8_takes_13 (by decide) ?_
      refine s_idiv dX8_takes_15 (by decide) ?_
      refine t_callS (M' := mX8_isFact) (k := 0) (As := [.int (p1 / 10)]) (rest := []) dX8_takes_16 ml_X8_159 mstX8_isFact rfl (Nat.le_of_ble_eq_true rfl) (Nat.le_of_ble_eq_true rfl) rfl h (fun rv t5 q => ?_)
      obtain ⟨v6, rfl, h⟩ := q
      show Rt g (d + 1) mX8_takes 19 [some (.ref 57), some (.int p0), some (.int p1)] [.int v6] t5 Q
      refine s_if_ne (tgt := 24) dX8_takes_19 (by decide) (fun c7 => ?_) (fun c7 => ?_)
      · replace h := h.1 c7
        refine s_aload_n dX8_takes_24 rfl rfl ?_
        refine t_callV (M' := mX8_beginMouths) (k := 1) (As := []) (rest := []) dX8_takes_25 ml_X8_172 miX8_beginMouths msX8_beginMouths rfl (by decide) rfl rfl (Nat.le_of_ble_eq_true rfl) (Nat.le_of_ble_eq_true rfl) rfl h (fun rv t8 q => ?_)
        obtain ⟨rfl, h⟩ := q
        show Rt g (d + 1) mX8_takes 28 [some (.ref 57), some (.int p0), some (.int p1)] [] t8 Q
        refine s_aload_n dX8_takes_28 rfl rfl ?_
        refine s_iload_n dX8_takes_29 rfl rfl ?_
        refine s_iload_n dX8_takes_30 rfl rfl ?_
        refine s_bipush (v := 10) dX8_takes_31 (by decide) ?_
        refine s_idiv dX8_takes_33 (by decide) ?_
        refine s_iload_n dX8_takes_34 rfl rfl ?_
        refine s_bipush (v := 10) dX8_takes_35 (by decide) ?_
        refine s_irem dX8_takes_37 (by decide) ?_
        refine t_callV (M' := mX8_takesBy) (k := 2) (As := [.int p0, .int (p1 / 10), .int (jr p1 10)]) (rest := []) dX8_takes_38 ml_X8_258 miX8_takesBy msX8_takesBy rfl (by decide) rfl rfl (Nat.le_of_ble_eq_true rfl) (Nat.le_of_ble_eq_true rfl) rfl h (fun rv t9 q => ?_)
        obtain ⟨v10, rfl, h⟩ := q
        show Rt g (d + 1) mX8_takes 41 [some (.ref 57), some (.int p0), some (.int p1)] [.int v10] t9 Q
        exact t_iret dX8_takes_41 (NR_i rfl _) h
      · replace h := h.2 c7
        refine s_iconst (v := (-1)) dX8_takes_22 (by decide) ?_
        exact t_iret dX8_takes_23 (NR_i rfl _) h
theorem bX8_lieOf_0 {g : Gt} {d : Nat} {t : Tt} {Q : Option Value → Tt → Prop} {p0 : Int32} {p1 : Int32} {p2 : Int32} (h : Rt g d mX8_takesBy 0 [some (.ref 57), some (.int p0), some (.int p1), some (.int p2), none, none] [] t (QI (fun v2 t1 => Rt g (d + 1) mX8_lieOf 15 [some (.ref 57), some (.int p0), none, some (.int p2), some (.int v2), some (.int 0), some (.int 0), none, none] [] t1 Q))) : Rt g (d + 1) mX8_lieOf 0 [some (.ref 57), some (.int p0), some (.int p1), some (.int p2), none, none, none, none, none] [] t Q := by
  refine s_aload_n dX8_lieOf_0 rfl rfl ?_
  refine s_iload_n dX8_lieOf_1 rfl rfl ?_
  refine s_iload_n dX8_lieOf_2 rfl rfl ?_
  refine s_iload_n dX8_lieOf_3 rfl rfl ?_
  refine t_callV (M' := mX8_takesBy) (k := 2) (As := [.int p0, .int p1, .int p2]) (rest := []) dX8_lieOf_4 ml_X8_258 miX8_takesBy msX8_takesBy rfl (by decide) rfl rfl (Nat.le_of_ble_eq_true rfl) (Nat.le_of_ble_eq_true rfl) rfl h (fun rv t1 q => ?_)
  obtain ⟨v2, rfl, h⟩ := q
  show Rt g (d + 1) mX8_lieOf 7 [some (.ref 57), some (.int p0), some (.int p1), some (.int p2), none, none, none, none, none] [.int v2] t1 Q
  refine s_istore dX8_lieOf_7 (by decide) rfl (L9 := [some (.ref 57), some (.int p0), some (.int p1), some (.int p2), some (.int v2), none, none, none, none]) rfl ?_
  refine s_iconst (v := 0) dX8_lieOf_9 (by decide) ?_
  refine s_istore dX8_lieOf_10 (by decide) rfl (L9 := [some (.ref 57), some (.int p0), some (.int p1), some (.int p2), some (.int v2), some (.int 0), none, none, none]) rfl ?_
  refine s_iconst (v := 0) dX8_lieOf_12 (by decide) ?_
  refine s_istore dX8_lieOf_13 (by decide) rfl (L9 := [some (.ref 57), some (.int p0), some (.int p1), some (.int p2), some (.int v2), some (.int 0), some (.int 0), none, none]) rfl ?_
  exact Rt.lc h (lc_some (lc_some (lc_none (lc_some (lc_some (lc_some (lc_some (lc_none (lc_none lc_nil)))))))))
theorem bX8_lieOf_15 {g : Gt} {d : Nat} {t : Tt} {Q : Option Value → Tt → Prop} {x1 : Int32} {x3 : Int32} {x4 : Int32} {x5 : Int32} {x6 : Int32} (h : (8 ≤ x6 → vp_in x1 7 ∧ (vp_in x1 7 ∧ Q (some (.int x5)) (pI t 75 x1.toNatClampNeg ((t.1 75 x1.toNatClampNeg) + 1)))) ∧ (¬ 8 ≤ x6 → ∀ z4 : Int32, z4 = (jr (x3 + x6) 8) → vp_in x1 7 ∧ ((¬ ((jsr (t.1 59 x1.toNatClampNeg) z4) &&& 1) = 1 → vp_in ((8 * x1) + z4) 56 ∧ ((x4 ≤ (t.1 74 ((8 * x1) + z4).toNatClampNeg) → Rt g (d + 1) mX8_lieOf 83 [some (.ref 57), some (.int x1), none, some (.int x3), some (.int x4), some (.int x5), some (.int x6), some (.int z4), none] [.int x4] t Q) ∧ (¬ x4 ≤ (t.1 74 ((8 * x1) + z4).toNatClampNeg) → vp_in ((8 * x1) + z4) 56 ∧ Rt g (d + 1) mX8_lieOf 83 [some (.ref 57), some (.int x1), none, some (.int x3), some (.int x4), some (.int x5), some (.int x6), some (.int z4), none] [.int (t.1 74 ((8 * x1) + z4).toNatClampNeg)] t Q))) ∧ (((jsr (t.1 59 x1.toNatClampNeg) z4) &&& 1) = 1 → Rt g (d + 1) mX8_lieOf 116 [some (.ref 57), some (.int x1), none, some (.int x3), some (.int x4), some (.int x5), some (.int x6), none, none] [] t Q)))) : Rt g (d + 1) mX8_lieOf 15 [some (.ref 57), some (.int x1), none, some (.int x3), some (.int x4), some (.int x5), some (.int x6), none, none] [] t Q := by
  refine s_iload dX8_lieOf_15 rfl ?_
  refine s_bipush (v := 8) dX8_lieOf_17 (by decide) ?_
  refine s_icmp_ge (tgt := 122) dX8_lieOf_19 (by decide) (fun c1 => ?_) (fun c1 => ?_)
  · replace h := h.1 c1
    refine s_aload_n dX8_lieOf_122 rfl rfl ?_
    refine t_getR (o' := 75) dX8_lieOf_123 fl_X8_67 rfl (by decide) rfl rfl ?_
    refine s_iload_n dX8_lieOf_126 rfl rfl ?_
    refine s_dup2 dX8_lieOf_127 rfl rfl ?_
    obtain ⟨g2, h⟩ := h
    refine t_iald dX8_lieOf_128 rfl (by decide) g2 ?_
    refine s_iconst (v := 1) dX8_lieOf_129 (by decide) ?_
    refine s_iadd dX8_lieOf_130 ?_
    obtain ⟨g3, h⟩ := h
    refine t_iast dX8_lieOf_131 rfl (by decide) g3 ?_
    refine s_iload dX8_lieOf_132 rfl ?_
    exact t_iret dX8_lieOf_134 (NR_i rfl _) h
  · replace h := h.2 c1
    refine s_iload_n dX8_lieOf_22 rfl rfl ?_
    refine s_iload dX8_lieOf_23 rfl ?_
    refine s_iadd dX8_lieOf_25 ?_
    refine s_bipush (v := 8) dX8_lieOf_26 (by decide) ?_
    refine s_irem dX8_lieOf_28 (by decide) ?_
    refine t_nmI (fun z4 ez4 => ?_)
    replace h := h z4 ez4
    refine s_istore dX8_lieOf_29 (by decide) rfl (L9 := [some (.ref 57), some (.int x1), none, some (.int x3), some (.int x4), some (.int x5), some (.int x6), some (.int z4), none]) rfl ?_
    refine s_aload_n dX8_lieOf_31 rfl rfl ?_
    refine t_getR (o' := 59) dX8_lieOf_32 fl_X8_13 rfl (by decide) rfl rfl ?_
    refine s_iload_n dX8_lieOf_35 rfl rfl ?_
    obtain ⟨g5, h⟩ := h
    refine t_iald dX8_lieOf_36 rfl (by decide) g5 ?_
    refine s_iload dX8_lieOf_37 rfl ?_
    refine s_ishr dX8_lieOf_39 ?_
    refine s_iconst (v := 1) dX8_lieOf_40 (by decide) ?_
    refine s_iand dX8_lieOf_41 ?_
    refine s_iconst (v := 1) dX8_lieOf_42 (by decide) ?_
    refine s_icmp_ne (tgt := 49) dX8_lieOf_43 (by decide) (fun c6 => ?_) (fun c6 => ?_)
    · replace h := h.1 c6
      refine s_aload_n dX8_lieOf_49 rfl rfl ?_
      refine t_getR (o' := 74) dX8_lieOf_50 fl_X8_64 rfl (by decide) rfl rfl ?_
      refine s_bipush (v := 8) dX8_lieOf_53 (by decide) ?_
      refine s_iload_n dX8_lieOf_55 rfl rfl ?_
      refine s_imul dX8_lieOf_56 ?_
      refine s_iload dX8_lieOf_57 rfl ?_
      refine s_iadd dX8_lieOf_59 ?_
      obtain ⟨g7, h⟩ := h
      refine t_iald dX8_lieOf_60 rfl (by decide) g7 ?_
      refine s_iload dX8_lieOf_61 rfl ?_
      refine s_icmp_ge (tgt := 81) dX8_lieOf_63 (by decide) (fun c8 => ?_) (fun c8 => ?_)
      · replace h := h.1 c8
        refine s_iload dX8_lieOf_81 rfl ?_
        exact h
      · replace h := h.2 c8
        refine s_aload_n dX8_lieOf_66 rfl rfl ?_
        refine t_getR (o' := 74) dX8_lieOf_67 fl_X8_64 rfl (by decide) rfl rfl ?_
        refine s_bipush (v := 8) dX8_lieOf_70 (by decide) ?_
        refine s_iload_n dX8_lieOf_72 rfl rfl ?_
        refine s_imul dX8_lieOf_73 ?_
        refine s_iload dX8_lieOf_74 rfl ?_
        refine s_iadd dX8_lieOf_76 ?_
        obtain ⟨g9, h⟩ := h
        refine t_iald dX8_lieOf_77 rfl (by decide) g9 ?_
        refine s_goto (tgt := 83) dX8_lieOf_78 (by decide) ?_
        exact h
    · replace h := h.2 c6
      refine s_goto (tgt := 116) dX8_lieOf_46 (by decide) ?_
      exact Rt.lc h (lc_some (lc_some (lc_none (lc_some (lc_some (lc_some (lc_some (lc_none (lc_none lc_nil)))))))))
theorem bX8_lieOf_83 {g : Gt} {d : Nat} {t : Tt} {Q : Option Value → Tt → Prop} {x1 : Int32} {x3 : Int32} {x4 : Int32} {x5 : Int32} {x6 : Int32} {x7 : Int32} {s0 : Int32} (h : vp_in ((8 * x1) + x7) 56 ∧ (vp_in ((8 * x1) + x7) 56 ∧ (∀ z3 : Int32, z3 = (x4 - s0) → ∀ z4 : Int32, z4 = (x5 + s0) → Rt g (d + 1) mX8_lieOf 116 [some (.ref 57), some (.int x1), none, some (.int x3), some (.int z3), some (.int z4), some (.int x6), none, none] [] (pI t 74 ((8 * x1) + x7).toNatClampNeg ((t.1 74 ((8 * x1) + x7).toNatClampNeg) - s0)) Q))) : Rt g (d + 1) mX8_lieOf 83 [some (.ref 57), some (.int x1), none, some (.int x3), some (.int x4), some (.int x5), some (.int x6), some (.int x7), none] [.int s0] t Q := by
  refine s_istore dX8_lieOf_83 (by decide) rfl (L9 := [some (.ref 57), some (.int x1), none, some (.int x3), some (.int x4), some (.int x5), some (.int x6), some (.int x7), some (.int s0)]) rfl ?_
  refine s_aload_n dX8_lieOf_85 rfl rfl ?_
  refine t_getR (o' := 74) dX8_lieOf_86 fl_X8_64 rfl (by decide) rfl rfl ?_
  refine s_bipush (v := 8) dX8_lieOf_89 (by decide) ?_
  refine s_iload_n dX8_lieOf_91 rfl rfl ?_
  refine s_imul dX8_lieOf_92 ?_
  refine s_iload dX8_lieOf_93 rfl ?_
  refine s_iadd dX8_lieOf_95 ?_
  refine s_dup2 dX8_lieOf_96 rfl rfl ?_
  obtain ⟨g1, h⟩ := h
  refine t_iald dX8_lieOf_97 rfl (by decide) g1 ?_
  refine s_iload dX8_lieOf_98 rfl ?_
  refine s_isub dX8_lieOf_100 ?_
  obtain ⟨g2, h⟩ := h
  refine t_iast dX8_lieOf_101 rfl (by decide) g2 ?_
  refine s_iload dX8_lieOf_102 rfl ?_
  refine s_iload dX8_lieOf_104 rfl ?_
  refine s_isub dX8_lieOf_106 ?_
  refine t_nmI (fun z3 ez3 => ?_)
  replace h := h z3 ez3
  refine s_istore dX8_lieOf_107 (by decide) rfl (L9 := [some (.ref 57), some (.int x1), none, some (.int x3), some (.int z3), some (.int x5), some (.int x6), some (.int x7), some (.int s0)]) rfl ?_
  refine s_iload dX8_lieOf_109 rfl ?_
  refine s_iload dX8_lieOf_111 rfl ?_
  refine s_iadd dX8_lieOf_113 ?_
  refine t_nmI (fun z4 ez4 => ?_)
  replace h := h z4 ez4
  refine s_istore dX8_lieOf_114 (by decide) rfl (L9 := [some (.ref 57), some (.int x1), none, some (.int x3), some (.int z3), some (.int z4), some (.int x6), some (.int x7), some (.int s0)]) rfl ?_
  exact Rt.lc h (lc_some (lc_some (lc_none (lc_some (lc_some (lc_some (lc_some (lc_none (lc_none lc_nil)))))))))
theorem bX8_lieOf_116 {g : Gt} {d : Nat} {t : Tt} {Q : Option Value → Tt → Prop} {x1 : Int32} {x3 : Int32} {x4 : Int32} {x5 : Int32} {x6 : Int32} (h : Rt g (d + 1) mX8_lieOf 15 [some (.ref 57), some (.int x1), none, some (.int x3), some (.int x4), some (.int x5), some (.int (x6 + 1)), none, none] [] t Q) : Rt g (d + 1) mX8_lieOf 116 [some (.ref 57), some (.int x1), none, some (.int x3), some (.int x4), some (.int x5), some (.int x6), none, none] [] t Q := by
  refine s_iinc (w := x6 + 1) dX8_lieOf_116 rfl (by rfl) (by decide) rfl (L9 := [some (.ref 57), some (.int x1), none, some (.int x3), some (.int x4), some (.int x5), some (.int (x6 + 1)), none, none]) rfl ?_
  refine s_goto (tgt := 15) dX8_lieOf_119 (by decide) ?_
  exact h
theorem bX8_sayOf_0 {g : Gt} {d : Nat} {t : Tt} {Q : Option Value → Tt → Prop} {p0 : Int32} {p1 : Int32} {p2 : Int32} {p3 : Int32} (h : vp_in p1 10 ∧ ((¬ p2 = (t.1 61 p1.toNatClampNeg) → Rt g d mX8_lieOf 0 [some (.ref 57), some (.int p0), some (.int p1), some (.int p3), none, none, none, none, none] [] t (QI (fun v4 t3 => Q (some (.int v4)) t3))) ∧ (p2 = (t.1 61 p1.toNatClampNeg) → Q (some (.int 0)) t))) : Rt g (d + 1) mX8_sayOf 0 [some (.ref 57), some (.int p0), some (.int p1), some (.int p2), some (.int p3)] [] t Q := by
  refine s_iload_n dX8_sayOf_0 rfl rfl ?_
  refine s_aload_n dX8_sayOf_1 rfl rfl ?_
  refine t_getR (o' := 61) dX8_sayOf_2 fl_X8_19 rfl (by decide) rfl rfl ?_
  refine s_iload_n dX8_sayOf_5 rfl rfl ?_
  obtain ⟨g1, h⟩ := h
  refine t_iald dX8_sayOf_6 rfl (by decide) g1 ?_
  refine s_icmp_ne (tgt := 14) dX8_sayOf_7 (by decide) (fun c2 => ?_) (fun c2 => ?_)
  · replace h := h.1 c2
    refine s_aload_n dX8_sayOf_14 rfl rfl ?_
    refine s_iload_n dX8_sayOf_15 rfl rfl ?_
    refine s_iload_n dX8_sayOf_16 rfl rfl ?_
    refine s_iload dX8_sayOf_17 rfl ?_
    refine t_callV (M' := mX8_lieOf) (k := 5) (As := [.int p0, .int p1, .int p3]) (rest := []) dX8_sayOf_19 ml_X8_261 miX8_lieOf msX8_lieOf rfl (by decide) rfl rfl (Nat.le_of_ble_eq_true rfl) (Nat.le_of_ble_eq_true rfl) rfl h (fun rv t3 q => ?_)
    obtain ⟨v4, rfl, h⟩ := q
    show Rt g (d + 1) mX8_sayOf 22 [some (.ref 57), some (.int p0), some (.int p1), some (.int p2), some (.int p3)] [.int v4] t3 Q
    exact t_iret dX8_sayOf_22 (NR_i rfl _) h
  · replace h := h.2 c2
    refine s_iconst (v := 0) dX8_sayOf_10 (by decide) ?_
    refine s_goto (tgt := 22) dX8_sayOf_11 (by decide) ?_
    exact t_iret dX8_sayOf_22 (NR_i rfl _) h
theorem bX8_rowFault_0 {g : Gt} {d : Nat} {t : Tt} {Q : Option Value → Tt → Prop} {p0 : Int32} (h : vp_in p0 6 ∧ ((¬ (t.1 89 p0.toNatClampNeg) = (-1) → vp_in p0 6 ∧ ((¬ (t.1 89 p0.toNatClampNeg) = (-2) → Q (some (.int (-12))) t) ∧ ((t.1 89 p0.toNatClampNeg) = (-2) → Q (some (.int 0)) t))) ∧ ((t.1 89 p0.toNatClampNeg) = (-1) → Q (some (.int (-11))) t))) : Rt g d mX8_rowFault 0 [some (.ref 57), some (.int p0)] [] t Q := by
  refine s_aload_n dX8_rowFault_0 rfl rfl ?_
  refine t_getR (o' := 89) dX8_rowFault_1 fl_X8_109 rfl (by decide) rfl rfl ?_
  refine s_iload_n dX8_rowFault_4 rfl rfl ?_
  obtain ⟨g1, h⟩ := h
  refine t_iald dX8_rowFault_5 rfl (by decide) g1 ?_
  refine s_iconst (v := (-1)) dX8_rowFault_6 (by decide) ?_
  refine s_icmp_ne (tgt := 15) dX8_rowFault_7 (by decide) (fun c2 => ?_) (fun c2 => ?_)
  · replace h := h.1 c2
    refine s_aload_n dX8_rowFault_15 rfl rfl ?_
    refine t_getR (o' := 89) dX8_rowFault_16 fl_X8_109 rfl (by decide) rfl rfl ?_
    refine s_iload_n dX8_rowFault_19 rfl rfl ?_
    obtain ⟨g3, h⟩ := h
    refine t_iald dX8_rowFault_20 rfl (by decide) g3 ?_
    refine s_bipush (v := (-2)) dX8_rowFault_21 (by decide) ?_
    refine s_icmp_ne (tgt := 30) dX8_rowFault_23 (by decide) (fun c4 => ?_) (fun c4 => ?_)
    · replace h := h.1 c4
      refine s_bipush (v := (-12)) dX8_rowFault_30 (by decide) ?_
      exact t_iret dX8_rowFault_32 (NR_i rfl _) h
    · replace h := h.2 c4
      refine s_iconst (v := 0) dX8_rowFault_26 (by decide) ?_
      refine s_goto (tgt := 32) dX8_rowFault_27 (by decide) ?_
      exact t_iret dX8_rowFault_32 (NR_i rfl _) h
  · replace h := h.2 c2
    refine s_bipush (v := (-11)) dX8_rowFault_10 (by decide) ?_
    refine s_goto (tgt := 32) dX8_rowFault_12 (by decide) ?_
    exact t_iret dX8_rowFault_32 (NR_i rfl _) h
theorem bX8_seenAt_0 {g : Gt} {d : Nat} {t : Tt} {Q : Option Value → Tt → Prop} {p0 : Int32} {p1 : Int32} (h : vp_in ((60 * p0) + p1) 360 ∧ Q (some (.int ((t.2.1 91 ((60 * p0) + p1).toNatClampNeg).toInt32))) t) : Rt g d mX8_seenAt 0 [some (.ref 57), some (.int p0), some (.int p1)] [] t Q := by
  refine s_aload_n dX8_seenAt_0 rfl rfl ?_
  refine t_getR (o' := 91) dX8_seenAt_1 fl_X8_115 rfl (by decide) rfl rfl ?_
  refine s_bipush (v := 60) dX8_seenAt_4 (by decide) ?_
  refine s_iload_n dX8_seenAt_6 rfl rfl ?_
  refine s_imul dX8_seenAt_7 ?_
  refine s_iload_n dX8_seenAt_8 rfl rfl ?_
  refine s_iadd dX8_seenAt_9 ?_
  obtain ⟨g1, h⟩ := h
  refine t_lald dX8_seenAt_10 rfl (by decide) g1 ?_
  refine s_l2i dX8_seenAt_11 ?_
  exact t_iret dX8_seenAt_12 (NR_i rfl _) h
theorem bX8_layTrial_0 {g : Gt} {d : Nat} {t : Tt} {Q : Option Value → Tt → Prop} {p0 : Int32} (h : Rt g (d + 1) mX8_layTrial 7 [some (.ref 57), some (.int p0), some (.int 0)] [] (pI t 57 33 0) Q) : Rt g (d + 1) mX8_layTrial 0 [some (.ref 57), some (.int p0), none] [] t Q := by
  refine s_aload_n dX8_layTrial_0 rfl rfl ?_
  refine s_iconst (v := 0) dX8_layTrial_1 (by decide) ?_
  refine t_putI dX8_layTrial_2 fl_X8_264 rfl (by decide) rfl rfl rfl rfl ?_
  refine s_iconst (v := 0) dX8_layTrial_5 (by decide) ?_
  refine s_istore_n dX8_layTrial_6 rfl (by decide) rfl (L9 := [some (.ref 57), some (.int p0), some (.int 0)]) rfl ?_
  exact h
theorem bX8_layTrial_7 {g : Gt} {d : Nat} {t : Tt} {Q : Option Value → Tt → Prop} {x1 : Int32} {x2 : Int32} (h : vp_in x1 6 ∧ (((t.1 90 x1.toNatClampNeg) ≤ ((4 * x2) + 3) → Q none t) ∧ (¬ (t.1 90 x1.toNatClampNeg) ≤ ((4 * x2) + 3) → (15 ≤ x2 → Q none t) ∧ (¬ 15 ≤ x2 → Rt g d mX8_seenAt 0 [some (.ref 57), some (.int x1), some (.int (4 * x2))] [] t (QI (fun v5 t4 => Rt g d mX8_isPerson 0 [some (.ref 57), some (.int v5)] [] t4 (QI (fun v7 t6 => (v7 = 0 → Q none t6) ∧ (¬ v7 = 0 → Rt g d mX8_seenAt 0 [some (.ref 57), some (.int x1), some (.int ((4 * x2) + 1))] [] t6 (QI (fun v10 t9 => Rt g d mX8_isFact 0 [some (.int v10)] [] t9 (QI (fun v12 t11 => (v12 = 0 → Q none t11) ∧ (¬ v12 = 0 → Rt g d mX8_seenAt 0 [some (.ref 57), some (.int x1), some (.int ((4 * x2) + 2))] [] t11 (QI (fun v15 t14 => Rt g d mX8_in 0 [some (.int v15), some (.int 0), some (.int 1)] [] t14 (QI (fun v17 t16 => (v17 = 0 → Q none t16) ∧ (¬ v17 = 0 → Rt g d mX8_seenAt 0 [some (.ref 57), some (.int x1), some (.int ((4 * x2) + 3))] [] t16 (QI (fun v20 t19 => Rt g d mX8_in 0 [some (.int v20), some (.int 0), some (.int 9)] [] t19 (QI (fun v22 t21 => (¬ v22 = 0 → Rt g d mX8_seenAt 0 [some (.ref 57), some (.int x1), some (.int (4 * x2))] [] t21 (QI (fun v25 t24 => vp_in x2 15 ∧ (Rt g d mX8_seenAt 0 [some (.ref 57), some (.int x1), some (.int ((4 * x2) + 1))] [] (pI t24 76 x2.toNatClampNeg v25) (QI (fun v28 t27 => vp_in x2 15 ∧ (Rt g d mX8_seenAt 0 [some (.ref 57), some (.int x1), some (.int ((4 * x2) + 2))] [] (pI t27 77 x2.toNatClampNeg v28) (QI (fun v31 t30 => vp_in x2 15 ∧ (Rt g d mX8_seenAt 0 [some (.ref 57), some (.int x1), some (.int ((4 * x2) + 3))] [] (pI t30 78 x2.toNatClampNeg v31) (QI (fun v34 t33 => vp_in x2 15 ∧ Rt g (d + 1) mX8_layTrial 7 [some (.ref 57), some (.int x1), some (.int (x2 + 1))] [] (pI (pI t33 79 x2.toNatClampNeg v34) 57 33 (((pI t33 79 x2.toNatClampNeg v34).1 57 33) + 1)) Q)))))))))))) ∧ (v22 = 0 → Q none t21)))))))))))))))))))))))) : Rt g (d + 1) mX8_layTrial 7 [some (.ref 57), some (.int x1), some (.int x2)] [] t Q := by
  refine s_iconst (v := 4) dX8_layTrial_7 (by decide) ?_
  refine s_iload_n dX8_layTrial_8 rfl rfl ?_
  refine s_imul dX8_layTrial_9 ?_
  refine s_iconst (v := 3) dX8_layTrial_10 (by decide) ?_
  refine s_iadd dX8_layTrial_11 ?_
  refine s_aload_n dX8_layTrial_12 rfl rfl ?_
  refine t_getR (o' := 90) dX8_layTrial_13 fl_X8_112 rfl (by decide) rfl rfl ?_
  refine s_iload_n dX8_layTrial_16 rfl rfl ?_
  obtain ⟨g1, h⟩ := h
  refine t_iald dX8_layTrial_17 rfl (by decide) g1 ?_
  refine s_icmp_ge (tgt := 174) dX8_layTrial_18 (by decide) (fun c2 => ?_) (fun c2 => ?_)
  · replace h := h.1 c2
    exact t_vret dX8_layTrial_174 rfl h
  · replace h := h.2 c2
    refine s_iload_n dX8_layTrial_21 rfl rfl ?_
    refine s_bipush (v := 15) dX8_layTrial_22 (by decide) ?_
    refine s_icmp_ge (tgt := 174) dX8_layTrial_24 (by decide) (fun c3 => ?_) (fun c3 => ?_)
    · replace h := h.1 c3
      exact t_vret dX8_layTrial_174 rfl h
    · replace h := h.2 c3
      refine s_aload_n dX8_layTrial_27 rfl rfl ?_
      refine s_aload_n dX8_layTrial_28 rfl rfl ?_
      refine s_iload_n dX8_layTrial_29 rfl rfl ?_
      refine s_iconst (v := 4) dX8_layTrial_30 (by decide) ?_
      refine s_iload_n dX8_layTrial_31 rfl rfl ?_
      refine s_imul dX8_layTrial_32 ?_
      refine t_callV (M' := mX8_seenAt) (k := 0) (As := [.int x1, .int (4 * x2)]) (rest := [.ref 57]) dX8_layTrial_33 ml_X8_267 miX8_seenAt msX8_seenAt rfl (by decide) rfl rfl (Nat.le_of_ble_eq_true rfl) (Nat.le_of_ble_eq_true rfl) rfl h (fun rv t4 q => ?_)
      obtain ⟨v5, rfl, h⟩ := q
      show Rt g (d + 1) mX8_layTrial 36 [some (.ref 57), some (.int x1), some (.int x2)] [.int v5, .ref 57] t4 Q
      refine t_callV (M' := mX8_isPerson) (k := 0) (As := [.int v5]) (rest := []) dX8_layTrial_36 ml_X8_156 miX8_isPerson msX8_isPerson rfl (by decide) rfl rfl (Nat.le_of_ble_eq_true rfl) (Nat.le_of_ble_eq_true rfl) rfl h (fun rv t6 q => ?_)
      obtain ⟨v7, rfl, h⟩ := q
      show Rt g (d + 1) mX8_layTrial 39 [some (.ref 57), some (.int x1), some (.int x2)] [.int v7] t6 Q
      refine s_if_eq (tgt := 95) dX8_layTrial_39 (by decide) (fun c8 => ?_) (fun c8 => ?_)
      · replace h := h.1 c8
        exact t_vret dX8_layTrial_95 rfl h
      · replace h := h.2 c8
        refine s_aload_n dX8_layTrial_42 rfl rfl ?_
        refine s_iload_n dX8_layTrial_43 rfl rfl ?_
        refine s_iconst (v := 4) dX8_layTrial_44 (by decide) ?_
        refine s_iload_n dX8_layTrial_45 rfl rfl ?_
        refine s_imul dX8_layTrial_46 ?_
        refine s_iconst (v := 1) dX8_layTrial_47 (by decide) ?_
        refine s_iadd dX8_layTrial_48 ?_
        refine t_callV (M' := mX8_seenAt) (k := 0) (As := [.int x1, .int ((4 * x2) + 1)]) (rest := []) dX8_layTrial_49 ml_X8_267 miX8_seenAt msX8_seenAt rfl (by decide) rfl rfl (Nat.le_of_ble_eq_true rfl) (Nat.le_of_ble_eq_true rfl) rfl h (fun rv t9 q => ?_)
        obtain ⟨v10, rfl, h⟩ := q
        show Rt g (d + 1) mX8_layTrial 52 [some (.ref 57), some (.int x1), some (.int x2)] [.int v10] t9 Q
        refine t_callS (M' := mX8_isFact) (k := 0) (As := [.int v10]) (rest := []) dX8_layTrial_52 ml_X8_159 mstX8_isFact rfl (Nat.le_of_ble_eq_true rfl) (Nat.le_of_ble_eq_true rfl) rfl h (fun rv t11 q => ?_)
        obtain ⟨v12, rfl, h⟩ := q
        show Rt g (d + 1) mX8_layTrial 55 [some (.ref 57), some (.int x1), some (.int x2)] [.int v12] t11 Q
        refine s_if_eq (tgt := 95) dX8_layTrial_55 (by decide) (fun c13 => ?_) (fun c13 => ?_)
        · replace h := h.1 c13
          exact t_vret dX8_layTrial_95 rfl h
        · replace h := h.2 c13
          refine s_aload_n dX8_layTrial_58 rfl rfl ?_
          refine s_iload_n dX8_layTrial_59 rfl rfl ?_
          refine s_iconst (v := 4) dX8_layTrial_60 (by decide) ?_
          refine s_iload_n dX8_layTrial_61 rfl rfl ?_
          refine s_imul dX8_layTrial_62 ?_
          refine s_iconst (v := 2) dX8_layTrial_63 (by decide) ?_
          refine s_iadd dX8_layTrial_64 ?_
          refine t_callV (M' := mX8_seenAt) (k := 0) (As := [.int x1, .int ((4 * x2) + 2)]) (rest := []) dX8_layTrial_65 ml_X8_267 miX8_seenAt msX8_seenAt rfl (by decide) rfl rfl (Nat.le_of_ble_eq_true rfl) (Nat.le_of_ble_eq_true rfl) rfl h (fun rv t14 q => ?_)
          obtain ⟨v15, rfl, h⟩ := q
          show Rt g (d + 1) mX8_layTrial 68 [some (.ref 57), some (.int x1), some (.int x2)] [.int v15] t14 Q
          refine s_iconst (v := 0) dX8_layTrial_68 (by decide) ?_
          refine s_iconst (v := 1) dX8_layTrial_69 (by decide) ?_
          refine t_callS (M' := mX8_in) (k := 0) (As := [.int v15, .int 0, .int 1]) (rest := []) dX8_layTrial_70 ml_X8_128 mstX8_in rfl (Nat.le_of_ble_eq_true rfl) (Nat.le_of_ble_eq_true rfl) rfl h (fun rv t16 q => ?_)
          obtain ⟨v17, rfl, h⟩ := q
          show Rt g (d + 1) mX8_layTrial 73 [some (.ref 57), some (.int x1), some (.int x2)] [.int v17] t16 Q
          refine s_if_eq (tgt := 95) dX8_layTrial_73 (by decide) (fun c18 => ?_) (fun c18 => ?_)
          · replace h := h.1 c18
            exact t_vret dX8_layTrial_95 rfl h
          · replace h := h.2 c18
            refine s_aload_n dX8_layTrial_76 rfl rfl ?_
            refine s_iload_n dX8_layTrial_77 rfl rfl ?_
            refine s_iconst (v := 4) dX8_layTrial_78 (by decide) ?_
            refine s_iload_n dX8_layTrial_79 rfl rfl ?_
            refine s_imul dX8_layTrial_80 ?_
            refine s_iconst (v := 3) dX8_layTrial_81 (by decide) ?_
            refine s_iadd dX8_layTrial_82 ?_
            refine t_callV (M' := mX8_seenAt) (k := 0) (As := [.int x1, .int ((4 * x2) + 3)]) (rest := []) dX8_layTrial_83 ml_X8_267 miX8_seenAt msX8_seenAt rfl (by decide) rfl rfl (Nat.le_of_ble_eq_true rfl) (Nat.le_of_ble_eq_true rfl) rfl h (fun rv t19 q => ?_)
            obtain ⟨v20, rfl, h⟩ := q
            show Rt g (d + 1) mX8_layTrial 86 [some (.ref 57), some (.int x1), some (.int x2)] [.int v20] t19 Q
            refine s_iconst (v := 0) dX8_layTrial_86 (by decide) ?_
            refine s_bipush (v := 9) dX8_layTrial_87 (by decide) ?_
            refine t_callS (M' := mX8_in) (k := 0) (As := [.int v20, .int 0, .int 9]) (rest := []) dX8_layTrial_89 ml_X8_128 mstX8_in rfl (Nat.le_of_ble_eq_true rfl) (Nat.le_of_ble_eq_true rfl) rfl h (fun rv t21 q => ?_)
            obtain ⟨v22, rfl, h⟩ := q
            show Rt g (d + 1) mX8_layTrial 92 [some (.ref 57), some (.int x1), some (.int x2)] [.int v22] t21 Q
            refine s_if_ne (tgt := 96) dX8_layTrial_92 (by decide) (fun c23 => ?_) (fun c23 => ?_)
            · replace h := h.1 c23
              refine s_aload_n dX8_layTrial_96 rfl rfl ?_
              refine t_getR (o' := 76) dX8_layTrial_97 fl_X8_70 rfl (by decide) rfl rfl ?_
              refine s_iload_n dX8_layTrial_100 rfl rfl ?_
              refine s_aload_n dX8_layTrial_101 rfl rfl ?_
              refine s_iload_n dX8_layTrial_102 rfl rfl ?_
              refine s_iconst (v := 4) dX8_layTrial_103 (by decide) ?_
              refine s_iload_n dX8_layTrial_104 rfl rfl ?_
              refine s_imul dX8_layTrial_105 ?_
              refine t_callV (M' := mX8_seenAt) (k := 0) (As := [.int x1, .int (4 * x2)]) (rest := [.int x2, .ref 76]) dX8_layTrial_106 ml_X8_267 miX8_seenAt msX8_seenAt rfl (by decide) rfl rfl (Nat.le_of_ble_eq_true rfl) (Nat.le_of_ble_eq_true rfl) rfl h (fun rv t24 q => ?_)
              obtain ⟨v25, rfl, h⟩ := q
              show Rt g (d + 1) mX8_layTrial 109 [some (.ref 57), some (.int x1), some (.int x2)] [.int v25, .int x2, .ref 76] t24 Q
              obtain ⟨g26, h⟩ := h
              refine t_iast dX8_layTrial_109 rfl (by decide) g26 ?_
              refine s_aload_n dX8_layTrial_110 rfl rfl ?_
              refine t_getR (o' := 77) dX8_layTrial_111 fl_X8_73 rfl (by decide) rfl rfl ?_
              refine s_iload_n dX8_layTrial_114 rfl rfl ?_
              refine s_aload_n dX8_layTrial_115 rfl rfl ?_
              refine s_iload_n dX8_layTrial_116 rfl rfl ?_
              refine s_iconst (v := 4) dX8_layTrial_117 (by decide) ?_
              refine s_iload_n dX8_layTrial_118 rfl rfl ?_
              refine s_imul dX8_layTrial_119 ?_
              refine s_iconst (v := 1) dX8_layTrial_120 (by decide) ?_
              refine s_iadd dX8_layTrial_121 ?_
              refine t_callV (M' := mX8_seenAt) (k := 0) (As := [.int x1, .int ((4 * x2) + 1)]) (rest := [.int x2, .ref 77]) dX8_layTrial_122 ml_X8_267 miX8_seenAt msX8_seenAt rfl (by decide) rfl rfl (Nat.le_of_ble_eq_true rfl) (Nat.le_of_ble_eq_true rfl) rfl h (fun rv t27 q => ?_)
              obtain ⟨v28, rfl, h⟩ := q
              show Rt g (d + 1) mX8_layTrial 125 [some (.ref 57), some (.int x1), some (.int x2)] [.int v28, .int x2, .ref 77] t27 Q
              obtain ⟨g29, h⟩ := h
              refine t_iast dX8_layTrial_125 rfl (by decide) g29 ?_
              refine s_aload_n dX8_layTrial_126 rfl rfl ?_
              refine t_getR (o' := 78) dX8_layTrial_127 fl_X8_76 rfl (by decide) rfl rfl ?_
              refine s_iload_n dX8_layTrial_130 rfl rfl ?_
              refine s_aload_n dX8_layTrial_131 rfl rfl ?_
              refine s_iload_n dX8_layTrial_132 rfl rfl ?_
              refine s_iconst (v := 4) dX8_layTrial_133 (by decide) ?_
              refine s_iload_n dX8_layTrial_134 rfl rfl ?_
              refine s_imul dX8_layTrial_135 ?_
              refine s_iconst (v := 2) dX8_layTrial_136 (by decide) ?_
              refine s_iadd dX8_layTrial_137 ?_
              refine t_callV (M' := mX8_seenAt) (k := 0) (As := [.int x1, .int ((4 * x2) + 2)]) (rest := [.int x2, .ref 78]) dX8_layTrial_138 ml_X8_267 miX8_seenAt msX8_seenAt rfl (by decide) rfl rfl (Nat.le_of_ble_eq_true rfl) (Nat.le_of_ble_eq_true rfl) rfl h (fun rv t30 q => ?_)
              obtain ⟨v31, rfl, h⟩ := q
              show Rt g (d + 1) mX8_layTrial 141 [some (.ref 57), some (.int x1), some (.int x2)] [.int v31, .int x2, .ref 78] t30 Q
              obtain ⟨g32, h⟩ := h
              refine t_iast dX8_layTrial_141 rfl (by decide) g32 ?_
              refine s_aload_n dX8_layTrial_142 rfl rfl ?_
              refine t_getR (o' := 79) dX8_layTrial_143 fl_X8_79 rfl (by decide) rfl rfl ?_
              refine s_iload_n dX8_layTrial_146 rfl rfl ?_
              refine s_aload_n dX8_layTrial_147 rfl rfl ?_
              refine s_iload_n dX8_layTrial_148 rfl rfl ?_
              refine s_iconst (v := 4) dX8_layTrial_149 (by decide) ?_
              refine s_iload_n dX8_layTrial_150 rfl rfl ?_
              refine s_imul dX8_layTrial_151 ?_
              refine s_iconst (v := 3) dX8_layTrial_152 (by decide) ?_
              refine s_iadd dX8_layTrial_153 ?_
              refine t_callV (M' := mX8_seenAt) (k := 0) (As := [.int x1, .int ((4 * x2) + 3)]) (rest := [.int x2, .ref 79]) dX8_layTrial_154 ml_X8_267 miX8_seenAt msX8_seenAt rfl (by decide) rfl rfl (Nat.le_of_ble_eq_true rfl) (Nat.le_of_ble_eq_true rfl) rfl h (fun rv t33 q => ?_)
              obtain ⟨v34, rfl, h⟩ := q
              show Rt g (d + 1) mX8_layTrial 157 [some (.ref 57), some (.int x1), some (.int x2)] [.int v34, .int x2, .ref 79] t33 Q
              obtain ⟨g35, h⟩ := h
              refine t_iast dX8_layTrial_157 rfl (by decide) g35 ?_
              refine s_aload_n dX8_layTrial_158 rfl rfl ?_
              refine s_dup dX8_layTrial_159 rfl ?_
              refine t_getI dX8_layTrial_160 fl_X8_264 rfl (by decide) rfl ?_
              refine s_iconst (v := 1) dX8_layTrial_163 (by decide) ?_
              refine s_iadd dX8_layTrial_164 ?_
              refine t_putI dX8_layTrial_165 fl_X8_264 rfl (by decide) rfl rfl rfl rfl ?_
              refine s_iinc (w := x2 + 1) dX8_layTrial_168 rfl (by rfl) (by decide) rfl (L9 := [some (.ref 57), some (.int x1), some (.int (x2 + 1))]) rfl ?_
              refine s_goto (tgt := 7) dX8_layTrial_171 (by decide) ?_
              exact h
            · replace h := h.2 c23
              exact t_vret dX8_layTrial_95 rfl h
theorem bX8_goTrial_0 {g : Gt} {d : Nat} {t : Tt} {Q : Option Value → Tt → Prop} {p0 : Int32} (h : Rt g d mX8_beginMouths 0 [some (.ref 57), none] [] t (QV (fun t1 => Rt g (d + 1) mX8_goTrial 6 [some (.ref 57), some (.int p0), some (.int 0), none, none] [] t1 Q))) : Rt g (d + 1) mX8_goTrial 0 [some (.ref 57), some (.int p0), none, none, none] [] t Q := by
  refine s_aload_n dX8_goTrial_0 rfl rfl ?_
  refine t_callV (M' := mX8_beginMouths) (k := 1) (As := []) (rest := []) dX8_goTrial_1 ml_X8_172 miX8_beginMouths msX8_beginMouths rfl (by decide) rfl rfl (Nat.le_of_ble_eq_true rfl) (Nat.le_of_ble_eq_true rfl) rfl h (fun rv t1 q => ?_)
  obtain ⟨rfl, h⟩ := q
  show Rt g (d + 1) mX8_goTrial 4 [some (.ref 57), some (.int p0), none, none, none] [] t1 Q
  refine s_iconst (v := 0) dX8_goTrial_4 (by decide) ?_
  refine s_istore_n dX8_goTrial_5 rfl (by decide) rfl (L9 := [some (.ref 57), some (.int p0), some (.int 0), none, none]) rfl ?_
  exact h
theorem bX8_goTrial_6 {g : Gt} {d : Nat} {t : Tt} {Q : Option Value → Tt → Prop} {x1 : Int32} {x2 : Int32} (h : (70 ≤ x2 → Rt g (d + 1) mX8_goTrial 38 [some (.ref 57), some (.int x1), some (.int 0), none, none] [] (pI (pI t 57 35 (-2)) 57 36 0) Q) ∧ (¬ 70 ≤ x2 → vp_in x2 70 ∧ Rt g (d + 1) mX8_goTrial 6 [some (.ref 57), some (.int x1), some (.int (x2 + 1)), none, none] [] (pI t 80 x2.toNatClampNeg (-1)) Q)) : Rt g (d + 1) mX8_goTrial 6 [some (.ref 57), some (.int x1), some (.int x2), none, none] [] t Q := by
  refine s_iload_n dX8_goTrial_6 rfl rfl ?_
  refine s_bipush (v := 70) dX8_goTrial_7 (by decide) ?_
  refine s_icmp_ge (tgt := 25) dX8_goTrial_9 (by decide) (fun c1 => ?_) (fun c1 => ?_)
  · replace h := h.1 c1
    refine s_aload_n dX8_goTrial_25 rfl rfl ?_
    refine s_bipush (v := (-2)) dX8_goTrial_26 (by decide) ?_
    refine t_putI dX8_goTrial_28 fl_X8_270 rfl (by decide) rfl rfl rfl rfl ?_
    refine s_aload_n dX8_goTrial_31 rfl rfl ?_
    refine s_iconst (v := 0) dX8_goTrial_32 (by decide) ?_
    refine t_putI dX8_goTrial_33 fl_X8_273 rfl (by decide) rfl rfl rfl rfl ?_
    refine s_iconst (v := 0) dX8_goTrial_36 (by decide) ?_
    refine s_istore_n dX8_goTrial_37 rfl (by decide) rfl (L9 := [some (.ref 57), some (.int x1), some (.int 0), none, none]) rfl ?_
    exact h
  · replace h := h.2 c1
    refine s_aload_n dX8_goTrial_12 rfl rfl ?_
    refine t_getR (o' := 80) dX8_goTrial_13 fl_X8_82 rfl (by decide) rfl rfl ?_
    refine s_iload_n dX8_goTrial_16 rfl rfl ?_
    refine s_iconst (v := (-1)) dX8_goTrial_17 (by decide) ?_
    obtain ⟨g2, h⟩ := h
    refine t_iast dX8_goTrial_18 rfl (by decide) g2 ?_
    refine s_iinc (w := x2 + 1) dX8_goTrial_19 rfl (by rfl) (by decide) rfl (L9 := [some (.ref 57), some (.int x1), some (.int (x2 + 1)), none, none]) rfl ?_
    refine s_goto (tgt := 6) dX8_goTrial_22 (by decide) ?_
    exact h
theorem bX8_goTrial_38 {g : Gt} {d : Nat} {t : Tt} {Q : Option Value → Tt → Prop} {x1 : Int32} {x2 : Int32} (h : ((t.1 57 33) ≤ x2 → Q none t) ∧ (¬ (t.1 57 33) ≤ x2 → vp_in x2 15 ∧ (∀ z3 : Int32, z3 = (t.1 76 x2.toNatClampNeg) → vp_in x2 15 ∧ (∀ z5 : Int32, z5 = ((t.1 78 x2.toNatClampNeg) ^^^ ((jsr x1 x2) &&& 1)) → vp_in x2 15 ∧ (vp_in (t.1 77 x2.toNatClampNeg) 10 ∧ ((z5 = (t.1 61 (t.1 77 x2.toNatClampNeg).toNatClampNeg) → Rt g (d + 1) mX8_goTrial 95 [some (.ref 57), some (.int x1), some (.int x2), some (.int z3), some (.int z5)] [] t Q) ∧ (¬ z5 = (t.1 61 (t.1 77 x2.toNatClampNeg).toNatClampNeg) → Rt g (d + 1) mX8_goTrial 95 [some (.ref 57), some (.int x1), some (.int x2), some (.int z3), some (.int z5)] [] (pI t 57 36 ((t.1 57 36) ||| (jsl 1 z3))) Q))))))) : Rt g (d + 1) mX8_goTrial 38 [some (.ref 57), some (.int x1), some (.int x2), none, none] [] t Q := by
  refine s_iload_n dX8_goTrial_38 rfl rfl ?_
  refine s_aload_n dX8_goTrial_39 rfl rfl ?_
  refine t_getI dX8_goTrial_40 fl_X8_264 rfl (by decide) rfl ?_
  refine s_icmp_ge (tgt := 159) dX8_goTrial_43 (by decide) (fun c1 => ?_) (fun c1 => ?_)
  · replace h := h.1 c1
    exact t_vret dX8_goTrial_159 rfl h
  · replace h := h.2 c1
    refine s_aload_n dX8_goTrial_46 rfl rfl ?_
    refine t_getR (o' := 76) dX8_goTrial_47 fl_X8_70 rfl (by decide) rfl rfl ?_
    refine s_iload_n dX8_goTrial_50 rfl rfl ?_
    obtain ⟨g2, h⟩ := h
    refine t_iald dX8_goTrial_51 rfl (by decide) g2 ?_
    refine t_nmI (fun z3 ez3 => ?_)
    replace h := h z3 ez3
    refine s_istore_n dX8_goTrial_52 rfl (by decide) rfl (L9 := [some (.ref 57), some (.int x1), some (.int x2), some (.int z3), none]) rfl ?_
    refine s_aload_n dX8_goTrial_53 rfl rfl ?_
    refine t_getR (o' := 78) dX8_goTrial_54 fl_X8_76 rfl (by decide) rfl rfl ?_
    refine s_iload_n dX8_goTrial_57 rfl rfl ?_
    obtain ⟨g4, h⟩ := h
    refine t_iald dX8_goTrial_58 rfl (by decide) g4 ?_
    refine s_iload_n dX8_goTrial_59 rfl rfl ?_
    refine s_iload_n dX8_goTrial_60 rfl rfl ?_
    refine s_ishr dX8_goTrial_61 ?_
    refine s_iconst (v := 1) dX8_goTrial_62 (by decide) ?_
    refine s_iand dX8_goTrial_63 ?_
    refine s_ixor dX8_goTrial_64 ?_
    refine t_nmI (fun z5 ez5 => ?_)
    replace h := h z5 ez5
    refine s_istore dX8_goTrial_65 (by decide) rfl (L9 := [some (.ref 57), some (.int x1), some (.int x2), some (.int z3), some (.int z5)]) rfl ?_
    refine s_iload dX8_goTrial_67 rfl ?_
    refine s_aload_n dX8_goTrial_69 rfl rfl ?_
    refine t_getR (o' := 61) dX8_goTrial_70 fl_X8_19 rfl (by decide) rfl rfl ?_
    refine s_aload_n dX8_goTrial_73 rfl rfl ?_
    refine t_getR (o' := 77) dX8_goTrial_74 fl_X8_73 rfl (by decide) rfl rfl ?_
    refine s_iload_n dX8_goTrial_77 rfl rfl ?_
    obtain ⟨g6, h⟩ := h
    refine t_iald dX8_goTrial_78 rfl (by decide) g6 ?_
    obtain ⟨g7, h⟩ := h
    refine t_iald dX8_goTrial_79 rfl (by decide) g7 ?_
    refine s_icmp_eq (tgt := 95) dX8_goTrial_80 (by decide) (fun c8 => ?_) (fun c8 => ?_)
    · replace h := h.1 c8
      exact h
    · replace h := h.2 c8
      refine s_aload_n dX8_goTrial_83 rfl rfl ?_
      refine s_dup dX8_goTrial_84 rfl ?_
      refine t_getI dX8_goTrial_85 fl_X8_273 rfl (by decide) rfl ?_
      refine s_iconst (v := 1) dX8_goTrial_88 (by decide) ?_
      refine s_iload_n dX8_goTrial_89 rfl rfl ?_
      refine s_ishl dX8_goTrial_90 ?_
      refine s_ior dX8_goTrial_91 ?_
      refine t_putI dX8_goTrial_92 fl_X8_273 rfl (by decide) rfl rfl rfl rfl ?_
      exact h
theorem bX8_goTrial_95 {g : Gt} {d : Nat} {t : Tt} {Q : Option Value → Tt → Prop} {x1 : Int32} {x2 : Int32} {x3 : Int32} {x4 : Int32} (h : vp_in x2 15 ∧ (vp_in x2 15 ∧ (Rt g d mX8_sayOf 0 [some (.ref 57), some (.int x3), some (.int (t.1 77 x2.toNatClampNeg)), some (.int x4), some (.int (t.1 79 x2.toNatClampNeg))] [] t (QI (fun v4 t3 => vp_in x2 15 ∧ (vp_in ((10 * x3) + (t3.1 77 x2.toNatClampNeg)) 70 ∧ ((0 ≤ ((pI t3 80 ((10 * x3) + (t3.1 77 x2.toNatClampNeg)).toNatClampNeg x4).1 57 35) → Rt g (d + 1) mX8_goTrial 153 [some (.ref 57), some (.int x1), some (.int x2), none, none] [] (pI t3 80 ((10 * x3) + (t3.1 77 x2.toNatClampNeg)).toNatClampNeg x4) Q) ∧ (¬ 0 ≤ ((pI t3 80 ((10 * x3) + (t3.1 77 x2.toNatClampNeg)).toNatClampNeg x4).1 57 35) → Rt g d mX8_isGone 0 [some (.ref 57), some (.int x3)] [] (pI t3 80 ((10 * x3) + (t3.1 77 x2.toNatClampNeg)).toNatClampNeg x4) (QI (fun v9 t8 => (v9 = 0 → Rt g (d + 1) mX8_goTrial 153 [some (.ref 57), some (.int x1), some (.int x2), none, none] [] t8 Q) ∧ (¬ v9 = 0 → Rt g (d + 1) mX8_goTrial 153 [some (.ref 57), some (.int x1), some (.int x2), none, none] [] (pI t8 57 35 x2) Q))))))))))) : Rt g (d + 1) mX8_goTrial 95 [some (.ref 57), some (.int x1), some (.int x2), some (.int x3), some (.int x4)] [] t Q := by
  refine s_aload_n dX8_goTrial_95 rfl rfl ?_
  refine s_iload_n dX8_goTrial_96 rfl rfl ?_
  refine s_aload_n dX8_goTrial_97 rfl rfl ?_
  refine t_getR (o' := 77) dX8_goTrial_98 fl_X8_73 rfl (by decide) rfl rfl ?_
  refine s_iload_n dX8_goTrial_101 rfl rfl ?_
  obtain ⟨g1, h⟩ := h
  refine t_iald dX8_goTrial_102 rfl (by decide) g1 ?_
  refine s_iload dX8_goTrial_103 rfl ?_
  refine s_aload_n dX8_goTrial_105 rfl rfl ?_
  refine t_getR (o' := 79) dX8_goTrial_106 fl_X8_79 rfl (by decide) rfl rfl ?_
  refine s_iload_n dX8_goTrial_109 rfl rfl ?_
  obtain ⟨g2, h⟩ := h
  refine t_iald dX8_goTrial_110 rfl (by decide) g2 ?_
  refine t_callV (M' := mX8_sayOf) (k := 0) (As := [.int x3, .int (t.1 77 x2.toNatClampNeg), .int x4, .int (t.1 79 x2.toNatClampNeg)]) (rest := []) dX8_goTrial_111 ml_X8_276 miX8_sayOf msX8_sayOf rfl (by decide) rfl rfl (Nat.le_of_ble_eq_true rfl) (Nat.le_of_ble_eq_true rfl) rfl h (fun rv t3 q => ?_)
  obtain ⟨v4, rfl, h⟩ := q
  show Rt g (d + 1) mX8_goTrial 114 [some (.ref 57), some (.int x1), some (.int x2), some (.int x3), some (.int x4)] [.int v4] t3 Q
  refine s_pop dX8_goTrial_114 rfl ?_
  refine s_aload_n dX8_goTrial_115 rfl rfl ?_
  refine t_getR (o' := 80) dX8_goTrial_116 fl_X8_82 rfl (by decide) rfl rfl ?_
  refine s_bipush (v := 10) dX8_goTrial_119 (by decide) ?_
  refine s_iload_n dX8_goTrial_121 rfl rfl ?_
  refine s_imul dX8_goTrial_122 ?_
  refine s_aload_n dX8_goTrial_123 rfl rfl ?_
  refine t_getR (o' := 77) dX8_goTrial_124 fl_X8_73 rfl (by decide) rfl rfl ?_
  refine s_iload_n dX8_goTrial_127 rfl rfl ?_
  obtain ⟨g5, h⟩ := h
  refine t_iald dX8_goTrial_128 rfl (by decide) g5 ?_
  refine s_iadd dX8_goTrial_129 ?_
  refine s_iload dX8_goTrial_130 rfl ?_
  obtain ⟨g6, h⟩ := h
  refine t_iast dX8_goTrial_132 rfl (by decide) g6 ?_
  refine s_aload_n dX8_goTrial_133 rfl rfl ?_
  refine t_getI dX8_goTrial_134 fl_X8_270 rfl (by decide) rfl ?_
  refine s_if_ge (tgt := 153) dX8_goTrial_137 (by decide) (fun c7 => ?_) (fun c7 => ?_)
  · replace h := h.1 c7
    exact Rt.lc h (lc_some (lc_some (lc_some (lc_none (lc_none lc_nil)))))
  · replace h := h.2 c7
    refine s_aload_n dX8_goTrial_140 rfl rfl ?_
    refine s_iload_n dX8_goTrial_141 rfl rfl ?_
    refine t_callV (M' := mX8_isGone) (k := 0) (As := [.int x3]) (rest := []) dX8_goTrial_142 ml_X8_280 miX8_isGone msX8_isGone rfl (by decide) rfl rfl (Nat.le_of_ble_eq_true rfl) (Nat.le_of_ble_eq_true rfl) rfl h (fun rv t8 q => ?_)
    obtain ⟨v9, rfl, h⟩ := q
    show Rt g (d + 1) mX8_goTrial 145 [some (.ref 57), some (.int x1), some (.int x2), some (.int x3), some (.int x4)] [.int v9] t8 Q
    refine s_if_eq (tgt := 153) dX8_goTrial_145 (by decide) (fun c10 => ?_) (fun c10 => ?_)
    · replace h := h.1 c10
      exact Rt.lc h (lc_some (lc_some (lc_some (lc_none (lc_none lc_nil)))))
    · replace h := h.2 c10
      refine s_aload_n dX8_goTrial_148 rfl rfl ?_
      refine s_iload_n dX8_goTrial_149 rfl rfl ?_
      refine t_putI dX8_goTrial_150 fl_X8_270 rfl (by decide) rfl rfl rfl rfl ?_
      exact Rt.lc h (lc_some (lc_some (lc_some (lc_none (lc_none lc_nil)))))
theorem bX8_goTrial_153 {g : Gt} {d : Nat} {t : Tt} {Q : Option Value → Tt → Prop} {x1 : Int32} {x2 : Int32} (h : Rt g (d + 1) mX8_goTrial 38 [some (.ref 57), some (.int x1), some (.int (x2 + 1)), none, none] [] t Q) : Rt g (d + 1) mX8_goTrial 153 [some (.ref 57), some (.int x1), some (.int x2), none, none] [] t Q := by
  refine s_iinc (w := x2 + 1) dX8_goTrial_153 rfl (by rfl) (by decide) rfl (L9 := [some (.ref 57), some (.int x1), some (.int (x2 + 1)), none, none]) rfl ?_
  refine s_goto (tgt := 38) dX8_goTrial_156 (by decide) ?_
  exact h
theorem bX8_believedNow_0 {g : Gt} {d : Nat} {t : Tt} {Q : Option Value → Tt → Prop} {p0 : Int32} (h : Rt g (d + 1) mX8_believedNow 4 [some (.ref 57), some (.int p0), some (.int 0), some (.int 0), none] [] t Q) : Rt g (d + 1) mX8_believedNow 0 [some (.ref 57), some (.int p0), none, none, none] [] t Q := by
  refine s_iconst (v := 0) dX8_believedNow_0 (by decide) ?_
  refine s_istore_n dX8_believedNow_1 rfl (by decide) rfl (L9 := [some (.ref 57), some (.int p0), some (.int 0), none, none]) rfl ?_
  refine s_iconst (v := 0) dX8_believedNow_2 (by decide) ?_
  refine s_istore_n dX8_believedNow_3 rfl (by decide) rfl (L9 := [some (.ref 57), some (.int p0), some (.int 0), some (.int 0), none]) rfl ?_
  exact h
theorem bX8_believedNow_4 {g : Gt} {d : Nat} {t : Tt} {Q : Option Value → Tt → Prop} {x1 : Int32} {x2 : Int32} {x3 : Int32} (h : ((t.1 57 1) ≤ x3 → (x2 ≤ 0 → (0 ≤ x2 → Q (some (.int (-2))) t) ∧ (¬ 0 ≤ x2 → Q (some (.int 0)) t)) ∧ (¬ x2 ≤ 0 → Q (some (.int 1)) t)) ∧ (¬ (t.1 57 1) ≤ x3 → vp_in ((10 * x3) + x1) 70 ∧ (∀ z5 : Int32, z5 = (t.1 80 ((10 * x3) + x1).toNatClampNeg) → (z5 < 0 → Rt g (d + 1) mX8_believedNow 53 [some (.ref 57), some (.int x1), some (.int x2), some (.int x3), none] [] t Q) ∧ (¬ z5 < 0 → (¬ z5 = 1 → Rt g d mX8_worthOf 0 [some (.ref 57), some (.int x3)] [] t (QI (fun v9 t8 => Rt g (d + 1) mX8_believedNow 51 [some (.ref 57), some (.int x1), none, some (.int x3), none] [.int (-v9), .int x2] t8 Q))) ∧ (z5 = 1 → Rt g d mX8_worthOf 0 [some (.ref 57), some (.int x3)] [] t (QI (fun v11 t10 => Rt g (d + 1) mX8_believedNow 51 [some (.ref 57), some (.int x1), none, some (.int x3), none] [.int v11, .int x2] t10 Q))))))) : Rt g (d + 1) mX8_believedNow 4 [some (.ref 57), some (.int x1), some (.int x2), some (.int x3), none] [] t Q := by
  refine s_iload_n dX8_believedNow_4 rfl rfl ?_
  refine s_aload_n dX8_believedNow_5 rfl rfl ?_
  refine t_getI dX8_believedNow_6 fl_X8_125 rfl (by decide) rfl ?_
  refine s_icmp_ge (tgt := 59) dX8_believedNow_9 (by decide) (fun c1 => ?_) (fun c1 => ?_)
  · replace h := h.1 c1
    refine s_iload_n dX8_believedNow_59 rfl rfl ?_
    refine s_if_le (tgt := 67) dX8_believedNow_60 (by decide) (fun c2 => ?_) (fun c2 => ?_)
    · replace h := h.1 c2
      refine s_iload_n dX8_believedNow_67 rfl rfl ?_
      refine s_if_ge (tgt := 75) dX8_believedNow_68 (by decide) (fun c3 => ?_) (fun c3 => ?_)
      · replace h := h.1 c3
        refine s_bipush (v := (-2)) dX8_believedNow_75 (by decide) ?_
        exact t_iret dX8_believedNow_77 (NR_i rfl _) h
      · replace h := h.2 c3
        refine s_iconst (v := 0) dX8_believedNow_71 (by decide) ?_
        refine s_goto (tgt := 77) dX8_believedNow_72 (by decide) ?_
        exact t_iret dX8_believedNow_77 (NR_i rfl _) h
    · replace h := h.2 c2
      refine s_iconst (v := 1) dX8_believedNow_63 (by decide) ?_
      refine s_goto (tgt := 77) dX8_believedNow_64 (by decide) ?_
      exact t_iret dX8_believedNow_77 (NR_i rfl _) h
  · replace h := h.2 c1
    refine s_aload_n dX8_believedNow_12 rfl rfl ?_
    refine t_getR (o' := 80) dX8_believedNow_13 fl_X8_82 rfl (by decide) rfl rfl ?_
    refine s_bipush (v := 10) dX8_believedNow_16 (by decide) ?_
    refine s_iload_n dX8_believedNow_18 rfl rfl ?_
    refine s_imul dX8_believedNow_19 ?_
    refine s_iload_n dX8_believedNow_20 rfl rfl ?_
    refine s_iadd dX8_believedNow_21 ?_
    obtain ⟨g4, h⟩ := h
    refine t_iald dX8_believedNow_22 rfl (by decide) g4 ?_
    refine t_nmI (fun z5 ez5 => ?_)
    replace h := h z5 ez5
    refine s_istore dX8_believedNow_23 (by decide) rfl (L9 := [some (.ref 57), some (.int x1), some (.int x2), some (.int x3), some (.int z5)]) rfl ?_
    refine s_iload dX8_believedNow_25 rfl ?_
    refine s_if_lt (tgt := 53) dX8_believedNow_27 (by decide) (fun c6 => ?_) (fun c6 => ?_)
    · replace h := h.1 c6
      exact Rt.lc h (lc_some (lc_some (lc_some (lc_some (lc_none lc_nil)))))
    · replace h := h.2 c6
      refine s_iload_n dX8_believedNow_30 rfl rfl ?_
      refine s_iload dX8_believedNow_31 rfl ?_
      refine s_iconst (v := 1) dX8_believedNow_33 (by decide) ?_
      refine s_icmp_ne (tgt := 45) dX8_believedNow_34 (by decide) (fun c7 => ?_) (fun c7 => ?_)
      · replace h := h.1 c7
        refine s_aload_n dX8_believedNow_45 rfl rfl ?_
        refine s_iload_n dX8_believedNow_46 rfl rfl ?_
        refine t_callV (M' := mX8_worthOf) (k := 0) (As := [.int x3]) (rest := [.int x2]) dX8_believedNow_47 ml_X8_175 miX8_worthOf msX8_worthOf rfl (by decide) rfl rfl (Nat.le_of_ble_eq_true rfl) (Nat.le_of_ble_eq_true rfl) rfl h (fun rv t8 q => ?_)
        obtain ⟨v9, rfl, h⟩ := q
        show Rt g (d + 1) mX8_believedNow 50 [some (.ref 57), some (.int x1), some (.int x2), some (.int x3), some (.int z5)] [.int v9, .int x2] t8 Q
        refine s_ineg dX8_believedNow_50 ?_
        exact Rt.lc h (lc_some (lc_some (lc_none (lc_some (lc_none lc_nil)))))
      · replace h := h.2 c7
        refine s_aload_n dX8_believedNow_37 rfl rfl ?_
        refine s_iload_n dX8_believedNow_38 rfl rfl ?_
        refine t_callV (M' := mX8_worthOf) (k := 0) (As := [.int x3]) (rest := [.int x2]) dX8_believedNow_39 ml_X8_175 miX8_worthOf msX8_worthOf rfl (by decide) rfl rfl (Nat.le_of_ble_eq_true rfl) (Nat.le_of_ble_eq_true rfl) rfl h (fun rv t10 q => ?_)
        obtain ⟨v11, rfl, h⟩ := q
        show Rt g (d + 1) mX8_believedNow 42 [some (.ref 57), some (.int x1), some (.int x2), some (.int x3), some (.int z5)] [.int v11, .int x2] t10 Q
        refine s_goto (tgt := 51) dX8_believedNow_42 (by decide) ?_
        exact Rt.lc h (lc_some (lc_some (lc_none (lc_some (lc_none lc_nil)))))
theorem bX8_believedNow_53 {g : Gt} {d : Nat} {t : Tt} {Q : Option Value → Tt → Prop} {x1 : Int32} {x2 : Int32} {x3 : Int32} (h : Rt g (d + 1) mX8_believedNow 4 [some (.ref 57), some (.int x1), some (.int x2), some (.int (x3 + 1)), none] [] t Q) : Rt g (d + 1) mX8_believedNow 53 [some (.ref 57), some (.int x1), some (.int x2), some (.int x3), none] [] t Q := by
  refine s_iinc (w := x3 + 1) dX8_believedNow_53 rfl (by rfl) (by decide) rfl (L9 := [some (.ref 57), some (.int x1), some (.int x2), some (.int (x3 + 1)), none]) rfl ?_
  refine s_goto (tgt := 4) dX8_believedNow_56 (by decide) ?_
  exact h
theorem bX8_believedNow_51 {g : Gt} {d : Nat} {t : Tt} {Q : Option Value → Tt → Prop} {x1 : Int32} {x3 : Int32} {s0 : Int32} {s1 : Int32} (h : ∀ z1 : Int32, z1 = (s1 + s0) → Rt g (d + 1) mX8_believedNow 53 [some (.ref 57), some (.int x1), some (.int z1), some (.int x3), none] [] t Q) : Rt g (d + 1) mX8_believedNow 51 [some (.ref 57), some (.int x1), none, some (.int x3), none] [.int s0, .int s1] t Q := by
  refine s_iadd dX8_believedNow_51 ?_
  refine t_nmI (fun z1 ez1 => ?_)
  replace h := h z1 ez1
  refine s_istore_n dX8_believedNow_52 rfl (by decide) rfl (L9 := [some (.ref 57), some (.int x1), some (.int z1), some (.int x3), none]) rfl ?_
  exact h
theorem bX8_layOr_0 {g : Gt} {d : Nat} {t : Tt} {Q : Option Value → Tt → Prop} {p0 : Int32} (h : Rt g d mX8_rowFault 0 [some (.ref 57), some (.int p0)] [] t (QI (fun v2 t1 => (0 ≤ v2 → Rt g d mX8_layTrial 0 [some (.ref 57), some (.int p0), none] [] t1 (QV (fun t4 => Rt g d mX8_goTrial 0 [some (.ref 57), some (.int 0), none, none, none] [] t4 (QV (fun t5 => Q (some (.int 0)) t5))))) ∧ (¬ 0 ≤ v2 → Q (some (.int v2)) t1)))) : Rt g (d + 1) mX8_layOr 0 [some (.ref 57), some (.int p0), none] [] t Q := by
  refine s_aload_n dX8_layOr_0 rfl rfl ?_
  refine s_iload_n dX8_layOr_1 rfl rfl ?_
  refine t_callV (M' := mX8_rowFault) (k := 0) (As := [.int p0]) (rest := []) dX8_layOr_2 ml_X8_283 miX8_rowFault msX8_rowFault rfl (by decide) rfl rfl (Nat.le_of_ble_eq_true rfl) (Nat.le_of_ble_eq_true rfl) rfl h (fun rv t1 q => ?_)
  obtain ⟨v2, rfl, h⟩ := q
  show Rt g (d + 1) mX8_layOr 5 [some (.ref 57), some (.int p0), none] [.int v2] t1 Q
  refine s_istore_n dX8_layOr_5 rfl (by decide) rfl (L9 := [some (.ref 57), some (.int p0), some (.int v2)]) rfl ?_
  refine s_iload_n dX8_layOr_6 rfl rfl ?_
  refine s_if_ge (tgt := 12) dX8_layOr_7 (by decide) (fun c3 => ?_) (fun c3 => ?_)
  · replace h := h.1 c3
    refine s_aload_n dX8_layOr_12 rfl rfl ?_
    refine s_iload_n dX8_layOr_13 rfl rfl ?_
    refine t_callV (M' := mX8_layTrial) (k := 1) (As := [.int p0]) (rest := []) dX8_layOr_14 ml_X8_286 miX8_layTrial msX8_layTrial rfl (by decide) rfl rfl (Nat.le_of_ble_eq_true rfl) (Nat.le_of_ble_eq_true rfl) rfl h (fun rv t4 q => ?_)
    obtain ⟨rfl, h⟩ := q
    show Rt g (d + 1) mX8_layOr 17 [some (.ref 57), some (.int p0), some (.int v2)] [] t4 Q
    refine s_aload_n dX8_layOr_17 rfl rfl ?_
    refine s_iconst (v := 0) dX8_layOr_18 (by decide) ?_
    refine t_callV (M' := mX8_goTrial) (k := 3) (As := [.int 0]) (rest := []) dX8_layOr_19 ml_X8_290 miX8_goTrial msX8_goTrial rfl (by decide) rfl rfl (Nat.le_of_ble_eq_true rfl) (Nat.le_of_ble_eq_true rfl) rfl h (fun rv t5 q => ?_)
    obtain ⟨rfl, h⟩ := q
    show Rt g (d + 1) mX8_layOr 22 [some (.ref 57), some (.int p0), some (.int v2)] [] t5 Q
    refine s_iconst (v := 0) dX8_layOr_22 (by decide) ?_
    exact t_iret dX8_layOr_23 (NR_i rfl _) h
  · replace h := h.2 c3
    refine s_iload_n dX8_layOr_10 rfl rfl ?_
    exact t_iret dX8_layOr_11 (NR_i rfl _) h
theorem bX8_trial_0 {g : Gt} {d : Nat} {t : Tt} {Q : Option Value → Tt → Prop} {p0 : Int32} {p1 : Int32} {p2 : Int32} (h : Rt g d mX8_isShelf 0 [some (.int p0)] [] t (QI (fun v2 t1 => (v2 = 0 → Q (some (.int (-1))) t1) ∧ (¬ v2 = 0 → Rt g d mX8_in 0 [some (.int p1), some (.int (-1)), some (.int ((t1.1 57 1) - 1))] [] t1 (QI (fun v5 t4 => (v5 = 0 → Q (some (.int (-1))) t4) ∧ (¬ v5 = 0 → Rt g d mX8_in 0 [some (.int p2), some (.int 0), some (.int 1)] [] t4 (QI (fun v8 t7 => (¬ v8 = 0 → Rt g d mX8_layOr 0 [some (.ref 57), some (.int p0), none] [] t7 (QI (fun v11 t10 => (0 ≤ v11 → (0 ≤ p1 → (¬ p2 = 0 → vp_in p1 7 ∧ Q (some (.int (t10.1 75 p1.toNatClampNeg))) t10) ∧ (p2 = 0 → Rt g d mX8_worthOf 0 [some (.ref 57), some (.int p1)] [] t10 (QI (fun v17 t16 => Q (some (.int v17)) t16)))) ∧ (¬ 0 ≤ p1 → Q (some (.int (t10.1 57 33))) t10)) ∧ (¬ 0 ≤ v11 → Q (some (.int v11)) t10)))) ∧ (v8 = 0 → Q (some (.int (-1))) t7)))))))))) : Rt g (d + 1) mX8_trial 0 [some (.ref 57), some (.int p0), some (.int p1), some (.int p2), none] [] t Q := by
  refine s_iload_n dX8_trial_0 rfl rfl ?_
  refine t_callS (M' := mX8_isShelf) (k := 0) (As := [.int p0]) (rest := []) dX8_trial_1 ml_X8_132 mstX8_isShelf rfl (Nat.le_of_ble_eq_true rfl) (Nat.le_of_ble_eq_true rfl) rfl h (fun rv t1 q => ?_)
  obtain ⟨v2, rfl, h⟩ := q
  show Rt g (d + 1) mX8_trial 4 [some (.ref 57), some (.int p0), some (.int p1), some (.int p2), none] [.int v2] t1 Q
  refine s_if_eq (tgt := 30) dX8_trial_4 (by decide) (fun c3 => ?_) (fun c3 => ?_)
  · replace h := h.1 c3
    refine s_iconst (v := (-1)) dX8_trial_30 (by decide) ?_
    exact t_iret dX8_trial_31 (NR_i rfl _) h
  · replace h := h.2 c3
    refine s_iload_n dX8_trial_7 rfl rfl ?_
    refine s_iconst (v := (-1)) dX8_trial_8 (by decide) ?_
    refine s_aload_n dX8_trial_9 rfl rfl ?_
    refine t_getI dX8_trial_10 fl_X8_125 rfl (by decide) rfl ?_
    refine s_iconst (v := 1) dX8_trial_13 (by decide) ?_
    refine s_isub dX8_trial_14 ?_
    refine t_callS (M' := mX8_in) (k := 0) (As := [.int p1, .int (-1), .int ((t1.1 57 1) - 1)]) (rest := []) dX8_trial_15 ml_X8_128 mstX8_in rfl (Nat.le_of_ble_eq_true rfl) (Nat.le_of_ble_eq_true rfl) rfl h (fun rv t4 q => ?_)
    obtain ⟨v5, rfl, h⟩ := q
    show Rt g (d + 1) mX8_trial 18 [some (.ref 57), some (.int p0), some (.int p1), some (.int p2), none] [.int v5] t4 Q
    refine s_if_eq (tgt := 30) dX8_trial_18 (by decide) (fun c6 => ?_) (fun c6 => ?_)
    · replace h := h.1 c6
      refine s_iconst (v := (-1)) dX8_trial_30 (by decide) ?_
      exact t_iret dX8_trial_31 (NR_i rfl _) h
    · replace h := h.2 c6
      refine s_iload_n dX8_trial_21 rfl rfl ?_
      refine s_iconst (v := 0) dX8_trial_22 (by decide) ?_
      refine s_iconst (v := 1) dX8_trial_23 (by decide) ?_
      refine t_callS (M' := mX8_in) (k := 0) (As := [.int p2, .int 0, .int 1]) (rest := []) dX8_trial_24 ml_X8_128 mstX8_in rfl (Nat.le_of_ble_eq_true rfl) (Nat.le_of_ble_eq_true rfl) rfl h (fun rv t7 q => ?_)
      obtain ⟨v8, rfl, h⟩ := q
      show Rt g (d + 1) mX8_trial 27 [some (.ref 57), some (.int p0), some (.int p1), some (.int p2), none] [.int v8] t7 Q
      refine s_if_ne (tgt := 32) dX8_trial_27 (by decide) (fun c9 => ?_) (fun c9 => ?_)
      · replace h := h.1 c9
        refine s_aload_n dX8_trial_32 rfl rfl ?_
        refine s_iload_n dX8_trial_33 rfl rfl ?_
        refine t_callV (M' := mX8_layOr) (k := 1) (As := [.int p0]) (rest := []) dX8_trial_34 ml_X8_293 miX8_layOr msX8_layOr rfl (by decide) rfl rfl (Nat.le_of_ble_eq_true rfl) (Nat.le_of_ble_eq_true rfl) rfl h (fun rv t10 q => ?_)
        obtain ⟨v11, rfl, h⟩ := q
        show Rt g (d + 1) mX8_trial 37 [some (.ref 57), some (.int p0), some (.int p1), some (.int p2), none] [.int v11] t10 Q
        refine s_istore dX8_trial_37 (by decide) rfl (L9 := [some (.ref 57), some (.int p0), some (.int p1), some (.int p2), some (.int v11)]) rfl ?_
        refine s_iload dX8_trial_39 rfl ?_
        refine s_if_ge (tgt := 47) dX8_trial_41 (by decide) (fun c12 => ?_) (fun c12 => ?_)
        · replace h := h.1 c12
          refine s_iload_n dX8_trial_47 rfl rfl ?_
          refine s_if_ge (tgt := 58) dX8_trial_48 (by decide) (fun c13 => ?_) (fun c13 => ?_)
          · replace h := h.1 c13
            refine s_iload_n dX8_trial_58 rfl rfl ?_
            refine s_if_ne (tgt := 70) dX8_trial_59 (by decide) (fun c14 => ?_) (fun c14 => ?_)
            · replace h := h.1 c14
              refine s_aload_n dX8_trial_70 rfl rfl ?_
              refine t_getR (o' := 75) dX8_trial_71 fl_X8_67 rfl (by decide) rfl rfl ?_
              refine s_iload_n dX8_trial_74 rfl rfl ?_
              obtain ⟨g15, h⟩ := h
              refine t_iald dX8_trial_75 rfl (by decide) g15 ?_
              exact t_iret dX8_trial_76 (NR_i rfl _) h
            · replace h := h.2 c14
              refine s_aload_n dX8_trial_62 rfl rfl ?_
              refine s_iload_n dX8_trial_63 rfl rfl ?_
              refine t_callV (M' := mX8_worthOf) (k := 0) (As := [.int p1]) (rest := []) dX8_trial_64 ml_X8_175 miX8_worthOf msX8_worthOf rfl (by decide) rfl rfl (Nat.le_of_ble_eq_true rfl) (Nat.le_of_ble_eq_true rfl) rfl h (fun rv t16 q => ?_)
              obtain ⟨v17, rfl, h⟩ := q
              show Rt g (d + 1) mX8_trial 67 [some (.ref 57), some (.int p0), some (.int p1), some (.int p2), some (.int v11)] [.int v17] t16 Q
              refine s_goto (tgt := 76) dX8_trial_67 (by decide) ?_
              exact t_iret dX8_trial_76 (NR_i rfl _) h
          · replace h := h.2 c13
            refine s_aload_n dX8_trial_51 rfl rfl ?_
            refine t_getI dX8_trial_52 fl_X8_264 rfl (by decide) rfl ?_
            refine s_goto (tgt := 76) dX8_trial_55 (by decide) ?_
            exact t_iret dX8_trial_76 (NR_i rfl _) h
        · replace h := h.2 c12
          refine s_iload dX8_trial_44 rfl ?_
          exact t_iret dX8_trial_46 (NR_i rfl _) h
      · replace h := h.2 c9
        refine s_iconst (v := (-1)) dX8_trial_30 (by decide) ?_
        exact t_iret dX8_trial_31 (NR_i rfl _) h
theorem bX8_tooth_0 {g : Gt} {d : Nat} {t : Tt} {Q : Option Value → Tt → Prop} {p0 : Int32} {p1 : Int32} (h : Rt g d mX8_isShelf 0 [some (.int p0)] [] t (QI (fun v2 t1 => (v2 = 0 → Q (some (.int (-1))) t1) ∧ (¬ v2 = 0 → (p1 < 0 → Q (some (.int (-1))) t1) ∧ (¬ p1 < 0 → Rt g d mX8_isPerson 0 [some (.ref 57), some (.int (p1 / 10))] [] t1 (QI (fun v6 t5 => (v6 = 0 → Q (some (.int (-1))) t5) ∧ (¬ v6 = 0 → ((jr p1 10) < 8 → Rt g d mX8_layOr 0 [some (.ref 57), some (.int p0), none] [] t5 (QI (fun v10 t9 => (0 ≤ v10 → vp_in ((8 * (p1 / 10)) + (jr p1 10)) 56 ∧ Q (some (.int (t9.1 74 ((8 * (p1 / 10)) + (jr p1 10)).toNatClampNeg))) t9) ∧ (¬ 0 ≤ v10 → Q (some (.int v10)) t9)))) ∧ (¬ (jr p1 10) < 8 → Q (some (.int (-1))) t5))))))))) : Rt g (d + 1) mX8_tooth 0 [some (.ref 57), some (.int p0), some (.int p1), none] [] t Q := by
  refine s_iload_n dX8_tooth_0 rfl rfl ?_
  refine t_callS (M' := mX8_isShelf) (k := 0) (As := [.int p0]) (rest := []) dX8_tooth_1 ml_X8_132 mstX8_isShelf rfl (Nat.le_of_ble_eq_true rfl) (Nat.le_of_ble_eq_true rfl) rfl h (fun rv t1 q => ?_)
  obtain ⟨v2, rfl, h⟩ := q
  show Rt g (d + 1) mX8_tooth 4 [some (.ref 57), some (.int p0), some (.int p1), none] [.int v2] t1 Q
  refine s_if_eq (tgt := 31) dX8_tooth_4 (by decide) (fun c3 => ?_) (fun c3 => ?_)
  · replace h := h.1 c3
    refine s_iconst (v := (-1)) dX8_tooth_31 (by decide) ?_
    exact t_iret dX8_tooth_32 (NR_i rfl _) h
  · replace h := h.2 c3
    refine s_iload_n dX8_tooth_7 rfl rfl ?_
    refine s_if_lt (tgt := 31) dX8_tooth_8 (by decide) (fun c4 => ?_) (fun c4 => ?_)
    · replace h := h.1 c4
      refine s_iconst (v := (-1)) dX8_tooth_31 (by decide) ?_
      exact t_iret dX8_tooth_32 (NR_i rfl _) h
    · replace h := h.2 c4
      refine s_aload_n dX8_tooth_11 rfl rfl ?_
      refine s_iload_n dX8_tooth_12 rfl rfl ?_
      refine s_bipush (v := 10) dX8_tooth_13 (by decide) ?_
      refine s_idiv dX8_tooth_15 (by decide) ?_
      refine t_callV (M' := mX8_isPerson) (k := 0) (As := [.int (p1 / 10)]) (rest := []) dX8_tooth_16 ml_X8_156 miX8_isPerson msX8_isPerson rfl (by decide) rfl rfl (Nat.le_of_ble_eq_true rfl) (Nat.le_of_ble_eq_true rfl) rfl h (fun rv t5 q => ?_)
      obtain ⟨v6, rfl, h⟩ := q
      show Rt g (d + 1) mX8_tooth 19 [some (.ref 57), some (.int p0), some (.int p1), none] [.int v6] t5 Q
      refine s_if_eq (tgt := 31) dX8_tooth_19 (by decide) (fun c7 => ?_) (fun c7 => ?_)
      · replace h := h.1 c7
        refine s_iconst (v := (-1)) dX8_tooth_31 (by decide) ?_
        exact t_iret dX8_tooth_32 (NR_i rfl _) h
      · replace h := h.2 c7
        refine s_iload_n dX8_tooth_22 rfl rfl ?_
        refine s_bipush (v := 10) dX8_tooth_23 (by decide) ?_
        refine s_irem dX8_tooth_25 (by decide) ?_
        refine s_bipush (v := 8) dX8_tooth_26 (by decide) ?_
        refine s_icmp_lt (tgt := 33) dX8_tooth_28 (by decide) (fun c8 => ?_) (fun c8 => ?_)
        · replace h := h.1 c8
          refine s_aload_n dX8_tooth_33 rfl rfl ?_
          refine s_iload_n dX8_tooth_34 rfl rfl ?_
          refine t_callV (M' := mX8_layOr) (k := 1) (As := [.int p0]) (rest := []) dX8_tooth_35 ml_X8_293 miX8_layOr msX8_layOr rfl (by decide) rfl rfl (Nat.le_of_ble_eq_true rfl) (Nat.le_of_ble_eq_true rfl) rfl h (fun rv t9 q => ?_)
          obtain ⟨v10, rfl, h⟩ := q
          show Rt g (d + 1) mX8_tooth 38 [some (.ref 57), some (.int p0), some (.int p1), none] [.int v10] t9 Q
          refine s_istore_n dX8_tooth_38 rfl (by decide) rfl (L9 := [some (.ref 57), some (.int p0), some (.int p1), some (.int v10)]) rfl ?_
          refine s_iload_n dX8_tooth_39 rfl rfl ?_
          refine s_if_ge (tgt := 47) dX8_tooth_40 (by decide) (fun c11 => ?_) (fun c11 => ?_)
          · replace h := h.1 c11
            refine s_aload_n dX8_tooth_47 rfl rfl ?_
            refine t_getR (o' := 74) dX8_tooth_48 fl_X8_64 rfl (by decide) rfl rfl ?_
            refine s_bipush (v := 8) dX8_tooth_51 (by decide) ?_
            refine s_iload_n dX8_tooth_53 rfl rfl ?_
            refine s_bipush (v := 10) dX8_tooth_54 (by decide) ?_
            refine s_idiv dX8_tooth_56 (by decide) ?_
            refine s_imul dX8_tooth_57 ?_
            refine s_iload_n dX8_tooth_58 rfl rfl ?_
            refine s_bipush (v := 10) dX8_tooth_59 (by decide) ?_
            refine s_irem dX8_tooth_61 (by decide) ?_
            refine s_iadd dX8_tooth_62 ?_
            obtain ⟨g12, h⟩ := h
            refine t_iald dX8_tooth_63 rfl (by decide) g12 ?_
            exact t_iret dX8_tooth_64 (NR_i rfl _) h
          · replace h := h.2 c11
            refine s_iload_n dX8_tooth_43 rfl rfl ?_
            refine s_goto (tgt := 64) dX8_tooth_44 (by decide) ?_
            exact t_iret dX8_tooth_64 (NR_i rfl _) h
        · replace h := h.2 c8
          refine s_iconst (v := (-1)) dX8_tooth_31 (by decide) ?_
          exact t_iret dX8_tooth_32 (NR_i rfl _) h
theorem bX8_gone_0 {g : Gt} {d : Nat} {t : Tt} {Q : Option Value → Tt → Prop} {p0 : Int32} (h : Rt g d mX8_isShelf 0 [some (.int p0)] [] t (QI (fun v2 t1 => (¬ v2 = 0 → Rt g d mX8_layOr 0 [some (.ref 57), some (.int p0), none] [] t1 (QI (fun v5 t4 => (0 ≤ v5 → Q (some (.int (t4.1 57 35))) t4) ∧ (¬ 0 ≤ v5 → Q (some (.int v5)) t4)))) ∧ (v2 = 0 → Q (some (.int (-1))) t1)))) : Rt g (d + 1) mX8_gone 0 [some (.ref 57), some (.int p0), none] [] t Q := by
  refine s_iload_n dX8_gone_0 rfl rfl ?_
  refine t_callS (M' := mX8_isShelf) (k := 0) (As := [.int p0]) (rest := []) dX8_gone_1 ml_X8_132 mstX8_isShelf rfl (Nat.le_of_ble_eq_true rfl) (Nat.le_of_ble_eq_true rfl) rfl h (fun rv t1 q => ?_)
  obtain ⟨v2, rfl, h⟩ := q
  show Rt g (d + 1) mX8_gone 4 [some (.ref 57), some (.int p0), none] [.int v2] t1 Q
  refine s_if_ne (tgt := 9) dX8_gone_4 (by decide) (fun c3 => ?_) (fun c3 => ?_)
  · replace h := h.1 c3
    refine s_aload_n dX8_gone_9 rfl rfl ?_
    refine s_iload_n dX8_gone_10 rfl rfl ?_
    refine t_callV (M' := mX8_layOr) (k := 1) (As := [.int p0]) (rest := []) dX8_gone_11 ml_X8_293 miX8_layOr msX8_layOr rfl (by decide) rfl rfl (Nat.le_of_ble_eq_true rfl) (Nat.le_of_ble_eq_true rfl) rfl h (fun rv t4 q => ?_)
    obtain ⟨v5, rfl, h⟩ := q
    show Rt g (d + 1) mX8_gone 14 [some (.ref 57), some (.int p0), none] [.int v5] t4 Q
    refine s_istore_n dX8_gone_14 rfl (by decide) rfl (L9 := [some (.ref 57), some (.int p0), some (.int v5)]) rfl ?_
    refine s_iload_n dX8_gone_15 rfl rfl ?_
    refine s_if_ge (tgt := 23) dX8_gone_16 (by decide) (fun c6 => ?_) (fun c6 => ?_)
    · replace h := h.1 c6
      refine s_aload_n dX8_gone_23 rfl rfl ?_
      refine t_getI dX8_gone_24 fl_X8_270 rfl (by decide) rfl ?_
      exact t_iret dX8_gone_27 (NR_i rfl _) h
    · replace h := h.2 c6
      refine s_iload_n dX8_gone_19 rfl rfl ?_
      refine s_goto (tgt := 27) dX8_gone_20 (by decide) ?_
      exact t_iret dX8_gone_27 (NR_i rfl _) h
  · replace h := h.2 c3
    refine s_iconst (v := (-1)) dX8_gone_7 (by decide) ?_
    exact t_iret dX8_gone_8 (NR_i rfl _) h
theorem bX8_believed_0 {g : Gt} {d : Nat} {t : Tt} {Q : Option Value → Tt → Prop} {p0 : Int32} {p1 : Int32} (h : Rt g d mX8_isShelf 0 [some (.int p0)] [] t (QI (fun v2 t1 => (v2 = 0 → Q (some (.int (-1))) t1) ∧ (¬ v2 = 0 → Rt g d mX8_isFact 0 [some (.int p1)] [] t1 (QI (fun v5 t4 => (¬ v5 = 0 → Rt g d mX8_layOr 0 [some (.ref 57), some (.int p0), none] [] t4 (QI (fun v8 t7 => (0 ≤ v8 → Rt g d mX8_believedNow 0 [some (.ref 57), some (.int p1), none, none, none] [] t7 (QI (fun v11 t10 => Q (some (.int v11)) t10))) ∧ (¬ 0 ≤ v8 → Q (some (.int v8)) t7)))) ∧ (v5 = 0 → Q (some (.int (-1))) t4))))))) : Rt g (d + 1) mX8_believed 0 [some (.ref 57), some (.int p0), some (.int p1), none] [] t Q := by
  refine s_iload_n dX8_believed_0 rfl rfl ?_
  refine t_callS (M' := mX8_isShelf) (k := 0) (As := [.int p0]) (rest := []) dX8_believed_1 ml_X8_132 mstX8_isShelf rfl (Nat.le_of_ble_eq_true rfl) (Nat.le_of_ble_eq_true rfl) rfl h (fun rv t1 q => ?_)
  obtain ⟨v2, rfl, h⟩ := q
  show Rt g (d + 1) mX8_believed 4 [some (.ref 57), some (.int p0), some (.int p1), none] [.int v2] t1 Q
  refine s_if_eq (tgt := 14) dX8_believed_4 (by decide) (fun c3 => ?_) (fun c3 => ?_)
  · replace h := h.1 c3
    refine s_iconst (v := (-1)) dX8_believed_14 (by decide) ?_
    exact t_iret dX8_believed_15 (NR_i rfl _) h
  · replace h := h.2 c3
    refine s_iload_n dX8_believed_7 rfl rfl ?_
    refine t_callS (M' := mX8_isFact) (k := 0) (As := [.int p1]) (rest := []) dX8_believed_8 ml_X8_159 mstX8_isFact rfl (Nat.le_of_ble_eq_true rfl) (Nat.le_of_ble_eq_true rfl) rfl h (fun rv t4 q => ?_)
    obtain ⟨v5, rfl, h⟩ := q
    show Rt g (d + 1) mX8_believed 11 [some (.ref 57), some (.int p0), some (.int p1), none] [.int v5] t4 Q
    refine s_if_ne (tgt := 16) dX8_believed_11 (by decide) (fun c6 => ?_) (fun c6 => ?_)
    · replace h := h.1 c6
      refine s_aload_n dX8_believed_16 rfl rfl ?_
      refine s_iload_n dX8_believed_17 rfl rfl ?_
      refine t_callV (M' := mX8_layOr) (k := 1) (As := [.int p0]) (rest := []) dX8_believed_18 ml_X8_293 miX8_layOr msX8_layOr rfl (by decide) rfl rfl (Nat.le_of_ble_eq_true rfl) (Nat.le_of_ble_eq_true rfl) rfl h (fun rv t7 q => ?_)
      obtain ⟨v8, rfl, h⟩ := q
      show Rt g (d + 1) mX8_believed 21 [some (.ref 57), some (.int p0), some (.int p1), none] [.int v8] t7 Q
      refine s_istore_n dX8_believed_21 rfl (by decide) rfl (L9 := [some (.ref 57), some (.int p0), some (.int p1), some (.int v8)]) rfl ?_
      refine s_iload_n dX8_believed_22 rfl rfl ?_
      refine s_if_ge (tgt := 30) dX8_believed_23 (by decide) (fun c9 => ?_) (fun c9 => ?_)
      · replace h := h.1 c9
        refine s_aload_n dX8_believed_30 rfl rfl ?_
        refine s_iload_n dX8_believed_31 rfl rfl ?_
        refine t_callV (M' := mX8_believedNow) (k := 3) (As := [.int p1]) (rest := []) dX8_believed_32 ml_X8_296 miX8_believedNow msX8_believedNow rfl (by decide) rfl rfl (Nat.le_of_ble_eq_true rfl) (Nat.le_of_ble_eq_true rfl) rfl h (fun rv t10 q => ?_)
        obtain ⟨v11, rfl, h⟩ := q
        show Rt g (d + 1) mX8_believed 35 [some (.ref 57), some (.int p0), some (.int p1), some (.int v8)] [.int v11] t10 Q
        exact t_iret dX8_believed_35 (NR_i rfl _) h
      · replace h := h.2 c9
        refine s_iload_n dX8_believed_26 rfl rfl ?_
        refine s_goto (tgt := 35) dX8_believed_27 (by decide) ?_
        exact t_iret dX8_believed_35 (NR_i rfl _) h
    · replace h := h.2 c6
      refine s_iconst (v := (-1)) dX8_believed_14 (by decide) ?_
      exact t_iret dX8_believed_15 (NR_i rfl _) h
theorem bX8_honest_0 {g : Gt} {d : Nat} {t : Tt} {Q : Option Value → Tt → Prop} (h : Rt g (d + 1) mX8_honest 4 [some (.ref 57), some (.int 0), some (.int 0), none, none] [] t Q) : Rt g (d + 1) mX8_honest 0 [some (.ref 57), none, none, none, none] [] t Q := by
  refine s_iconst (v := 0) dX8_honest_0 (by decide) ?_
  refine s_istore_n dX8_honest_1 rfl (by decide) rfl (L9 := [some (.ref 57), some (.int 0), none, none, none]) rfl ?_
  refine s_iconst (v := 0) dX8_honest_2 (by decide) ?_
  refine s_istore_n dX8_honest_3 rfl (by decide) rfl (L9 := [some (.ref 57), some (.int 0), some (.int 0), none, none]) rfl ?_
  exact h
theorem bX8_honest_4 {g : Gt} {d : Nat} {t : Tt} {Q : Option Value → Tt → Prop} {x1 : Int32} {x2 : Int32} (h : ((t.1 57 1) ≤ x2 → Q (some (.int x1)) t) ∧ (¬ (t.1 57 1) ≤ x2 → Rt g (d + 1) mX8_honest 17 [some (.ref 57), some (.int x1), some (.int x2), some (.int 0), some (.int 0)] [] t Q)) : Rt g (d + 1) mX8_honest 4 [some (.ref 57), some (.int x1), some (.int x2), none, none] [] t Q := by
  refine s_iload_n dX8_honest_4 rfl rfl ?_
  refine s_aload_n dX8_honest_5 rfl rfl ?_
  refine t_getI dX8_honest_6 fl_X8_125 rfl (by decide) rfl ?_
  refine s_icmp_ge (tgt := 66) dX8_honest_9 (by decide) (fun c1 => ?_) (fun c1 => ?_)
  · replace h := h.1 c1
    refine s_iload_n dX8_honest_66 rfl rfl ?_
    exact t_iret dX8_honest_67 (NR_i rfl _) h
  · replace h := h.2 c1
    refine s_iconst (v := 0) dX8_honest_12 (by decide) ?_
    refine s_istore_n dX8_honest_13 rfl (by decide) rfl (L9 := [some (.ref 57), some (.int x1), some (.int x2), some (.int 0), none]) rfl ?_
    refine s_iconst (v := 0) dX8_honest_14 (by decide) ?_
    refine s_istore dX8_honest_15 (by decide) rfl (L9 := [some (.ref 57), some (.int x1), some (.int x2), some (.int 0), some (.int 0)]) rfl ?_
    exact h
theorem bX8_honest_17 {g : Gt} {d : Nat} {t : Tt} {Q : Option Value → Tt → Prop} {x1 : Int32} {x2 : Int32} {x3 : Int32} {x4 : Int32} (h : (8 ≤ x4 → Rt g d mX8_flakesOf 0 [some (.ref 57), some (.int x2), none, none] [] t (QI (fun v3 t2 => (¬ x3 = v3 → Rt g (d + 1) mX8_honest 60 [some (.ref 57), some (.int x1), some (.int x2), none, none] [] t2 Q) ∧ (x3 = v3 → ∀ z5 : Int32, z5 = (x1 ||| (jsl 1 x2)) → Rt g (d + 1) mX8_honest 60 [some (.ref 57), some (.int z5), some (.int x2), none, none] [] t2 Q)))) ∧ (¬ 8 ≤ x4 → vp_in ((8 * x2) + x4) 56 ∧ (∀ z7 : Int32, z7 = (x3 + (t.1 58 ((8 * x2) + x4).toNatClampNeg)) → Rt g (d + 1) mX8_honest 17 [some (.ref 57), some (.int x1), some (.int x2), some (.int z7), some (.int (x4 + 1))] [] t Q))) : Rt g (d + 1) mX8_honest 17 [some (.ref 57), some (.int x1), some (.int x2), some (.int x3), some (.int x4)] [] t Q := by
  refine s_iload dX8_honest_17 rfl ?_
  refine s_bipush (v := 8) dX8_honest_19 (by decide) ?_
  refine s_icmp_ge (tgt := 45) dX8_honest_21 (by decide) (fun c1 => ?_) (fun c1 => ?_)
  · replace h := h.1 c1
    refine s_iload_n dX8_honest_45 rfl rfl ?_
    refine s_aload_n dX8_honest_46 rfl rfl ?_
    refine s_iload_n dX8_honest_47 rfl rfl ?_
    refine t_callV (M' := mX8_flakesOf) (k := 2) (As := [.int x2]) (rest := [.int x3]) dX8_honest_48 ml_X8_249 miX8_flakesOf msX8_flakesOf rfl (by decide) rfl rfl (Nat.le_of_ble_eq_true rfl) (Nat.le_of_ble_eq_true rfl) rfl h (fun rv t2 q => ?_)
    obtain ⟨v3, rfl, h⟩ := q
    show Rt g (d + 1) mX8_honest 51 [some (.ref 57), some (.int x1), some (.int x2), some (.int x3), some (.int x4)] [.int v3, .int x3] t2 Q
    refine s_icmp_ne (tgt := 60) dX8_honest_51 (by decide) (fun c4 => ?_) (fun c4 => ?_)
    · replace h := h.1 c4
      exact Rt.lc h (lc_some (lc_some (lc_some (lc_none (lc_none lc_nil)))))
    · replace h := h.2 c4
      refine s_iload_n dX8_honest_54 rfl rfl ?_
      refine s_iconst (v := 1) dX8_honest_55 (by decide) ?_
      refine s_iload_n dX8_honest_56 rfl rfl ?_
      refine s_ishl dX8_honest_57 ?_
      refine s_ior dX8_honest_58 ?_
      refine t_nmI (fun z5 ez5 => ?_)
      replace h := h z5 ez5
      refine s_istore_n dX8_honest_59 rfl (by decide) rfl (L9 := [some (.ref 57), some (.int z5), some (.int x2), some (.int x3), some (.int x4)]) rfl ?_
      exact Rt.lc h (lc_some (lc_some (lc_some (lc_none (lc_none lc_nil)))))
  · replace h := h.2 c1
    refine s_iload_n dX8_honest_24 rfl rfl ?_
    refine s_aload_n dX8_honest_25 rfl rfl ?_
    refine t_getR (o' := 58) dX8_honest_26 fl_X8_7 rfl (by decide) rfl rfl ?_
    refine s_bipush (v := 8) dX8_honest_29 (by decide) ?_
    refine s_iload_n dX8_honest_31 rfl rfl ?_
    refine s_imul dX8_honest_32 ?_
    refine s_iload dX8_honest_33 rfl ?_
    refine s_iadd dX8_honest_35 ?_
    obtain ⟨g6, h⟩ := h
    refine t_iald dX8_honest_36 rfl (by decide) g6 ?_
    refine s_iadd dX8_honest_37 ?_
    refine t_nmI (fun z7 ez7 => ?_)
    replace h := h z7 ez7
    refine s_istore_n dX8_honest_38 rfl (by decide) rfl (L9 := [some (.ref 57), some (.int x1), some (.int x2), some (.int z7), some (.int x4)]) rfl ?_
    refine s_iinc (w := x4 + 1) dX8_honest_39 rfl (by rfl) (by decide) rfl (L9 := [some (.ref 57), some (.int x1), some (.int x2), some (.int z7), some (.int (x4 + 1))]) rfl ?_
    refine s_goto (tgt := 17) dX8_honest_42 (by decide) ?_
    exact h
theorem bX8_honest_60 {g : Gt} {d : Nat} {t : Tt} {Q : Option Value → Tt → Prop} {x1 : Int32} {x2 : Int32} (h : Rt g (d + 1) mX8_honest 4 [some (.ref 57), some (.int x1), some (.int (x2 + 1)), none, none] [] t Q) : Rt g (d + 1) mX8_honest 60 [some (.ref 57), some (.int x1), some (.int x2), none, none] [] t Q := by
  refine s_iinc (w := x2 + 1) dX8_honest_60 rfl (by rfl) (by decide) rfl (L9 := [some (.ref 57), some (.int x1), some (.int (x2 + 1)), none, none]) rfl ?_
  refine s_goto (tgt := 4) dX8_honest_63 (by decide) ?_
  exact h
theorem bX8_isSpoken_0 {g : Gt} {d : Nat} {t : Tt} {Q : Option Value → Tt → Prop} {p0 : Int32} (h : Rt g d mX8_isSpoken 2 [some (.ref 57), some (.int p0), some (.int 0)] [] t Q) : Rt g d mX8_isSpoken 0 [some (.ref 57), some (.int p0), none] [] t Q := by
  refine s_iconst (v := 0) dX8_isSpoken_0 (by decide) ?_
  refine s_istore_n dX8_isSpoken_1 rfl (by decide) rfl (L9 := [some (.ref 57), some (.int p0), some (.int 0)]) rfl ?_
  exact h
theorem bX8_isSpoken_2 {g : Gt} {d : Nat} {t : Tt} {Q : Option Value → Tt → Prop} {x1 : Int32} {x2 : Int32} (h : ((t.1 57 1) ≤ x2 → Q (some (.int 0)) t) ∧ (¬ (t.1 57 1) ≤ x2 → vp_in ((10 * x2) + x1) 70 ∧ (((t.1 80 ((10 * x2) + x1).toNatClampNeg) < 0 → Rt g d mX8_isSpoken 2 [some (.ref 57), some (.int x1), some (.int (x2 + 1))] [] t Q) ∧ (¬ (t.1 80 ((10 * x2) + x1).toNatClampNeg) < 0 → Q (some (.int 1)) t)))) : Rt g d mX8_isSpoken 2 [some (.ref 57), some (.int x1), some (.int x2)] [] t Q := by
  refine s_iload_n dX8_isSpoken_2 rfl rfl ?_
  refine s_aload_n dX8_isSpoken_3 rfl rfl ?_
  refine t_getI dX8_isSpoken_4 fl_X8_125 rfl (by decide) rfl ?_
  refine s_icmp_ge (tgt := 32) dX8_isSpoken_7 (by decide) (fun c1 => ?_) (fun c1 => ?_)
  · replace h := h.1 c1
    refine s_iconst (v := 0) dX8_isSpoken_32 (by decide) ?_
    exact t_iret dX8_isSpoken_33 (NR_z rfl (Or.inl rfl)) h
  · replace h := h.2 c1
    refine s_aload_n dX8_isSpoken_10 rfl rfl ?_
    refine t_getR (o' := 80) dX8_isSpoken_11 fl_X8_82 rfl (by decide) rfl rfl ?_
    refine s_bipush (v := 10) dX8_isSpoken_14 (by decide) ?_
    refine s_iload_n dX8_isSpoken_16 rfl rfl ?_
    refine s_imul dX8_isSpoken_17 ?_
    refine s_iload_n dX8_isSpoken_18 rfl rfl ?_
    refine s_iadd dX8_isSpoken_19 ?_
    obtain ⟨g2, h⟩ := h
    refine t_iald dX8_isSpoken_20 rfl (by decide) g2 ?_
    refine s_if_lt (tgt := 26) dX8_isSpoken_21 (by decide) (fun c3 => ?_) (fun c3 => ?_)
    · replace h := h.1 c3
      refine s_iinc (w := x2 + 1) dX8_isSpoken_26 rfl (by rfl) (by decide) rfl (L9 := [some (.ref 57), some (.int x1), some (.int (x2 + 1))]) rfl ?_
      refine s_goto (tgt := 2) dX8_isSpoken_29 (by decide) ?_
      exact h
    · replace h := h.2 c3
      refine s_iconst (v := 1) dX8_isSpoken_24 (by decide) ?_
      exact t_iret dX8_isSpoken_25 (NR_z rfl (Or.inr rfl)) h
theorem bX8_toldBy_0 {g : Gt} {d : Nat} {t : Tt} {Q : Option Value → Tt → Prop} {p0 : Int32} (h : (¬ p0 = 1 → (¬ p0 = 3 → Rt g (d + 1) mX8_toldBy 27 [some (.ref 57), some (.int p0), some (.int 0), some (.int 0), some (.int 0), none] [] t Q) ∧ (p0 = 3 → Rt g d mX8_honest 0 [some (.ref 57), none, none, none, none] [] t (QI (fun v4 t3 => Q (some (.int v4)) t3)))) ∧ (p0 = 1 → Q (some (.int (t.1 57 36))) t)) : Rt g (d + 1) mX8_toldBy 0 [some (.ref 57), some (.int p0), none, none, none, none] [] t Q := by
  refine s_iload_n dX8_toldBy_0 rfl rfl ?_
  refine s_iconst (v := 1) dX8_toldBy_1 (by decide) ?_
  refine s_icmp_ne (tgt := 10) dX8_toldBy_2 (by decide) (fun c1 => ?_) (fun c1 => ?_)
  · replace h := h.1 c1
    refine s_iload_n dX8_toldBy_10 rfl rfl ?_
    refine s_iconst (v := 3) dX8_toldBy_11 (by decide) ?_
    refine s_icmp_ne (tgt := 20) dX8_toldBy_12 (by decide) (fun c2 => ?_) (fun c2 => ?_)
    · replace h := h.1 c2
      refine s_iconst (v := 0) dX8_toldBy_20 (by decide) ?_
      refine s_istore_n dX8_toldBy_21 rfl (by decide) rfl (L9 := [some (.ref 57), some (.int p0), some (.int 0), none, none, none]) rfl ?_
      refine s_iconst (v := 0) dX8_toldBy_22 (by decide) ?_
      refine s_istore_n dX8_toldBy_23 rfl (by decide) rfl (L9 := [some (.ref 57), some (.int p0), some (.int 0), some (.int 0), none, none]) rfl ?_
      refine s_iconst (v := 0) dX8_toldBy_24 (by decide) ?_
      refine s_istore dX8_toldBy_25 (by decide) rfl (L9 := [some (.ref 57), some (.int p0), some (.int 0), some (.int 0), some (.int 0), none]) rfl ?_
      exact h
    · replace h := h.2 c2
      refine s_aload_n dX8_toldBy_15 rfl rfl ?_
      refine t_callV (M' := mX8_honest) (k := 4) (As := []) (rest := []) dX8_toldBy_16 ml_X8_299 miX8_honest msX8_honest rfl (by decide) rfl rfl (Nat.le_of_ble_eq_true rfl) (Nat.le_of_ble_eq_true rfl) rfl h (fun rv t3 q => ?_)
      obtain ⟨v4, rfl, h⟩ := q
      show Rt g (d + 1) mX8_toldBy 19 [some (.ref 57), some (.int p0), none, none, none, none] [.int v4] t3 Q
      exact t_iret dX8_toldBy_19 (NR_i rfl _) h
  · replace h := h.2 c1
    refine s_aload_n dX8_toldBy_5 rfl rfl ?_
    refine t_getI dX8_toldBy_6 fl_X8_273 rfl (by decide) rfl ?_
    exact t_iret dX8_toldBy_9 (NR_i rfl _) h
theorem bX8_toldBy_27 {g : Gt} {d : Nat} {t : Tt} {Q : Option Value → Tt → Prop} {x1 : Int32} {x2 : Int32} {x3 : Int32} {x4 : Int32} (h : (10 ≤ x4 → (¬ x1 = 0 → Q (some (.int x3)) t) ∧ (x1 = 0 → Q (some (.int x2)) t)) ∧ (¬ 10 ≤ x4 → Rt g d mX8_believedNow 0 [some (.ref 57), some (.int x4), none, none, none] [] t (QI (fun v4 t3 => (v4 < 0 → Rt g (d + 1) mX8_toldBy 62 [some (.ref 57), some (.int x1), some (.int x2), some (.int x3), some (.int x4), none] [] t3 Q) ∧ (¬ v4 < 0 → vp_in x4 10 ∧ ((v4 = (t3.1 61 x4.toNatClampNeg) → Rt g (d + 1) mX8_toldBy 62 [some (.ref 57), some (.int x1), some (.int x2), some (.int x3), some (.int x4), none] [] t3 Q) ∧ (¬ v4 = (t3.1 61 x4.toNatClampNeg) → Rt g (d + 1) mX8_toldBy 62 [some (.ref 57), some (.int x1), some (.int (x2 + 1)), some (.int x3), some (.int x4), none] [] t3 Q))))))) : Rt g (d + 1) mX8_toldBy 27 [some (.ref 57), some (.int x1), some (.int x2), some (.int x3), some (.int x4), none] [] t Q := by
  refine s_iload dX8_toldBy_27 rfl ?_
  refine s_bipush (v := 10) dX8_toldBy_29 (by decide) ?_
  refine s_icmp_ge (tgt := 84) dX8_toldBy_31 (by decide) (fun c1 => ?_) (fun c1 => ?_)
  · replace h := h.1 c1
    refine s_iload_n dX8_toldBy_84 rfl rfl ?_
    refine s_if_ne (tgt := 92) dX8_toldBy_85 (by decide) (fun c2 => ?_) (fun c2 => ?_)
    · replace h := h.1 c2
      refine s_iload_n dX8_toldBy_92 rfl rfl ?_
      exact t_iret dX8_toldBy_93 (NR_i rfl _) h
    · replace h := h.2 c2
      refine s_iload_n dX8_toldBy_88 rfl rfl ?_
      refine s_goto (tgt := 93) dX8_toldBy_89 (by decide) ?_
      exact t_iret dX8_toldBy_93 (NR_i rfl _) h
  · replace h := h.2 c1
    refine s_aload_n dX8_toldBy_34 rfl rfl ?_
    refine s_iload dX8_toldBy_35 rfl ?_
    refine t_callV (M' := mX8_believedNow) (k := 3) (As := [.int x4]) (rest := []) dX8_toldBy_37 ml_X8_296 miX8_believedNow msX8_believedNow rfl (by decide) rfl rfl (Nat.le_of_ble_eq_true rfl) (Nat.le_of_ble_eq_true rfl) rfl h (fun rv t3 q => ?_)
    obtain ⟨v4, rfl, h⟩ := q
    show Rt g (d + 1) mX8_toldBy 40 [some (.ref 57), some (.int x1), some (.int x2), some (.int x3), some (.int x4), none] [.int v4] t3 Q
    refine s_istore dX8_toldBy_40 (by decide) rfl (L9 := [some (.ref 57), some (.int x1), some (.int x2), some (.int x3), some (.int x4), some (.int v4)]) rfl ?_
    refine s_iload dX8_toldBy_42 rfl ?_
    refine s_if_lt (tgt := 62) dX8_toldBy_44 (by decide) (fun c5 => ?_) (fun c5 => ?_)
    · replace h := h.1 c5
      exact Rt.lc h (lc_some (lc_some (lc_some (lc_some (lc_some (lc_none lc_nil))))))
    · replace h := h.2 c5
      refine s_iload dX8_toldBy_47 rfl ?_
      refine s_aload_n dX8_toldBy_49 rfl rfl ?_
      refine t_getR (o' := 61) dX8_toldBy_50 fl_X8_19 rfl (by decide) rfl rfl ?_
      refine s_iload dX8_toldBy_53 rfl ?_
      obtain ⟨g6, h⟩ := h
      refine t_iald dX8_toldBy_55 rfl (by decide) g6 ?_
      refine s_icmp_eq (tgt := 62) dX8_toldBy_56 (by decide) (fun c7 => ?_) (fun c7 => ?_)
      · replace h := h.1 c7
        exact Rt.lc h (lc_some (lc_some (lc_some (lc_some (lc_some (lc_none lc_nil))))))
      · replace h := h.2 c7
        refine s_iinc (w := x2 + 1) dX8_toldBy_59 rfl (by rfl) (by decide) rfl (L9 := [some (.ref 57), some (.int x1), some (.int (x2 + 1)), some (.int x3), some (.int x4), some (.int v4)]) rfl ?_
        exact Rt.lc h (lc_some (lc_some (lc_some (lc_some (lc_some (lc_none lc_nil))))))
theorem bX8_toldBy_62 {g : Gt} {d : Nat} {t : Tt} {Q : Option Value → Tt → Prop} {x1 : Int32} {x2 : Int32} {x3 : Int32} {x4 : Int32} (h : Rt g d mX8_isSpoken 0 [some (.ref 57), some (.int x4), none] [] t (QI (fun v2 t1 => (¬ v2 = 0 → Rt g (d + 1) mX8_toldBy 78 [some (.ref 57), some (.int x1), some (.int x2), some (.int x3), some (.int x4), none] [] t1 Q) ∧ (v2 = 0 → ∀ z4 : Int32, z4 = (x3 ||| (jsl 1 x4)) → Rt g (d + 1) mX8_toldBy 78 [some (.ref 57), some (.int x1), some (.int x2), some (.int z4), some (.int x4), none] [] t1 Q)))) : Rt g (d + 1) mX8_toldBy 62 [some (.ref 57), some (.int x1), some (.int x2), some (.int x3), some (.int x4), none] [] t Q := by
  refine s_aload_n dX8_toldBy_62 rfl rfl ?_
  refine s_iload dX8_toldBy_63 rfl ?_
  refine t_callV (M' := mX8_isSpoken) (k := 1) (As := [.int x4]) (rest := []) dX8_toldBy_65 ml_X8_302 miX8_isSpoken msX8_isSpoken rfl (by decide) rfl rfl (Nat.le_of_ble_eq_true rfl) (Nat.le_of_ble_eq_true rfl) rfl h (fun rv t1 q => ?_)
  obtain ⟨v2, rfl, h⟩ := q
  show Rt g (d + 1) mX8_toldBy 68 [some (.ref 57), some (.int x1), some (.int x2), some (.int x3), some (.int x4), none] [.int v2] t1 Q
  refine s_if_ne (tgt := 78) dX8_toldBy_68 (by decide) (fun c3 => ?_) (fun c3 => ?_)
  · replace h := h.1 c3
    exact h
  · replace h := h.2 c3
    refine s_iload_n dX8_toldBy_71 rfl rfl ?_
    refine s_iconst (v := 1) dX8_toldBy_72 (by decide) ?_
    refine s_iload dX8_toldBy_73 rfl ?_
    refine s_ishl dX8_toldBy_75 ?_
    refine s_ior dX8_toldBy_76 ?_
    refine t_nmI (fun z4 ez4 => ?_)
    replace h := h z4 ez4
    refine s_istore_n dX8_toldBy_77 rfl (by decide) rfl (L9 := [some (.ref 57), some (.int x1), some (.int x2), some (.int z4), some (.int x4), none]) rfl ?_
    exact h
theorem bX8_toldBy_78 {g : Gt} {d : Nat} {t : Tt} {Q : Option Value → Tt → Prop} {x1 : Int32} {x2 : Int32} {x3 : Int32} {x4 : Int32} (h : Rt g (d + 1) mX8_toldBy 27 [some (.ref 57), some (.int x1), some (.int x2), some (.int x3), some (.int (x4 + 1)), none] [] t Q) : Rt g (d + 1) mX8_toldBy 78 [some (.ref 57), some (.int x1), some (.int x2), some (.int x3), some (.int x4), none] [] t Q := by
  refine s_iinc (w := x4 + 1) dX8_toldBy_78 rfl (by rfl) (by decide) rfl (L9 := [some (.ref 57), some (.int x1), some (.int x2), some (.int x3), some (.int (x4 + 1)), none]) rfl ?_
  refine s_goto (tgt := 27) dX8_toldBy_81 (by decide) ?_
  exact h
theorem bX8_told_0 {g : Gt} {d : Nat} {t : Tt} {Q : Option Value → Tt → Prop} {p0 : Int32} {p1 : Int32} (h : Rt g d mX8_isShelf 0 [some (.int p0)] [] t (QI (fun v2 t1 => (v2 = 0 → Q (some (.int (-1))) t1) ∧ (¬ v2 = 0 → Rt g d mX8_in 0 [some (.int p1), some (.int 0), some (.int 3)] [] t1 (QI (fun v5 t4 => (¬ v5 = 0 → Rt g d mX8_layOr 0 [some (.ref 57), some (.int p0), none] [] t4 (QI (fun v8 t7 => (0 ≤ v8 → Rt g d mX8_toldBy 0 [some (.ref 57), some (.int p1), none, none, none, none] [] t7 (QI (fun v11 t10 => Q (some (.int v11)) t10))) ∧ (¬ 0 ≤ v8 → Q (some (.int v8)) t7)))) ∧ (v5 = 0 → Q (some (.int (-1))) t4))))))) : Rt g (d + 1) mX8_told 0 [some (.ref 57), some (.int p0), some (.int p1), none] [] t Q := by
  refine s_iload_n dX8_told_0 rfl rfl ?_
  refine t_callS (M' := mX8_isShelf) (k := 0) (As := [.int p0]) (rest := []) dX8_told_1 ml_X8_132 mstX8_isShelf rfl (Nat.le_of_ble_eq_true rfl) (Nat.le_of_ble_eq_true rfl) rfl h (fun rv t1 q => ?_)
  obtain ⟨v2, rfl, h⟩ := q
  show Rt g (d + 1) mX8_told 4 [some (.ref 57), some (.int p0), some (.int p1), none] [.int v2] t1 Q
  refine s_if_eq (tgt := 16) dX8_told_4 (by decide) (fun c3 => ?_) (fun c3 => ?_)
  · replace h := h.1 c3
    refine s_iconst (v := (-1)) dX8_told_16 (by decide) ?_
    exact t_iret dX8_told_17 (NR_i rfl _) h
  · replace h := h.2 c3
    refine s_iload_n dX8_told_7 rfl rfl ?_
    refine s_iconst (v := 0) dX8_told_8 (by decide) ?_
    refine s_iconst (v := 3) dX8_told_9 (by decide) ?_
    refine t_callS (M' := mX8_in) (k := 0) (As := [.int p1, .int 0, .int 3]) (rest := []) dX8_told_10 ml_X8_128 mstX8_in rfl (Nat.le_of_ble_eq_true rfl) (Nat.le_of_ble_eq_true rfl) rfl h (fun rv t4 q => ?_)
    obtain ⟨v5, rfl, h⟩ := q
    show Rt g (d + 1) mX8_told 13 [some (.ref 57), some (.int p0), some (.int p1), none] [.int v5] t4 Q
    refine s_if_ne (tgt := 18) dX8_told_13 (by decide) (fun c6 => ?_) (fun c6 => ?_)
    · replace h := h.1 c6
      refine s_aload_n dX8_told_18 rfl rfl ?_
      refine s_iload_n dX8_told_19 rfl rfl ?_
      refine t_callV (M' := mX8_layOr) (k := 1) (As := [.int p0]) (rest := []) dX8_told_20 ml_X8_293 miX8_layOr msX8_layOr rfl (by decide) rfl rfl (Nat.le_of_ble_eq_true rfl) (Nat.le_of_ble_eq_true rfl) rfl h (fun rv t7 q => ?_)
      obtain ⟨v8, rfl, h⟩ := q
      show Rt g (d + 1) mX8_told 23 [some (.ref 57), some (.int p0), some (.int p1), none] [.int v8] t7 Q
      refine s_istore_n dX8_told_23 rfl (by decide) rfl (L9 := [some (.ref 57), some (.int p0), some (.int p1), some (.int v8)]) rfl ?_
      refine s_iload_n dX8_told_24 rfl rfl ?_
      refine s_if_ge (tgt := 32) dX8_told_25 (by decide) (fun c9 => ?_) (fun c9 => ?_)
      · replace h := h.1 c9
        refine s_aload_n dX8_told_32 rfl rfl ?_
        refine s_iload_n dX8_told_33 rfl rfl ?_
        refine t_callV (M' := mX8_toldBy) (k := 4) (As := [.int p1]) (rest := []) dX8_told_34 ml_X8_305 miX8_toldBy msX8_toldBy rfl (by decide) rfl rfl (Nat.le_of_ble_eq_true rfl) (Nat.le_of_ble_eq_true rfl) rfl h (fun rv t10 q => ?_)
        obtain ⟨v11, rfl, h⟩ := q
        show Rt g (d + 1) mX8_told 37 [some (.ref 57), some (.int p0), some (.int p1), some (.int v8)] [.int v11] t10 Q
        exact t_iret dX8_told_37 (NR_i rfl _) h
      · replace h := h.2 c9
        refine s_iload_n dX8_told_28 rfl rfl ?_
        refine s_goto (tgt := 37) dX8_told_29 (by decide) ?_
        exact t_iret dX8_told_37 (NR_i rfl _) h
    · replace h := h.2 c6
      refine s_iconst (v := (-1)) dX8_told_16 (by decide) ?_
      exact t_iret dX8_told_17 (NR_i rfl _) h
theorem bX8_areFact_0 {g : Gt} {d : Nat} {t : Tt} {Q : Option Value → Tt → Prop} {p0 : Int32} (h : (p0 < 0 → Q (some (.int 0)) t) ∧ (¬ p0 < 0 → Rt g d mX8_isFact 0 [some (.int (p0 / 10))] [] t (QI (fun v3 t2 => (v3 = 0 → Q (some (.int 0)) t2) ∧ (¬ v3 = 0 → (1 < (jr p0 10) → Q (some (.int 0)) t2) ∧ (¬ 1 < (jr p0 10) → Q (some (.int 1)) t2)))))) : Rt g (d + 1) mX8_areFact 0 [some (.int p0)] [] t Q := by
  refine s_iload_n dX8_areFact_0 rfl rfl ?_
  refine s_if_lt (tgt := 26) dX8_areFact_1 (by decide) (fun c1 => ?_) (fun c1 => ?_)
  · replace h := h.1 c1
    refine s_iconst (v := 0) dX8_areFact_26 (by decide) ?_
    exact t_iret dX8_areFact_27 (NR_z rfl (Or.inl rfl)) h
  · replace h := h.2 c1
    refine s_iload_n dX8_areFact_4 rfl rfl ?_
    refine s_bipush (v := 10) dX8_areFact_5 (by decide) ?_
    refine s_idiv dX8_areFact_7 (by decide) ?_
    refine t_callS (M' := mX8_isFact) (k := 0) (As := [.int (p0 / 10)]) (rest := []) dX8_areFact_8 ml_X8_159 mstX8_isFact rfl (Nat.le_of_ble_eq_true rfl) (Nat.le_of_ble_eq_true rfl) rfl h (fun rv t2 q => ?_)
    obtain ⟨v3, rfl, h⟩ := q
    show Rt g (d + 1) mX8_areFact 11 [some (.int p0)] [.int v3] t2 Q
    refine s_if_eq (tgt := 26) dX8_areFact_11 (by decide) (fun c4 => ?_) (fun c4 => ?_)
    · replace h := h.1 c4
      refine s_iconst (v := 0) dX8_areFact_26 (by decide) ?_
      exact t_iret dX8_areFact_27 (NR_z rfl (Or.inl rfl)) h
    · replace h := h.2 c4
      refine s_iload_n dX8_areFact_14 rfl rfl ?_
      refine s_bipush (v := 10) dX8_areFact_15 (by decide) ?_
      refine s_irem dX8_areFact_17 (by decide) ?_
      refine s_iconst (v := 1) dX8_areFact_18 (by decide) ?_
      refine s_icmp_gt (tgt := 26) dX8_areFact_19 (by decide) (fun c5 => ?_) (fun c5 => ?_)
      · replace h := h.1 c5
        refine s_iconst (v := 0) dX8_areFact_26 (by decide) ?_
        exact t_iret dX8_areFact_27 (NR_z rfl (Or.inl rfl)) h
      · replace h := h.2 c5
        refine s_iconst (v := 1) dX8_areFact_22 (by decide) ?_
        refine s_goto (tgt := 27) dX8_areFact_23 (by decide) ?_
        exact t_iret dX8_areFact_27 (NR_z rfl (Or.inr rfl)) h
theorem bX8_have_0 {g : Gt} {d : Nat} {t : Tt} {Q : Option Value → Tt → Prop} {p0 : Int32} {p1 : Int32} {p2 : Int32} (h : Rt g d mX8_isShelf 0 [some (.int p0)] [] t (QI (fun v2 t1 => (v2 = 0 → Q (some (.int (-1))) t1) ∧ (¬ v2 = 0 → Rt g d mX8_areFact 0 [some (.int p1)] [] t1 (QI (fun v5 t4 => (v5 = 0 → Q (some (.int (-1))) t4) ∧ (¬ v5 = 0 → Rt g d mX8_in 0 [some (.int p2), some (.int 0), some (.int 2)] [] t4 (QI (fun v8 t7 => (¬ v8 = 0 → Rt g d mX8_layOr 0 [some (.ref 57), some (.int p0), none] [] t7 (QI (fun v11 t10 => (0 ≤ v11 → ∀ z13 : Int32, z13 = (p1 / 10) → ∀ z14 : Int32, z14 = (jr p1 10) → Rt g d mX8_believedNow 0 [some (.ref 57), some (.int z13), none, none, none] [] t10 (QI (fun v16 t15 => (¬ v16 = z14 → Rt g (d + 1) mX8_have 88 [some (.ref 57), none, none, some (.int p2), none, some (.int z13), some (.int z14), some (.int (-1)), some (.int (-2)), some (.int (-2)), some (.int 0), none, none] [] t15 Q) ∧ (v16 = z14 → (¬ p2 = 0 → Q (some (.int (-2))) t15) ∧ (p2 = 0 → Q (some (.int 0)) t15))))) ∧ (¬ 0 ≤ v11 → Q (some (.int v11)) t10)))) ∧ (v8 = 0 → Q (some (.int (-1))) t7)))))))))) : Rt g (d + 1) mX8_have 0 [some (.ref 57), some (.int p0), some (.int p1), some (.int p2), none, none, none, none, none, none, none, none, none] [] t Q := by
  refine s_iload_n dX8_have_0 rfl rfl ?_
  refine t_callS (M' := mX8_isShelf) (k := 0) (As := [.int p0]) (rest := []) dX8_have_1 ml_X8_132 mstX8_isShelf rfl (Nat.le_of_ble_eq_true rfl) (Nat.le_of_ble_eq_true rfl) rfl h (fun rv t1 q => ?_)
  obtain ⟨v2, rfl, h⟩ := q
  show Rt g (d + 1) mX8_have 4 [some (.ref 57), some (.int p0), some (.int p1), some (.int p2), none, none, none, none, none, none, none, none, none] [.int v2] t1 Q
  refine s_if_eq (tgt := 23) dX8_have_4 (by decide) (fun c3 => ?_) (fun c3 => ?_)
  · replace h := h.1 c3
    refine s_iconst (v := (-1)) dX8_have_23 (by decide) ?_
    exact t_iret dX8_have_24 (NR_i rfl _) h
  · replace h := h.2 c3
    refine s_iload_n dX8_have_7 rfl rfl ?_
    refine t_callS (M' := mX8_areFact) (k := 0) (As := [.int p1]) (rest := []) dX8_have_8 ml_X8_308 mstX8_areFact rfl (Nat.le_of_ble_eq_true rfl) (Nat.le_of_ble_eq_true rfl) rfl h (fun rv t4 q => ?_)
    obtain ⟨v5, rfl, h⟩ := q
    show Rt g (d + 1) mX8_have 11 [some (.ref 57), some (.int p0), some (.int p1), some (.int p2), none, none, none, none, none, none, none, none, none] [.int v5] t4 Q
    refine s_if_eq (tgt := 23) dX8_have_11 (by decide) (fun c6 => ?_) (fun c6 => ?_)
    · replace h := h.1 c6
      refine s_iconst (v := (-1)) dX8_have_23 (by decide) ?_
      exact t_iret dX8_have_24 (NR_i rfl _) h
    · replace h := h.2 c6
      refine s_iload_n dX8_have_14 rfl rfl ?_
      refine s_iconst (v := 0) dX8_have_15 (by decide) ?_
      refine s_iconst (v := 2) dX8_have_16 (by decide) ?_
      refine t_callS (M' := mX8_in) (k := 0) (As := [.int p2, .int 0, .int 2]) (rest := []) dX8_have_17 ml_X8_128 mstX8_in rfl (Nat.le_of_ble_eq_true rfl) (Nat.le_of_ble_eq_true rfl) rfl h (fun rv t7 q => ?_)
      obtain ⟨v8, rfl, h⟩ := q
      show Rt g (d + 1) mX8_have 20 [some (.ref 57), some (.int p0), some (.int p1), some (.int p2), none, none, none, none, none, none, none, none, none] [.int v8] t7 Q
      refine s_if_ne (tgt := 25) dX8_have_20 (by decide) (fun c9 => ?_) (fun c9 => ?_)
      · replace h := h.1 c9
        refine s_aload_n dX8_have_25 rfl rfl ?_
        refine s_iload_n dX8_have_26 rfl rfl ?_
        refine t_callV (M' := mX8_layOr) (k := 1) (As := [.int p0]) (rest := []) dX8_have_27 ml_X8_293 miX8_layOr msX8_layOr rfl (by decide) rfl rfl (Nat.le_of_ble_eq_true rfl) (Nat.le_of_ble_eq_true rfl) rfl h (fun rv t10 q => ?_)
        obtain ⟨v11, rfl, h⟩ := q
        show Rt g (d + 1) mX8_have 30 [some (.ref 57), some (.int p0), some (.int p1), some (.int p2), none, none, none, none, none, none, none, none, none] [.int v11] t10 Q
        refine s_istore dX8_have_30 (by decide) rfl (L9 := [some (.ref 57), some (.int p0), some (.int p1), some (.int p2), some (.int v11), none, none, none, none, none, none, none, none]) rfl ?_
        refine s_iload dX8_have_32 rfl ?_
        refine s_if_ge (tgt := 40) dX8_have_34 (by decide) (fun c12 => ?_) (fun c12 => ?_)
        · replace h := h.1 c12
          refine s_iload_n dX8_have_40 rfl rfl ?_
          refine s_bipush (v := 10) dX8_have_41 (by decide) ?_
          refine s_idiv dX8_have_43 (by decide) ?_
          refine t_nmI (fun z13 ez13 => ?_)
          replace h := h z13 ez13
          refine s_istore dX8_have_44 (by decide) rfl (L9 := [some (.ref 57), some (.int p0), some (.int p1), some (.int p2), some (.int v11), some (.int z13), none, none, none, none, none, none, none]) rfl ?_
          refine s_iload_n dX8_have_46 rfl rfl ?_
          refine s_bipush (v := 10) dX8_have_47 (by decide) ?_
          refine s_irem dX8_have_49 (by decide) ?_
          refine t_nmI (fun z14 ez14 => ?_)
          replace h := h z14 ez14
          refine s_istore dX8_have_50 (by decide) rfl (L9 := [some (.ref 57), some (.int p0), some (.int p1), some (.int p2), some (.int v11), some (.int z13), some (.int z14), none, none, none, none, none, none]) rfl ?_
          refine s_aload_n dX8_have_52 rfl rfl ?_
          refine s_iload dX8_have_53 rfl ?_
          refine t_callV (M' := mX8_believedNow) (k := 3) (As := [.int z13]) (rest := []) dX8_have_55 ml_X8_296 miX8_believedNow msX8_believedNow rfl (by decide) rfl rfl (Nat.le_of_ble_eq_true rfl) (Nat.le_of_ble_eq_true rfl) rfl h (fun rv t15 q => ?_)
          obtain ⟨v16, rfl, h⟩ := q
          show Rt g (d + 1) mX8_have 58 [some (.ref 57), some (.int p0), some (.int p1), some (.int p2), some (.int v11), some (.int z13), some (.int z14), none, none, none, none, none, none] [.int v16] t15 Q
          refine s_iload dX8_have_58 rfl ?_
          refine s_icmp_ne (tgt := 74) dX8_have_60 (by decide) (fun c17 => ?_) (fun c17 => ?_)
          · replace h := h.1 c17
            refine s_iconst (v := (-1)) dX8_have_74 (by decide) ?_
            refine s_istore dX8_have_75 (by decide) rfl (L9 := [some (.ref 57), some (.int p0), some (.int p1), some (.int p2), some (.int v11), some (.int z13), some (.int z14), some (.int (-1)), none, none, none, none, none]) rfl ?_
            refine s_bipush (v := (-2)) dX8_have_77 (by decide) ?_
            refine s_istore dX8_have_79 (by decide) rfl (L9 := [some (.ref 57), some (.int p0), some (.int p1), some (.int p2), some (.int v11), some (.int z13), some (.int z14), some (.int (-1)), some (.int (-2)), none, none, none, none]) rfl ?_
            refine s_bipush (v := (-2)) dX8_have_81 (by decide) ?_
            refine s_istore dX8_have_83 (by decide) rfl (L9 := [some (.ref 57), some (.int p0), some (.int p1), some (.int p2), some (.int v11), some (.int z13), some (.int z14), some (.int (-1)), some (.int (-2)), some (.int (-2)), none, none, none]) rfl ?_
            refine s_iconst (v := 0) dX8_have_85 (by decide) ?_
            refine s_istore dX8_have_86 (by decide) rfl (L9 := [some (.ref 57), some (.int p0), some (.int p1), some (.int p2), some (.int v11), some (.int z13), some (.int z14), some (.int (-1)), some (.int (-2)), some (.int (-2)), some (.int 0), none, none]) rfl ?_
            exact Rt.lc h (lc_some (lc_none (lc_none (lc_some (lc_none (lc_some (lc_some (lc_some (lc_some (lc_some (lc_some (lc_none (lc_none lc_nil)))))))))))))
          · replace h := h.2 c17
            refine s_iload_n dX8_have_63 rfl rfl ?_
            refine s_if_ne (tgt := 71) dX8_have_64 (by decide) (fun c18 => ?_) (fun c18 => ?_)
            · replace h := h.1 c18
              refine s_bipush (v := (-2)) dX8_have_71 (by decide) ?_
              exact t_iret dX8_have_73 (NR_i rfl _) h
            · replace h := h.2 c18
              refine s_iconst (v := 0) dX8_have_67 (by decide) ?_
              refine s_goto (tgt := 73) dX8_have_68 (by decide) ?_
              exact t_iret dX8_have_73 (NR_i rfl _) h
        · replace h := h.2 c12
          refine s_iload dX8_have_37 rfl ?_
          exact t_iret dX8_have_39 (NR_i rfl _) h
      · replace h := h.2 c9
        refine s_iconst (v := (-1)) dX8_have_23 (by decide) ?_
        exact t_iret dX8_have_24 (NR_i rfl _) h
theorem bX8_have_88 {g : Gt} {d : Nat} {t : Tt} {Q : Option Value → Tt → Prop} {x3 : Int32} {x5 : Int32} {x6 : Int32} {x7 : Int32} {x8 : Int32} {x9 : Int32} {x10 : Int32} (h : ((t.1 57 1) ≤ x10 → (0 ≤ x7 → (¬ x3 = 0 → (¬ x3 = 1 → Q (some (.int x9)) t) ∧ (x3 = 1 → Q (some (.int x8)) t)) ∧ (x3 = 0 → Q (some (.int x7)) t)) ∧ (¬ 0 ≤ x7 → Q (some (.int (-2))) t)) ∧ (¬ (t.1 57 1) ≤ x10 → Rt g (d + 1) mX8_have 100 [some (.ref 57), none, none, some (.int x3), none, some (.int x5), some (.int x6), some (.int x7), some (.int x8), some (.int x9), some (.int x10), some (.int 0), none] [] t Q)) : Rt g (d + 1) mX8_have 88 [some (.ref 57), none, none, some (.int x3), none, some (.int x5), some (.int x6), some (.int x7), some (.int x8), some (.int x9), some (.int x10), none, none] [] t Q := by
  refine s_iload dX8_have_88 rfl ?_
  refine s_aload_n dX8_have_90 rfl rfl ?_
  refine t_getI dX8_have_91 fl_X8_125 rfl (by decide) rfl ?_
  refine s_icmp_ge (tgt := 191) dX8_have_94 (by decide) (fun c1 => ?_) (fun c1 => ?_)
  · replace h := h.1 c1
    refine s_iload dX8_have_191 rfl ?_
    refine s_if_ge (tgt := 199) dX8_have_193 (by decide) (fun c2 => ?_) (fun c2 => ?_)
    · replace h := h.1 c2
      refine s_iload_n dX8_have_199 rfl rfl ?_
      refine s_if_ne (tgt := 208) dX8_have_200 (by decide) (fun c3 => ?_) (fun c3 => ?_)
      · replace h := h.1 c3
        refine s_iload_n dX8_have_208 rfl rfl ?_
        refine s_iconst (v := 1) dX8_have_209 (by decide) ?_
        refine s_icmp_ne (tgt := 218) dX8_have_210 (by decide) (fun c4 => ?_) (fun c4 => ?_)
        · replace h := h.1 c4
          refine s_iload dX8_have_218 rfl ?_
          exact t_iret dX8_have_220 (NR_i rfl _) h
        · replace h := h.2 c4
          refine s_iload dX8_have_213 rfl ?_
          refine s_goto (tgt := 220) dX8_have_215 (by decide) ?_
          exact t_iret dX8_have_220 (NR_i rfl _) h
      · replace h := h.2 c3
        refine s_iload dX8_have_203 rfl ?_
        refine s_goto (tgt := 220) dX8_have_205 (by decide) ?_
        exact t_iret dX8_have_220 (NR_i rfl _) h
    · replace h := h.2 c2
      refine s_bipush (v := (-2)) dX8_have_196 (by decide) ?_
      exact t_iret dX8_have_198 (NR_i rfl _) h
  · replace h := h.2 c1
    refine s_iconst (v := 0) dX8_have_97 (by decide) ?_
    refine s_istore dX8_have_98 (by decide) rfl (L9 := [some (.ref 57), none, none, some (.int x3), none, some (.int x5), some (.int x6), some (.int x7), some (.int x8), some (.int x9), some (.int x10), some (.int 0), none]) rfl ?_
    exact h
theorem bX8_have_100 {g : Gt} {d : Nat} {t : Tt} {Q : Option Value → Tt → Prop} {x3 : Int32} {x5 : Int32} {x6 : Int32} {x7 : Int32} {x8 : Int32} {x9 : Int32} {x10 : Int32} {x11 : Int32} (h : (10 ≤ x11 → Rt g (d + 1) mX8_have 88 [some (.ref 57), none, none, some (.int x3), none, some (.int x5), some (.int x6), some (.int x7), some (.int x8), some (.int x9), some (.int (x10 + 1)), none, none] [] t Q) ∧ (¬ 10 ≤ x11 → Rt g d mX8_goTrial 0 [some (.ref 57), some (.int 0), none, none, none] [] t (QV (fun t2 => Rt g d mX8_sayOf 0 [some (.ref 57), some (.int x10), some (.int x5), some (.int x6), some (.int x11)] [] t2 (QI (fun v4 t3 => vp_in ((10 * x10) + x5) 70 ∧ (Rt g d mX8_believedNow 0 [some (.ref 57), some (.int x5), none, none, none] [] (pI t3 80 ((10 * x10) + x5).toNatClampNeg x6) (QI (fun v7 t6 => (¬ v7 = x6 → Rt g (d + 1) mX8_have 179 [some (.ref 57), none, none, some (.int x3), none, some (.int x5), some (.int x6), some (.int x7), some (.int x8), some (.int x9), some (.int x10), some (.int x11), none] [] t6 Q) ∧ (v7 = x6 → (x7 < 0 → Rt g (d + 1) mX8_have 167 [some (.ref 57), none, none, some (.int x3), none, some (.int x5), some (.int x6), none, none, none, some (.int x10), some (.int x11), some (.int v4)] [] t6 Q) ∧ (¬ x7 < 0 → (v4 < x7 → Rt g (d + 1) mX8_have 167 [some (.ref 57), none, none, some (.int x3), none, some (.int x5), some (.int x6), none, none, none, some (.int x10), some (.int x11), some (.int v4)] [] t6 Q) ∧ (¬ v4 < x7 → Rt g (d + 1) mX8_have 179 [some (.ref 57), none, none, some (.int x3), none, some (.int x5), some (.int x6), some (.int x7), some (.int x8), some (.int x9), some (.int x10), some (.int x11), none] [] t6 Q)))))))))))) : Rt g (d + 1) mX8_have 100 [some (.ref 57), none, none, some (.int x3), none, some (.int x5), some (.int x6), some (.int x7), some (.int x8), some (.int x9), some (.int x10), some (.int x11), none] [] t Q := by
  refine s_iload dX8_have_100 rfl ?_
  refine s_bipush (v := 10) dX8_have_102 (by decide) ?_
  refine s_icmp_ge (tgt := 185) dX8_have_104 (by decide) (fun c1 => ?_) (fun c1 => ?_)
  · replace h := h.1 c1
    refine s_iinc (w := x10 + 1) dX8_have_185 rfl (by rfl) (by decide) rfl (L9 := [some (.ref 57), none, none, some (.int x3), none, some (.int x5), some (.int x6), some (.int x7), some (.int x8), some (.int x9), some (.int (x10 + 1)), some (.int x11), none]) rfl ?_
    refine s_goto (tgt := 88) dX8_have_188 (by decide) ?_
    exact Rt.lc h (lc_some (lc_none (lc_none (lc_some (lc_none (lc_some (lc_some (lc_some (lc_some (lc_some (lc_some (lc_none (lc_none lc_nil)))))))))))))
  · replace h := h.2 c1
    refine s_aload_n dX8_have_107 rfl rfl ?_
    refine s_iconst (v := 0) dX8_have_108 (by decide) ?_
    refine t_callV (M' := mX8_goTrial) (k := 3) (As := [.int 0]) (rest := []) dX8_have_109 ml_X8_290 miX8_goTrial msX8_goTrial rfl (by decide) rfl rfl (Nat.le_of_ble_eq_true rfl) (Nat.le_of_ble_eq_true rfl) rfl h (fun rv t2 q => ?_)
    obtain ⟨rfl, h⟩ := q
    show Rt g (d + 1) mX8_have 112 [some (.ref 57), none, none, some (.int x3), none, some (.int x5), some (.int x6), some (.int x7), some (.int x8), some (.int x9), some (.int x10), some (.int x11), none] [] t2 Q
    refine s_aload_n dX8_have_112 rfl rfl ?_
    refine s_iload dX8_have_113 rfl ?_
    refine s_iload dX8_have_115 rfl ?_
    refine s_iload dX8_have_117 rfl ?_
    refine s_iload dX8_have_119 rfl ?_
    refine t_callV (M' := mX8_sayOf) (k := 0) (As := [.int x10, .int x5, .int x6, .int x11]) (rest := []) dX8_have_121 ml_X8_276 miX8_sayOf msX8_sayOf rfl (by decide) rfl rfl (Nat.le_of_ble_eq_true rfl) (Nat.le_of_ble_eq_true rfl) rfl h (fun rv t3 q => ?_)
    obtain ⟨v4, rfl, h⟩ := q
    show Rt g (d + 1) mX8_have 124 [some (.ref 57), none, none, some (.int x3), none, some (.int x5), some (.int x6), some (.int x7), some (.int x8), some (.int x9), some (.int x10), some (.int x11), none] [.int v4] t3 Q
    refine s_istore dX8_have_124 (by decide) rfl (L9 := [some (.ref 57), none, none, some (.int x3), none, some (.int x5), some (.int x6), some (.int x7), some (.int x8), some (.int x9), some (.int x10), some (.int x11), some (.int v4)]) rfl ?_
    refine s_aload_n dX8_have_126 rfl rfl ?_
    refine t_getR (o' := 80) dX8_have_127 fl_X8_82 rfl (by decide) rfl rfl ?_
    refine s_bipush (v := 10) dX8_have_130 (by decide) ?_
    refine s_iload dX8_have_132 rfl ?_
    refine s_imul dX8_have_134 ?_
    refine s_iload dX8_have_135 rfl ?_
    refine s_iadd dX8_have_137 ?_
    refine s_iload dX8_have_138 rfl ?_
    obtain ⟨g5, h⟩ := h
    refine t_iast dX8_have_140 rfl (by decide) g5 ?_
    refine s_aload_n dX8_have_141 rfl rfl ?_
    refine s_iload dX8_have_142 rfl ?_
    refine t_callV (M' := mX8_believedNow) (k := 3) (As := [.int x5]) (rest := []) dX8_have_144 ml_X8_296 miX8_believedNow msX8_believedNow rfl (by decide) rfl rfl (Nat.le_of_ble_eq_true rfl) (Nat.le_of_ble_eq_true rfl) rfl h (fun rv t6 q => ?_)
    obtain ⟨v7, rfl, h⟩ := q
    show Rt g (d + 1) mX8_have 147 [some (.ref 57), none, none, some (.int x3), none, some (.int x5), some (.int x6), some (.int x7), some (.int x8), some (.int x9), some (.int x10), some (.int x11), some (.int v4)] [.int v7] t6 Q
    refine s_iload dX8_have_147 rfl ?_
    refine s_icmp_ne (tgt := 179) dX8_have_149 (by decide) (fun c8 => ?_) (fun c8 => ?_)
    · replace h := h.1 c8
      exact Rt.lc h (lc_some (lc_none (lc_none (lc_some (lc_none (lc_some (lc_some (lc_some (lc_some (lc_some (lc_some (lc_some (lc_none lc_nil)))))))))))))
    · replace h := h.2 c8
      refine s_iload dX8_have_152 rfl ?_
      refine s_if_lt (tgt := 167) dX8_have_154 (by decide) (fun c9 => ?_) (fun c9 => ?_)
      · replace h := h.1 c9
        exact Rt.lc h (lc_some (lc_none (lc_none (lc_some (lc_none (lc_some (lc_some (lc_none (lc_none (lc_none (lc_some (lc_some (lc_some lc_nil)))))))))))))
      · replace h := h.2 c9
        refine s_iload dX8_have_157 rfl ?_
        refine s_iload dX8_have_159 rfl ?_
        refine s_icmp_lt (tgt := 167) dX8_have_161 (by decide) (fun c10 => ?_) (fun c10 => ?_)
        · replace h := h.1 c10
          exact Rt.lc h (lc_some (lc_none (lc_none (lc_some (lc_none (lc_some (lc_some (lc_none (lc_none (lc_none (lc_some (lc_some (lc_some lc_nil)))))))))))))
        · replace h := h.2 c10
          refine s_goto (tgt := 179) dX8_have_164 (by decide) ?_
          exact Rt.lc h (lc_some (lc_none (lc_none (lc_some (lc_none (lc_some (lc_some (lc_some (lc_some (lc_some (lc_some (lc_some (lc_none lc_nil)))))))))))))
theorem bX8_have_179 {g : Gt} {d : Nat} {t : Tt} {Q : Option Value → Tt → Prop} {x3 : Int32} {x5 : Int32} {x6 : Int32} {x7 : Int32} {x8 : Int32} {x9 : Int32} {x10 : Int32} {x11 : Int32} (h : Rt g (d + 1) mX8_have 100 [some (.ref 57), none, none, some (.int x3), none, some (.int x5), some (.int x6), some (.int x7), some (.int x8), some (.int x9), some (.int x10), some (.int (x11 + 1)), none] [] t Q) : Rt g (d + 1) mX8_have 179 [some (.ref 57), none, none, some (.int x3), none, some (.int x5), some (.int x6), some (.int x7), some (.int x8), some (.int x9), some (.int x10), some (.int x11), none] [] t Q := by
  refine s_iinc (w := x11 + 1) dX8_have_179 rfl (by rfl) (by decide) rfl (L9 := [some (.ref 57), none, none, some (.int x3), none, some (.int x5), some (.int x6), some (.int x7), some (.int x8), some (.int x9), some (.int x10), some (.int (x11 + 1)), none]) rfl ?_
  refine s_goto (tgt := 100) dX8_have_182 (by decide) ?_
  exact h
theorem bX8_have_167 {g : Gt} {d : Nat} {t : Tt} {Q : Option Value → Tt → Prop} {x3 : Int32} {x5 : Int32} {x6 : Int32} {x10 : Int32} {x11 : Int32} {x12 : Int32} (h : Rt g (d + 1) mX8_have 179 [some (.ref 57), none, none, some (.int x3), none, some (.int x5), some (.int x6), some (.int x12), some (.int x10), some (.int x11), some (.int x10), some (.int x11), none] [] t Q) : Rt g (d + 1) mX8_have 167 [some (.ref 57), none, none, some (.int x3), none, some (.int x5), some (.int x6), none, none, none, some (.int x10), some (.int x11), some (.int x12)] [] t Q := by
  refine s_iload dX8_have_167 rfl ?_
  refine s_istore dX8_have_169 (by decide) rfl (L9 := [some (.ref 57), none, none, some (.int x3), none, some (.int x5), some (.int x6), some (.int x12), none, none, some (.int x10), some (.int x11), some (.int x12)]) rfl ?_
  refine s_iload dX8_have_171 rfl ?_
  refine s_istore dX8_have_173 (by decide) rfl (L9 := [some (.ref 57), none, none, some (.int x3), none, some (.int x5), some (.int x6), some (.int x12), some (.int x10), none, some (.int x10), some (.int x11), some (.int x12)]) rfl ?_
  refine s_iload dX8_have_175 rfl ?_
  refine s_istore dX8_have_177 (by decide) rfl (L9 := [some (.ref 57), none, none, some (.int x3), none, some (.int x5), some (.int x6), some (.int x12), some (.int x10), some (.int x11), some (.int x10), some (.int x11), some (.int x12)]) rfl ?_
  exact Rt.lc h (lc_some (lc_none (lc_none (lc_some (lc_none (lc_some (lc_some (lc_some (lc_some (lc_some (lc_some (lc_some (lc_none lc_nil)))))))))))))
theorem bX8_left_0 {g : Gt} {d : Nat} {t : Tt} {Q : Option Value → Tt → Prop} {p0 : Int32} {p1 : Int32} (h : Rt g d mX8_isPerson 0 [some (.ref 57), some (.int p0)] [] t (QI (fun v2 t1 => (v2 = 0 → Q (some (.int (-1))) t1) ∧ (¬ v2 = 0 → Rt g d mX8_in 0 [some (.int p1), some (.int 0), some (.int 9)] [] t1 (QI (fun v5 t4 => (¬ v5 = 0 → Rt g d mX8_beginMouths 0 [some (.ref 57), none] [] t4 (QV (fun t7 => Rt g (d + 1) mX8_left 26 [some (.ref 57), some (.int p0), some (.int p1), some (.int 0)] [] t7 Q))) ∧ (v5 = 0 → Q (some (.int (-1))) t4))))))) : Rt g (d + 1) mX8_left 0 [some (.ref 57), some (.int p0), some (.int p1), none] [] t Q := by
  refine s_aload_n dX8_left_0 rfl rfl ?_
  refine s_iload_n dX8_left_1 rfl rfl ?_
  refine t_callV (M' := mX8_isPerson) (k := 0) (As := [.int p0]) (rest := []) dX8_left_2 ml_X8_156 miX8_isPerson msX8_isPerson rfl (by decide) rfl rfl (Nat.le_of_ble_eq_true rfl) (Nat.le_of_ble_eq_true rfl) rfl h (fun rv t1 q => ?_)
  obtain ⟨v2, rfl, h⟩ := q
  show Rt g (d + 1) mX8_left 5 [some (.ref 57), some (.int p0), some (.int p1), none] [.int v2] t1 Q
  refine s_if_eq (tgt := 18) dX8_left_5 (by decide) (fun c3 => ?_) (fun c3 => ?_)
  · replace h := h.1 c3
    refine s_iconst (v := (-1)) dX8_left_18 (by decide) ?_
    exact t_iret dX8_left_19 (NR_i rfl _) h
  · replace h := h.2 c3
    refine s_iload_n dX8_left_8 rfl rfl ?_
    refine s_iconst (v := 0) dX8_left_9 (by decide) ?_
    refine s_bipush (v := 9) dX8_left_10 (by decide) ?_
    refine t_callS (M' := mX8_in) (k := 0) (As := [.int p1, .int 0, .int 9]) (rest := []) dX8_left_12 ml_X8_128 mstX8_in rfl (Nat.le_of_ble_eq_true rfl) (Nat.le_of_ble_eq_true rfl) rfl h (fun rv t4 q => ?_)
    obtain ⟨v5, rfl, h⟩ := q
    show Rt g (d + 1) mX8_left 15 [some (.ref 57), some (.int p0), some (.int p1), none] [.int v5] t4 Q
    refine s_if_ne (tgt := 20) dX8_left_15 (by decide) (fun c6 => ?_) (fun c6 => ?_)
    · replace h := h.1 c6
      refine s_aload_n dX8_left_20 rfl rfl ?_
      refine t_callV (M' := mX8_beginMouths) (k := 1) (As := []) (rest := []) dX8_left_21 ml_X8_172 miX8_beginMouths msX8_beginMouths rfl (by decide) rfl rfl (Nat.le_of_ble_eq_true rfl) (Nat.le_of_ble_eq_true rfl) rfl h (fun rv t7 q => ?_)
      obtain ⟨rfl, h⟩ := q
      show Rt g (d + 1) mX8_left 24 [some (.ref 57), some (.int p0), some (.int p1), none] [] t7 Q
      refine s_iconst (v := 0) dX8_left_24 (by decide) ?_
      refine s_istore_n dX8_left_25 rfl (by decide) rfl (L9 := [some (.ref 57), some (.int p0), some (.int p1), some (.int 0)]) rfl ?_
      exact h
    · replace h := h.2 c6
      refine s_iconst (v := (-1)) dX8_left_18 (by decide) ?_
      exact t_iret dX8_left_19 (NR_i rfl _) h
theorem bX8_left_26 {g : Gt} {d : Nat} {t : Tt} {Q : Option Value → Tt → Prop} {x1 : Int32} {x2 : Int32} {x3 : Int32} (h : (99 < x3 → Q (some (.int (-2))) t) ∧ (¬ 99 < x3 → Rt g d mX8_isGone 0 [some (.ref 57), some (.int x1)] [] t (QI (fun v3 t2 => (v3 = 0 → Rt g d mX8_lieOf 0 [some (.ref 57), some (.int x1), some (.int 0), some (.int x2), none, none, none, none, none] [] t2 (QI (fun v6 t5 => Rt g (d + 1) mX8_left 26 [some (.ref 57), some (.int x1), some (.int x2), some (.int (x3 + 1))] [] t5 Q))) ∧ (¬ v3 = 0 → Q (some (.int x3)) t2))))) : Rt g (d + 1) mX8_left 26 [some (.ref 57), some (.int x1), some (.int x2), some (.int x3)] [] t Q := by
  refine s_iload_n dX8_left_26 rfl rfl ?_
  refine s_bipush (v := 99) dX8_left_27 (by decide) ?_
  refine s_icmp_gt (tgt := 56) dX8_left_29 (by decide) (fun c1 => ?_) (fun c1 => ?_)
  · replace h := h.1 c1
    refine s_bipush (v := (-2)) dX8_left_56 (by decide) ?_
    exact t_iret dX8_left_58 (NR_i rfl _) h
  · replace h := h.2 c1
    refine s_aload_n dX8_left_32 rfl rfl ?_
    refine s_iload_n dX8_left_33 rfl rfl ?_
    refine t_callV (M' := mX8_isGone) (k := 0) (As := [.int x1]) (rest := []) dX8_left_34 ml_X8_280 miX8_isGone msX8_isGone rfl (by decide) rfl rfl (Nat.le_of_ble_eq_true rfl) (Nat.le_of_ble_eq_true rfl) rfl h (fun rv t2 q => ?_)
    obtain ⟨v3, rfl, h⟩ := q
    show Rt g (d + 1) mX8_left 37 [some (.ref 57), some (.int x1), some (.int x2), some (.int x3)] [.int v3] t2 Q
    refine s_if_eq (tgt := 42) dX8_left_37 (by decide) (fun c4 => ?_) (fun c4 => ?_)
    · replace h := h.1 c4
      refine s_aload_n dX8_left_42 rfl rfl ?_
      refine s_iload_n dX8_left_43 rfl rfl ?_
      refine s_iconst (v := 0) dX8_left_44 (by decide) ?_
      refine s_iload_n dX8_left_45 rfl rfl ?_
      refine t_callV (M' := mX8_lieOf) (k := 5) (As := [.int x1, .int 0, .int x2]) (rest := []) dX8_left_46 ml_X8_261 miX8_lieOf msX8_lieOf rfl (by decide) rfl rfl (Nat.le_of_ble_eq_true rfl) (Nat.le_of_ble_eq_true rfl) rfl h (fun rv t5 q => ?_)
      obtain ⟨v6, rfl, h⟩ := q
      show Rt g (d + 1) mX8_left 49 [some (.ref 57), some (.int x1), some (.int x2), some (.int x3)] [.int v6] t5 Q
      refine s_pop dX8_left_49 rfl ?_
      refine s_iinc (w := x3 + 1) dX8_left_50 rfl (by rfl) (by decide) rfl (L9 := [some (.ref 57), some (.int x1), some (.int x2), some (.int (x3 + 1))]) rfl ?_
      refine s_goto (tgt := 26) dX8_left_53 (by decide) ?_
      exact h
    · replace h := h.2 c4
      refine s_iload_n dX8_left_40 rfl rfl ?_
      exact t_iret dX8_left_41 (NR_i rfl _) h
theorem bX8_enough_0 {g : Gt} {d : Nat} {t : Tt} {Q : Option Value → Tt → Prop} {p0 : Int32} {p1 : Int32} (h : Rt g d mX8_in 0 [some (.int p0), some (.int 0), some (.int 999)] [] t (QI (fun v2 t1 => (v2 = 0 → Q (some (.int (-1))) t1) ∧ (¬ v2 = 0 → Rt g d mX8_in 0 [some (.int p1), some (.int 0), some (.int 1)] [] t1 (QI (fun v5 t4 => (¬ v5 = 0 → Rt g d mX8_beginMouths 0 [some (.ref 57), none] [] t4 (QV (fun t7 => Rt g (d + 1) mX8_enough 32 [some (.ref 57), some (.int p0), some (.int p1), some (.int (-2)), some (.int 0), none, none] [] t7 Q))) ∧ (v5 = 0 → Q (some (.int (-1))) t4))))))) : Rt g (d + 1) mX8_enough 0 [some (.ref 57), some (.int p0), some (.int p1), none, none, none, none] [] t Q := by
  refine s_iload_n dX8_enough_0 rfl rfl ?_
  refine s_iconst (v := 0) dX8_enough_1 (by decide) ?_
  refine s_sipush (v := 999) dX8_enough_2 (by decide) ?_
  refine t_callS (M' := mX8_in) (k := 0) (As := [.int p0, .int 0, .int 999]) (rest := []) dX8_enough_5 ml_X8_128 mstX8_in rfl (Nat.le_of_ble_eq_true rfl) (Nat.le_of_ble_eq_true rfl) rfl h (fun rv t1 q => ?_)
  obtain ⟨v2, rfl, h⟩ := q
  show Rt g (d + 1) mX8_enough 8 [some (.ref 57), some (.int p0), some (.int p1), none, none, none, none] [.int v2] t1 Q
  refine s_if_eq (tgt := 20) dX8_enough_8 (by decide) (fun c3 => ?_) (fun c3 => ?_)
  · replace h := h.1 c3
    refine s_iconst (v := (-1)) dX8_enough_20 (by decide) ?_
    exact t_iret dX8_enough_21 (NR_i rfl _) h
  · replace h := h.2 c3
    refine s_iload_n dX8_enough_11 rfl rfl ?_
    refine s_iconst (v := 0) dX8_enough_12 (by decide) ?_
    refine s_iconst (v := 1) dX8_enough_13 (by decide) ?_
    refine t_callS (M' := mX8_in) (k := 0) (As := [.int p1, .int 0, .int 1]) (rest := []) dX8_enough_14 ml_X8_128 mstX8_in rfl (Nat.le_of_ble_eq_true rfl) (Nat.le_of_ble_eq_true rfl) rfl h (fun rv t4 q => ?_)
    obtain ⟨v5, rfl, h⟩ := q
    show Rt g (d + 1) mX8_enough 17 [some (.ref 57), some (.int p0), some (.int p1), none, none, none, none] [.int v5] t4 Q
    refine s_if_ne (tgt := 22) dX8_enough_17 (by decide) (fun c6 => ?_) (fun c6 => ?_)
    · replace h := h.1 c6
      refine s_aload_n dX8_enough_22 rfl rfl ?_
      refine t_callV (M' := mX8_beginMouths) (k := 1) (As := []) (rest := []) dX8_enough_23 ml_X8_172 miX8_beginMouths msX8_beginMouths rfl (by decide) rfl rfl (Nat.le_of_ble_eq_true rfl) (Nat.le_of_ble_eq_true rfl) rfl h (fun rv t7 q => ?_)
      obtain ⟨rfl, h⟩ := q
      show Rt g (d + 1) mX8_enough 26 [some (.ref 57), some (.int p0), some (.int p1), none, none, none, none] [] t7 Q
      refine s_bipush (v := (-2)) dX8_enough_26 (by decide) ?_
      refine s_istore_n dX8_enough_28 rfl (by decide) rfl (L9 := [some (.ref 57), some (.int p0), some (.int p1), some (.int (-2)), none, none, none]) rfl ?_
      refine s_iconst (v := 0) dX8_enough_29 (by decide) ?_
      refine s_istore dX8_enough_30 (by decide) rfl (L9 := [some (.ref 57), some (.int p0), some (.int p1), some (.int (-2)), some (.int 0), none, none]) rfl ?_
      exact h
    · replace h := h.2 c6
      refine s_iconst (v := (-1)) dX8_enough_20 (by decide) ?_
      exact t_iret dX8_enough_21 (NR_i rfl _) h
theorem bX8_enough_32 {g : Gt} {d : Nat} {t : Tt} {Q : Option Value → Tt → Prop} {x1 : Int32} {x2 : Int32} {x3 : Int32} {x4 : Int32} (h : ((jsl 1 (t.1 57 1)) ≤ x4 → (0 ≤ x3 → (¬ x2 = 0 → Q (some (.int x3)) t) ∧ (x2 = 0 → Rt g d mX8_bitsOf 0 [some (.int x3), none, none] [] t (QI (fun v5 t4 => Q (some (.int v5)) t4)))) ∧ (¬ 0 ≤ x3 → Q (some (.int (-2))) t)) ∧ (¬ (jsl 1 (t.1 57 1)) ≤ x4 → Rt g (d + 1) mX8_enough 49 [some (.ref 57), some (.int x1), some (.int x2), some (.int x3), some (.int x4), some (.int 0), some (.int 0)] [] t Q)) : Rt g (d + 1) mX8_enough 32 [some (.ref 57), some (.int x1), some (.int x2), some (.int x3), some (.int x4), none, none] [] t Q := by
  refine s_iload dX8_enough_32 rfl ?_
  refine s_iconst (v := 1) dX8_enough_34 (by decide) ?_
  refine s_aload_n dX8_enough_35 rfl rfl ?_
  refine t_getI dX8_enough_36 fl_X8_125 rfl (by decide) rfl ?_
  refine s_ishl dX8_enough_39 ?_
  refine s_icmp_ge (tgt := 117) dX8_enough_40 (by decide) (fun c1 => ?_) (fun c1 => ?_)
  · replace h := h.1 c1
    refine s_iload_n dX8_enough_117 rfl rfl ?_
    refine s_if_ge (tgt := 126) dX8_enough_118 (by decide) (fun c2 => ?_) (fun c2 => ?_)
    · replace h := h.1 c2
      refine s_iload_n dX8_enough_126 rfl rfl ?_
      refine s_if_ne (tgt := 137) dX8_enough_127 (by decide) (fun c3 => ?_) (fun c3 => ?_)
      · replace h := h.1 c3
        refine s_iload_n dX8_enough_137 rfl rfl ?_
        exact t_iret dX8_enough_138 (NR_i rfl _) h
      · replace h := h.2 c3
        refine s_iload_n dX8_enough_130 rfl rfl ?_
        refine t_callS (M' := mX8_bitsOf) (k := 2) (As := [.int x3]) (rest := []) dX8_enough_131 ml_X8_252 mstX8_bitsOf rfl (Nat.le_of_ble_eq_true rfl) (Nat.le_of_ble_eq_true rfl) rfl h (fun rv t4 q => ?_)
        obtain ⟨v5, rfl, h⟩ := q
        show Rt g (d + 1) mX8_enough 134 [some (.ref 57), some (.int x1), some (.int x2), some (.int x3), some (.int x4), none, none] [.int v5] t4 Q
        refine s_goto (tgt := 138) dX8_enough_134 (by decide) ?_
        exact t_iret dX8_enough_138 (NR_i rfl _) h
    · replace h := h.2 c2
      refine s_bipush (v := (-2)) dX8_enough_121 (by decide) ?_
      refine s_goto (tgt := 138) dX8_enough_123 (by decide) ?_
      exact t_iret dX8_enough_138 (NR_i rfl _) h
  · replace h := h.2 c1
    refine s_iconst (v := 0) dX8_enough_43 (by decide) ?_
    refine s_istore dX8_enough_44 (by decide) rfl (L9 := [some (.ref 57), some (.int x1), some (.int x2), some (.int x3), some (.int x4), some (.int 0), none]) rfl ?_
    refine s_iconst (v := 0) dX8_enough_46 (by decide) ?_
    refine s_istore dX8_enough_47 (by decide) rfl (L9 := [some (.ref 57), some (.int x1), some (.int x2), some (.int x3), some (.int x4), some (.int 0), some (.int 0)]) rfl ?_
    exact h
theorem bX8_enough_49 {g : Gt} {d : Nat} {t : Tt} {Q : Option Value → Tt → Prop} {x1 : Int32} {x2 : Int32} {x3 : Int32} {x4 : Int32} {x5 : Int32} {x6 : Int32} (h : ((t.1 57 1) ≤ x6 → (x5 < x1 → Rt g (d + 1) mX8_enough 111 [some (.ref 57), some (.int x1), some (.int x2), some (.int x3), some (.int x4), none, none] [] t Q) ∧ (¬ x5 < x1 → (x3 < 0 → Rt g (d + 1) mX8_enough 108 [some (.ref 57), some (.int x1), some (.int x2), none, some (.int x4), none, none] [] t Q) ∧ (¬ x3 < 0 → Rt g d mX8_bitsOf 0 [some (.int x4), none, none] [] t (QI (fun v5 t4 => Rt g d mX8_bitsOf 0 [some (.int x3), none, none] [] t4 (QI (fun v7 t6 => (v7 ≤ v5 → Rt g (d + 1) mX8_enough 111 [some (.ref 57), some (.int x1), some (.int x2), some (.int x3), some (.int x4), none, none] [] t6 Q) ∧ (¬ v7 ≤ v5 → Rt g (d + 1) mX8_enough 108 [some (.ref 57), some (.int x1), some (.int x2), none, some (.int x4), none, none] [] t6 Q)))))))) ∧ (¬ (t.1 57 1) ≤ x6 → (¬ ((jsr x4 x6) &&& 1) = 1 → Rt g (d + 1) mX8_enough 80 [some (.ref 57), some (.int x1), some (.int x2), some (.int x3), some (.int x4), some (.int x5), some (.int x6)] [] t Q) ∧ (((jsr x4 x6) &&& 1) = 1 → Rt g d mX8_worthOf 0 [some (.ref 57), some (.int x6)] [] t (QI (fun v11 t10 => ∀ z12 : Int32, z12 = (x5 + v11) → Rt g (d + 1) mX8_enough 80 [some (.ref 57), some (.int x1), some (.int x2), some (.int x3), some (.int x4), some (.int z12), some (.int x6)] [] t10 Q))))) : Rt g (d + 1) mX8_enough 49 [some (.ref 57), some (.int x1), some (.int x2), some (.int x3), some (.int x4), some (.int x5), some (.int x6)] [] t Q := by
  refine s_iload dX8_enough_49 rfl ?_
  refine s_aload_n dX8_enough_51 rfl rfl ?_
  refine t_getI dX8_enough_52 fl_X8_125 rfl (by decide) rfl ?_
  refine s_icmp_ge (tgt := 86) dX8_enough_55 (by decide) (fun c1 => ?_) (fun c1 => ?_)
  · replace h := h.1 c1
    refine s_iload dX8_enough_86 rfl ?_
    refine s_iload_n dX8_enough_88 rfl rfl ?_
    refine s_icmp_lt (tgt := 111) dX8_enough_89 (by decide) (fun c2 => ?_) (fun c2 => ?_)
    · replace h := h.1 c2
      exact Rt.lc h (lc_some (lc_some (lc_some (lc_some (lc_some (lc_none (lc_none lc_nil)))))))
    · replace h := h.2 c2
      refine s_iload_n dX8_enough_92 rfl rfl ?_
      refine s_if_lt (tgt := 108) dX8_enough_93 (by decide) (fun c3 => ?_) (fun c3 => ?_)
      · replace h := h.1 c3
        exact Rt.lc h (lc_some (lc_some (lc_some (lc_none (lc_some (lc_none (lc_none lc_nil)))))))
      · replace h := h.2 c3
        refine s_iload dX8_enough_96 rfl ?_
        refine t_callS (M' := mX8_bitsOf) (k := 2) (As := [.int x4]) (rest := []) dX8_enough_98 ml_X8_252 mstX8_bitsOf rfl (Nat.le_of_ble_eq_true rfl) (Nat.le_of_ble_eq_true rfl) rfl h (fun rv t4 q => ?_)
        obtain ⟨v5, rfl, h⟩ := q
        show Rt g (d + 1) mX8_enough 101 [some (.ref 57), some (.int x1), some (.int x2), some (.int x3), some (.int x4), some (.int x5), some (.int x6)] [.int v5] t4 Q
        refine s_iload_n dX8_enough_101 rfl rfl ?_
        refine t_callS (M' := mX8_bitsOf) (k := 2) (As := [.int x3]) (rest := [.int v5]) dX8_enough_102 ml_X8_252 mstX8_bitsOf rfl (Nat.le_of_ble_eq_true rfl) (Nat.le_of_ble_eq_true rfl) rfl h (fun rv t6 q => ?_)
        obtain ⟨v7, rfl, h⟩ := q
        show Rt g (d + 1) mX8_enough 105 [some (.ref 57), some (.int x1), some (.int x2), some (.int x3), some (.int x4), some (.int x5), some (.int x6)] [.int v7, .int v5] t6 Q
        refine s_icmp_ge (tgt := 111) dX8_enough_105 (by decide) (fun c8 => ?_) (fun c8 => ?_)
        · replace h := h.1 c8
          exact Rt.lc h (lc_some (lc_some (lc_some (lc_some (lc_some (lc_none (lc_none lc_nil)))))))
        · replace h := h.2 c8
          exact Rt.lc h (lc_some (lc_some (lc_some (lc_none (lc_some (lc_none (lc_none lc_nil)))))))
  · replace h := h.2 c1
    refine s_iload dX8_enough_58 rfl ?_
    refine s_iload dX8_enough_60 rfl ?_
    refine s_ishr dX8_enough_62 ?_
    refine s_iconst (v := 1) dX8_enough_63 (by decide) ?_
    refine s_iand dX8_enough_64 ?_
    refine s_iconst (v := 1) dX8_enough_65 (by decide) ?_
    refine s_icmp_ne (tgt := 80) dX8_enough_66 (by decide) (fun c9 => ?_) (fun c9 => ?_)
    · replace h := h.1 c9
      exact h
    · replace h := h.2 c9
      refine s_iload dX8_enough_69 rfl ?_
      refine s_aload_n dX8_enough_71 rfl rfl ?_
      refine s_iload dX8_enough_72 rfl ?_
      refine t_callV (M' := mX8_worthOf) (k := 0) (As := [.int x6]) (rest := [.int x5]) dX8_enough_74 ml_X8_175 miX8_worthOf msX8_worthOf rfl (by decide) rfl rfl (Nat.le_of_ble_eq_true rfl) (Nat.le_of_ble_eq_true rfl) rfl h (fun rv t10 q => ?_)
      obtain ⟨v11, rfl, h⟩ := q
      show Rt g (d + 1) mX8_enough 77 [some (.ref 57), some (.int x1), some (.int x2), some (.int x3), some (.int x4), some (.int x5), some (.int x6)] [.int v11, .int x5] t10 Q
      refine s_iadd dX8_enough_77 ?_
      refine t_nmI (fun z12 ez12 => ?_)
      replace h := h z12 ez12
      refine s_istore dX8_enough_78 (by decide) rfl (L9 := [some (.ref 57), some (.int x1), some (.int x2), some (.int x3), some (.int x4), some (.int z12), some (.int x6)]) rfl ?_
      exact h
theorem bX8_enough_111 {g : Gt} {d : Nat} {t : Tt} {Q : Option Value → Tt → Prop} {x1 : Int32} {x2 : Int32} {x3 : Int32} {x4 : Int32} (h : Rt g (d + 1) mX8_enough 32 [some (.ref 57), some (.int x1), some (.int x2), some (.int x3), some (.int (x4 + 1)), none, none] [] t Q) : Rt g (d + 1) mX8_enough 111 [some (.ref 57), some (.int x1), some (.int x2), some (.int x3), some (.int x4), none, none] [] t Q := by
  refine s_iinc (w := x4 + 1) dX8_enough_111 rfl (by rfl) (by decide) rfl (L9 := [some (.ref 57), some (.int x1), some (.int x2), some (.int x3), some (.int (x4 + 1)), none, none]) rfl ?_
  refine s_goto (tgt := 32) dX8_enough_114 (by decide) ?_
  exact h
theorem bX8_enough_108 {g : Gt} {d : Nat} {t : Tt} {Q : Option Value → Tt → Prop} {x1 : Int32} {x2 : Int32} {x4 : Int32} (h : Rt g (d + 1) mX8_enough 111 [some (.ref 57), some (.int x1), some (.int x2), some (.int x4), some (.int x4), none, none] [] t Q) : Rt g (d + 1) mX8_enough 108 [some (.ref 57), some (.int x1), some (.int x2), none, some (.int x4), none, none] [] t Q := by
  refine s_iload dX8_enough_108 rfl ?_
  refine s_istore_n dX8_enough_110 rfl (by decide) rfl (L9 := [some (.ref 57), some (.int x1), some (.int x2), some (.int x4), some (.int x4), none, none]) rfl ?_
  exact h
theorem bX8_enough_80 {g : Gt} {d : Nat} {t : Tt} {Q : Option Value → Tt → Prop} {x1 : Int32} {x2 : Int32} {x3 : Int32} {x4 : Int32} {x5 : Int32} {x6 : Int32} (h : Rt g (d + 1) mX8_enough 49 [some (.ref 57), some (.int x1), some (.int x2), some (.int x3), some (.int x4), some (.int x5), some (.int (x6 + 1))] [] t Q) : Rt g (d + 1) mX8_enough 80 [some (.ref 57), some (.int x1), some (.int x2), some (.int x3), some (.int x4), some (.int x5), some (.int x6)] [] t Q := by
  refine s_iinc (w := x6 + 1) dX8_enough_80 rfl (by rfl) (by decide) rfl (L9 := [some (.ref 57), some (.int x1), some (.int x2), some (.int x3), some (.int x4), some (.int x5), some (.int (x6 + 1))]) rfl ?_
  refine s_goto (tgt := 49) dX8_enough_83 (by decide) ?_
  exact h
theorem bX8_isLesser_0 {g : Gt} {d : Nat} {t : Tt} {Q : Option Value → Tt → Prop} {p0 : Int32} {p1 : Int32} (h : Rt g d mX8_worthOf 0 [some (.ref 57), some (.int p0)] [] t (QI (fun v2 t1 => Rt g d mX8_worthOf 0 [some (.ref 57), some (.int p1)] [] t1 (QI (fun v4 t3 => (v2 < v4 → Rt g (d + 1) mX8_isLesser 31 [none, none, none] [] t3 Q) ∧ (¬ v2 < v4 → Rt g d mX8_worthOf 0 [some (.ref 57), some (.int p0)] [] t3 (QI (fun v7 t6 => Rt g d mX8_worthOf 0 [some (.ref 57), some (.int p1)] [] t6 (QI (fun v9 t8 => (¬ v7 = v9 → Q (some (.int 0)) t8) ∧ (v7 = v9 → (p1 ≤ p0 → Q (some (.int 0)) t8) ∧ (¬ p1 ≤ p0 → Rt g (d + 1) mX8_isLesser 31 [none, none, none] [] t8 Q)))))))))))) : Rt g (d + 1) mX8_isLesser 0 [some (.ref 57), some (.int p0), some (.int p1)] [] t Q := by
  refine s_aload_n dX8_isLesser_0 rfl rfl ?_
  refine s_iload_n dX8_isLesser_1 rfl rfl ?_
  refine t_callV (M' := mX8_worthOf) (k := 0) (As := [.int p0]) (rest := []) dX8_isLesser_2 ml_X8_175 miX8_worthOf msX8_worthOf rfl (by decide) rfl rfl (Nat.le_of_ble_eq_true rfl) (Nat.le_of_ble_eq_true rfl) rfl h (fun rv t1 q => ?_)
  obtain ⟨v2, rfl, h⟩ := q
  show Rt g (d + 1) mX8_isLesser 5 [some (.ref 57), some (.int p0), some (.int p1)] [.int v2] t1 Q
  refine s_aload_n dX8_isLesser_5 rfl rfl ?_
  refine s_iload_n dX8_isLesser_6 rfl rfl ?_
  refine t_callV (M' := mX8_worthOf) (k := 0) (As := [.int p1]) (rest := [.int v2]) dX8_isLesser_7 ml_X8_175 miX8_worthOf msX8_worthOf rfl (by decide) rfl rfl (Nat.le_of_ble_eq_true rfl) (Nat.le_of_ble_eq_true rfl) rfl h (fun rv t3 q => ?_)
  obtain ⟨v4, rfl, h⟩ := q
  show Rt g (d + 1) mX8_isLesser 10 [some (.ref 57), some (.int p0), some (.int p1)] [.int v4, .int v2] t3 Q
  refine s_icmp_lt (tgt := 31) dX8_isLesser_10 (by decide) (fun c5 => ?_) (fun c5 => ?_)
  · replace h := h.1 c5
    exact Rt.lc h (lc_none (lc_none (lc_none lc_nil)))
  · replace h := h.2 c5
    refine s_aload_n dX8_isLesser_13 rfl rfl ?_
    refine s_iload_n dX8_isLesser_14 rfl rfl ?_
    refine t_callV (M' := mX8_worthOf) (k := 0) (As := [.int p0]) (rest := []) dX8_isLesser_15 ml_X8_175 miX8_worthOf msX8_worthOf rfl (by decide) rfl rfl (Nat.le_of_ble_eq_true rfl) (Nat.le_of_ble_eq_true rfl) rfl h (fun rv t6 q => ?_)
    obtain ⟨v7, rfl, h⟩ := q
    show Rt g (d + 1) mX8_isLesser 18 [some (.ref 57), some (.int p0), some (.int p1)] [.int v7] t6 Q
    refine s_aload_n dX8_isLesser_18 rfl rfl ?_
    refine s_iload_n dX8_isLesser_19 rfl rfl ?_
    refine t_callV (M' := mX8_worthOf) (k := 0) (As := [.int p1]) (rest := [.int v7]) dX8_isLesser_20 ml_X8_175 miX8_worthOf msX8_worthOf rfl (by decide) rfl rfl (Nat.le_of_ble_eq_true rfl) (Nat.le_of_ble_eq_true rfl) rfl h (fun rv t8 q => ?_)
    obtain ⟨v9, rfl, h⟩ := q
    show Rt g (d + 1) mX8_isLesser 23 [some (.ref 57), some (.int p0), some (.int p1)] [.int v9, .int v7] t8 Q
    refine s_icmp_ne (tgt := 35) dX8_isLesser_23 (by decide) (fun c10 => ?_) (fun c10 => ?_)
    · replace h := h.1 c10
      refine s_iconst (v := 0) dX8_isLesser_35 (by decide) ?_
      exact t_iret dX8_isLesser_36 (NR_z rfl (Or.inl rfl)) h
    · replace h := h.2 c10
      refine s_iload_n dX8_isLesser_26 rfl rfl ?_
      refine s_iload_n dX8_isLesser_27 rfl rfl ?_
      refine s_icmp_ge (tgt := 35) dX8_isLesser_28 (by decide) (fun c11 => ?_) (fun c11 => ?_)
      · replace h := h.1 c11
        refine s_iconst (v := 0) dX8_isLesser_35 (by decide) ?_
        exact t_iret dX8_isLesser_36 (NR_z rfl (Or.inl rfl)) h
      · replace h := h.2 c11
        exact Rt.lc h (lc_none (lc_none (lc_none lc_nil)))
theorem bX8_isLesser_31 {g : Gt} {d : Nat} {t : Tt} {Q : Option Value → Tt → Prop} (h : Q (some (.int 1)) t) : Rt g (d + 1) mX8_isLesser 31 [none, none, none] [] t Q := by
  refine s_iconst (v := 1) dX8_isLesser_31 (by decide) ?_
  refine s_goto (tgt := 36) dX8_isLesser_32 (by decide) ?_
  exact t_iret dX8_isLesser_36 (NR_z rfl (Or.inr rfl)) h
theorem bX8_jury_0 {g : Gt} {d : Nat} {t : Tt} {Q : Option Value → Tt → Prop} {p0 : Int32} (h : (p0 < 0 → Q (some (.int (-1))) t) ∧ (¬ p0 < 0 → (p0 ≤ 999 → ∀ z3 : Int32, z3 = (p0 / 100) → ∀ z4 : Int32, z4 = (jr (p0 / 10) 10) → ∀ z5 : Int32, z5 = (jr p0 10) → Rt g d mX8_isPerson 0 [some (.ref 57), some (.int z3)] [] t (QI (fun v7 t6 => (v7 = 0 → Q (some (.int (-1))) t6) ∧ (¬ v7 = 0 → Rt g d mX8_isPerson 0 [some (.ref 57), some (.int z4)] [] t6 (QI (fun v10 t9 => (v10 = 0 → Q (some (.int (-1))) t9) ∧ (¬ v10 = 0 → Rt g d mX8_isPerson 0 [some (.ref 57), some (.int z5)] [] t9 (QI (fun v13 t12 => (v13 = 0 → Q (some (.int (-1))) t12) ∧ (¬ v13 = 0 → (z3 = z4 → Q (some (.int (-1))) t12) ∧ (¬ z3 = z4 → (z4 = z5 → Q (some (.int (-1))) t12) ∧ (¬ z4 = z5 → (¬ z3 = z5 → Rt g d mX8_beginMouths 0 [some (.ref 57), none] [] t12 (QV (fun t18 => Rt g d mX8_isLesser 0 [some (.ref 57), some (.int z3), some (.int z4)] [] t18 (QI (fun v20 t19 => Rt g d mX8_isLesser 0 [some (.ref 57), some (.int z3), some (.int z5)] [] t19 (QI (fun v22 t21 => (v20 = v22 → Rt g d mX8_isLesser 0 [some (.ref 57), some (.int z4), some (.int z3)] [] t21 (QI (fun v25 t24 => Rt g d mX8_isLesser 0 [some (.ref 57), some (.int z4), some (.int z5)] [] t24 (QI (fun v27 t26 => (v25 = v27 → Q (some (.int z5)) t26) ∧ (¬ v25 = v27 → Q (some (.int z4)) t26)))))) ∧ (¬ v20 = v22 → Q (some (.int z3)) t21)))))))) ∧ (z3 = z5 → Q (some (.int (-1))) t12))))))))))))) ∧ (¬ p0 ≤ 999 → Q (some (.int (-1))) t))) : Rt g (d + 1) mX8_jury 0 [some (.ref 57), some (.int p0), none, none, none] [] t Q := by
  refine s_iload_n dX8_jury_0 rfl rfl ?_
  refine s_if_lt (tgt := 11) dX8_jury_1 (by decide) (fun c1 => ?_) (fun c1 => ?_)
  · replace h := h.1 c1
    refine s_iconst (v := (-1)) dX8_jury_11 (by decide) ?_
    exact t_iret dX8_jury_12 (NR_i rfl _) h
  · replace h := h.2 c1
    refine s_iload_n dX8_jury_4 rfl rfl ?_
    refine s_sipush (v := 999) dX8_jury_5 (by decide) ?_
    refine s_icmp_le (tgt := 13) dX8_jury_8 (by decide) (fun c2 => ?_) (fun c2 => ?_)
    · replace h := h.1 c2
      refine s_iload_n dX8_jury_13 rfl rfl ?_
      refine s_bipush (v := 100) dX8_jury_14 (by decide) ?_
      refine s_idiv dX8_jury_16 (by decide) ?_
      refine t_nmI (fun z3 ez3 => ?_)
      replace h := h z3 ez3
      refine s_istore_n dX8_jury_17 rfl (by decide) rfl (L9 := [some (.ref 57), some (.int p0), some (.int z3), none, none]) rfl ?_
      refine s_iload_n dX8_jury_18 rfl rfl ?_
      refine s_bipush (v := 10) dX8_jury_19 (by decide) ?_
      refine s_idiv dX8_jury_21 (by decide) ?_
      refine s_bipush (v := 10) dX8_jury_22 (by decide) ?_
      refine s_irem dX8_jury_24 (by decide) ?_
      refine t_nmI (fun z4 ez4 => ?_)
      replace h := h z4 ez4
      refine s_istore_n dX8_jury_25 rfl (by decide) rfl (L9 := [some (.ref 57), some (.int p0), some (.int z3), some (.int z4), none]) rfl ?_
      refine s_iload_n dX8_jury_26 rfl rfl ?_
      refine s_bipush (v := 10) dX8_jury_27 (by decide) ?_
      refine s_irem dX8_jury_29 (by decide) ?_
      refine t_nmI (fun z5 ez5 => ?_)
      replace h := h z5 ez5
      refine s_istore dX8_jury_30 (by decide) rfl (L9 := [some (.ref 57), some (.int p0), some (.int z3), some (.int z4), some (.int z5)]) rfl ?_
      refine s_aload_n dX8_jury_32 rfl rfl ?_
      refine s_iload_n dX8_jury_33 rfl rfl ?_
      refine t_callV (M' := mX8_isPerson) (k := 0) (As := [.int z3]) (rest := []) dX8_jury_34 ml_X8_156 miX8_isPerson msX8_isPerson rfl (by decide) rfl rfl (Nat.le_of_ble_eq_true rfl) (Nat.le_of_ble_eq_true rfl) rfl h (fun rv t6 q => ?_)
      obtain ⟨v7, rfl, h⟩ := q
      show Rt g (d + 1) mX8_jury 37 [some (.ref 57), some (.int p0), some (.int z3), some (.int z4), some (.int z5)] [.int v7] t6 Q
      refine s_if_eq (tgt := 74) dX8_jury_37 (by decide) (fun c8 => ?_) (fun c8 => ?_)
      · replace h := h.1 c8
        refine s_iconst (v := (-1)) dX8_jury_74 (by decide) ?_
        exact t_iret dX8_jury_75 (NR_i rfl _) h
      · replace h := h.2 c8
        refine s_aload_n dX8_jury_40 rfl rfl ?_
        refine s_iload_n dX8_jury_41 rfl rfl ?_
        refine t_callV (M' := mX8_isPerson) (k := 0) (As := [.int z4]) (rest := []) dX8_jury_42 ml_X8_156 miX8_isPerson msX8_isPerson rfl (by decide) rfl rfl (Nat.le_of_ble_eq_true rfl) (Nat.le_of_ble_eq_true rfl) rfl h (fun rv t9 q => ?_)
        obtain ⟨v10, rfl, h⟩ := q
        show Rt g (d + 1) mX8_jury 45 [some (.ref 57), some (.int p0), some (.int z3), some (.int z4), some (.int z5)] [.int v10] t9 Q
        refine s_if_eq (tgt := 74) dX8_jury_45 (by decide) (fun c11 => ?_) (fun c11 => ?_)
        · replace h := h.1 c11
          refine s_iconst (v := (-1)) dX8_jury_74 (by decide) ?_
          exact t_iret dX8_jury_75 (NR_i rfl _) h
        · replace h := h.2 c11
          refine s_aload_n dX8_jury_48 rfl rfl ?_
          refine s_iload dX8_jury_49 rfl ?_
          refine t_callV (M' := mX8_isPerson) (k := 0) (As := [.int z5]) (rest := []) dX8_jury_51 ml_X8_156 miX8_isPerson msX8_isPerson rfl (by decide) rfl rfl (Nat.le_of_ble_eq_true rfl) (Nat.le_of_ble_eq_true rfl) rfl h (fun rv t12 q => ?_)
          obtain ⟨v13, rfl, h⟩ := q
          show Rt g (d + 1) mX8_jury 54 [some (.ref 57), some (.int p0), some (.int z3), some (.int z4), some (.int z5)] [.int v13] t12 Q
          refine s_if_eq (tgt := 74) dX8_jury_54 (by decide) (fun c14 => ?_) (fun c14 => ?_)
          · replace h := h.1 c14
            refine s_iconst (v := (-1)) dX8_jury_74 (by decide) ?_
            exact t_iret dX8_jury_75 (NR_i rfl _) h
          · replace h := h.2 c14
            refine s_iload_n dX8_jury_57 rfl rfl ?_
            refine s_iload_n dX8_jury_58 rfl rfl ?_
            refine s_icmp_eq (tgt := 74) dX8_jury_59 (by decide) (fun c15 => ?_) (fun c15 => ?_)
            · replace h := h.1 c15
              refine s_iconst (v := (-1)) dX8_jury_74 (by decide) ?_
              exact t_iret dX8_jury_75 (NR_i rfl _) h
            · replace h := h.2 c15
              refine s_iload_n dX8_jury_62 rfl rfl ?_
              refine s_iload dX8_jury_63 rfl ?_
              refine s_icmp_eq (tgt := 74) dX8_jury_65 (by decide) (fun c16 => ?_) (fun c16 => ?_)
              · replace h := h.1 c16
                refine s_iconst (v := (-1)) dX8_jury_74 (by decide) ?_
                exact t_iret dX8_jury_75 (NR_i rfl _) h
              · replace h := h.2 c16
                refine s_iload_n dX8_jury_68 rfl rfl ?_
                refine s_iload dX8_jury_69 rfl ?_
                refine s_icmp_ne (tgt := 76) dX8_jury_71 (by decide) (fun c17 => ?_) (fun c17 => ?_)
                · replace h := h.1 c17
                  refine s_aload_n dX8_jury_76 rfl rfl ?_
                  refine t_callV (M' := mX8_beginMouths) (k := 1) (As := []) (rest := []) dX8_jury_77 ml_X8_172 miX8_beginMouths msX8_beginMouths rfl (by decide) rfl rfl (Nat.le_of_ble_eq_true rfl) (Nat.le_of_ble_eq_true rfl) rfl h (fun rv t18 q => ?_)
                  obtain ⟨rfl, h⟩ := q
                  show Rt g (d + 1) mX8_jury 80 [some (.ref 57), some (.int p0), some (.int z3), some (.int z4), some (.int z5)] [] t18 Q
                  refine s_aload_n dX8_jury_80 rfl rfl ?_
                  refine s_iload_n dX8_jury_81 rfl rfl ?_
                  refine s_iload_n dX8_jury_82 rfl rfl ?_
                  refine t_callV (M' := mX8_isLesser) (k := 0) (As := [.int z3, .int z4]) (rest := []) dX8_jury_83 ml_X8_311 miX8_isLesser msX8_isLesser rfl (by decide) rfl rfl (Nat.le_of_ble_eq_true rfl) (Nat.le_of_ble_eq_true rfl) rfl h (fun rv t19 q => ?_)
                  obtain ⟨v20, rfl, h⟩ := q
                  show Rt g (d + 1) mX8_jury 86 [some (.ref 57), some (.int p0), some (.int z3), some (.int z4), some (.int z5)] [.int v20] t19 Q
                  refine s_aload_n dX8_jury_86 rfl rfl ?_
                  refine s_iload_n dX8_jury_87 rfl rfl ?_
                  refine s_iload dX8_jury_88 rfl ?_
                  refine t_callV (M' := mX8_isLesser) (k := 0) (As := [.int z3, .int z5]) (rest := [.int v20]) dX8_jury_90 ml_X8_311 miX8_isLesser msX8_isLesser rfl (by decide) rfl rfl (Nat.le_of_ble_eq_true rfl) (Nat.le_of_ble_eq_true rfl) rfl h (fun rv t21 q => ?_)
                  obtain ⟨v22, rfl, h⟩ := q
                  show Rt g (d + 1) mX8_jury 93 [some (.ref 57), some (.int p0), some (.int z3), some (.int z4), some (.int z5)] [.int v22, .int v20] t21 Q
                  refine s_icmp_eq (tgt := 98) dX8_jury_93 (by decide) (fun c23 => ?_) (fun c23 => ?_)
                  · replace h := h.1 c23
                    refine s_aload_n dX8_jury_98 rfl rfl ?_
                    refine s_iload_n dX8_jury_99 rfl rfl ?_
                    refine s_iload_n dX8_jury_100 rfl rfl ?_
                    refine t_callV (M' := mX8_isLesser) (k := 0) (As := [.int z4, .int z3]) (rest := []) dX8_jury_101 ml_X8_311 miX8_isLesser msX8_isLesser rfl (by decide) rfl rfl (Nat.le_of_ble_eq_true rfl) (Nat.le_of_ble_eq_true rfl) rfl h (fun rv t24 q => ?_)
                    obtain ⟨v25, rfl, h⟩ := q
                    show Rt g (d + 1) mX8_jury 104 [some (.ref 57), some (.int p0), some (.int z3), some (.int z4), some (.int z5)] [.int v25] t24 Q
                    refine s_aload_n dX8_jury_104 rfl rfl ?_
                    refine s_iload_n dX8_jury_105 rfl rfl ?_
                    refine s_iload dX8_jury_106 rfl ?_
                    refine t_callV (M' := mX8_isLesser) (k := 0) (As := [.int z4, .int z5]) (rest := [.int v25]) dX8_jury_108 ml_X8_311 miX8_isLesser msX8_isLesser rfl (by decide) rfl rfl (Nat.le_of_ble_eq_true rfl) (Nat.le_of_ble_eq_true rfl) rfl h (fun rv t26 q => ?_)
                    obtain ⟨v27, rfl, h⟩ := q
                    show Rt g (d + 1) mX8_jury 111 [some (.ref 57), some (.int p0), some (.int z3), some (.int z4), some (.int z5)] [.int v27, .int v25] t26 Q
                    refine s_icmp_eq (tgt := 118) dX8_jury_111 (by decide) (fun c28 => ?_) (fun c28 => ?_)
                    · replace h := h.1 c28
                      refine s_iload dX8_jury_118 rfl ?_
                      exact t_iret dX8_jury_120 (NR_i rfl _) h
                    · replace h := h.2 c28
                      refine s_iload_n dX8_jury_114 rfl rfl ?_
                      refine s_goto (tgt := 120) dX8_jury_115 (by decide) ?_
                      exact t_iret dX8_jury_120 (NR_i rfl _) h
                  · replace h := h.2 c23
                    refine s_iload_n dX8_jury_96 rfl rfl ?_
                    exact t_iret dX8_jury_97 (NR_i rfl _) h
                · replace h := h.2 c17
                  refine s_iconst (v := (-1)) dX8_jury_74 (by decide) ?_
                  exact t_iret dX8_jury_75 (NR_i rfl _) h
    · replace h := h.2 c2
      refine s_iconst (v := (-1)) dX8_jury_11 (by decide) ?_
      exact t_iret dX8_jury_12 (NR_i rfl _) h
theorem bX8_bribe_0 {g : Gt} {d : Nat} {t : Tt} {Q : Option Value → Tt → Prop} {p0 : Int32} {p1 : Int32} {p2 : Int32} (h : Rt g d mX8_isShelf 0 [some (.int p0)] [] t (QI (fun v2 t1 => (v2 = 0 → Q (some (.int (-1))) t1) ∧ (¬ v2 = 0 → Rt g d mX8_areFact 0 [some (.int p1)] [] t1 (QI (fun v5 t4 => (v5 = 0 → Q (some (.int (-1))) t4) ∧ (¬ v5 = 0 → Rt g d mX8_in 0 [some (.int p2), some (.int 0), some (.int 1)] [] t4 (QI (fun v8 t7 => (¬ v8 = 0 → Rt g d mX8_layOr 0 [some (.ref 57), some (.int p0), none] [] t7 (QI (fun v11 t10 => (0 ≤ v11 → ((t10.1 57 33) ≤ 10 → Rt g (d + 1) mX8_bribe 59 [some (.ref 57), none, some (.int p1), some (.int p2), none, some (.int (-2)), some (.int 0)] [] t10 Q) ∧ (¬ (t10.1 57 33) ≤ 10 → Q (some (.int (-5))) t10)) ∧ (¬ 0 ≤ v11 → Q (some (.int v11)) t10)))) ∧ (v8 = 0 → Q (some (.int (-1))) t7)))))))))) : Rt g (d + 1) mX8_bribe 0 [some (.ref 57), some (.int p0), some (.int p1), some (.int p2), none, none, none] [] t Q := by
  refine s_iload_n dX8_bribe_0 rfl rfl ?_
  refine t_callS (M' := mX8_isShelf) (k := 0) (As := [.int p0]) (rest := []) dX8_bribe_1 ml_X8_132 mstX8_isShelf rfl (Nat.le_of_ble_eq_true rfl) (Nat.le_of_ble_eq_true rfl) rfl h (fun rv t1 q => ?_)
  obtain ⟨v2, rfl, h⟩ := q
  show Rt g (d + 1) mX8_bribe 4 [some (.ref 57), some (.int p0), some (.int p1), some (.int p2), none, none, none] [.int v2] t1 Q
  refine s_if_eq (tgt := 23) dX8_bribe_4 (by decide) (fun c3 => ?_) (fun c3 => ?_)
  · replace h := h.1 c3
    refine s_iconst (v := (-1)) dX8_bribe_23 (by decide) ?_
    exact t_iret dX8_bribe_24 (NR_i rfl _) h
  · replace h := h.2 c3
    refine s_iload_n dX8_bribe_7 rfl rfl ?_
    refine t_callS (M' := mX8_areFact) (k := 0) (As := [.int p1]) (rest := []) dX8_bribe_8 ml_X8_308 mstX8_areFact rfl (Nat.le_of_ble_eq_true rfl) (Nat.le_of_ble_eq_true rfl) rfl h (fun rv t4 q => ?_)
    obtain ⟨v5, rfl, h⟩ := q
    show Rt g (d + 1) mX8_bribe 11 [some (.ref 57), some (.int p0), some (.int p1), some (.int p2), none, none, none] [.int v5] t4 Q
    refine s_if_eq (tgt := 23) dX8_bribe_11 (by decide) (fun c6 => ?_) (fun c6 => ?_)
    · replace h := h.1 c6
      refine s_iconst (v := (-1)) dX8_bribe_23 (by decide) ?_
      exact t_iret dX8_bribe_24 (NR_i rfl _) h
    · replace h := h.2 c6
      refine s_iload_n dX8_bribe_14 rfl rfl ?_
      refine s_iconst (v := 0) dX8_bribe_15 (by decide) ?_
      refine s_iconst (v := 1) dX8_bribe_16 (by decide) ?_
      refine t_callS (M' := mX8_in) (k := 0) (As := [.int p2, .int 0, .int 1]) (rest := []) dX8_bribe_17 ml_X8_128 mstX8_in rfl (Nat.le_of_ble_eq_true rfl) (Nat.le_of_ble_eq_true rfl) rfl h (fun rv t7 q => ?_)
      obtain ⟨v8, rfl, h⟩ := q
      show Rt g (d + 1) mX8_bribe 20 [some (.ref 57), some (.int p0), some (.int p1), some (.int p2), none, none, none] [.int v8] t7 Q
      refine s_if_ne (tgt := 25) dX8_bribe_20 (by decide) (fun c9 => ?_) (fun c9 => ?_)
      · replace h := h.1 c9
        refine s_aload_n dX8_bribe_25 rfl rfl ?_
        refine s_iload_n dX8_bribe_26 rfl rfl ?_
        refine t_callV (M' := mX8_layOr) (k := 1) (As := [.int p0]) (rest := []) dX8_bribe_27 ml_X8_293 miX8_layOr msX8_layOr rfl (by decide) rfl rfl (Nat.le_of_ble_eq_true rfl) (Nat.le_of_ble_eq_true rfl) rfl h (fun rv t10 q => ?_)
        obtain ⟨v11, rfl, h⟩ := q
        show Rt g (d + 1) mX8_bribe 30 [some (.ref 57), some (.int p0), some (.int p1), some (.int p2), none, none, none] [.int v11] t10 Q
        refine s_istore dX8_bribe_30 (by decide) rfl (L9 := [some (.ref 57), some (.int p0), some (.int p1), some (.int p2), some (.int v11), none, none]) rfl ?_
        refine s_iload dX8_bribe_32 rfl ?_
        refine s_if_ge (tgt := 40) dX8_bribe_34 (by decide) (fun c12 => ?_) (fun c12 => ?_)
        · replace h := h.1 c12
          refine s_aload_n dX8_bribe_40 rfl rfl ?_
          refine t_getI dX8_bribe_41 fl_X8_264 rfl (by decide) rfl ?_
          refine s_bipush (v := 10) dX8_bribe_44 (by decide) ?_
          refine s_icmp_le (tgt := 52) dX8_bribe_46 (by decide) (fun c13 => ?_) (fun c13 => ?_)
          · replace h := h.1 c13
            refine s_bipush (v := (-2)) dX8_bribe_52 (by decide) ?_
            refine s_istore dX8_bribe_54 (by decide) rfl (L9 := [some (.ref 57), some (.int p0), some (.int p1), some (.int p2), some (.int v11), some (.int (-2)), none]) rfl ?_
            refine s_iconst (v := 0) dX8_bribe_56 (by decide) ?_
            refine s_istore dX8_bribe_57 (by decide) rfl (L9 := [some (.ref 57), some (.int p0), some (.int p1), some (.int p2), some (.int v11), some (.int (-2)), some (.int 0)]) rfl ?_
            exact Rt.lc h (lc_some (lc_none (lc_some (lc_some (lc_none (lc_some (lc_some lc_nil)))))))
          · replace h := h.2 c13
            refine s_bipush (v := (-5)) dX8_bribe_49 (by decide) ?_
            exact t_iret dX8_bribe_51 (NR_i rfl _) h
        · replace h := h.2 c12
          refine s_iload dX8_bribe_37 rfl ?_
          exact t_iret dX8_bribe_39 (NR_i rfl _) h
      · replace h := h.2 c9
        refine s_iconst (v := (-1)) dX8_bribe_23 (by decide) ?_
        exact t_iret dX8_bribe_24 (NR_i rfl _) h
theorem bX8_bribe_59 {g : Gt} {d : Nat} {t : Tt} {Q : Option Value → Tt → Prop} {x2 : Int32} {x3 : Int32} {x5 : Int32} {x6 : Int32} (h : ((jsl 1 (t.1 57 33)) ≤ x6 → (0 ≤ x5 → (¬ x3 = 0 → Q (some (.int x5)) t) ∧ (x3 = 0 → Rt g d mX8_bitsOf 0 [some (.int x5), none, none] [] t (QI (fun v5 t4 => Q (some (.int v5)) t4)))) ∧ (¬ 0 ≤ x5 → Q (some (.int (-2))) t)) ∧ (¬ (jsl 1 (t.1 57 33)) ≤ x6 → (x5 < 0 → Rt g (d + 1) mX8_bribe 91 [some (.ref 57), none, some (.int x2), some (.int x3), none, some (.int x5), some (.int x6)] [] t Q) ∧ (¬ x5 < 0 → Rt g d mX8_bitsOf 0 [some (.int x6), none, none] [] t (QI (fun v8 t7 => Rt g d mX8_bitsOf 0 [some (.int x5), none, none] [] t7 (QI (fun v10 t9 => (v8 < v10 → Rt g (d + 1) mX8_bribe 91 [some (.ref 57), none, some (.int x2), some (.int x3), none, some (.int x5), some (.int x6)] [] t9 Q) ∧ (¬ v8 < v10 → Rt g (d + 1) mX8_bribe 116 [some (.ref 57), none, some (.int x2), some (.int x3), none, some (.int x5), some (.int x6)] [] t9 Q)))))))) : Rt g (d + 1) mX8_bribe 59 [some (.ref 57), none, some (.int x2), some (.int x3), none, some (.int x5), some (.int x6)] [] t Q := by
  refine s_iload dX8_bribe_59 rfl ?_
  refine s_iconst (v := 1) dX8_bribe_61 (by decide) ?_
  refine s_aload_n dX8_bribe_62 rfl rfl ?_
  refine t_getI dX8_bribe_63 fl_X8_264 rfl (by decide) rfl ?_
  refine s_ishl dX8_bribe_66 ?_
  refine s_icmp_ge (tgt := 122) dX8_bribe_67 (by decide) (fun c1 => ?_) (fun c1 => ?_)
  · replace h := h.1 c1
    refine s_iload dX8_bribe_122 rfl ?_
    refine s_if_ge (tgt := 132) dX8_bribe_124 (by decide) (fun c2 => ?_) (fun c2 => ?_)
    · replace h := h.1 c2
      refine s_iload_n dX8_bribe_132 rfl rfl ?_
      refine s_if_ne (tgt := 144) dX8_bribe_133 (by decide) (fun c3 => ?_) (fun c3 => ?_)
      · replace h := h.1 c3
        refine s_iload dX8_bribe_144 rfl ?_
        exact t_iret dX8_bribe_146 (NR_i rfl _) h
      · replace h := h.2 c3
        refine s_iload dX8_bribe_136 rfl ?_
        refine t_callS (M' := mX8_bitsOf) (k := 2) (As := [.int x5]) (rest := []) dX8_bribe_138 ml_X8_252 mstX8_bitsOf rfl (Nat.le_of_ble_eq_true rfl) (Nat.le_of_ble_eq_true rfl) rfl h (fun rv t4 q => ?_)
        obtain ⟨v5, rfl, h⟩ := q
        show Rt g (d + 1) mX8_bribe 141 [some (.ref 57), none, some (.int x2), some (.int x3), none, some (.int x5), some (.int x6)] [.int v5] t4 Q
        refine s_goto (tgt := 146) dX8_bribe_141 (by decide) ?_
        exact t_iret dX8_bribe_146 (NR_i rfl _) h
    · replace h := h.2 c2
      refine s_bipush (v := (-2)) dX8_bribe_127 (by decide) ?_
      refine s_goto (tgt := 146) dX8_bribe_129 (by decide) ?_
      exact t_iret dX8_bribe_146 (NR_i rfl _) h
  · replace h := h.2 c1
    refine s_iload dX8_bribe_70 rfl ?_
    refine s_if_lt (tgt := 91) dX8_bribe_72 (by decide) (fun c6 => ?_) (fun c6 => ?_)
    · replace h := h.1 c6
      exact h
    · replace h := h.2 c6
      refine s_iload dX8_bribe_75 rfl ?_
      refine t_callS (M' := mX8_bitsOf) (k := 2) (As := [.int x6]) (rest := []) dX8_bribe_77 ml_X8_252 mstX8_bitsOf rfl (Nat.le_of_ble_eq_true rfl) (Nat.le_of_ble_eq_true rfl) rfl h (fun rv t7 q => ?_)
      obtain ⟨v8, rfl, h⟩ := q
      show Rt g (d + 1) mX8_bribe 80 [some (.ref 57), none, some (.int x2), some (.int x3), none, some (.int x5), some (.int x6)] [.int v8] t7 Q
      refine s_iload dX8_bribe_80 rfl ?_
      refine t_callS (M' := mX8_bitsOf) (k := 2) (As := [.int x5]) (rest := [.int v8]) dX8_bribe_82 ml_X8_252 mstX8_bitsOf rfl (Nat.le_of_ble_eq_true rfl) (Nat.le_of_ble_eq_true rfl) rfl h (fun rv t9 q => ?_)
      obtain ⟨v10, rfl, h⟩ := q
      show Rt g (d + 1) mX8_bribe 85 [some (.ref 57), none, some (.int x2), some (.int x3), none, some (.int x5), some (.int x6)] [.int v10, .int v8] t9 Q
      refine s_icmp_lt (tgt := 91) dX8_bribe_85 (by decide) (fun c11 => ?_) (fun c11 => ?_)
      · replace h := h.1 c11
        exact h
      · replace h := h.2 c11
        refine s_goto (tgt := 116) dX8_bribe_88 (by decide) ?_
        exact h
theorem bX8_bribe_91 {g : Gt} {d : Nat} {t : Tt} {Q : Option Value → Tt → Prop} {x2 : Int32} {x3 : Int32} {x5 : Int32} {x6 : Int32} (h : Rt g d mX8_goTrial 0 [some (.ref 57), some (.int x6), none, none, none] [] t (QV (fun t1 => Rt g d mX8_believedNow 0 [some (.ref 57), some (.int (x2 / 10)), none, none, none] [] t1 (QI (fun v3 t2 => (¬ v3 = (jr x2 10) → Rt g (d + 1) mX8_bribe 116 [some (.ref 57), none, some (.int x2), some (.int x3), none, some (.int x5), some (.int x6)] [] t2 Q) ∧ (v3 = (jr x2 10) → Rt g (d + 1) mX8_bribe 116 [some (.ref 57), none, some (.int x2), some (.int x3), none, some (.int x6), some (.int x6)] [] t2 Q)))))) : Rt g (d + 1) mX8_bribe 91 [some (.ref 57), none, some (.int x2), some (.int x3), none, some (.int x5), some (.int x6)] [] t Q := by
  refine s_aload_n dX8_bribe_91 rfl rfl ?_
  refine s_iload dX8_bribe_92 rfl ?_
  refine t_callV (M' := mX8_goTrial) (k := 3) (As := [.int x6]) (rest := []) dX8_bribe_94 ml_X8_290 miX8_goTrial msX8_goTrial rfl (by decide) rfl rfl (Nat.le_of_ble_eq_true rfl) (Nat.le_of_ble_eq_true rfl) rfl h (fun rv t1 q => ?_)
  obtain ⟨rfl, h⟩ := q
  show Rt g (d + 1) mX8_bribe 97 [some (.ref 57), none, some (.int x2), some (.int x3), none, some (.int x5), some (.int x6)] [] t1 Q
  refine s_aload_n dX8_bribe_97 rfl rfl ?_
  refine s_iload_n dX8_bribe_98 rfl rfl ?_
  refine s_bipush (v := 10) dX8_bribe_99 (by decide) ?_
  refine s_idiv dX8_bribe_101 (by decide) ?_
  refine t_callV (M' := mX8_believedNow) (k := 3) (As := [.int (x2 / 10)]) (rest := []) dX8_bribe_102 ml_X8_296 miX8_believedNow msX8_believedNow rfl (by decide) rfl rfl (Nat.le_of_ble_eq_true rfl) (Nat.le_of_ble_eq_true rfl) rfl h (fun rv t2 q => ?_)
  obtain ⟨v3, rfl, h⟩ := q
  show Rt g (d + 1) mX8_bribe 105 [some (.ref 57), none, some (.int x2), some (.int x3), none, some (.int x5), some (.int x6)] [.int v3] t2 Q
  refine s_iload_n dX8_bribe_105 rfl rfl ?_
  refine s_bipush (v := 10) dX8_bribe_106 (by decide) ?_
  refine s_irem dX8_bribe_108 (by decide) ?_
  refine s_icmp_ne (tgt := 116) dX8_bribe_109 (by decide) (fun c4 => ?_) (fun c4 => ?_)
  · replace h := h.1 c4
    exact h
  · replace h := h.2 c4
    refine s_iload dX8_bribe_112 rfl ?_
    refine s_istore dX8_bribe_114 (by decide) rfl (L9 := [some (.ref 57), none, some (.int x2), some (.int x3), none, some (.int x6), some (.int x6)]) rfl ?_
    exact h
theorem bX8_bribe_116 {g : Gt} {d : Nat} {t : Tt} {Q : Option Value → Tt → Prop} {x2 : Int32} {x3 : Int32} {x5 : Int32} {x6 : Int32} (h : Rt g (d + 1) mX8_bribe 59 [some (.ref 57), none, some (.int x2), some (.int x3), none, some (.int x5), some (.int (x6 + 1))] [] t Q) : Rt g (d + 1) mX8_bribe 116 [some (.ref 57), none, some (.int x2), some (.int x3), none, some (.int x5), some (.int x6)] [] t Q := by
  refine s_iinc (w := x6 + 1) dX8_bribe_116 rfl (by rfl) (by decide) rfl (L9 := [some (.ref 57), none, some (.int x2), some (.int x3), none, some (.int x5), some (.int (x6 + 1))]) rfl ?_
  refine s_goto (tgt := 59) dX8_bribe_119 (by decide) ?_
  exact h
theorem bX8_isMirror_0 {g : Gt} {d : Nat} {t : Tt} {Q : Option Value → Tt → Prop} {p0 : Int32} (h : vp_in p0 6 ∧ ((¬ (t.1 90 p0.toNatClampNeg) = 8 → Q (some (.int 0)) t) ∧ ((t.1 90 p0.toNatClampNeg) = 8 → Q (some (.int 1)) t))) : Rt g d mX8_isMirror 0 [some (.ref 57), some (.int p0)] [] t Q := by
  refine s_aload_n dX8_isMirror_0 rfl rfl ?_
  refine t_getR (o' := 90) dX8_isMirror_1 fl_X8_112 rfl (by decide) rfl rfl ?_
  refine s_iload_n dX8_isMirror_4 rfl rfl ?_
  obtain ⟨g1, h⟩ := h
  refine t_iald dX8_isMirror_5 rfl (by decide) g1 ?_
  refine s_bipush (v := 8) dX8_isMirror_6 (by decide) ?_
  refine s_icmp_ne (tgt := 15) dX8_isMirror_8 (by decide) (fun c2 => ?_) (fun c2 => ?_)
  · replace h := h.1 c2
    refine s_iconst (v := 0) dX8_isMirror_15 (by decide) ?_
    exact t_iret dX8_isMirror_16 (NR_z rfl (Or.inl rfl)) h
  · replace h := h.2 c2
    refine s_iconst (v := 1) dX8_isMirror_11 (by decide) ?_
    refine s_goto (tgt := 16) dX8_isMirror_12 (by decide) ?_
    exact t_iret dX8_isMirror_16 (NR_z rfl (Or.inr rfl)) h
theorem bX8_isSeen_0 {g : Gt} {d : Nat} {t : Tt} {Q : Option Value → Tt → Prop} {p0 : Int32} {p1 : Int32} (h : Rt g (d + 1) mX8_isSeen 2 [some (.ref 57), some (.int p0), some (.int p1), some (.int 0)] [] t Q) : Rt g (d + 1) mX8_isSeen 0 [some (.ref 57), some (.int p0), some (.int p1), none] [] t Q := by
  refine s_iconst (v := 0) dX8_isSeen_0 (by decide) ?_
  refine s_istore_n dX8_isSeen_1 rfl (by decide) rfl (L9 := [some (.ref 57), some (.int p0), some (.int p1), some (.int 0)]) rfl ?_
  exact h
theorem bX8_isSeen_2 {g : Gt} {d : Nat} {t : Tt} {Q : Option Value → Tt → Prop} {x1 : Int32} {x2 : Int32} {x3 : Int32} (h : (8 ≤ x3 → Q (some (.int 1)) t) ∧ (¬ 8 ≤ x3 → vp_in ((8 * x2) + x3) 56 ∧ (Rt g d mX8_seenAt 0 [some (.ref 57), some (.int x1), some (.int x3)] [] t (QI (fun v4 t3 => ((t.1 74 ((8 * x2) + x3).toNatClampNeg) = v4 → Rt g (d + 1) mX8_isSeen 2 [some (.ref 57), some (.int x1), some (.int x2), some (.int (x3 + 1))] [] t3 Q) ∧ (¬ (t.1 74 ((8 * x2) + x3).toNatClampNeg) = v4 → Q (some (.int 0)) t3)))))) : Rt g (d + 1) mX8_isSeen 2 [some (.ref 57), some (.int x1), some (.int x2), some (.int x3)] [] t Q := by
  refine s_iload_n dX8_isSeen_2 rfl rfl ?_
  refine s_bipush (v := 8) dX8_isSeen_3 (by decide) ?_
  refine s_icmp_ge (tgt := 36) dX8_isSeen_5 (by decide) (fun c1 => ?_) (fun c1 => ?_)
  · replace h := h.1 c1
    refine s_iconst (v := 1) dX8_isSeen_36 (by decide) ?_
    exact t_iret dX8_isSeen_37 (NR_z rfl (Or.inr rfl)) h
  · replace h := h.2 c1
    refine s_aload_n dX8_isSeen_8 rfl rfl ?_
    refine t_getR (o' := 74) dX8_isSeen_9 fl_X8_64 rfl (by decide) rfl rfl ?_
    refine s_bipush (v := 8) dX8_isSeen_12 (by decide) ?_
    refine s_iload_n dX8_isSeen_14 rfl rfl ?_
    refine s_imul dX8_isSeen_15 ?_
    refine s_iload_n dX8_isSeen_16 rfl rfl ?_
    refine s_iadd dX8_isSeen_17 ?_
    obtain ⟨g2, h⟩ := h
    refine t_iald dX8_isSeen_18 rfl (by decide) g2 ?_
    refine s_aload_n dX8_isSeen_19 rfl rfl ?_
    refine s_iload_n dX8_isSeen_20 rfl rfl ?_
    refine s_iload_n dX8_isSeen_21 rfl rfl ?_
    refine t_callV (M' := mX8_seenAt) (k := 0) (As := [.int x1, .int x3]) (rest := [.int (t.1 74 ((8 * x2) + x3).toNatClampNeg)]) dX8_isSeen_22 ml_X8_267 miX8_seenAt msX8_seenAt rfl (by decide) rfl rfl (Nat.le_of_ble_eq_true rfl) (Nat.le_of_ble_eq_true rfl) rfl h (fun rv t3 q => ?_)
    obtain ⟨v4, rfl, h⟩ := q
    show Rt g (d + 1) mX8_isSeen 25 [some (.ref 57), some (.int x1), some (.int x2), some (.int x3)] [.int v4, .int (t.1 74 ((8 * x2) + x3).toNatClampNeg)] t3 Q
    refine s_icmp_eq (tgt := 30) dX8_isSeen_25 (by decide) (fun c5 => ?_) (fun c5 => ?_)
    · replace h := h.1 c5
      refine s_iinc (w := x3 + 1) dX8_isSeen_30 rfl (by rfl) (by decide) rfl (L9 := [some (.ref 57), some (.int x1), some (.int x2), some (.int (x3 + 1))]) rfl ?_
      refine s_goto (tgt := 2) dX8_isSeen_33 (by decide) ?_
      exact h
    · replace h := h.2 c5
      refine s_iconst (v := 0) dX8_isSeen_28 (by decide) ?_
      exact t_iret dX8_isSeen_29 (NR_z rfl (Or.inl rfl)) h
theorem bX8_liesFor_0 {g : Gt} {d : Nat} {t : Tt} {Q : Option Value → Tt → Prop} {p0 : Int32} {p1 : Int32} {p2 : Int32} (h : Rt g d mX8_isShelf 0 [some (.int p0)] [] t (QI (fun v2 t1 => (v2 = 0 → Q (some (.int (-1))) t1) ∧ (¬ v2 = 0 → Rt g d mX8_isPerson 0 [some (.ref 57), some (.int p1)] [] t1 (QI (fun v5 t4 => (v5 = 0 → Q (some (.int (-1))) t4) ∧ (¬ v5 = 0 → Rt g d mX8_in 0 [some (.int p2), some (.int 0), some (.int 9)] [] t4 (QI (fun v8 t7 => (¬ v8 = 0 → Rt g d mX8_rowFault 0 [some (.ref 57), some (.int p0)] [] t7 (QI (fun v11 t10 => (0 ≤ v11 → Rt g d mX8_isMirror 0 [some (.ref 57), some (.int p0)] [] t10 (QI (fun v14 t13 => (¬ v14 = 0 → Rt g d mX8_beginMouths 0 [some (.ref 57), none] [] t13 (QV (fun t16 => Rt g (d + 1) mX8_liesFor 59 [some (.ref 57), some (.int p0), some (.int p1), some (.int p2), some (.int 0)] [] t16 Q))) ∧ (v14 = 0 → Q (some (.int (-2))) t13)))) ∧ (¬ 0 ≤ v11 → Rt g d mX8_rowFault 0 [some (.ref 57), some (.int p0)] [] t10 (QI (fun v18 t17 => Q (some (.int v18)) t17)))))) ∧ (v8 = 0 → Q (some (.int (-1))) t7)))))))))) : Rt g (d + 1) mX8_liesFor 0 [some (.ref 57), some (.int p0), some (.int p1), some (.int p2), none] [] t Q := by
  refine s_iload_n dX8_liesFor_0 rfl rfl ?_
  refine t_callS (M' := mX8_isShelf) (k := 0) (As := [.int p0]) (rest := []) dX8_liesFor_1 ml_X8_132 mstX8_isShelf rfl (Nat.le_of_ble_eq_true rfl) (Nat.le_of_ble_eq_true rfl) rfl h (fun rv t1 q => ?_)
  obtain ⟨v2, rfl, h⟩ := q
  show Rt g (d + 1) mX8_liesFor 4 [some (.ref 57), some (.int p0), some (.int p1), some (.int p2), none] [.int v2] t1 Q
  refine s_if_eq (tgt := 25) dX8_liesFor_4 (by decide) (fun c3 => ?_) (fun c3 => ?_)
  · replace h := h.1 c3
    refine s_iconst (v := (-1)) dX8_liesFor_25 (by decide) ?_
    exact t_iret dX8_liesFor_26 (NR_i rfl _) h
  · replace h := h.2 c3
    refine s_aload_n dX8_liesFor_7 rfl rfl ?_
    refine s_iload_n dX8_liesFor_8 rfl rfl ?_
    refine t_callV (M' := mX8_isPerson) (k := 0) (As := [.int p1]) (rest := []) dX8_liesFor_9 ml_X8_156 miX8_isPerson msX8_isPerson rfl (by decide) rfl rfl (Nat.le_of_ble_eq_true rfl) (Nat.le_of_ble_eq_true rfl) rfl h (fun rv t4 q => ?_)
    obtain ⟨v5, rfl, h⟩ := q
    show Rt g (d + 1) mX8_liesFor 12 [some (.ref 57), some (.int p0), some (.int p1), some (.int p2), none] [.int v5] t4 Q
    refine s_if_eq (tgt := 25) dX8_liesFor_12 (by decide) (fun c6 => ?_) (fun c6 => ?_)
    · replace h := h.1 c6
      refine s_iconst (v := (-1)) dX8_liesFor_25 (by decide) ?_
      exact t_iret dX8_liesFor_26 (NR_i rfl _) h
    · replace h := h.2 c6
      refine s_iload_n dX8_liesFor_15 rfl rfl ?_
      refine s_iconst (v := 0) dX8_liesFor_16 (by decide) ?_
      refine s_bipush (v := 9) dX8_liesFor_17 (by decide) ?_
      refine t_callS (M' := mX8_in) (k := 0) (As := [.int p2, .int 0, .int 9]) (rest := []) dX8_liesFor_19 ml_X8_128 mstX8_in rfl (Nat.le_of_ble_eq_true rfl) (Nat.le_of_ble_eq_true rfl) rfl h (fun rv t7 q => ?_)
      obtain ⟨v8, rfl, h⟩ := q
      show Rt g (d + 1) mX8_liesFor 22 [some (.ref 57), some (.int p0), some (.int p1), some (.int p2), none] [.int v8] t7 Q
      refine s_if_ne (tgt := 27) dX8_liesFor_22 (by decide) (fun c9 => ?_) (fun c9 => ?_)
      · replace h := h.1 c9
        refine s_aload_n dX8_liesFor_27 rfl rfl ?_
        refine s_iload_n dX8_liesFor_28 rfl rfl ?_
        refine t_callV (M' := mX8_rowFault) (k := 0) (As := [.int p0]) (rest := []) dX8_liesFor_29 ml_X8_283 miX8_rowFault msX8_rowFault rfl (by decide) rfl rfl (Nat.le_of_ble_eq_true rfl) (Nat.le_of_ble_eq_true rfl) rfl h (fun rv t10 q => ?_)
        obtain ⟨v11, rfl, h⟩ := q
        show Rt g (d + 1) mX8_liesFor 32 [some (.ref 57), some (.int p0), some (.int p1), some (.int p2), none] [.int v11] t10 Q
        refine s_if_ge (tgt := 41) dX8_liesFor_32 (by decide) (fun c12 => ?_) (fun c12 => ?_)
        · replace h := h.1 c12
          refine s_aload_n dX8_liesFor_41 rfl rfl ?_
          refine s_iload_n dX8_liesFor_42 rfl rfl ?_
          refine t_callV (M' := mX8_isMirror) (k := 0) (As := [.int p0]) (rest := []) dX8_liesFor_43 ml_X8_314 miX8_isMirror msX8_isMirror rfl (by decide) rfl rfl (Nat.le_of_ble_eq_true rfl) (Nat.le_of_ble_eq_true rfl) rfl h (fun rv t13 q => ?_)
          obtain ⟨v14, rfl, h⟩ := q
          show Rt g (d + 1) mX8_liesFor 46 [some (.ref 57), some (.int p0), some (.int p1), some (.int p2), none] [.int v14] t13 Q
          refine s_if_ne (tgt := 52) dX8_liesFor_46 (by decide) (fun c15 => ?_) (fun c15 => ?_)
          · replace h := h.1 c15
            refine s_aload_n dX8_liesFor_52 rfl rfl ?_
            refine t_callV (M' := mX8_beginMouths) (k := 1) (As := []) (rest := []) dX8_liesFor_53 ml_X8_172 miX8_beginMouths msX8_beginMouths rfl (by decide) rfl rfl (Nat.le_of_ble_eq_true rfl) (Nat.le_of_ble_eq_true rfl) rfl h (fun rv t16 q => ?_)
            obtain ⟨rfl, h⟩ := q
            show Rt g (d + 1) mX8_liesFor 56 [some (.ref 57), some (.int p0), some (.int p1), some (.int p2), none] [] t16 Q
            refine s_iconst (v := 0) dX8_liesFor_56 (by decide) ?_
            refine s_istore dX8_liesFor_57 (by decide) rfl (L9 := [some (.ref 57), some (.int p0), some (.int p1), some (.int p2), some (.int 0)]) rfl ?_
            exact h
          · replace h := h.2 c15
            refine s_bipush (v := (-2)) dX8_liesFor_49 (by decide) ?_
            exact t_iret dX8_liesFor_51 (NR_i rfl _) h
        · replace h := h.2 c12
          refine s_aload_n dX8_liesFor_35 rfl rfl ?_
          refine s_iload_n dX8_liesFor_36 rfl rfl ?_
          refine t_callV (M' := mX8_rowFault) (k := 0) (As := [.int p0]) (rest := []) dX8_liesFor_37 ml_X8_283 miX8_rowFault msX8_rowFault rfl (by decide) rfl rfl (Nat.le_of_ble_eq_true rfl) (Nat.le_of_ble_eq_true rfl) rfl h (fun rv t17 q => ?_)
          obtain ⟨v18, rfl, h⟩ := q
          show Rt g (d + 1) mX8_liesFor 40 [some (.ref 57), some (.int p0), some (.int p1), some (.int p2), none] [.int v18] t17 Q
          exact t_iret dX8_liesFor_40 (NR_i rfl _) h
      · replace h := h.2 c9
        refine s_iconst (v := (-1)) dX8_liesFor_25 (by decide) ?_
        exact t_iret dX8_liesFor_26 (NR_i rfl _) h
theorem bX8_liesFor_59 {g : Gt} {d : Nat} {t : Tt} {Q : Option Value → Tt → Prop} {x1 : Int32} {x2 : Int32} {x3 : Int32} {x4 : Int32} (h : (99 < x4 → Q (some (.int (-2))) t) ∧ (¬ 99 < x4 → Rt g d mX8_isSeen 0 [some (.ref 57), some (.int x1), some (.int x2), none] [] t (QI (fun v3 t2 => (v3 = 0 → Rt g d mX8_lieOf 0 [some (.ref 57), some (.int x2), some (.int 0), some (.int x3), none, none, none, none, none] [] t2 (QI (fun v6 t5 => Rt g (d + 1) mX8_liesFor 59 [some (.ref 57), some (.int x1), some (.int x2), some (.int x3), some (.int (x4 + 1))] [] t5 Q))) ∧ (¬ v3 = 0 → Q (some (.int x4)) t2))))) : Rt g (d + 1) mX8_liesFor 59 [some (.ref 57), some (.int x1), some (.int x2), some (.int x3), some (.int x4)] [] t Q := by
  refine s_iload dX8_liesFor_59 rfl ?_
  refine s_bipush (v := 99) dX8_liesFor_61 (by decide) ?_
  refine s_icmp_gt (tgt := 92) dX8_liesFor_63 (by decide) (fun c1 => ?_) (fun c1 => ?_)
  · replace h := h.1 c1
    refine s_bipush (v := (-2)) dX8_liesFor_92 (by decide) ?_
    exact t_iret dX8_liesFor_94 (NR_i rfl _) h
  · replace h := h.2 c1
    refine s_aload_n dX8_liesFor_66 rfl rfl ?_
    refine s_iload_n dX8_liesFor_67 rfl rfl ?_
    refine s_iload_n dX8_liesFor_68 rfl rfl ?_
    refine t_callV (M' := mX8_isSeen) (k := 1) (As := [.int x1, .int x2]) (rest := []) dX8_liesFor_69 ml_X8_317 miX8_isSeen msX8_isSeen rfl (by decide) rfl rfl (Nat.le_of_ble_eq_true rfl) (Nat.le_of_ble_eq_true rfl) rfl h (fun rv t2 q => ?_)
    obtain ⟨v3, rfl, h⟩ := q
    show Rt g (d + 1) mX8_liesFor 72 [some (.ref 57), some (.int x1), some (.int x2), some (.int x3), some (.int x4)] [.int v3] t2 Q
    refine s_if_eq (tgt := 78) dX8_liesFor_72 (by decide) (fun c4 => ?_) (fun c4 => ?_)
    · replace h := h.1 c4
      refine s_aload_n dX8_liesFor_78 rfl rfl ?_
      refine s_iload_n dX8_liesFor_79 rfl rfl ?_
      refine s_iconst (v := 0) dX8_liesFor_80 (by decide) ?_
      refine s_iload_n dX8_liesFor_81 rfl rfl ?_
      refine t_callV (M' := mX8_lieOf) (k := 5) (As := [.int x2, .int 0, .int x3]) (rest := []) dX8_liesFor_82 ml_X8_261 miX8_lieOf msX8_lieOf rfl (by decide) rfl rfl (Nat.le_of_ble_eq_true rfl) (Nat.le_of_ble_eq_true rfl) rfl h (fun rv t5 q => ?_)
      obtain ⟨v6, rfl, h⟩ := q
      show Rt g (d + 1) mX8_liesFor 85 [some (.ref 57), some (.int x1), some (.int x2), some (.int x3), some (.int x4)] [.int v6] t5 Q
      refine s_pop dX8_liesFor_85 rfl ?_
      refine s_iinc (w := x4 + 1) dX8_liesFor_86 rfl (by rfl) (by decide) rfl (L9 := [some (.ref 57), some (.int x1), some (.int x2), some (.int x3), some (.int (x4 + 1))]) rfl ?_
      refine s_goto (tgt := 59) dX8_liesFor_89 (by decide) ?_
      exact h
    · replace h := h.2 c4
      refine s_iload dX8_liesFor_75 rfl ?_
      exact t_iret dX8_liesFor_77 (NR_i rfl _) h
theorem bX8_two_0 {g : Gt} {d : Nat} {t : Tt} {Q : Option Value → Tt → Prop} {p0 : Int32} {p1 : Int32} {p2 : Int32} (h : Rt g d mX8_isShelf 0 [some (.int p0)] [] t (QI (fun v2 t1 => (v2 = 0 → Q (some (.int (-1))) t1) ∧ (¬ v2 = 0 → Rt g d mX8_isPerson 0 [some (.ref 57), some (.int p1)] [] t1 (QI (fun v5 t4 => (v5 = 0 → Q (some (.int (-1))) t4) ∧ (¬ v5 = 0 → Rt g d mX8_in 0 [some (.int p2), some (.int 0), some (.int 1)] [] t4 (QI (fun v8 t7 => (¬ v8 = 0 → Rt g d mX8_rowFault 0 [some (.ref 57), some (.int p0)] [] t7 (QI (fun v11 t10 => (0 ≤ v11 → Rt g d mX8_isMirror 0 [some (.ref 57), some (.int p0)] [] t10 (QI (fun v14 t13 => (¬ v14 = 0 → Rt g (d + 1) mX8_two 61 [some (.ref 57), some (.int p0), some (.int p1), some (.int p2), some (.int 0), some (.int (-2)), some (.int 0)] [] t13 Q) ∧ (v14 = 0 → Q (some (.int (-2))) t13)))) ∧ (¬ 0 ≤ v11 → Rt g d mX8_rowFault 0 [some (.ref 57), some (.int p0)] [] t10 (QI (fun v17 t16 => Q (some (.int v17)) t16)))))) ∧ (v8 = 0 → Q (some (.int (-1))) t7)))))))))) : Rt g (d + 1) mX8_two 0 [some (.ref 57), some (.int p0), some (.int p1), some (.int p2), none, none, none] [] t Q := by
  refine s_iload_n dX8_two_0 rfl rfl ?_
  refine t_callS (M' := mX8_isShelf) (k := 0) (As := [.int p0]) (rest := []) dX8_two_1 ml_X8_132 mstX8_isShelf rfl (Nat.le_of_ble_eq_true rfl) (Nat.le_of_ble_eq_true rfl) rfl h (fun rv t1 q => ?_)
  obtain ⟨v2, rfl, h⟩ := q
  show Rt g (d + 1) mX8_two 4 [some (.ref 57), some (.int p0), some (.int p1), some (.int p2), none, none, none] [.int v2] t1 Q
  refine s_if_eq (tgt := 24) dX8_two_4 (by decide) (fun c3 => ?_) (fun c3 => ?_)
  · replace h := h.1 c3
    refine s_iconst (v := (-1)) dX8_two_24 (by decide) ?_
    exact t_iret dX8_two_25 (NR_i rfl _) h
  · replace h := h.2 c3
    refine s_aload_n dX8_two_7 rfl rfl ?_
    refine s_iload_n dX8_two_8 rfl rfl ?_
    refine t_callV (M' := mX8_isPerson) (k := 0) (As := [.int p1]) (rest := []) dX8_two_9 ml_X8_156 miX8_isPerson msX8_isPerson rfl (by decide) rfl rfl (Nat.le_of_ble_eq_true rfl) (Nat.le_of_ble_eq_true rfl) rfl h (fun rv t4 q => ?_)
    obtain ⟨v5, rfl, h⟩ := q
    show Rt g (d + 1) mX8_two 12 [some (.ref 57), some (.int p0), some (.int p1), some (.int p2), none, none, none] [.int v5] t4 Q
    refine s_if_eq (tgt := 24) dX8_two_12 (by decide) (fun c6 => ?_) (fun c6 => ?_)
    · replace h := h.1 c6
      refine s_iconst (v := (-1)) dX8_two_24 (by decide) ?_
      exact t_iret dX8_two_25 (NR_i rfl _) h
    · replace h := h.2 c6
      refine s_iload_n dX8_two_15 rfl rfl ?_
      refine s_iconst (v := 0) dX8_two_16 (by decide) ?_
      refine s_iconst (v := 1) dX8_two_17 (by decide) ?_
      refine t_callS (M' := mX8_in) (k := 0) (As := [.int p2, .int 0, .int 1]) (rest := []) dX8_two_18 ml_X8_128 mstX8_in rfl (Nat.le_of_ble_eq_true rfl) (Nat.le_of_ble_eq_true rfl) rfl h (fun rv t7 q => ?_)
      obtain ⟨v8, rfl, h⟩ := q
      show Rt g (d + 1) mX8_two 21 [some (.ref 57), some (.int p0), some (.int p1), some (.int p2), none, none, none] [.int v8] t7 Q
      refine s_if_ne (tgt := 26) dX8_two_21 (by decide) (fun c9 => ?_) (fun c9 => ?_)
      · replace h := h.1 c9
        refine s_aload_n dX8_two_26 rfl rfl ?_
        refine s_iload_n dX8_two_27 rfl rfl ?_
        refine t_callV (M' := mX8_rowFault) (k := 0) (As := [.int p0]) (rest := []) dX8_two_28 ml_X8_283 miX8_rowFault msX8_rowFault rfl (by decide) rfl rfl (Nat.le_of_ble_eq_true rfl) (Nat.le_of_ble_eq_true rfl) rfl h (fun rv t10 q => ?_)
        obtain ⟨v11, rfl, h⟩ := q
        show Rt g (d + 1) mX8_two 31 [some (.ref 57), some (.int p0), some (.int p1), some (.int p2), none, none, none] [.int v11] t10 Q
        refine s_if_ge (tgt := 40) dX8_two_31 (by decide) (fun c12 => ?_) (fun c12 => ?_)
        · replace h := h.1 c12
          refine s_aload_n dX8_two_40 rfl rfl ?_
          refine s_iload_n dX8_two_41 rfl rfl ?_
          refine t_callV (M' := mX8_isMirror) (k := 0) (As := [.int p0]) (rest := []) dX8_two_42 ml_X8_314 miX8_isMirror msX8_isMirror rfl (by decide) rfl rfl (Nat.le_of_ble_eq_true rfl) (Nat.le_of_ble_eq_true rfl) rfl h (fun rv t13 q => ?_)
          obtain ⟨v14, rfl, h⟩ := q
          show Rt g (d + 1) mX8_two 45 [some (.ref 57), some (.int p0), some (.int p1), some (.int p2), none, none, none] [.int v14] t13 Q
          refine s_if_ne (tgt := 51) dX8_two_45 (by decide) (fun c15 => ?_) (fun c15 => ?_)
          · replace h := h.1 c15
            refine s_iconst (v := 0) dX8_two_51 (by decide) ?_
            refine s_istore dX8_two_52 (by decide) rfl (L9 := [some (.ref 57), some (.int p0), some (.int p1), some (.int p2), some (.int 0), none, none]) rfl ?_
            refine s_bipush (v := (-2)) dX8_two_54 (by decide) ?_
            refine s_istore dX8_two_56 (by decide) rfl (L9 := [some (.ref 57), some (.int p0), some (.int p1), some (.int p2), some (.int 0), some (.int (-2)), none]) rfl ?_
            refine s_iconst (v := 0) dX8_two_58 (by decide) ?_
            refine s_istore dX8_two_59 (by decide) rfl (L9 := [some (.ref 57), some (.int p0), some (.int p1), some (.int p2), some (.int 0), some (.int (-2)), some (.int 0)]) rfl ?_
            exact h
          · replace h := h.2 c15
            refine s_bipush (v := (-2)) dX8_two_48 (by decide) ?_
            exact t_iret dX8_two_50 (NR_i rfl _) h
        · replace h := h.2 c12
          refine s_aload_n dX8_two_34 rfl rfl ?_
          refine s_iload_n dX8_two_35 rfl rfl ?_
          refine t_callV (M' := mX8_rowFault) (k := 0) (As := [.int p0]) (rest := []) dX8_two_36 ml_X8_283 miX8_rowFault msX8_rowFault rfl (by decide) rfl rfl (Nat.le_of_ble_eq_true rfl) (Nat.le_of_ble_eq_true rfl) rfl h (fun rv t16 q => ?_)
          obtain ⟨v17, rfl, h⟩ := q
          show Rt g (d + 1) mX8_two 39 [some (.ref 57), some (.int p0), some (.int p1), some (.int p2), none, none, none] [.int v17] t16 Q
          exact t_iret dX8_two_39 (NR_i rfl _) h
      · replace h := h.2 c9
        refine s_iconst (v := (-1)) dX8_two_24 (by decide) ?_
        exact t_iret dX8_two_25 (NR_i rfl _) h
theorem bX8_two_61 {g : Gt} {d : Nat} {t : Tt} {Q : Option Value → Tt → Prop} {x1 : Int32} {x2 : Int32} {x3 : Int32} {x4 : Int32} {x5 : Int32} {x6 : Int32} (h : (100 ≤ x6 → (¬ x3 = 0 → Q (some (.int x5)) t) ∧ (x3 = 0 → Q (some (.int x4)) t)) ∧ (¬ 100 ≤ x6 → Rt g d mX8_beginMouths 0 [some (.ref 57), none] [] t (QV (fun t3 => Rt g d mX8_lieOf 0 [some (.ref 57), some (.int x2), some (.int 0), some (.int (x6 / 10)), none, none, none, none, none] [] t3 (QI (fun v5 t4 => Rt g d mX8_lieOf 0 [some (.ref 57), some (.int x2), some (.int 0), some (.int (jr x6 10)), none, none, none, none, none] [] t4 (QI (fun v7 t6 => Rt g d mX8_isSeen 0 [some (.ref 57), some (.int x1), some (.int x2), none] [] t6 (QI (fun v9 t8 => (¬ v9 = 0 → (¬ x4 = 0 → Rt g (d + 1) mX8_two 117 [some (.ref 57), some (.int x1), some (.int x2), some (.int x3), some (.int x4), some (.int x5), some (.int x6)] [] t8 Q) ∧ (x4 = 0 → Rt g (d + 1) mX8_two 117 [some (.ref 57), some (.int x1), some (.int x2), some (.int x3), some (.int x4), some (.int x6), some (.int x6)] [] t8 Q)) ∧ (v9 = 0 → Rt g (d + 1) mX8_two 120 [some (.ref 57), some (.int x1), some (.int x2), some (.int x3), some (.int x4), some (.int x5), some (.int x6)] [] t8 Q))))))))))) : Rt g (d + 1) mX8_two 61 [some (.ref 57), some (.int x1), some (.int x2), some (.int x3), some (.int x4), some (.int x5), some (.int x6)] [] t Q := by
  refine s_iload dX8_two_61 rfl ?_
  refine s_bipush (v := 100) dX8_two_63 (by decide) ?_
  refine s_icmp_ge (tgt := 126) dX8_two_65 (by decide) (fun c1 => ?_) (fun c1 => ?_)
  · replace h := h.1 c1
    refine s_iload_n dX8_two_126 rfl rfl ?_
    refine s_if_ne (tgt := 135) dX8_two_127 (by decide) (fun c2 => ?_) (fun c2 => ?_)
    · replace h := h.1 c2
      refine s_iload dX8_two_135 rfl ?_
      exact t_iret dX8_two_137 (NR_i rfl _) h
    · replace h := h.2 c2
      refine s_iload dX8_two_130 rfl ?_
      refine s_goto (tgt := 137) dX8_two_132 (by decide) ?_
      exact t_iret dX8_two_137 (NR_i rfl _) h
  · replace h := h.2 c1
    refine s_aload_n dX8_two_68 rfl rfl ?_
    refine t_callV (M' := mX8_beginMouths) (k := 1) (As := []) (rest := []) dX8_two_69 ml_X8_172 miX8_beginMouths msX8_beginMouths rfl (by decide) rfl rfl (Nat.le_of_ble_eq_true rfl) (Nat.le_of_ble_eq_true rfl) rfl h (fun rv t3 q => ?_)
    obtain ⟨rfl, h⟩ := q
    show Rt g (d + 1) mX8_two 72 [some (.ref 57), some (.int x1), some (.int x2), some (.int x3), some (.int x4), some (.int x5), some (.int x6)] [] t3 Q
    refine s_aload_n dX8_two_72 rfl rfl ?_
    refine s_iload_n dX8_two_73 rfl rfl ?_
    refine s_iconst (v := 0) dX8_two_74 (by decide) ?_
    refine s_iload dX8_two_75 rfl ?_
    refine s_bipush (v := 10) dX8_two_77 (by decide) ?_
    refine s_idiv dX8_two_79 (by decide) ?_
    refine t_callV (M' := mX8_lieOf) (k := 5) (As := [.int x2, .int 0, .int (x6 / 10)]) (rest := []) dX8_two_80 ml_X8_261 miX8_lieOf msX8_lieOf rfl (by decide) rfl rfl (Nat.le_of_ble_eq_true rfl) (Nat.le_of_ble_eq_true rfl) rfl h (fun rv t4 q => ?_)
    obtain ⟨v5, rfl, h⟩ := q
    show Rt g (d + 1) mX8_two 83 [some (.ref 57), some (.int x1), some (.int x2), some (.int x3), some (.int x4), some (.int x5), some (.int x6)] [.int v5] t4 Q
    refine s_pop dX8_two_83 rfl ?_
    refine s_aload_n dX8_two_84 rfl rfl ?_
    refine s_iload_n dX8_two_85 rfl rfl ?_
    refine s_iconst (v := 0) dX8_two_86 (by decide) ?_
    refine s_iload dX8_two_87 rfl ?_
    refine s_bipush (v := 10) dX8_two_89 (by decide) ?_
    refine s_irem dX8_two_91 (by decide) ?_
    refine t_callV (M' := mX8_lieOf) (k := 5) (As := [.int x2, .int 0, .int (jr x6 10)]) (rest := []) dX8_two_92 ml_X8_261 miX8_lieOf msX8_lieOf rfl (by decide) rfl rfl (Nat.le_of_ble_eq_true rfl) (Nat.le_of_ble_eq_true rfl) rfl h (fun rv t6 q => ?_)
    obtain ⟨v7, rfl, h⟩ := q
    show Rt g (d + 1) mX8_two 95 [some (.ref 57), some (.int x1), some (.int x2), some (.int x3), some (.int x4), some (.int x5), some (.int x6)] [.int v7] t6 Q
    refine s_pop dX8_two_95 rfl ?_
    refine s_aload_n dX8_two_96 rfl rfl ?_
    refine s_iload_n dX8_two_97 rfl rfl ?_
    refine s_iload_n dX8_two_98 rfl rfl ?_
    refine t_callV (M' := mX8_isSeen) (k := 1) (As := [.int x1, .int x2]) (rest := []) dX8_two_99 ml_X8_317 miX8_isSeen msX8_isSeen rfl (by decide) rfl rfl (Nat.le_of_ble_eq_true rfl) (Nat.le_of_ble_eq_true rfl) rfl h (fun rv t8 q => ?_)
    obtain ⟨v9, rfl, h⟩ := q
    show Rt g (d + 1) mX8_two 102 [some (.ref 57), some (.int x1), some (.int x2), some (.int x3), some (.int x4), some (.int x5), some (.int x6)] [.int v9] t8 Q
    refine s_if_ne (tgt := 108) dX8_two_102 (by decide) (fun c10 => ?_) (fun c10 => ?_)
    · replace h := h.1 c10
      refine s_iload dX8_two_108 rfl ?_
      refine s_if_ne (tgt := 117) dX8_two_110 (by decide) (fun c11 => ?_) (fun c11 => ?_)
      · replace h := h.1 c11
        exact h
      · replace h := h.2 c11
        refine s_iload dX8_two_113 rfl ?_
        refine s_istore dX8_two_115 (by decide) rfl (L9 := [some (.ref 57), some (.int x1), some (.int x2), some (.int x3), some (.int x4), some (.int x6), some (.int x6)]) rfl ?_
        exact h
    · replace h := h.2 c10
      refine s_goto (tgt := 120) dX8_two_105 (by decide) ?_
      exact h
theorem bX8_two_117 {g : Gt} {d : Nat} {t : Tt} {Q : Option Value → Tt → Prop} {x1 : Int32} {x2 : Int32} {x3 : Int32} {x4 : Int32} {x5 : Int32} {x6 : Int32} (h : Rt g (d + 1) mX8_two 120 [some (.ref 57), some (.int x1), some (.int x2), some (.int x3), some (.int (x4 + 1)), some (.int x5), some (.int x6)] [] t Q) : Rt g (d + 1) mX8_two 117 [some (.ref 57), some (.int x1), some (.int x2), some (.int x3), some (.int x4), some (.int x5), some (.int x6)] [] t Q := by
  refine s_iinc (w := x4 + 1) dX8_two_117 rfl (by rfl) (by decide) rfl (L9 := [some (.ref 57), some (.int x1), some (.int x2), some (.int x3), some (.int (x4 + 1)), some (.int x5), some (.int x6)]) rfl ?_
  exact h
theorem bX8_two_120 {g : Gt} {d : Nat} {t : Tt} {Q : Option Value → Tt → Prop} {x1 : Int32} {x2 : Int32} {x3 : Int32} {x4 : Int32} {x5 : Int32} {x6 : Int32} (h : Rt g (d + 1) mX8_two 61 [some (.ref 57), some (.int x1), some (.int x2), some (.int x3), some (.int x4), some (.int x5), some (.int (x6 + 1))] [] t Q) : Rt g (d + 1) mX8_two 120 [some (.ref 57), some (.int x1), some (.int x2), some (.int x3), some (.int x4), some (.int x5), some (.int x6)] [] t Q := by
  refine s_iinc (w := x6 + 1) dX8_two_120 rfl (by rfl) (by decide) rfl (L9 := [some (.ref 57), some (.int x1), some (.int x2), some (.int x3), some (.int x4), some (.int x5), some (.int (x6 + 1))]) rfl ?_
  refine s_goto (tgt := 61) dX8_two_123 (by decide) ?_
  exact h
theorem bX8_others_0 {g : Gt} {d : Nat} {t : Tt} {Q : Option Value → Tt → Prop} {p0 : Int32} (h : Rt g d mX8_isShelf 0 [some (.int p0)] [] t (QI (fun v2 t1 => (¬ v2 = 0 → Rt g d mX8_rowFault 0 [some (.ref 57), some (.int p0)] [] t1 (QI (fun v5 t4 => (0 ≤ v5 → Rt g d mX8_isMirror 0 [some (.ref 57), some (.int p0)] [] t4 (QI (fun v8 t7 => (¬ v8 = 0 → Rt g d mX8_beginMouths 0 [some (.ref 57), none] [] t7 (QV (fun t10 => Rt g (d + 1) mX8_others 42 [some (.ref 57), some (.int p0), some (.int 0), some (.int 0)] [] t10 Q))) ∧ (v8 = 0 → Q (some (.int (-2))) t7)))) ∧ (¬ 0 ≤ v5 → Rt g d mX8_rowFault 0 [some (.ref 57), some (.int p0)] [] t4 (QI (fun v12 t11 => Q (some (.int v12)) t11)))))) ∧ (v2 = 0 → Q (some (.int (-1))) t1)))) : Rt g (d + 1) mX8_others 0 [some (.ref 57), some (.int p0), none, none] [] t Q := by
  refine s_iload_n dX8_others_0 rfl rfl ?_
  refine t_callS (M' := mX8_isShelf) (k := 0) (As := [.int p0]) (rest := []) dX8_others_1 ml_X8_132 mstX8_isShelf rfl (Nat.le_of_ble_eq_true rfl) (Nat.le_of_ble_eq_true rfl) rfl h (fun rv t1 q => ?_)
  obtain ⟨v2, rfl, h⟩ := q
  show Rt g (d + 1) mX8_others 4 [some (.ref 57), some (.int p0), none, none] [.int v2] t1 Q
  refine s_if_ne (tgt := 9) dX8_others_4 (by decide) (fun c3 => ?_) (fun c3 => ?_)
  · replace h := h.1 c3
    refine s_aload_n dX8_others_9 rfl rfl ?_
    refine s_iload_n dX8_others_10 rfl rfl ?_
    refine t_callV (M' := mX8_rowFault) (k := 0) (As := [.int p0]) (rest := []) dX8_others_11 ml_X8_283 miX8_rowFault msX8_rowFault rfl (by decide) rfl rfl (Nat.le_of_ble_eq_true rfl) (Nat.le_of_ble_eq_true rfl) rfl h (fun rv t4 q => ?_)
    obtain ⟨v5, rfl, h⟩ := q
    show Rt g (d + 1) mX8_others 14 [some (.ref 57), some (.int p0), none, none] [.int v5] t4 Q
    refine s_if_ge (tgt := 23) dX8_others_14 (by decide) (fun c6 => ?_) (fun c6 => ?_)
    · replace h := h.1 c6
      refine s_aload_n dX8_others_23 rfl rfl ?_
      refine s_iload_n dX8_others_24 rfl rfl ?_
      refine t_callV (M' := mX8_isMirror) (k := 0) (As := [.int p0]) (rest := []) dX8_others_25 ml_X8_314 miX8_isMirror msX8_isMirror rfl (by decide) rfl rfl (Nat.le_of_ble_eq_true rfl) (Nat.le_of_ble_eq_true rfl) rfl h (fun rv t7 q => ?_)
      obtain ⟨v8, rfl, h⟩ := q
      show Rt g (d + 1) mX8_others 28 [some (.ref 57), some (.int p0), none, none] [.int v8] t7 Q
      refine s_if_ne (tgt := 34) dX8_others_28 (by decide) (fun c9 => ?_) (fun c9 => ?_)
      · replace h := h.1 c9
        refine s_aload_n dX8_others_34 rfl rfl ?_
        refine t_callV (M' := mX8_beginMouths) (k := 1) (As := []) (rest := []) dX8_others_35 ml_X8_172 miX8_beginMouths msX8_beginMouths rfl (by decide) rfl rfl (Nat.le_of_ble_eq_true rfl) (Nat.le_of_ble_eq_true rfl) rfl h (fun rv t10 q => ?_)
        obtain ⟨rfl, h⟩ := q
        show Rt g (d + 1) mX8_others 38 [some (.ref 57), some (.int p0), none, none] [] t10 Q
        refine s_iconst (v := 0) dX8_others_38 (by decide) ?_
        refine s_istore_n dX8_others_39 rfl (by decide) rfl (L9 := [some (.ref 57), some (.int p0), some (.int 0), none]) rfl ?_
        refine s_iconst (v := 0) dX8_others_40 (by decide) ?_
        refine s_istore_n dX8_others_41 rfl (by decide) rfl (L9 := [some (.ref 57), some (.int p0), some (.int 0), some (.int 0)]) rfl ?_
        exact h
      · replace h := h.2 c9
        refine s_bipush (v := (-2)) dX8_others_31 (by decide) ?_
        exact t_iret dX8_others_33 (NR_i rfl _) h
    · replace h := h.2 c6
      refine s_aload_n dX8_others_17 rfl rfl ?_
      refine s_iload_n dX8_others_18 rfl rfl ?_
      refine t_callV (M' := mX8_rowFault) (k := 0) (As := [.int p0]) (rest := []) dX8_others_19 ml_X8_283 miX8_rowFault msX8_rowFault rfl (by decide) rfl rfl (Nat.le_of_ble_eq_true rfl) (Nat.le_of_ble_eq_true rfl) rfl h (fun rv t11 q => ?_)
      obtain ⟨v12, rfl, h⟩ := q
      show Rt g (d + 1) mX8_others 22 [some (.ref 57), some (.int p0), none, none] [.int v12] t11 Q
      exact t_iret dX8_others_22 (NR_i rfl _) h
  · replace h := h.2 c3
    refine s_iconst (v := (-1)) dX8_others_7 (by decide) ?_
    exact t_iret dX8_others_8 (NR_i rfl _) h
theorem bX8_others_42 {g : Gt} {d : Nat} {t : Tt} {Q : Option Value → Tt → Prop} {x1 : Int32} {x2 : Int32} {x3 : Int32} (h : ((t.1 57 1) ≤ x3 → Q (some (.int x2)) t) ∧ (¬ (t.1 57 1) ≤ x3 → Rt g d mX8_isSeen 0 [some (.ref 57), some (.int x1), some (.int x3), none] [] t (QI (fun v3 t2 => (v3 = 0 → Rt g (d + 1) mX8_others 65 [some (.ref 57), some (.int x1), some (.int x2), some (.int x3)] [] t2 Q) ∧ (¬ v3 = 0 → ∀ z5 : Int32, z5 = (x2 ||| (jsl 1 x3)) → Rt g (d + 1) mX8_others 65 [some (.ref 57), some (.int x1), some (.int z5), some (.int x3)] [] t2 Q))))) : Rt g (d + 1) mX8_others 42 [some (.ref 57), some (.int x1), some (.int x2), some (.int x3)] [] t Q := by
  refine s_iload_n dX8_others_42 rfl rfl ?_
  refine s_aload_n dX8_others_43 rfl rfl ?_
  refine t_getI dX8_others_44 fl_X8_125 rfl (by decide) rfl ?_
  refine s_icmp_ge (tgt := 71) dX8_others_47 (by decide) (fun c1 => ?_) (fun c1 => ?_)
  · replace h := h.1 c1
    refine s_iload_n dX8_others_71 rfl rfl ?_
    exact t_iret dX8_others_72 (NR_i rfl _) h
  · replace h := h.2 c1
    refine s_aload_n dX8_others_50 rfl rfl ?_
    refine s_iload_n dX8_others_51 rfl rfl ?_
    refine s_iload_n dX8_others_52 rfl rfl ?_
    refine t_callV (M' := mX8_isSeen) (k := 1) (As := [.int x1, .int x3]) (rest := []) dX8_others_53 ml_X8_317 miX8_isSeen msX8_isSeen rfl (by decide) rfl rfl (Nat.le_of_ble_eq_true rfl) (Nat.le_of_ble_eq_true rfl) rfl h (fun rv t2 q => ?_)
    obtain ⟨v3, rfl, h⟩ := q
    show Rt g (d + 1) mX8_others 56 [some (.ref 57), some (.int x1), some (.int x2), some (.int x3)] [.int v3] t2 Q
    refine s_if_eq (tgt := 65) dX8_others_56 (by decide) (fun c4 => ?_) (fun c4 => ?_)
    · replace h := h.1 c4
      exact h
    · replace h := h.2 c4
      refine s_iload_n dX8_others_59 rfl rfl ?_
      refine s_iconst (v := 1) dX8_others_60 (by decide) ?_
      refine s_iload_n dX8_others_61 rfl rfl ?_
      refine s_ishl dX8_others_62 ?_
      refine s_ior dX8_others_63 ?_
      refine t_nmI (fun z5 ez5 => ?_)
      replace h := h z5 ez5
      refine s_istore_n dX8_others_64 rfl (by decide) rfl (L9 := [some (.ref 57), some (.int x1), some (.int z5), some (.int x3)]) rfl ?_
      exact h
theorem bX8_others_65 {g : Gt} {d : Nat} {t : Tt} {Q : Option Value → Tt → Prop} {x1 : Int32} {x2 : Int32} {x3 : Int32} (h : Rt g (d + 1) mX8_others 42 [some (.ref 57), some (.int x1), some (.int x2), some (.int (x3 + 1))] [] t Q) : Rt g (d + 1) mX8_others 65 [some (.ref 57), some (.int x1), some (.int x2), some (.int x3)] [] t Q := by
  refine s_iinc (w := x3 + 1) dX8_others_65 rfl (by rfl) (by decide) rfl (L9 := [some (.ref 57), some (.int x1), some (.int x2), some (.int (x3 + 1))]) rfl ?_
  refine s_goto (tgt := 42) dX8_others_68 (by decide) ?_
  exact h
theorem bX8_isSo_0 {g : Gt} {d : Nat} {t : Tt} {Q : Option Value → Tt → Prop} {p0 : Int32} {p1 : Int32} {p2 : Int32} (h : (p0 < 0 → Q (some (.int (-1))) t) ∧ (¬ p0 < 0 → Rt g d mX8_isShelf 0 [some (.int (p0 / 10))] [] t (QI (fun v3 t2 => (v3 = 0 → Q (some (.int (-1))) t2) ∧ (¬ v3 = 0 → Rt g d mX8_isShelf 0 [some (.int (jr p0 10))] [] t2 (QI (fun v6 t5 => (v6 = 0 → Q (some (.int (-1))) t5) ∧ (¬ v6 = 0 → (p1 < 0 → Q (some (.int (-1))) t5) ∧ (¬ p1 < 0 → Rt g d mX8_isPerson 0 [some (.ref 57), some (.int (p1 / 10))] [] t5 (QI (fun v10 t9 => (v10 = 0 → Q (some (.int (-1))) t9) ∧ (¬ v10 = 0 → Rt g d mX8_in 0 [some (.int (jr p1 10)), some (.int 1), some (.int 8)] [] t9 (QI (fun v13 t12 => (v13 = 0 → Q (some (.int (-1))) t12) ∧ (¬ v13 = 0 → Rt g d mX8_in 0 [some (.int p2), some (.int 0), some (.int 2)] [] t12 (QI (fun v16 t15 => (¬ v16 = 0 → vp_in (p0 / 10) 6 ∧ (((t15.1 89 (p0 / 10).toNatClampNeg) = (-1) → Q (some (.int (-11))) t15) ∧ (¬ (t15.1 89 (p0 / 10).toNatClampNeg) = (-1) → vp_in (jr p0 10) 6 ∧ ((¬ (t15.1 89 (jr p0 10).toNatClampNeg) = (-1) → Rt g d mX8_rowFault 0 [some (.ref 57), some (.int (p0 / 10))] [] t15 (QI (fun v23 t22 => (v23 < 0 → Q (some (.int (-12))) t22) ∧ (¬ v23 < 0 → Rt g d mX8_rowFault 0 [some (.ref 57), some (.int (jr p0 10))] [] t22 (QI (fun v26 t25 => (0 ≤ v26 → Rt g d mX8_isMirror 0 [some (.ref 57), some (.int (jr p0 10))] [] t25 (QI (fun v29 t28 => (¬ v29 = 0 → ∀ z31 : Int32, z31 = (jr p1 10) → Rt g d mX8_layTrial 0 [some (.ref 57), some (.int (p0 / 10)), none] [] t28 (QV (fun t32 => Rt g (d + 1) mX8_isSo 148 [some (.ref 57), some (.int p0), some (.int p1), some (.int p2), some (.int z31), some (.int 0), none, none, none, none] [] t32 Q))) ∧ (v29 = 0 → Q (some (.int (-2))) t28)))) ∧ (¬ 0 ≤ v26 → Q (some (.int (-12))) t25))))))) ∧ ((t15.1 89 (jr p0 10).toNatClampNeg) = (-1) → Q (some (.int (-11))) t15))))) ∧ (v16 = 0 → Q (some (.int (-1))) t15)))))))))))))))))) : Rt g (d + 1) mX8_isSo 0 [some (.ref 57), some (.int p0), some (.int p1), some (.int p2), none, none, none, none, none, none] [] t Q := by
  refine s_iload_n dX8_isSo_0 rfl rfl ?_
  refine s_if_lt (tgt := 61) dX8_isSo_1 (by decide) (fun c1 => ?_) (fun c1 => ?_)
  · replace h := h.1 c1
    refine s_iconst (v := (-1)) dX8_isSo_61 (by decide) ?_
    exact t_iret dX8_isSo_62 (NR_i rfl _) h
  · replace h := h.2 c1
    refine s_iload_n dX8_isSo_4 rfl rfl ?_
    refine s_bipush (v := 10) dX8_isSo_5 (by decide) ?_
    refine s_idiv dX8_isSo_7 (by decide) ?_
    refine t_callS (M' := mX8_isShelf) (k := 0) (As := [.int (p0 / 10)]) (rest := []) dX8_isSo_8 ml_X8_132 mstX8_isShelf rfl (Nat.le_of_ble_eq_true rfl) (Nat.le_of_ble_eq_true rfl) rfl h (fun rv t2 q => ?_)
    obtain ⟨v3, rfl, h⟩ := q
    show Rt g (d + 1) mX8_isSo 11 [some (.ref 57), some (.int p0), some (.int p1), some (.int p2), none, none, none, none, none, none] [.int v3] t2 Q
    refine s_if_eq (tgt := 61) dX8_isSo_11 (by decide) (fun c4 => ?_) (fun c4 => ?_)
    · replace h := h.1 c4
      refine s_iconst (v := (-1)) dX8_isSo_61 (by decide) ?_
      exact t_iret dX8_isSo_62 (NR_i rfl _) h
    · replace h := h.2 c4
      refine s_iload_n dX8_isSo_14 rfl rfl ?_
      refine s_bipush (v := 10) dX8_isSo_15 (by decide) ?_
      refine s_irem dX8_isSo_17 (by decide) ?_
      refine t_callS (M' := mX8_isShelf) (k := 0) (As := [.int (jr p0 10)]) (rest := []) dX8_isSo_18 ml_X8_132 mstX8_isShelf rfl (Nat.le_of_ble_eq_true rfl) (Nat.le_of_ble_eq_true rfl) rfl h (fun rv t5 q => ?_)
      obtain ⟨v6, rfl, h⟩ := q
      show Rt g (d + 1) mX8_isSo 21 [some (.ref 57), some (.int p0), some (.int p1), some (.int p2), none, none, none, none, none, none] [.int v6] t5 Q
      refine s_if_eq (tgt := 61) dX8_isSo_21 (by decide) (fun c7 => ?_) (fun c7 => ?_)
      · replace h := h.1 c7
        refine s_iconst (v := (-1)) dX8_isSo_61 (by decide) ?_
        exact t_iret dX8_isSo_62 (NR_i rfl _) h
      · replace h := h.2 c7
        refine s_iload_n dX8_isSo_24 rfl rfl ?_
        refine s_if_lt (tgt := 61) dX8_isSo_25 (by decide) (fun c8 => ?_) (fun c8 => ?_)
        · replace h := h.1 c8
          refine s_iconst (v := (-1)) dX8_isSo_61 (by decide) ?_
          exact t_iret dX8_isSo_62 (NR_i rfl _) h
        · replace h := h.2 c8
          refine s_aload_n dX8_isSo_28 rfl rfl ?_
          refine s_iload_n dX8_isSo_29 rfl rfl ?_
          refine s_bipush (v := 10) dX8_isSo_30 (by decide) ?_
          refine s_idiv dX8_isSo_32 (by decide) ?_
          refine t_callV (M' := mX8_isPerson) (k := 0) (As := [.int (p1 / 10)]) (rest := []) dX8_isSo_33 ml_X8_156 miX8_isPerson msX8_isPerson rfl (by decide) rfl rfl (Nat.le_of_ble_eq_true rfl) (Nat.le_of_ble_eq_true rfl) rfl h (fun rv t9 q => ?_)
          obtain ⟨v10, rfl, h⟩ := q
          show Rt g (d + 1) mX8_isSo 36 [some (.ref 57), some (.int p0), some (.int p1), some (.int p2), none, none, none, none, none, none] [.int v10] t9 Q
          refine s_if_eq (tgt := 61) dX8_isSo_36 (by decide) (fun c11 => ?_) (fun c11 => ?_)
          · replace h := h.1 c11
            refine s_iconst (v := (-1)) dX8_isSo_61 (by decide) ?_
            exact t_iret dX8_isSo_62 (NR_i rfl _) h
          · replace h := h.2 c11
            refine s_iload_n dX8_isSo_39 rfl rfl ?_
            refine s_bipush (v := 10) dX8_isSo_40 (by decide) ?_
            refine s_irem dX8_isSo_42 (by decide) ?_
            refine s_iconst (v := 1) dX8_isSo_43 (by decide) ?_
            refine s_bipush (v := 8) dX8_isSo_44 (by decide) ?_
            refine t_callS (M' := mX8_in) (k := 0) (As := [.int (jr p1 10), .int 1, .int 8]) (rest := []) dX8_isSo_46 ml_X8_128 mstX8_in rfl (Nat.le_of_ble_eq_true rfl) (Nat.le_of_ble_eq_true rfl) rfl h (fun rv t12 q => ?_)
            obtain ⟨v13, rfl, h⟩ := q
            show Rt g (d + 1) mX8_isSo 49 [some (.ref 57), some (.int p0), some (.int p1), some (.int p2), none, none, none, none, none, none] [.int v13] t12 Q
            refine s_if_eq (tgt := 61) dX8_isSo_49 (by decide) (fun c14 => ?_) (fun c14 => ?_)
            · replace h := h.1 c14
              refine s_iconst (v := (-1)) dX8_isSo_61 (by decide) ?_
              exact t_iret dX8_isSo_62 (NR_i rfl _) h
            · replace h := h.2 c14
              refine s_iload_n dX8_isSo_52 rfl rfl ?_
              refine s_iconst (v := 0) dX8_isSo_53 (by decide) ?_
              refine s_iconst (v := 2) dX8_isSo_54 (by decide) ?_
              refine t_callS (M' := mX8_in) (k := 0) (As := [.int p2, .int 0, .int 2]) (rest := []) dX8_isSo_55 ml_X8_128 mstX8_in rfl (Nat.le_of_ble_eq_true rfl) (Nat.le_of_ble_eq_true rfl) rfl h (fun rv t15 q => ?_)
              obtain ⟨v16, rfl, h⟩ := q
              show Rt g (d + 1) mX8_isSo 58 [some (.ref 57), some (.int p0), some (.int p1), some (.int p2), none, none, none, none, none, none] [.int v16] t15 Q
              refine s_if_ne (tgt := 63) dX8_isSo_58 (by decide) (fun c17 => ?_) (fun c17 => ?_)
              · replace h := h.1 c17
                refine s_aload_n dX8_isSo_63 rfl rfl ?_
                refine t_getR (o' := 89) dX8_isSo_64 fl_X8_109 rfl (by decide) rfl rfl ?_
                refine s_iload_n dX8_isSo_67 rfl rfl ?_
                refine s_bipush (v := 10) dX8_isSo_68 (by decide) ?_
                refine s_idiv dX8_isSo_70 (by decide) ?_
                obtain ⟨g18, h⟩ := h
                refine t_iald dX8_isSo_71 rfl (by decide) g18 ?_
                refine s_iconst (v := (-1)) dX8_isSo_72 (by decide) ?_
                refine s_icmp_eq (tgt := 89) dX8_isSo_73 (by decide) (fun c19 => ?_) (fun c19 => ?_)
                · replace h := h.1 c19
                  refine s_bipush (v := (-11)) dX8_isSo_89 (by decide) ?_
                  exact t_iret dX8_isSo_91 (NR_i rfl _) h
                · replace h := h.2 c19
                  refine s_aload_n dX8_isSo_76 rfl rfl ?_
                  refine t_getR (o' := 89) dX8_isSo_77 fl_X8_109 rfl (by decide) rfl rfl ?_
                  refine s_iload_n dX8_isSo_80 rfl rfl ?_
                  refine s_bipush (v := 10) dX8_isSo_81 (by decide) ?_
                  refine s_irem dX8_isSo_83 (by decide) ?_
                  obtain ⟨g20, h⟩ := h
                  refine t_iald dX8_isSo_84 rfl (by decide) g20 ?_
                  refine s_iconst (v := (-1)) dX8_isSo_85 (by decide) ?_
                  refine s_icmp_ne (tgt := 92) dX8_isSo_86 (by decide) (fun c21 => ?_) (fun c21 => ?_)
                  · replace h := h.1 c21
                    refine s_aload_n dX8_isSo_92 rfl rfl ?_
                    refine s_iload_n dX8_isSo_93 rfl rfl ?_
                    refine s_bipush (v := 10) dX8_isSo_94 (by decide) ?_
                    refine s_idiv dX8_isSo_96 (by decide) ?_
                    refine t_callV (M' := mX8_rowFault) (k := 0) (As := [.int (p0 / 10)]) (rest := []) dX8_isSo_97 ml_X8_283 miX8_rowFault msX8_rowFault rfl (by decide) rfl rfl (Nat.le_of_ble_eq_true rfl) (Nat.le_of_ble_eq_true rfl) rfl h (fun rv t22 q => ?_)
                    obtain ⟨v23, rfl, h⟩ := q
                    show Rt g (d + 1) mX8_isSo 100 [some (.ref 57), some (.int p0), some (.int p1), some (.int p2), none, none, none, none, none, none] [.int v23] t22 Q
                    refine s_if_lt (tgt := 114) dX8_isSo_100 (by decide) (fun c24 => ?_) (fun c24 => ?_)
                    · replace h := h.1 c24
                      refine s_bipush (v := (-12)) dX8_isSo_114 (by decide) ?_
                      exact t_iret dX8_isSo_116 (NR_i rfl _) h
                    · replace h := h.2 c24
                      refine s_aload_n dX8_isSo_103 rfl rfl ?_
                      refine s_iload_n dX8_isSo_104 rfl rfl ?_
                      refine s_bipush (v := 10) dX8_isSo_105 (by decide) ?_
                      refine s_irem dX8_isSo_107 (by decide) ?_
                      refine t_callV (M' := mX8_rowFault) (k := 0) (As := [.int (jr p0 10)]) (rest := []) dX8_isSo_108 ml_X8_283 miX8_rowFault msX8_rowFault rfl (by decide) rfl rfl (Nat.le_of_ble_eq_true rfl) (Nat.le_of_ble_eq_true rfl) rfl h (fun rv t25 q => ?_)
                      obtain ⟨v26, rfl, h⟩ := q
                      show Rt g (d + 1) mX8_isSo 111 [some (.ref 57), some (.int p0), some (.int p1), some (.int p2), none, none, none, none, none, none] [.int v26] t25 Q
                      refine s_if_ge (tgt := 117) dX8_isSo_111 (by decide) (fun c27 => ?_) (fun c27 => ?_)
                      · replace h := h.1 c27
                        refine s_aload_n dX8_isSo_117 rfl rfl ?_
                        refine s_iload_n dX8_isSo_118 rfl rfl ?_
                        refine s_bipush (v := 10) dX8_isSo_119 (by decide) ?_
                        refine s_irem dX8_isSo_121 (by decide) ?_
                        refine t_callV (M' := mX8_isMirror) (k := 0) (As := [.int (jr p0 10)]) (rest := []) dX8_isSo_122 ml_X8_314 miX8_isMirror msX8_isMirror rfl (by decide) rfl rfl (Nat.le_of_ble_eq_true rfl) (Nat.le_of_ble_eq_true rfl) rfl h (fun rv t28 q => ?_)
                        obtain ⟨v29, rfl, h⟩ := q
                        show Rt g (d + 1) mX8_isSo 125 [some (.ref 57), some (.int p0), some (.int p1), some (.int p2), none, none, none, none, none, none] [.int v29] t28 Q
                        refine s_if_ne (tgt := 131) dX8_isSo_125 (by decide) (fun c30 => ?_) (fun c30 => ?_)
                        · replace h := h.1 c30
                          refine s_iload_n dX8_isSo_131 rfl rfl ?_
                          refine s_bipush (v := 10) dX8_isSo_132 (by decide) ?_
                          refine s_irem dX8_isSo_134 (by decide) ?_
                          refine t_nmI (fun z31 ez31 => ?_)
                          replace h := h z31 ez31
                          refine s_istore dX8_isSo_135 (by decide) rfl (L9 := [some (.ref 57), some (.int p0), some (.int p1), some (.int p2), some (.int z31), none, none, none, none, none]) rfl ?_
                          refine s_aload_n dX8_isSo_137 rfl rfl ?_
                          refine s_iload_n dX8_isSo_138 rfl rfl ?_
                          refine s_bipush (v := 10) dX8_isSo_139 (by decide) ?_
                          refine s_idiv dX8_isSo_141 (by decide) ?_
                          refine t_callV (M' := mX8_layTrial) (k := 1) (As := [.int (p0 / 10)]) (rest := []) dX8_isSo_142 ml_X8_286 miX8_layTrial msX8_layTrial rfl (by decide) rfl rfl (Nat.le_of_ble_eq_true rfl) (Nat.le_of_ble_eq_true rfl) rfl h (fun rv t32 q => ?_)
                          obtain ⟨rfl, h⟩ := q
                          show Rt g (d + 1) mX8_isSo 145 [some (.ref 57), some (.int p0), some (.int p1), some (.int p2), some (.int z31), none, none, none, none, none] [] t32 Q
                          refine s_iconst (v := 0) dX8_isSo_145 (by decide) ?_
                          refine s_istore dX8_isSo_146 (by decide) rfl (L9 := [some (.ref 57), some (.int p0), some (.int p1), some (.int p2), some (.int z31), some (.int 0), none, none, none, none]) rfl ?_
                          exact h
                        · replace h := h.2 c30
                          refine s_bipush (v := (-2)) dX8_isSo_128 (by decide) ?_
                          exact t_iret dX8_isSo_130 (NR_i rfl _) h
                      · replace h := h.2 c27
                        refine s_bipush (v := (-12)) dX8_isSo_114 (by decide) ?_
                        exact t_iret dX8_isSo_116 (NR_i rfl _) h
                  · replace h := h.2 c21
                    refine s_bipush (v := (-11)) dX8_isSo_89 (by decide) ?_
                    exact t_iret dX8_isSo_91 (NR_i rfl _) h
              · replace h := h.2 c17
                refine s_iconst (v := (-1)) dX8_isSo_61 (by decide) ?_
                exact t_iret dX8_isSo_62 (NR_i rfl _) h
theorem bX8_isSo_148 {g : Gt} {d : Nat} {t : Tt} {Q : Option Value → Tt → Prop} {x1 : Int32} {x2 : Int32} {x3 : Int32} {x4 : Int32} {x5 : Int32} (h : (10 ≤ x5 → ∀ z2 : Int32, z2 = ((jsl 1 x4) - 1) → Rt g (d + 1) mX8_isSo 193 [some (.ref 57), some (.int x1), some (.int x2), some (.int x3), some (.int x4), some (.int 0), some (.int (-2)), some (.int z2), some (.int 0), none] [] t Q) ∧ (¬ 10 ≤ x5 → vp_in x5 10 ∧ (vp_in x5 10 ∧ Rt g (d + 1) mX8_isSo 148 [some (.ref 57), some (.int x1), some (.int x2), some (.int x3), some (.int x4), some (.int (x5 + 1)), none, none, none, none] [] (pI t 81 x5.toNatClampNeg (t.1 61 x5.toNatClampNeg)) Q))) : Rt g (d + 1) mX8_isSo 148 [some (.ref 57), some (.int x1), some (.int x2), some (.int x3), some (.int x4), some (.int x5), none, none, none, none] [] t Q := by
  refine s_iload dX8_isSo_148 rfl ?_
  refine s_bipush (v := 10) dX8_isSo_150 (by decide) ?_
  refine s_icmp_ge (tgt := 175) dX8_isSo_152 (by decide) (fun c1 => ?_) (fun c1 => ?_)
  · replace h := h.1 c1
    refine s_iconst (v := 0) dX8_isSo_175 (by decide) ?_
    refine s_istore dX8_isSo_176 (by decide) rfl (L9 := [some (.ref 57), some (.int x1), some (.int x2), some (.int x3), some (.int x4), some (.int 0), none, none, none, none]) rfl ?_
    refine s_bipush (v := (-2)) dX8_isSo_178 (by decide) ?_
    refine s_istore dX8_isSo_180 (by decide) rfl (L9 := [some (.ref 57), some (.int x1), some (.int x2), some (.int x3), some (.int x4), some (.int 0), some (.int (-2)), none, none, none]) rfl ?_
    refine s_iconst (v := 1) dX8_isSo_182 (by decide) ?_
    refine s_iload dX8_isSo_183 rfl ?_
    refine s_ishl dX8_isSo_185 ?_
    refine s_iconst (v := 1) dX8_isSo_186 (by decide) ?_
    refine s_isub dX8_isSo_187 ?_
    refine t_nmI (fun z2 ez2 => ?_)
    replace h := h z2 ez2
    refine s_istore dX8_isSo_188 (by decide) rfl (L9 := [some (.ref 57), some (.int x1), some (.int x2), some (.int x3), some (.int x4), some (.int 0), some (.int (-2)), some (.int z2), none, none]) rfl ?_
    refine s_iconst (v := 0) dX8_isSo_190 (by decide) ?_
    refine s_istore dX8_isSo_191 (by decide) rfl (L9 := [some (.ref 57), some (.int x1), some (.int x2), some (.int x3), some (.int x4), some (.int 0), some (.int (-2)), some (.int z2), some (.int 0), none]) rfl ?_
    exact h
  · replace h := h.2 c1
    refine s_aload_n dX8_isSo_155 rfl rfl ?_
    refine t_getR (o' := 81) dX8_isSo_156 fl_X8_85 rfl (by decide) rfl rfl ?_
    refine s_iload dX8_isSo_159 rfl ?_
    refine s_aload_n dX8_isSo_161 rfl rfl ?_
    refine t_getR (o' := 61) dX8_isSo_162 fl_X8_19 rfl (by decide) rfl rfl ?_
    refine s_iload dX8_isSo_165 rfl ?_
    obtain ⟨g3, h⟩ := h
    refine t_iald dX8_isSo_167 rfl (by decide) g3 ?_
    obtain ⟨g4, h⟩ := h
    refine t_iast dX8_isSo_168 rfl (by decide) g4 ?_
    refine s_iinc (w := x5 + 1) dX8_isSo_169 rfl (by rfl) (by decide) rfl (L9 := [some (.ref 57), some (.int x1), some (.int x2), some (.int x3), some (.int x4), some (.int (x5 + 1)), none, none, none, none]) rfl ?_
    refine s_goto (tgt := 148) dX8_isSo_172 (by decide) ?_
    exact h
theorem bX8_isSo_193 {g : Gt} {d : Nat} {t : Tt} {Q : Option Value → Tt → Prop} {x1 : Int32} {x2 : Int32} {x3 : Int32} {x4 : Int32} {x5 : Int32} {x6 : Int32} {x7 : Int32} {x8 : Int32} (h : ((jsl 1 x4) ≤ x8 → Rt g (d + 1) mX8_isSo 283 [some (.ref 57), none, none, some (.int x3), none, some (.int x5), some (.int x6), some (.int x7), some (.int 0), none] [] t Q) ∧ (¬ (jsl 1 x4) ≤ x8 → Rt g (d + 1) mX8_isSo 205 [some (.ref 57), some (.int x1), some (.int x2), some (.int x3), some (.int x4), some (.int x5), some (.int x6), some (.int x7), some (.int x8), some (.int 0)] [] t Q)) : Rt g (d + 1) mX8_isSo 193 [some (.ref 57), some (.int x1), some (.int x2), some (.int x3), some (.int x4), some (.int x5), some (.int x6), some (.int x7), some (.int x8), none] [] t Q := by
  refine s_iload dX8_isSo_193 rfl ?_
  refine s_iconst (v := 1) dX8_isSo_195 (by decide) ?_
  refine s_iload dX8_isSo_196 rfl ?_
  refine s_ishl dX8_isSo_198 ?_
  refine s_icmp_ge (tgt := 280) dX8_isSo_199 (by decide) (fun c1 => ?_) (fun c1 => ?_)
  · replace h := h.1 c1
    refine s_iconst (v := 0) dX8_isSo_280 (by decide) ?_
    refine s_istore dX8_isSo_281 (by decide) rfl (L9 := [some (.ref 57), some (.int x1), some (.int x2), some (.int x3), some (.int x4), some (.int x5), some (.int x6), some (.int x7), some (.int 0), none]) rfl ?_
    exact Rt.lc h (lc_some (lc_none (lc_none (lc_some (lc_none (lc_some (lc_some (lc_some (lc_some (lc_none lc_nil))))))))))
  · replace h := h.2 c1
    refine s_iconst (v := 0) dX8_isSo_202 (by decide) ?_
    refine s_istore dX8_isSo_203 (by decide) rfl (L9 := [some (.ref 57), some (.int x1), some (.int x2), some (.int x3), some (.int x4), some (.int x5), some (.int x6), some (.int x7), some (.int x8), some (.int 0)]) rfl ?_
    exact h
theorem bX8_isSo_283 {g : Gt} {d : Nat} {t : Tt} {Q : Option Value → Tt → Prop} {x3 : Int32} {x5 : Int32} {x6 : Int32} {x7 : Int32} {x8 : Int32} (h : (10 ≤ x8 → (¬ x3 = 0 → (x3 = 1 → Rt g (d + 1) mX8_isSo 329 [none, none, none, none, none, none, some (.int x6), none, none, none] [] t Q) ∧ (¬ x3 = 1 → (¬ x5 = 0 → Q (some (.int x7)) t) ∧ (x5 = 0 → Rt g (d + 1) mX8_isSo 329 [none, none, none, none, none, none, some (.int x6), none, none, none] [] t Q))) ∧ (x3 = 0 → Q (some (.int x5)) t)) ∧ (¬ 10 ≤ x8 → vp_in x8 10 ∧ (vp_in x8 10 ∧ Rt g (d + 1) mX8_isSo 283 [some (.ref 57), none, none, some (.int x3), none, some (.int x5), some (.int x6), some (.int x7), some (.int (x8 + 1)), none] [] (pI t 61 x8.toNatClampNeg (t.1 81 x8.toNatClampNeg)) Q))) : Rt g (d + 1) mX8_isSo 283 [some (.ref 57), none, none, some (.int x3), none, some (.int x5), some (.int x6), some (.int x7), some (.int x8), none] [] t Q := by
  refine s_iload dX8_isSo_283 rfl ?_
  refine s_bipush (v := 10) dX8_isSo_285 (by decide) ?_
  refine s_icmp_ge (tgt := 310) dX8_isSo_287 (by decide) (fun c1 => ?_) (fun c1 => ?_)
  · replace h := h.1 c1
    refine s_iload_n dX8_isSo_310 rfl rfl ?_
    refine s_if_ne (tgt := 319) dX8_isSo_311 (by decide) (fun c2 => ?_) (fun c2 => ?_)
    · replace h := h.1 c2
      refine s_iload_n dX8_isSo_319 rfl rfl ?_
      refine s_iconst (v := 1) dX8_isSo_320 (by decide) ?_
      refine s_icmp_eq (tgt := 329) dX8_isSo_321 (by decide) (fun c3 => ?_) (fun c3 => ?_)
      · replace h := h.1 c3
        exact Rt.lc h (lc_none (lc_none (lc_none (lc_none (lc_none (lc_none (lc_some (lc_none (lc_none (lc_none lc_nil))))))))))
      · replace h := h.2 c3
        refine s_iload dX8_isSo_324 rfl ?_
        refine s_if_ne (tgt := 334) dX8_isSo_326 (by decide) (fun c4 => ?_) (fun c4 => ?_)
        · replace h := h.1 c4
          refine s_iload dX8_isSo_334 rfl ?_
          exact t_iret dX8_isSo_336 (NR_i rfl _) h
        · replace h := h.2 c4
          exact Rt.lc h (lc_none (lc_none (lc_none (lc_none (lc_none (lc_none (lc_some (lc_none (lc_none (lc_none lc_nil))))))))))
    · replace h := h.2 c2
      refine s_iload dX8_isSo_314 rfl ?_
      refine s_goto (tgt := 336) dX8_isSo_316 (by decide) ?_
      exact t_iret dX8_isSo_336 (NR_i rfl _) h
  · replace h := h.2 c1
    refine s_aload_n dX8_isSo_290 rfl rfl ?_
    refine t_getR (o' := 61) dX8_isSo_291 fl_X8_19 rfl (by decide) rfl rfl ?_
    refine s_iload dX8_isSo_294 rfl ?_
    refine s_aload_n dX8_isSo_296 rfl rfl ?_
    refine t_getR (o' := 81) dX8_isSo_297 fl_X8_85 rfl (by decide) rfl rfl ?_
    refine s_iload dX8_isSo_300 rfl ?_
    obtain ⟨g5, h⟩ := h
    refine t_iald dX8_isSo_302 rfl (by decide) g5 ?_
    obtain ⟨g6, h⟩ := h
    refine t_iast dX8_isSo_303 rfl (by decide) g6 ?_
    refine s_iinc (w := x8 + 1) dX8_isSo_304 rfl (by rfl) (by decide) rfl (L9 := [some (.ref 57), none, none, some (.int x3), none, some (.int x5), some (.int x6), some (.int x7), some (.int (x8 + 1)), none]) rfl ?_
    refine s_goto (tgt := 283) dX8_isSo_307 (by decide) ?_
    exact h
theorem bX8_isSo_205 {g : Gt} {d : Nat} {t : Tt} {Q : Option Value → Tt → Prop} {x1 : Int32} {x2 : Int32} {x3 : Int32} {x4 : Int32} {x5 : Int32} {x6 : Int32} {x7 : Int32} {x8 : Int32} {x9 : Int32} (h : (x4 ≤ x9 → Rt g d mX8_goTrial 0 [some (.ref 57), some (.int 0), none, none, none] [] t (QV (fun t2 => Rt g d mX8_isSeen 0 [some (.ref 57), some (.int (jr x1 10)), some (.int (x2 / 10)), none] [] t2 (QI (fun v4 t3 => (¬ v4 = 0 → (¬ x5 = 0 → Rt g (d + 1) mX8_isSo 264 [some (.ref 57), some (.int x1), some (.int x2), some (.int x3), some (.int x4), some (.int x5), some (.int x6), some (.int x7), some (.int x8), none] [] t3 Q) ∧ (x5 = 0 → Rt g (d + 1) mX8_isSo 264 [some (.ref 57), some (.int x1), some (.int x2), some (.int x3), some (.int x4), some (.int x5), some (.int x8), some (.int x7), some (.int x8), none] [] t3 Q)) ∧ (v4 = 0 → Rt g (d + 1) mX8_isSo 274 [some (.ref 57), some (.int x1), some (.int x2), some (.int x3), some (.int x4), some (.int x5), some (.int x6), some (.int x7), some (.int x8), none] [] t3 Q)))))) ∧ (¬ x4 ≤ x9 → vp_in x9 10 ∧ Rt g (d + 1) mX8_isSo 205 [some (.ref 57), some (.int x1), some (.int x2), some (.int x3), some (.int x4), some (.int x5), some (.int x6), some (.int x7), some (.int x8), some (.int (x9 + 1))] [] (pI t 61 x9.toNatClampNeg ((jsr x8 x9) &&& 1)) Q)) : Rt g (d + 1) mX8_isSo 205 [some (.ref 57), some (.int x1), some (.int x2), some (.int x3), some (.int x4), some (.int x5), some (.int x6), some (.int x7), some (.int x8), some (.int x9)] [] t Q := by
  refine s_iload dX8_isSo_205 rfl ?_
  refine s_iload dX8_isSo_207 rfl ?_
  refine s_icmp_ge (tgt := 232) dX8_isSo_209 (by decide) (fun c1 => ?_) (fun c1 => ?_)
  · replace h := h.1 c1
    refine s_aload_n dX8_isSo_232 rfl rfl ?_
    refine s_iconst (v := 0) dX8_isSo_233 (by decide) ?_
    refine t_callV (M' := mX8_goTrial) (k := 3) (As := [.int 0]) (rest := []) dX8_isSo_234 ml_X8_290 miX8_goTrial msX8_goTrial rfl (by decide) rfl rfl (Nat.le_of_ble_eq_true rfl) (Nat.le_of_ble_eq_true rfl) rfl h (fun rv t2 q => ?_)
    obtain ⟨rfl, h⟩ := q
    show Rt g (d + 1) mX8_isSo 237 [some (.ref 57), some (.int x1), some (.int x2), some (.int x3), some (.int x4), some (.int x5), some (.int x6), some (.int x7), some (.int x8), some (.int x9)] [] t2 Q
    refine s_aload_n dX8_isSo_237 rfl rfl ?_
    refine s_iload_n dX8_isSo_238 rfl rfl ?_
    refine s_bipush (v := 10) dX8_isSo_239 (by decide) ?_
    refine s_irem dX8_isSo_241 (by decide) ?_
    refine s_iload_n dX8_isSo_242 rfl rfl ?_
    refine s_bipush (v := 10) dX8_isSo_243 (by decide) ?_
    refine s_idiv dX8_isSo_245 (by decide) ?_
    refine t_callV (M' := mX8_isSeen) (k := 1) (As := [.int (jr x1 10), .int (x2 / 10)]) (rest := []) dX8_isSo_246 ml_X8_317 miX8_isSeen msX8_isSeen rfl (by decide) rfl rfl (Nat.le_of_ble_eq_true rfl) (Nat.le_of_ble_eq_true rfl) rfl h (fun rv t3 q => ?_)
    obtain ⟨v4, rfl, h⟩ := q
    show Rt g (d + 1) mX8_isSo 249 [some (.ref 57), some (.int x1), some (.int x2), some (.int x3), some (.int x4), some (.int x5), some (.int x6), some (.int x7), some (.int x8), some (.int x9)] [.int v4] t3 Q
    refine s_if_ne (tgt := 255) dX8_isSo_249 (by decide) (fun c5 => ?_) (fun c5 => ?_)
    · replace h := h.1 c5
      refine s_iload dX8_isSo_255 rfl ?_
      refine s_if_ne (tgt := 264) dX8_isSo_257 (by decide) (fun c6 => ?_) (fun c6 => ?_)
      · replace h := h.1 c6
        exact Rt.lc h (lc_some (lc_some (lc_some (lc_some (lc_some (lc_some (lc_some (lc_some (lc_some (lc_none lc_nil))))))))))
      · replace h := h.2 c6
        refine s_iload dX8_isSo_260 rfl ?_
        refine s_istore dX8_isSo_262 (by decide) rfl (L9 := [some (.ref 57), some (.int x1), some (.int x2), some (.int x3), some (.int x4), some (.int x5), some (.int x8), some (.int x7), some (.int x8), some (.int x9)]) rfl ?_
        exact Rt.lc h (lc_some (lc_some (lc_some (lc_some (lc_some (lc_some (lc_some (lc_some (lc_some (lc_none lc_nil))))))))))
    · replace h := h.2 c5
      refine s_goto (tgt := 274) dX8_isSo_252 (by decide) ?_
      exact Rt.lc h (lc_some (lc_some (lc_some (lc_some (lc_some (lc_some (lc_some (lc_some (lc_some (lc_none lc_nil))))))))))
  · replace h := h.2 c1
    refine s_aload_n dX8_isSo_212 rfl rfl ?_
    refine t_getR (o' := 61) dX8_isSo_213 fl_X8_19 rfl (by decide) rfl rfl ?_
    refine s_iload dX8_isSo_216 rfl ?_
    refine s_iload dX8_isSo_218 rfl ?_
    refine s_iload dX8_isSo_220 rfl ?_
    refine s_ishr dX8_isSo_222 ?_
    refine s_iconst (v := 1) dX8_isSo_223 (by decide) ?_
    refine s_iand dX8_isSo_224 ?_
    obtain ⟨g7, h⟩ := h
    refine t_iast dX8_isSo_225 rfl (by decide) g7 ?_
    refine s_iinc (w := x9 + 1) dX8_isSo_226 rfl (by rfl) (by decide) rfl (L9 := [some (.ref 57), some (.int x1), some (.int x2), some (.int x3), some (.int x4), some (.int x5), some (.int x6), some (.int x7), some (.int x8), some (.int (x9 + 1))]) rfl ?_
    refine s_goto (tgt := 205) dX8_isSo_229 (by decide) ?_
    exact h
theorem bX8_isSo_329 {g : Gt} {d : Nat} {t : Tt} {Q : Option Value → Tt → Prop} {x6 : Int32} (h : Q (some (.int x6)) t) : Rt g (d + 1) mX8_isSo 329 [none, none, none, none, none, none, some (.int x6), none, none, none] [] t Q := by
  refine s_iload dX8_isSo_329 rfl ?_
  refine s_goto (tgt := 336) dX8_isSo_331 (by decide) ?_
  exact t_iret dX8_isSo_336 (NR_i rfl _) h
theorem bX8_isSo_264 {g : Gt} {d : Nat} {t : Tt} {Q : Option Value → Tt → Prop} {x1 : Int32} {x2 : Int32} {x3 : Int32} {x4 : Int32} {x5 : Int32} {x6 : Int32} {x7 : Int32} {x8 : Int32} (h : ∀ z1 : Int32, z1 = (x7 &&& x8) → Rt g (d + 1) mX8_isSo 274 [some (.ref 57), some (.int x1), some (.int x2), some (.int x3), some (.int x4), some (.int (x5 + 1)), some (.int x6), some (.int z1), some (.int x8), none] [] t Q) : Rt g (d + 1) mX8_isSo 264 [some (.ref 57), some (.int x1), some (.int x2), some (.int x3), some (.int x4), some (.int x5), some (.int x6), some (.int x7), some (.int x8), none] [] t Q := by
  refine s_iinc (w := x5 + 1) dX8_isSo_264 rfl (by rfl) (by decide) rfl (L9 := [some (.ref 57), some (.int x1), some (.int x2), some (.int x3), some (.int x4), some (.int (x5 + 1)), some (.int x6), some (.int x7), some (.int x8), none]) rfl ?_
  refine s_iload dX8_isSo_267 rfl ?_
  refine s_iload dX8_isSo_269 rfl ?_
  refine s_iand dX8_isSo_271 ?_
  refine t_nmI (fun z1 ez1 => ?_)
  replace h := h z1 ez1
  refine s_istore dX8_isSo_272 (by decide) rfl (L9 := [some (.ref 57), some (.int x1), some (.int x2), some (.int x3), some (.int x4), some (.int (x5 + 1)), some (.int x6), some (.int z1), some (.int x8), none]) rfl ?_
  exact h
theorem bX8_isSo_274 {g : Gt} {d : Nat} {t : Tt} {Q : Option Value → Tt → Prop} {x1 : Int32} {x2 : Int32} {x3 : Int32} {x4 : Int32} {x5 : Int32} {x6 : Int32} {x7 : Int32} {x8 : Int32} (h : Rt g (d + 1) mX8_isSo 193 [some (.ref 57), some (.int x1), some (.int x2), some (.int x3), some (.int x4), some (.int x5), some (.int x6), some (.int x7), some (.int (x8 + 1)), none] [] t Q) : Rt g (d + 1) mX8_isSo 274 [some (.ref 57), some (.int x1), some (.int x2), some (.int x3), some (.int x4), some (.int x5), some (.int x6), some (.int x7), some (.int x8), none] [] t Q := by
  refine s_iinc (w := x8 + 1) dX8_isSo_274 rfl (by rfl) (by decide) rfl (L9 := [some (.ref 57), some (.int x1), some (.int x2), some (.int x3), some (.int x4), some (.int x5), some (.int x6), some (.int x7), some (.int (x8 + 1)), none]) rfl ?_
  refine s_goto (tgt := 193) dX8_isSo_277 (by decide) ?_
  exact h
theorem bX8_drawn_0 {g : Gt} {d : Nat} {t : Tt} {Q : Option Value → Tt → Prop} {p0 : Int32} {p1 : Int32} {p2 : Int32} (h : (p1 < 0 → Q (some (.int (-1))) t) ∧ (¬ p1 < 0 → Rt g d mX8_in 0 [some (.int (p1 / 100)), some (.int 1), some (.int 30)] [] t (QI (fun v3 t2 => (v3 = 0 → Q (some (.int (-1))) t2) ∧ (¬ v3 = 0 → Rt g d mX8_in 0 [some (.int (jr p1 100)), some (.int 1), some (.int 60)] [] t2 (QI (fun v6 t5 => (v6 = 0 → Q (some (.int (-1))) t5) ∧ (¬ v6 = 0 → Rt g d mX8_in 0 [some (.int p2), some (.int 0), some (.int 1)] [] t5 (QI (fun v9 t8 => (¬ v9 = 0 → Rt g (d + 1) mX8_drawn 53 [some (.ref 57), none, some (.int p1), some (.int p2), some (.int p0), some (.int 0), some (.int 0), some (.int 0), none, none, none] [] t8 Q) ∧ (v9 = 0 → Q (some (.int (-1))) t8))))))))))) : Rt g (d + 1) mX8_drawn 0 [some (.ref 57), some (.int p0), some (.int p1), some (.int p2), none, none, none, none, none, none, none] [] t Q := by
  refine s_iload_n dX8_drawn_0 rfl rfl ?_
  refine s_if_lt (tgt := 39) dX8_drawn_1 (by decide) (fun c1 => ?_) (fun c1 => ?_)
  · replace h := h.1 c1
    refine s_iconst (v := (-1)) dX8_drawn_39 (by decide) ?_
    exact t_iret dX8_drawn_40 (NR_i rfl _) h
  · replace h := h.2 c1
    refine s_iload_n dX8_drawn_4 rfl rfl ?_
    refine s_bipush (v := 100) dX8_drawn_5 (by decide) ?_
    refine s_idiv dX8_drawn_7 (by decide) ?_
    refine s_iconst (v := 1) dX8_drawn_8 (by decide) ?_
    refine s_bipush (v := 30) dX8_drawn_9 (by decide) ?_
    refine t_callS (M' := mX8_in) (k := 0) (As := [.int (p1 / 100), .int 1, .int 30]) (rest := []) dX8_drawn_11 ml_X8_128 mstX8_in rfl (Nat.le_of_ble_eq_true rfl) (Nat.le_of_ble_eq_true rfl) rfl h (fun rv t2 q => ?_)
    obtain ⟨v3, rfl, h⟩ := q
    show Rt g (d + 1) mX8_drawn 14 [some (.ref 57), some (.int p0), some (.int p1), some (.int p2), none, none, none, none, none, none, none] [.int v3] t2 Q
    refine s_if_eq (tgt := 39) dX8_drawn_14 (by decide) (fun c4 => ?_) (fun c4 => ?_)
    · replace h := h.1 c4
      refine s_iconst (v := (-1)) dX8_drawn_39 (by decide) ?_
      exact t_iret dX8_drawn_40 (NR_i rfl _) h
    · replace h := h.2 c4
      refine s_iload_n dX8_drawn_17 rfl rfl ?_
      refine s_bipush (v := 100) dX8_drawn_18 (by decide) ?_
      refine s_irem dX8_drawn_20 (by decide) ?_
      refine s_iconst (v := 1) dX8_drawn_21 (by decide) ?_
      refine s_bipush (v := 60) dX8_drawn_22 (by decide) ?_
      refine t_callS (M' := mX8_in) (k := 0) (As := [.int (jr p1 100), .int 1, .int 60]) (rest := []) dX8_drawn_24 ml_X8_128 mstX8_in rfl (Nat.le_of_ble_eq_true rfl) (Nat.le_of_ble_eq_true rfl) rfl h (fun rv t5 q => ?_)
      obtain ⟨v6, rfl, h⟩ := q
      show Rt g (d + 1) mX8_drawn 27 [some (.ref 57), some (.int p0), some (.int p1), some (.int p2), none, none, none, none, none, none, none] [.int v6] t5 Q
      refine s_if_eq (tgt := 39) dX8_drawn_27 (by decide) (fun c7 => ?_) (fun c7 => ?_)
      · replace h := h.1 c7
        refine s_iconst (v := (-1)) dX8_drawn_39 (by decide) ?_
        exact t_iret dX8_drawn_40 (NR_i rfl _) h
      · replace h := h.2 c7
        refine s_iload_n dX8_drawn_30 rfl rfl ?_
        refine s_iconst (v := 0) dX8_drawn_31 (by decide) ?_
        refine s_iconst (v := 1) dX8_drawn_32 (by decide) ?_
        refine t_callS (M' := mX8_in) (k := 0) (As := [.int p2, .int 0, .int 1]) (rest := []) dX8_drawn_33 ml_X8_128 mstX8_in rfl (Nat.le_of_ble_eq_true rfl) (Nat.le_of_ble_eq_true rfl) rfl h (fun rv t8 q => ?_)
        obtain ⟨v9, rfl, h⟩ := q
        show Rt g (d + 1) mX8_drawn 36 [some (.ref 57), some (.int p0), some (.int p1), some (.int p2), none, none, none, none, none, none, none] [.int v9] t8 Q
        refine s_if_ne (tgt := 41) dX8_drawn_36 (by decide) (fun c10 => ?_) (fun c10 => ?_)
        · replace h := h.1 c10
          refine s_iload_n dX8_drawn_41 rfl rfl ?_
          refine s_istore dX8_drawn_42 (by decide) rfl (L9 := [some (.ref 57), some (.int p0), some (.int p1), some (.int p2), some (.int p0), none, none, none, none, none, none]) rfl ?_
          refine s_iconst (v := 0) dX8_drawn_44 (by decide) ?_
          refine s_istore dX8_drawn_45 (by decide) rfl (L9 := [some (.ref 57), some (.int p0), some (.int p1), some (.int p2), some (.int p0), some (.int 0), none, none, none, none, none]) rfl ?_
          refine s_iconst (v := 0) dX8_drawn_47 (by decide) ?_
          refine s_istore dX8_drawn_48 (by decide) rfl (L9 := [some (.ref 57), some (.int p0), some (.int p1), some (.int p2), some (.int p0), some (.int 0), some (.int 0), none, none, none, none]) rfl ?_
          refine s_iconst (v := 0) dX8_drawn_50 (by decide) ?_
          refine s_istore dX8_drawn_51 (by decide) rfl (L9 := [some (.ref 57), some (.int p0), some (.int p1), some (.int p2), some (.int p0), some (.int 0), some (.int 0), some (.int 0), none, none, none]) rfl ?_
          exact Rt.lc h (lc_some (lc_none (lc_some (lc_some (lc_some (lc_some (lc_some (lc_some (lc_none (lc_none (lc_none lc_nil)))))))))))
        · replace h := h.2 c10
          refine s_iconst (v := (-1)) dX8_drawn_39 (by decide) ?_
          exact t_iret dX8_drawn_40 (NR_i rfl _) h
theorem bX8_drawn_53 {g : Gt} {d : Nat} {t : Tt} {Q : Option Value → Tt → Prop} {x2 : Int32} {x3 : Int32} {x4 : Int32} {x5 : Int32} {x6 : Int32} {x7 : Int32} (h : ((x2 / 100) ≤ x7 → (¬ x3 = 0 → Q (some (.int x6)) t) ∧ (x3 = 0 → Q (some (.int x5)) t)) ∧ (¬ (x2 / 100) ≤ x7 → Rt g d mX8_beginMouths 0 [some (.ref 57), none] [] t (QV (fun t3 => Rt g (d + 1) mX8_drawn 69 [some (.ref 57), none, some (.int x2), some (.int x3), some (.int x4), some (.int x5), some (.int x6), some (.int x7), some (.int 0), none, none] [] t3 Q)))) : Rt g (d + 1) mX8_drawn 53 [some (.ref 57), none, some (.int x2), some (.int x3), some (.int x4), some (.int x5), some (.int x6), some (.int x7), none, none, none] [] t Q := by
  refine s_iload dX8_drawn_53 rfl ?_
  refine s_iload_n dX8_drawn_55 rfl rfl ?_
  refine s_bipush (v := 100) dX8_drawn_56 (by decide) ?_
  refine s_idiv dX8_drawn_58 (by decide) ?_
  refine s_icmp_ge (tgt := 198) dX8_drawn_59 (by decide) (fun c1 => ?_) (fun c1 => ?_)
  · replace h := h.1 c1
    refine s_iload_n dX8_drawn_198 rfl rfl ?_
    refine s_if_ne (tgt := 207) dX8_drawn_199 (by decide) (fun c2 => ?_) (fun c2 => ?_)
    · replace h := h.1 c2
      refine s_iload dX8_drawn_207 rfl ?_
      exact t_iret dX8_drawn_209 (NR_i rfl _) h
    · replace h := h.2 c2
      refine s_iload dX8_drawn_202 rfl ?_
      refine s_goto (tgt := 209) dX8_drawn_204 (by decide) ?_
      exact t_iret dX8_drawn_209 (NR_i rfl _) h
  · replace h := h.2 c1
    refine s_aload_n dX8_drawn_62 rfl rfl ?_
    refine t_callV (M' := mX8_beginMouths) (k := 1) (As := []) (rest := []) dX8_drawn_63 ml_X8_172 miX8_beginMouths msX8_beginMouths rfl (by decide) rfl rfl (Nat.le_of_ble_eq_true rfl) (Nat.le_of_ble_eq_true rfl) rfl h (fun rv t3 q => ?_)
    obtain ⟨rfl, h⟩ := q
    show Rt g (d + 1) mX8_drawn 66 [some (.ref 57), none, some (.int x2), some (.int x3), some (.int x4), some (.int x5), some (.int x6), some (.int x7), none, none, none] [] t3 Q
    refine s_iconst (v := 0) dX8_drawn_66 (by decide) ?_
    refine s_istore dX8_drawn_67 (by decide) rfl (L9 := [some (.ref 57), none, some (.int x2), some (.int x3), some (.int x4), some (.int x5), some (.int x6), some (.int x7), some (.int 0), none, none]) rfl ?_
    exact h
theorem bX8_drawn_69 {g : Gt} {d : Nat} {t : Tt} {Q : Option Value → Tt → Prop} {x2 : Int32} {x3 : Int32} {x4 : Int32} {x5 : Int32} {x6 : Int32} {x7 : Int32} {x8 : Int32} (h : ((jr x2 100) ≤ x8 → Rt g (d + 1) mX8_drawn 163 [some (.ref 57), none, some (.int x2), some (.int x3), some (.int x4), some (.int x5), some (.int x6), some (.int x7), none, none, none] [] t Q) ∧ (¬ (jr x2 100) ≤ x8 → ((t.1 57 1) ≤ 0 → Rt g (d + 1) mX8_drawn 163 [some (.ref 57), none, some (.int x2), some (.int x3), some (.int x4), some (.int x5), some (.int x6), some (.int x7), none, none, none] [] t Q) ∧ (¬ (t.1 57 1) ≤ 0 → ∀ z3 : Int32, z3 = ((x4 * 1103515245) + 12345) → ∀ z4 : Int32, z4 = (jr (jus z3 12) 10) → ∀ z5 : Int32, z5 = (jr (jus z3 18) 2) → vp_in z4 10 ∧ ((z5 = (t.1 61 z4.toNatClampNeg) → Rt g (d + 1) mX8_drawn 131 [some (.ref 57), none, some (.int x2), some (.int x3), some (.int z3), some (.int x5), some (.int x6), some (.int x7), some (.int x8), some (.int z4), some (.int z5)] [] t Q) ∧ (¬ z5 = (t.1 61 z4.toNatClampNeg) → Rt g (d + 1) mX8_drawn 131 [some (.ref 57), none, some (.int x2), some (.int x3), some (.int z3), some (.int (x5 + 1)), some (.int x6), some (.int x7), some (.int x8), some (.int z4), some (.int z5)] [] t Q))))) : Rt g (d + 1) mX8_drawn 69 [some (.ref 57), none, some (.int x2), some (.int x3), some (.int x4), some (.int x5), some (.int x6), some (.int x7), some (.int x8), none, none] [] t Q := by
  refine s_iload dX8_drawn_69 rfl ?_
  refine s_iload_n dX8_drawn_71 rfl rfl ?_
  refine s_bipush (v := 100) dX8_drawn_72 (by decide) ?_
  refine s_irem dX8_drawn_74 (by decide) ?_
  refine s_icmp_ge (tgt := 163) dX8_drawn_75 (by decide) (fun c1 => ?_) (fun c1 => ?_)
  · replace h := h.1 c1
    exact Rt.lc h (lc_some (lc_none (lc_some (lc_some (lc_some (lc_some (lc_some (lc_some (lc_none (lc_none (lc_none lc_nil)))))))))))
  · replace h := h.2 c1
    refine s_aload_n dX8_drawn_78 rfl rfl ?_
    refine t_getI dX8_drawn_79 fl_X8_125 rfl (by decide) rfl ?_
    refine s_if_le (tgt := 163) dX8_drawn_82 (by decide) (fun c2 => ?_) (fun c2 => ?_)
    · replace h := h.1 c2
      exact Rt.lc h (lc_some (lc_none (lc_some (lc_some (lc_some (lc_some (lc_some (lc_some (lc_none (lc_none (lc_none lc_nil)))))))))))
    · replace h := h.2 c2
      refine s_iload dX8_drawn_85 rfl ?_
      refine s_ldcw (v := 1103515245) dX8_drawn_87 ct_X8_320 ?_
      refine s_imul dX8_drawn_90 ?_
      refine s_sipush (v := 12345) dX8_drawn_91 (by decide) ?_
      refine s_iadd dX8_drawn_94 ?_
      refine t_nmI (fun z3 ez3 => ?_)
      replace h := h z3 ez3
      refine s_istore dX8_drawn_95 (by decide) rfl (L9 := [some (.ref 57), none, some (.int x2), some (.int x3), some (.int z3), some (.int x5), some (.int x6), some (.int x7), some (.int x8), none, none]) rfl ?_
      refine s_iload dX8_drawn_97 rfl ?_
      refine s_bipush (v := 12) dX8_drawn_99 (by decide) ?_
      refine s_iushr dX8_drawn_101 ?_
      refine s_bipush (v := 10) dX8_drawn_102 (by decide) ?_
      refine s_irem dX8_drawn_104 (by decide) ?_
      refine t_nmI (fun z4 ez4 => ?_)
      replace h := h z4 ez4
      refine s_istore dX8_drawn_105 (by decide) rfl (L9 := [some (.ref 57), none, some (.int x2), some (.int x3), some (.int z3), some (.int x5), some (.int x6), some (.int x7), some (.int x8), some (.int z4), none]) rfl ?_
      refine s_iload dX8_drawn_107 rfl ?_
      refine s_bipush (v := 18) dX8_drawn_109 (by decide) ?_
      refine s_iushr dX8_drawn_111 ?_
      refine s_iconst (v := 2) dX8_drawn_112 (by decide) ?_
      refine s_irem dX8_drawn_113 (by decide) ?_
      refine t_nmI (fun z5 ez5 => ?_)
      replace h := h z5 ez5
      refine s_istore dX8_drawn_114 (by decide) rfl (L9 := [some (.ref 57), none, some (.int x2), some (.int x3), some (.int z3), some (.int x5), some (.int x6), some (.int x7), some (.int x8), some (.int z4), some (.int z5)]) rfl ?_
      refine s_iload dX8_drawn_116 rfl ?_
      refine s_aload_n dX8_drawn_118 rfl rfl ?_
      refine t_getR (o' := 61) dX8_drawn_119 fl_X8_19 rfl (by decide) rfl rfl ?_
      refine s_iload dX8_drawn_122 rfl ?_
      obtain ⟨g6, h⟩ := h
      refine t_iald dX8_drawn_124 rfl (by decide) g6 ?_
      refine s_icmp_eq (tgt := 131) dX8_drawn_125 (by decide) (fun c7 => ?_) (fun c7 => ?_)
      · replace h := h.1 c7
        exact h
      · replace h := h.2 c7
        refine s_iinc (w := x5 + 1) dX8_drawn_128 rfl (by rfl) (by decide) rfl (L9 := [some (.ref 57), none, some (.int x2), some (.int x3), some (.int z3), some (.int (x5 + 1)), some (.int x6), some (.int x7), some (.int x8), some (.int z4), some (.int z5)]) rfl ?_
        exact h
theorem bX8_drawn_163 {g : Gt} {d : Nat} {t : Tt} {Q : Option Value → Tt → Prop} {x2 : Int32} {x3 : Int32} {x4 : Int32} {x5 : Int32} {x6 : Int32} {x7 : Int32} (h : Rt g (d + 1) mX8_drawn 166 [some (.ref 57), none, some (.int x2), some (.int x3), some (.int x4), some (.int x5), some (.int x6), some (.int x7), some (.int 0), none, none] [] t Q) : Rt g (d + 1) mX8_drawn 163 [some (.ref 57), none, some (.int x2), some (.int x3), some (.int x4), some (.int x5), some (.int x6), some (.int x7), none, none, none] [] t Q := by
  refine s_iconst (v := 0) dX8_drawn_163 (by decide) ?_
  refine s_istore dX8_drawn_164 (by decide) rfl (L9 := [some (.ref 57), none, some (.int x2), some (.int x3), some (.int x4), some (.int x5), some (.int x6), some (.int x7), some (.int 0), none, none]) rfl ?_
  exact h
theorem bX8_drawn_131 {g : Gt} {d : Nat} {t : Tt} {Q : Option Value → Tt → Prop} {x2 : Int32} {x3 : Int32} {x4 : Int32} {x5 : Int32} {x6 : Int32} {x7 : Int32} {x8 : Int32} {x9 : Int32} {x10 : Int32} (h : ¬ (t.1 57 1) = 0 ∧ Rt g d mX8_sayOf 0 [some (.ref 57), some (.int (jr (jus x4 4) (t.1 57 1))), some (.int x9), some (.int x10), some (.int (jr (jus x4 22) 10))] [] t (QI (fun v3 t2 => Rt g (d + 1) mX8_drawn 69 [some (.ref 57), none, some (.int x2), some (.int x3), some (.int x4), some (.int x5), some (.int x6), some (.int x7), some (.int (x8 + 1)), none, none] [] t2 Q))) : Rt g (d + 1) mX8_drawn 131 [some (.ref 57), none, some (.int x2), some (.int x3), some (.int x4), some (.int x5), some (.int x6), some (.int x7), some (.int x8), some (.int x9), some (.int x10)] [] t Q := by
  refine s_aload_n dX8_drawn_131 rfl rfl ?_
  refine s_iload dX8_drawn_132 rfl ?_
  refine s_iconst (v := 4) dX8_drawn_134 (by decide) ?_
  refine s_iushr dX8_drawn_135 ?_
  refine s_aload_n dX8_drawn_136 rfl rfl ?_
  refine t_getI dX8_drawn_137 fl_X8_125 rfl (by decide) rfl ?_
  obtain ⟨g1, h⟩ := h
  refine s_irem dX8_drawn_140 g1 ?_
  refine s_iload dX8_drawn_141 rfl ?_
  refine s_iload dX8_drawn_143 rfl ?_
  refine s_iload dX8_drawn_145 rfl ?_
  refine s_bipush (v := 22) dX8_drawn_147 (by decide) ?_
  refine s_iushr dX8_drawn_149 ?_
  refine s_bipush (v := 10) dX8_drawn_150 (by decide) ?_
  refine s_irem dX8_drawn_152 (by decide) ?_
  refine t_callV (M' := mX8_sayOf) (k := 0) (As := [.int (jr (jus x4 4) (t.1 57 1)), .int x9, .int x10, .int (jr (jus x4 22) 10)]) (rest := []) dX8_drawn_153 ml_X8_276 miX8_sayOf msX8_sayOf rfl (by decide) rfl rfl (Nat.le_of_ble_eq_true rfl) (Nat.le_of_ble_eq_true rfl) rfl h (fun rv t2 q => ?_)
  obtain ⟨v3, rfl, h⟩ := q
  show Rt g (d + 1) mX8_drawn 156 [some (.ref 57), none, some (.int x2), some (.int x3), some (.int x4), some (.int x5), some (.int x6), some (.int x7), some (.int x8), some (.int x9), some (.int x10)] [.int v3] t2 Q
  refine s_pop dX8_drawn_156 rfl ?_
  refine s_iinc (w := x8 + 1) dX8_drawn_157 rfl (by rfl) (by decide) rfl (L9 := [some (.ref 57), none, some (.int x2), some (.int x3), some (.int x4), some (.int x5), some (.int x6), some (.int x7), some (.int (x8 + 1)), some (.int x9), some (.int x10)]) rfl ?_
  refine s_goto (tgt := 69) dX8_drawn_160 (by decide) ?_
  exact Rt.lc h (lc_some (lc_none (lc_some (lc_some (lc_some (lc_some (lc_some (lc_some (lc_some (lc_none (lc_none lc_nil)))))))))))
theorem bX8_drawn_166 {g : Gt} {d : Nat} {t : Tt} {Q : Option Value → Tt → Prop} {x2 : Int32} {x3 : Int32} {x4 : Int32} {x5 : Int32} {x6 : Int32} {x7 : Int32} {x8 : Int32} (h : ((t.1 57 1) ≤ x8 → Rt g (d + 1) mX8_drawn 53 [some (.ref 57), none, some (.int x2), some (.int x3), some (.int x4), some (.int x5), some (.int x6), some (.int (x7 + 1)), none, none, none] [] t Q) ∧ (¬ (t.1 57 1) ≤ x8 → Rt g d mX8_flakesOf 0 [some (.ref 57), some (.int x8), none, none] [] t (QI (fun v3 t2 => ∀ z4 : Int32, z4 = (x6 + v3) → Rt g (d + 1) mX8_drawn 166 [some (.ref 57), none, some (.int x2), some (.int x3), some (.int x4), some (.int x5), some (.int z4), some (.int x7), some (.int (x8 + 1)), none, none] [] t2 Q)))) : Rt g (d + 1) mX8_drawn 166 [some (.ref 57), none, some (.int x2), some (.int x3), some (.int x4), some (.int x5), some (.int x6), some (.int x7), some (.int x8), none, none] [] t Q := by
  refine s_iload dX8_drawn_166 rfl ?_
  refine s_aload_n dX8_drawn_168 rfl rfl ?_
  refine t_getI dX8_drawn_169 fl_X8_125 rfl (by decide) rfl ?_
  refine s_icmp_ge (tgt := 192) dX8_drawn_172 (by decide) (fun c1 => ?_) (fun c1 => ?_)
  · replace h := h.1 c1
    refine s_iinc (w := x7 + 1) dX8_drawn_192 rfl (by rfl) (by decide) rfl (L9 := [some (.ref 57), none, some (.int x2), some (.int x3), some (.int x4), some (.int x5), some (.int x6), some (.int (x7 + 1)), some (.int x8), none, none]) rfl ?_
    refine s_goto (tgt := 53) dX8_drawn_195 (by decide) ?_
    exact Rt.lc h (lc_some (lc_none (lc_some (lc_some (lc_some (lc_some (lc_some (lc_some (lc_none (lc_none (lc_none lc_nil)))))))))))
  · replace h := h.2 c1
    refine s_iload dX8_drawn_175 rfl ?_
    refine s_aload_n dX8_drawn_177 rfl rfl ?_
    refine s_iload dX8_drawn_178 rfl ?_
    refine t_callV (M' := mX8_flakesOf) (k := 2) (As := [.int x8]) (rest := [.int x6]) dX8_drawn_180 ml_X8_249 miX8_flakesOf msX8_flakesOf rfl (by decide) rfl rfl (Nat.le_of_ble_eq_true rfl) (Nat.le_of_ble_eq_true rfl) rfl h (fun rv t2 q => ?_)
    obtain ⟨v3, rfl, h⟩ := q
    show Rt g (d + 1) mX8_drawn 183 [some (.ref 57), none, some (.int x2), some (.int x3), some (.int x4), some (.int x5), some (.int x6), some (.int x7), some (.int x8), none, none] [.int v3, .int x6] t2 Q
    refine s_iadd dX8_drawn_183 ?_
    refine t_nmI (fun z4 ez4 => ?_)
    replace h := h z4 ez4
    refine s_istore dX8_drawn_184 (by decide) rfl (L9 := [some (.ref 57), none, some (.int x2), some (.int x3), some (.int x4), some (.int x5), some (.int z4), some (.int x7), some (.int x8), none, none]) rfl ?_
    refine s_iinc (w := x8 + 1) dX8_drawn_186 rfl (by rfl) (by decide) rfl (L9 := [some (.ref 57), none, some (.int x2), some (.int x3), some (.int x4), some (.int x5), some (.int z4), some (.int x7), some (.int (x8 + 1)), none, none]) rfl ?_
    refine s_goto (tgt := 166) dX8_drawn_189 (by decide) ?_
    exact h
theorem bX8_say_0 {g : Gt} {d : Nat} {t : Tt} {Q : Option Value → Tt → Prop} {p0 : Int32} {p1 : Int32} (h : Rt g d mX8_isPerson 0 [some (.ref 57), some (.int p0)] [] t (QI (fun v2 t1 => (v2 = 0 → Q (some (.int (-1))) t1) ∧ (¬ v2 = 0 → (p1 < 0 → Q (some (.int (-1))) t1) ∧ (¬ p1 < 0 → Rt g d mX8_isFact 0 [some (.int (p1 / 100))] [] t1 (QI (fun v6 t5 => (v6 = 0 → Q (some (.int (-1))) t5) ∧ (¬ v6 = 0 → ((jr (p1 / 10) 10) ≤ 1 → Rt g d mX8_beginMouths 0 [some (.ref 57), none] [] t5 (QV (fun t9 => ∀ z10 : Int32, z10 = (jr (p1 / 10) 10) → vp_in (p1 / 100) 10 ∧ ((z10 = (t9.1 61 (p1 / 100).toNatClampNeg) → Rt g (d + 1) mX8_say 65 [some (.ref 57), some (.int p0), some (.int p1), some (.int z10), none, none, none] [.int 0] t9 Q) ∧ (¬ z10 = (t9.1 61 (p1 / 100).toNatClampNeg) → Rt g (d + 1) mX8_say 65 [some (.ref 57), some (.int p0), some (.int p1), some (.int z10), none, none, none] [.int 1] t9 Q))))) ∧ (¬ (jr (p1 / 10) 10) ≤ 1 → Q (some (.int (-1))) t5))))))))) : Rt g (d + 1) mX8_say 0 [some (.ref 57), some (.int p0), some (.int p1), none, none, none, none] [] t Q := by
  refine s_aload_n dX8_say_0 rfl rfl ?_
  refine s_iload_n dX8_say_1 rfl rfl ?_
  refine t_callV (M' := mX8_isPerson) (k := 0) (As := [.int p0]) (rest := []) dX8_say_2 ml_X8_156 miX8_isPerson msX8_isPerson rfl (by decide) rfl rfl (Nat.le_of_ble_eq_true rfl) (Nat.le_of_ble_eq_true rfl) rfl h (fun rv t1 q => ?_)
  obtain ⟨v2, rfl, h⟩ := q
  show Rt g (d + 1) mX8_say 5 [some (.ref 57), some (.int p0), some (.int p1), none, none, none, none] [.int v2] t1 Q
  refine s_if_eq (tgt := 33) dX8_say_5 (by decide) (fun c3 => ?_) (fun c3 => ?_)
  · replace h := h.1 c3
    refine s_iconst (v := (-1)) dX8_say_33 (by decide) ?_
    exact t_iret dX8_say_34 (NR_i rfl _) h
  · replace h := h.2 c3
    refine s_iload_n dX8_say_8 rfl rfl ?_
    refine s_if_lt (tgt := 33) dX8_say_9 (by decide) (fun c4 => ?_) (fun c4 => ?_)
    · replace h := h.1 c4
      refine s_iconst (v := (-1)) dX8_say_33 (by decide) ?_
      exact t_iret dX8_say_34 (NR_i rfl _) h
    · replace h := h.2 c4
      refine s_iload_n dX8_say_12 rfl rfl ?_
      refine s_bipush (v := 100) dX8_say_13 (by decide) ?_
      refine s_idiv dX8_say_15 (by decide) ?_
      refine t_callS (M' := mX8_isFact) (k := 0) (As := [.int (p1 / 100)]) (rest := []) dX8_say_16 ml_X8_159 mstX8_isFact rfl (Nat.le_of_ble_eq_true rfl) (Nat.le_of_ble_eq_true rfl) rfl h (fun rv t5 q => ?_)
      obtain ⟨v6, rfl, h⟩ := q
      show Rt g (d + 1) mX8_say 19 [some (.ref 57), some (.int p0), some (.int p1), none, none, none, none] [.int v6] t5 Q
      refine s_if_eq (tgt := 33) dX8_say_19 (by decide) (fun c7 => ?_) (fun c7 => ?_)
      · replace h := h.1 c7
        refine s_iconst (v := (-1)) dX8_say_33 (by decide) ?_
        exact t_iret dX8_say_34 (NR_i rfl _) h
      · replace h := h.2 c7
        refine s_iload_n dX8_say_22 rfl rfl ?_
        refine s_bipush (v := 10) dX8_say_23 (by decide) ?_
        refine s_idiv dX8_say_25 (by decide) ?_
        refine s_bipush (v := 10) dX8_say_26 (by decide) ?_
        refine s_irem dX8_say_28 (by decide) ?_
        refine s_iconst (v := 1) dX8_say_29 (by decide) ?_
        refine s_icmp_le (tgt := 35) dX8_say_30 (by decide) (fun c8 => ?_) (fun c8 => ?_)
        · replace h := h.1 c8
          refine s_aload_n dX8_say_35 rfl rfl ?_
          refine t_callV (M' := mX8_beginMouths) (k := 1) (As := []) (rest := []) dX8_say_36 ml_X8_172 miX8_beginMouths msX8_beginMouths rfl (by decide) rfl rfl (Nat.le_of_ble_eq_true rfl) (Nat.le_of_ble_eq_true rfl) rfl h (fun rv t9 q => ?_)
          obtain ⟨rfl, h⟩ := q
          show Rt g (d + 1) mX8_say 39 [some (.ref 57), some (.int p0), some (.int p1), none, none, none, none] [] t9 Q
          refine s_iload_n dX8_say_39 rfl rfl ?_
          refine s_bipush (v := 10) dX8_say_40 (by decide) ?_
          refine s_idiv dX8_say_42 (by decide) ?_
          refine s_bipush (v := 10) dX8_say_43 (by decide) ?_
          refine s_irem dX8_say_45 (by decide) ?_
          refine t_nmI (fun z10 ez10 => ?_)
          replace h := h z10 ez10
          refine s_istore_n dX8_say_46 rfl (by decide) rfl (L9 := [some (.ref 57), some (.int p0), some (.int p1), some (.int z10), none, none, none]) rfl ?_
          refine s_iload_n dX8_say_47 rfl rfl ?_
          refine s_aload_n dX8_say_48 rfl rfl ?_
          refine t_getR (o' := 61) dX8_say_49 fl_X8_19 rfl (by decide) rfl rfl ?_
          refine s_iload_n dX8_say_52 rfl rfl ?_
          refine s_bipush (v := 100) dX8_say_53 (by decide) ?_
          refine s_idiv dX8_say_55 (by decide) ?_
          obtain ⟨g11, h⟩ := h
          refine t_iald dX8_say_56 rfl (by decide) g11 ?_
          refine s_icmp_eq (tgt := 64) dX8_say_57 (by decide) (fun c12 => ?_) (fun c12 => ?_)
          · replace h := h.1 c12
            refine s_iconst (v := 0) dX8_say_64 (by decide) ?_
            exact h
          · replace h := h.2 c12
            refine s_iconst (v := 1) dX8_say_60 (by decide) ?_
            refine s_goto (tgt := 65) dX8_say_61 (by decide) ?_
            exact h
        · replace h := h.2 c8
          refine s_iconst (v := (-1)) dX8_say_33 (by decide) ?_
          exact t_iret dX8_say_34 (NR_i rfl _) h
theorem bX8_say_65 {g : Gt} {d : Nat} {t : Tt} {Q : Option Value → Tt → Prop} {x1 : Int32} {x2 : Int32} {x3 : Int32} {s0 : Int32} (h : Rt g d mX8_sayOf 0 [some (.ref 57), some (.int x1), some (.int (x2 / 100)), some (.int x3), some (.int (jr x2 10))] [] t (QI (fun v2 t1 => Rt g (d + 1) mX8_say 86 [some (.ref 57), some (.int x1), none, none, some (.int s0), some (.int v2), some (.int 0)] [] t1 Q))) : Rt g (d + 1) mX8_say 65 [some (.ref 57), some (.int x1), some (.int x2), some (.int x3), none, none, none] [.int s0] t Q := by
  refine s_istore dX8_say_65 (by decide) rfl (L9 := [some (.ref 57), some (.int x1), some (.int x2), some (.int x3), some (.int s0), none, none]) rfl ?_
  refine s_aload_n dX8_say_67 rfl rfl ?_
  refine s_iload_n dX8_say_68 rfl rfl ?_
  refine s_iload_n dX8_say_69 rfl rfl ?_
  refine s_bipush (v := 100) dX8_say_70 (by decide) ?_
  refine s_idiv dX8_say_72 (by decide) ?_
  refine s_iload_n dX8_say_73 rfl rfl ?_
  refine s_iload_n dX8_say_74 rfl rfl ?_
  refine s_bipush (v := 10) dX8_say_75 (by decide) ?_
  refine s_irem dX8_say_77 (by decide) ?_
  refine t_callV (M' := mX8_sayOf) (k := 0) (As := [.int x1, .int (x2 / 100), .int x3, .int (jr x2 10)]) (rest := []) dX8_say_78 ml_X8_276 miX8_sayOf msX8_sayOf rfl (by decide) rfl rfl (Nat.le_of_ble_eq_true rfl) (Nat.le_of_ble_eq_true rfl) rfl h (fun rv t1 q => ?_)
  obtain ⟨v2, rfl, h⟩ := q
  show Rt g (d + 1) mX8_say 81 [some (.ref 57), some (.int x1), some (.int x2), some (.int x3), some (.int s0), none, none] [.int v2] t1 Q
  refine s_istore dX8_say_81 (by decide) rfl (L9 := [some (.ref 57), some (.int x1), some (.int x2), some (.int x3), some (.int s0), some (.int v2), none]) rfl ?_
  refine s_iconst (v := 0) dX8_say_83 (by decide) ?_
  refine s_istore dX8_say_84 (by decide) rfl (L9 := [some (.ref 57), some (.int x1), some (.int x2), some (.int x3), some (.int s0), some (.int v2), some (.int 0)]) rfl ?_
  exact Rt.lc h (lc_some (lc_some (lc_none (lc_none (lc_some (lc_some (lc_some lc_nil)))))))
theorem bX8_say_86 {g : Gt} {d : Nat} {t : Tt} {Q : Option Value → Tt → Prop} {x1 : Int32} {x4 : Int32} {x5 : Int32} {x6 : Int32} (h : (8 ≤ x6 → vp_in x1 7 ∧ (vp_in x1 7 ∧ ((x4 = 0 → Rt g (d + 1) mX8_say 160 [some (.ref 57), none, none, none, none, some (.int x5), none] [] (pI (pI t 60 x1.toNatClampNeg (t.1 75 x1.toNatClampNeg)) 82 0 (((pI t 60 x1.toNatClampNeg (t.1 75 x1.toNatClampNeg)).1 82 0) + 1)) Q) ∧ (¬ x4 = 0 → Rt g (d + 1) mX8_say 160 [some (.ref 57), none, none, none, none, some (.int x5), none] [] (pI (pI (pI t 60 x1.toNatClampNeg (t.1 75 x1.toNatClampNeg)) 82 0 (((pI t 60 x1.toNatClampNeg (t.1 75 x1.toNatClampNeg)).1 82 0) + 1)) 82 1 (((pI (pI t 60 x1.toNatClampNeg (t.1 75 x1.toNatClampNeg)) 82 0 (((pI t 60 x1.toNatClampNeg (t.1 75 x1.toNatClampNeg)).1 82 0) + 1)).1 82 1) + 1)) Q)))) ∧ (¬ 8 ≤ x6 → vp_in ((8 * x1) + x6) 56 ∧ (vp_in ((8 * x1) + x6) 56 ∧ Rt g (d + 1) mX8_say 86 [some (.ref 57), some (.int x1), none, none, some (.int x4), some (.int x5), some (.int (x6 + 1))] [] (pI t 58 ((8 * x1) + x6).toNatClampNeg (t.1 74 ((8 * x1) + x6).toNatClampNeg)) Q))) : Rt g (d + 1) mX8_say 86 [some (.ref 57), some (.int x1), none, none, some (.int x4), some (.int x5), some (.int x6)] [] t Q := by
  refine s_iload dX8_say_86 rfl ?_
  refine s_bipush (v := 8) dX8_say_88 (by decide) ?_
  refine s_icmp_ge (tgt := 123) dX8_say_90 (by decide) (fun c1 => ?_) (fun c1 => ?_)
  · replace h := h.1 c1
    refine s_aload_n dX8_say_123 rfl rfl ?_
    refine t_getR (o' := 60) dX8_say_124 fl_X8_16 rfl (by decide) rfl rfl ?_
    refine s_iload_n dX8_say_127 rfl rfl ?_
    refine s_aload_n dX8_say_128 rfl rfl ?_
    refine t_getR (o' := 75) dX8_say_129 fl_X8_67 rfl (by decide) rfl rfl ?_
    refine s_iload_n dX8_say_132 rfl rfl ?_
    obtain ⟨g2, h⟩ := h
    refine t_iald dX8_say_133 rfl (by decide) g2 ?_
    obtain ⟨g3, h⟩ := h
    refine t_iast dX8_say_134 rfl (by decide) g3 ?_
    refine s_aload_n dX8_say_135 rfl rfl ?_
    refine t_getR (o' := 82) dX8_say_136 fl_X8_88 rfl (by decide) rfl rfl ?_
    refine s_iconst (v := 0) dX8_say_139 (by decide) ?_
    refine s_dup2 dX8_say_140 rfl rfl ?_
    refine t_iald dX8_say_141 rfl (by decide) (show vp_in 0 6 from by unfold vp_in; decide) ?_
    refine s_iconst (v := 1) dX8_say_142 (by decide) ?_
    refine s_iadd dX8_say_143 ?_
    refine t_iast dX8_say_144 rfl (by decide) (show vp_in 0 6 from by unfold vp_in; decide) ?_
    refine s_iload dX8_say_145 rfl ?_
    refine s_if_eq (tgt := 160) dX8_say_147 (by decide) (fun c4 => ?_) (fun c4 => ?_)
    · replace h := h.1 c4
      exact Rt.lc h (lc_some (lc_none (lc_none (lc_none (lc_none (lc_some (lc_none lc_nil)))))))
    · replace h := h.2 c4
      refine s_aload_n dX8_say_150 rfl rfl ?_
      refine t_getR (o' := 82) dX8_say_151 fl_X8_88 rfl (by decide) rfl rfl ?_
      refine s_iconst (v := 1) dX8_say_154 (by decide) ?_
      refine s_dup2 dX8_say_155 rfl rfl ?_
      refine t_iald dX8_say_156 rfl (by decide) (show vp_in 1 6 from by unfold vp_in; decide) ?_
      refine s_iconst (v := 1) dX8_say_157 (by decide) ?_
      refine s_iadd dX8_say_158 ?_
      refine t_iast dX8_say_159 rfl (by decide) (show vp_in 1 6 from by unfold vp_in; decide) ?_
      exact Rt.lc h (lc_some (lc_none (lc_none (lc_none (lc_none (lc_some (lc_none lc_nil)))))))
  · replace h := h.2 c1
    refine s_aload_n dX8_say_93 rfl rfl ?_
    refine t_getR (o' := 58) dX8_say_94 fl_X8_7 rfl (by decide) rfl rfl ?_
    refine s_bipush (v := 8) dX8_say_97 (by decide) ?_
    refine s_iload_n dX8_say_99 rfl rfl ?_
    refine s_imul dX8_say_100 ?_
    refine s_iload dX8_say_101 rfl ?_
    refine s_iadd dX8_say_103 ?_
    refine s_aload_n dX8_say_104 rfl rfl ?_
    refine t_getR (o' := 74) dX8_say_105 fl_X8_64 rfl (by decide) rfl rfl ?_
    refine s_bipush (v := 8) dX8_say_108 (by decide) ?_
    refine s_iload_n dX8_say_110 rfl rfl ?_
    refine s_imul dX8_say_111 ?_
    refine s_iload dX8_say_112 rfl ?_
    refine s_iadd dX8_say_114 ?_
    obtain ⟨g5, h⟩ := h
    refine t_iald dX8_say_115 rfl (by decide) g5 ?_
    obtain ⟨g6, h⟩ := h
    refine t_iast dX8_say_116 rfl (by decide) g6 ?_
    refine s_iinc (w := x6 + 1) dX8_say_117 rfl (by rfl) (by decide) rfl (L9 := [some (.ref 57), some (.int x1), none, none, some (.int x4), some (.int x5), some (.int (x6 + 1))]) rfl ?_
    refine s_goto (tgt := 86) dX8_say_120 (by decide) ?_
    exact h
theorem bX8_say_160 {g : Gt} {d : Nat} {t : Tt} {Q : Option Value → Tt → Prop} {x5 : Int32} (h : Q (some (.int x5)) (pI t 82 2 ((t.1 82 2) + x5))) : Rt g (d + 1) mX8_say 160 [some (.ref 57), none, none, none, none, some (.int x5), none] [] t Q := by
  refine s_aload_n dX8_say_160 rfl rfl ?_
  refine t_getR (o' := 82) dX8_say_161 fl_X8_88 rfl (by decide) rfl rfl ?_
  refine s_iconst (v := 2) dX8_say_164 (by decide) ?_
  refine s_dup2 dX8_say_165 rfl rfl ?_
  refine t_iald dX8_say_166 rfl (by decide) (show vp_in 2 6 from by unfold vp_in; decide) ?_
  refine s_iload dX8_say_167 rfl ?_
  refine s_iadd dX8_say_169 ?_
  refine t_iast dX8_say_170 rfl (by decide) (show vp_in 2 6 from by unfold vp_in; decide) ?_
  refine s_iload dX8_say_171 rfl ?_
  exact t_iret dX8_say_173 (NR_i rfl _) h
theorem bX8_lend_0 {g : Gt} {d : Nat} {t : Tt} {Q : Option Value → Tt → Prop} {p0 : Int32} {p1 : Int32} (h : (p0 < 0 → Q (some (.int (-1))) t) ∧ (¬ p0 < 0 → Rt g d mX8_isPerson 0 [some (.ref 57), some (.int (p0 / 10))] [] t (QI (fun v3 t2 => (v3 = 0 → Q (some (.int (-1))) t2) ∧ (¬ v3 = 0 → Rt g d mX8_isPerson 0 [some (.ref 57), some (.int (jr p0 10))] [] t2 (QI (fun v6 t5 => (v6 = 0 → Q (some (.int (-1))) t5) ∧ (¬ v6 = 0 → ((p0 / 10) = (jr p0 10) → Q (some (.int (-1))) t5) ∧ (¬ (p0 / 10) = (jr p0 10) → Rt g d mX8_in 0 [some (.int p1), some (.int 0), some (.int 7)] [] t5 (QI (fun v10 t9 => (¬ v10 = 0 → ∀ z12 : Int32, z12 = (p0 / 10) → ∀ z13 : Int32, z13 = (jr p0 10) → vp_in ((8 * z12) + p1) 56 ∧ (∀ z15 : Int32, z15 = (t9.1 58 ((8 * z12) + p1).toNatClampNeg) → vp_in ((8 * z13) + p1) 56 ∧ (vp_in ((8 * z12) + p1) 56 ∧ (vp_in ((8 * z13) + p1) 56 ∧ (vp_in z12 7 ∧ (vp_in z13 7 ∧ (∀ z21 : Int32, z21 = ((((pI (pI t9 58 ((8 * z12) + p1).toNatClampNeg (t9.1 58 ((8 * z13) + p1).toNatClampNeg)) 58 ((8 * z13) + p1).toNatClampNeg z15).1 59 z12.toNatClampNeg) ^^^ ((pI (pI t9 58 ((8 * z12) + p1).toNatClampNeg (t9.1 58 ((8 * z13) + p1).toNatClampNeg)) 58 ((8 * z13) + p1).toNatClampNeg z15).1 59 z13.toNatClampNeg)) &&& (jsl 1 p1)) → vp_in z12 7 ∧ (vp_in z12 7 ∧ (vp_in z13 7 ∧ (vp_in z13 7 ∧ (vp_in ((8 * z12) + p1) 56 ∧ Q (some (.int ((pI (pI (pI (pI (pI t9 58 ((8 * z12) + p1).toNatClampNeg (t9.1 58 ((8 * z13) + p1).toNatClampNeg)) 58 ((8 * z13) + p1).toNatClampNeg z15) 59 z12.toNatClampNeg (((pI (pI t9 58 ((8 * z12) + p1).toNatClampNeg (t9.1 58 ((8 * z13) + p1).toNatClampNeg)) 58 ((8 * z13) + p1).toNatClampNeg z15).1 59 z12.toNatClampNeg) ^^^ z21)) 59 z13.toNatClampNeg (((pI (pI (pI t9 58 ((8 * z12) + p1).toNatClampNeg (t9.1 58 ((8 * z13) + p1).toNatClampNeg)) 58 ((8 * z13) + p1).toNatClampNeg z15) 59 z12.toNatClampNeg (((pI (pI t9 58 ((8 * z12) + p1).toNatClampNeg (t9.1 58 ((8 * z13) + p1).toNatClampNeg)) 58 ((8 * z13) + p1).toNatClampNeg z15).1 59 z12.toNatClampNeg) ^^^ z21)).1 59 z13.toNatClampNeg) ^^^ z21)) 82 3 (((pI (pI (pI (pI t9 58 ((8 * z12) + p1).toNatClampNeg (t9.1 58 ((8 * z13) + p1).toNatClampNeg)) 58 ((8 * z13) + p1).toNatClampNeg z15) 59 z12.toNatClampNeg (((pI (pI t9 58 ((8 * z12) + p1).toNatClampNeg (t9.1 58 ((8 * z13) + p1).toNatClampNeg)) 58 ((8 * z13) + p1).toNatClampNeg z15).1 59 z12.toNatClampNeg) ^^^ z21)) 59 z13.toNatClampNeg (((pI (pI (pI t9 58 ((8 * z12) + p1).toNatClampNeg (t9.1 58 ((8 * z13) + p1).toNatClampNeg)) 58 ((8 * z13) + p1).toNatClampNeg z15) 59 z12.toNatClampNeg (((pI (pI t9 58 ((8 * z12) + p1).toNatClampNeg (t9.1 58 ((8 * z13) + p1).toNatClampNeg)) 58 ((8 * z13) + p1).toNatClampNeg z15).1 59 z12.toNatClampNeg) ^^^ z21)).1 59 z13.toNatClampNeg) ^^^ z21)).1 82 3) + 1)).1 58 ((8 * z12) + p1).toNatClampNeg))) (pI (pI (pI (pI (pI t9 58 ((8 * z12) + p1).toNatClampNeg (t9.1 58 ((8 * z13) + p1).toNatClampNeg)) 58 ((8 * z13) + p1).toNatClampNeg z15) 59 z12.toNatClampNeg (((pI (pI t9 58 ((8 * z12) + p1).toNatClampNeg (t9.1 58 ((8 * z13) + p1).toNatClampNeg)) 58 ((8 * z13) + p1).toNatClampNeg z15).1 59 z12.toNatClampNeg) ^^^ z21)) 59 z13.toNatClampNeg (((pI (pI (pI t9 58 ((8 * z12) + p1).toNatClampNeg (t9.1 58 ((8 * z13) + p1).toNatClampNeg)) 58 ((8 * z13) + p1).toNatClampNeg z15) 59 z12.toNatClampNeg (((pI (pI t9 58 ((8 * z12) + p1).toNatClampNeg (t9.1 58 ((8 * z13) + p1).toNatClampNeg)) 58 ((8 * z13) + p1).toNatClampNeg z15).1 59 z12.toNatClampNeg) ^^^ z21)).1 59 z13.toNatClampNeg) ^^^ z21)) 82 3 (((pI (pI (pI (pI t9 58 ((8 * z12) + p1).toNatClampNeg (t9.1 58 ((8 * z13) + p1).toNatClampNeg)) 58 ((8 * z13) + p1).toNatClampNeg z15) 59 z12.toNatClampNeg (((pI (pI t9 58 ((8 * z12) + p1).toNatClampNeg (t9.1 58 ((8 * z13) + p1).toNatClampNeg)) 58 ((8 * z13) + p1).toNatClampNeg z15).1 59 z12.toNatClampNeg) ^^^ z21)) 59 z13.toNatClampNeg (((pI (pI (pI t9 58 ((8 * z12) + p1).toNatClampNeg (t9.1 58 ((8 * z13) + p1).toNatClampNeg)) 58 ((8 * z13) + p1).toNatClampNeg z15) 59 z12.toNatClampNeg (((pI (pI t9 58 ((8 * z12) + p1).toNatClampNeg (t9.1 58 ((8 * z13) + p1).toNatClampNeg)) 58 ((8 * z13) + p1).toNatClampNeg z15).1 59 z12.toNatClampNeg) ^^^ z21)).1 59 z13.toNatClampNeg) ^^^ z21)).1 82 3) + 1))))))))))))) ∧ (v10 = 0 → Q (some (.int (-1))) t9)))))))))))) : Rt g (d + 1) mX8_lend 0 [some (.ref 57), some (.int p0), some (.int p1), none, none, none, none] [] t Q := by
  refine s_iload_n dX8_lend_0 rfl rfl ?_
  refine s_if_lt (tgt := 47) dX8_lend_1 (by decide) (fun c1 => ?_) (fun c1 => ?_)
  · replace h := h.1 c1
    refine s_iconst (v := (-1)) dX8_lend_47 (by decide) ?_
    exact t_iret dX8_lend_48 (NR_i rfl _) h
  · replace h := h.2 c1
    refine s_aload_n dX8_lend_4 rfl rfl ?_
    refine s_iload_n dX8_lend_5 rfl rfl ?_
    refine s_bipush (v := 10) dX8_lend_6 (by decide) ?_
    refine s_idiv dX8_lend_8 (by decide) ?_
    refine t_callV (M' := mX8_isPerson) (k := 0) (As := [.int (p0 / 10)]) (rest := []) dX8_lend_9 ml_X8_156 miX8_isPerson msX8_isPerson rfl (by decide) rfl rfl (Nat.le_of_ble_eq_true rfl) (Nat.le_of_ble_eq_true rfl) rfl h (fun rv t2 q => ?_)
    obtain ⟨v3, rfl, h⟩ := q
    show Rt g (d + 1) mX8_lend 12 [some (.ref 57), some (.int p0), some (.int p1), none, none, none, none] [.int v3] t2 Q
    refine s_if_eq (tgt := 47) dX8_lend_12 (by decide) (fun c4 => ?_) (fun c4 => ?_)
    · replace h := h.1 c4
      refine s_iconst (v := (-1)) dX8_lend_47 (by decide) ?_
      exact t_iret dX8_lend_48 (NR_i rfl _) h
    · replace h := h.2 c4
      refine s_aload_n dX8_lend_15 rfl rfl ?_
      refine s_iload_n dX8_lend_16 rfl rfl ?_
      refine s_bipush (v := 10) dX8_lend_17 (by decide) ?_
      refine s_irem dX8_lend_19 (by decide) ?_
      refine t_callV (M' := mX8_isPerson) (k := 0) (As := [.int (jr p0 10)]) (rest := []) dX8_lend_20 ml_X8_156 miX8_isPerson msX8_isPerson rfl (by decide) rfl rfl (Nat.le_of_ble_eq_true rfl) (Nat.le_of_ble_eq_true rfl) rfl h (fun rv t5 q => ?_)
      obtain ⟨v6, rfl, h⟩ := q
      show Rt g (d + 1) mX8_lend 23 [some (.ref 57), some (.int p0), some (.int p1), none, none, none, none] [.int v6] t5 Q
      refine s_if_eq (tgt := 47) dX8_lend_23 (by decide) (fun c7 => ?_) (fun c7 => ?_)
      · replace h := h.1 c7
        refine s_iconst (v := (-1)) dX8_lend_47 (by decide) ?_
        exact t_iret dX8_lend_48 (NR_i rfl _) h
      · replace h := h.2 c7
        refine s_iload_n dX8_lend_26 rfl rfl ?_
        refine s_bipush (v := 10) dX8_lend_27 (by decide) ?_
        refine s_idiv dX8_lend_29 (by decide) ?_
        refine s_iload_n dX8_lend_30 rfl rfl ?_
        refine s_bipush (v := 10) dX8_lend_31 (by decide) ?_
        refine s_irem dX8_lend_33 (by decide) ?_
        refine s_icmp_eq (tgt := 47) dX8_lend_34 (by decide) (fun c8 => ?_) (fun c8 => ?_)
        · replace h := h.1 c8
          refine s_iconst (v := (-1)) dX8_lend_47 (by decide) ?_
          exact t_iret dX8_lend_48 (NR_i rfl _) h
        · replace h := h.2 c8
          refine s_iload_n dX8_lend_37 rfl rfl ?_
          refine s_iconst (v := 0) dX8_lend_38 (by decide) ?_
          refine s_bipush (v := 7) dX8_lend_39 (by decide) ?_
          refine t_callS (M' := mX8_in) (k := 0) (As := [.int p1, .int 0, .int 7]) (rest := []) dX8_lend_41 ml_X8_128 mstX8_in rfl (Nat.le_of_ble_eq_true rfl) (Nat.le_of_ble_eq_true rfl) rfl h (fun rv t9 q => ?_)
          obtain ⟨v10, rfl, h⟩ := q
          show Rt g (d + 1) mX8_lend 44 [some (.ref 57), some (.int p0), some (.int p1), none, none, none, none] [.int v10] t9 Q
          refine s_if_ne (tgt := 49) dX8_lend_44 (by decide) (fun c11 => ?_) (fun c11 => ?_)
          · replace h := h.1 c11
            refine s_iload_n dX8_lend_49 rfl rfl ?_
            refine s_bipush (v := 10) dX8_lend_50 (by decide) ?_
            refine s_idiv dX8_lend_52 (by decide) ?_
            refine t_nmI (fun z12 ez12 => ?_)
            replace h := h z12 ez12
            refine s_istore_n dX8_lend_53 rfl (by decide) rfl (L9 := [some (.ref 57), some (.int p0), some (.int p1), some (.int z12), none, none, none]) rfl ?_
            refine s_iload_n dX8_lend_54 rfl rfl ?_
            refine s_bipush (v := 10) dX8_lend_55 (by decide) ?_
            refine s_irem dX8_lend_57 (by decide) ?_
            refine t_nmI (fun z13 ez13 => ?_)
            replace h := h z13 ez13
            refine s_istore dX8_lend_58 (by decide) rfl (L9 := [some (.ref 57), some (.int p0), some (.int p1), some (.int z12), some (.int z13), none, none]) rfl ?_
            refine s_aload_n dX8_lend_60 rfl rfl ?_
            refine t_getR (o' := 58) dX8_lend_61 fl_X8_7 rfl (by decide) rfl rfl ?_
            refine s_bipush (v := 8) dX8_lend_64 (by decide) ?_
            refine s_iload_n dX8_lend_66 rfl rfl ?_
            refine s_imul dX8_lend_67 ?_
            refine s_iload_n dX8_lend_68 rfl rfl ?_
            refine s_iadd dX8_lend_69 ?_
            obtain ⟨g14, h⟩ := h
            refine t_iald dX8_lend_70 rfl (by decide) g14 ?_
            refine t_nmI (fun z15 ez15 => ?_)
            replace h := h z15 ez15
            refine s_istore dX8_lend_71 (by decide) rfl (L9 := [some (.ref 57), some (.int p0), some (.int p1), some (.int z12), some (.int z13), some (.int z15), none]) rfl ?_
            refine s_aload_n dX8_lend_73 rfl rfl ?_
            refine t_getR (o' := 58) dX8_lend_74 fl_X8_7 rfl (by decide) rfl rfl ?_
            refine s_bipush (v := 8) dX8_lend_77 (by decide) ?_
            refine s_iload_n dX8_lend_79 rfl rfl ?_
            refine s_imul dX8_lend_80 ?_
            refine s_iload_n dX8_lend_81 rfl rfl ?_
            refine s_iadd dX8_lend_82 ?_
            refine s_aload_n dX8_lend_83 rfl rfl ?_
            refine t_getR (o' := 58) dX8_lend_84 fl_X8_7 rfl (by decide) rfl rfl ?_
            refine s_bipush (v := 8) dX8_lend_87 (by decide) ?_
            refine s_iload dX8_lend_89 rfl ?_
            refine s_imul dX8_lend_91 ?_
            refine s_iload_n dX8_lend_92 rfl rfl ?_
            refine s_iadd dX8_lend_93 ?_
            obtain ⟨g16, h⟩ := h
            refine t_iald dX8_lend_94 rfl (by decide) g16 ?_
            obtain ⟨g17, h⟩ := h
            refine t_iast dX8_lend_95 rfl (by decide) g17 ?_
            refine s_aload_n dX8_lend_96 rfl rfl ?_
            refine t_getR (o' := 58) dX8_lend_97 fl_X8_7 rfl (by decide) rfl rfl ?_
            refine s_bipush (v := 8) dX8_lend_100 (by decide) ?_
            refine s_iload dX8_lend_102 rfl ?_
            refine s_imul dX8_lend_104 ?_
            refine s_iload_n dX8_lend_105 rfl rfl ?_
            refine s_iadd dX8_lend_106 ?_
            refine s_iload dX8_lend_107 rfl ?_
            obtain ⟨g18, h⟩ := h
            refine t_iast dX8_lend_109 rfl (by decide) g18 ?_
            refine s_aload_n dX8_lend_110 rfl rfl ?_
            refine t_getR (o' := 59) dX8_lend_111 fl_X8_13 rfl (by decide) rfl rfl ?_
            refine s_iload_n dX8_lend_114 rfl rfl ?_
            obtain ⟨g19, h⟩ := h
            refine t_iald dX8_lend_115 rfl (by decide) g19 ?_
            refine s_aload_n dX8_lend_116 rfl rfl ?_
            refine t_getR (o' := 59) dX8_lend_117 fl_X8_13 rfl (by decide) rfl rfl ?_
            refine s_iload dX8_lend_120 rfl ?_
            obtain ⟨g20, h⟩ := h
            refine t_iald dX8_lend_122 rfl (by decide) g20 ?_
            refine s_ixor dX8_lend_123 ?_
            refine s_iconst (v := 1) dX8_lend_124 (by decide) ?_
            refine s_iload_n dX8_lend_125 rfl rfl ?_
            refine s_ishl dX8_lend_126 ?_
            refine s_iand dX8_lend_127 ?_
            refine t_nmI (fun z21 ez21 => ?_)
            replace h := h z21 ez21
            refine s_istore dX8_lend_128 (by decide) rfl (L9 := [some (.ref 57), some (.int p0), some (.int p1), some (.int z12), some (.int z13), some (.int z15), some (.int z21)]) rfl ?_
            refine s_aload_n dX8_lend_130 rfl rfl ?_
            refine t_getR (o' := 59) dX8_lend_131 fl_X8_13 rfl (by decide) rfl rfl ?_
            refine s_iload_n dX8_lend_134 rfl rfl ?_
            refine s_dup2 dX8_lend_135 rfl rfl ?_
            obtain ⟨g22, h⟩ := h
            refine t_iald dX8_lend_136 rfl (by decide) g22 ?_
            refine s_iload dX8_lend_137 rfl ?_
            refine s_ixor dX8_lend_139 ?_
            obtain ⟨g23, h⟩ := h
            refine t_iast dX8_lend_140 rfl (by decide) g23 ?_
            refine s_aload_n dX8_lend_141 rfl rfl ?_
            refine t_getR (o' := 59) dX8_lend_142 fl_X8_13 rfl (by decide) rfl rfl ?_
            refine s_iload dX8_lend_145 rfl ?_
            refine s_dup2 dX8_lend_147 rfl rfl ?_
            obtain ⟨g24, h⟩ := h
            refine t_iald dX8_lend_148 rfl (by decide) g24 ?_
            refine s_iload dX8_lend_149 rfl ?_
            refine s_ixor dX8_lend_151 ?_
            obtain ⟨g25, h⟩ := h
            refine t_iast dX8_lend_152 rfl (by decide) g25 ?_
            refine s_aload_n dX8_lend_153 rfl rfl ?_
            refine t_getR (o' := 82) dX8_lend_154 fl_X8_88 rfl (by decide) rfl rfl ?_
            refine s_iconst (v := 3) dX8_lend_157 (by decide) ?_
            refine s_dup2 dX8_lend_158 rfl rfl ?_
            refine t_iald dX8_lend_159 rfl (by decide) (show vp_in 3 6 from by unfold vp_in; decide) ?_
            refine s_iconst (v := 1) dX8_lend_160 (by decide) ?_
            refine s_iadd dX8_lend_161 ?_
            refine t_iast dX8_lend_162 rfl (by decide) (show vp_in 3 6 from by unfold vp_in; decide) ?_
            refine s_aload_n dX8_lend_163 rfl rfl ?_
            refine t_getR (o' := 58) dX8_lend_164 fl_X8_7 rfl (by decide) rfl rfl ?_
            refine s_bipush (v := 8) dX8_lend_167 (by decide) ?_
            refine s_iload_n dX8_lend_169 rfl rfl ?_
            refine s_imul dX8_lend_170 ?_
            refine s_iload_n dX8_lend_171 rfl rfl ?_
            refine s_iadd dX8_lend_172 ?_
            obtain ⟨g26, h⟩ := h
            refine t_iald dX8_lend_173 rfl (by decide) g26 ?_
            exact t_iret dX8_lend_174 (NR_i rfl _) h
          · replace h := h.2 c11
            refine s_iconst (v := (-1)) dX8_lend_47 (by decide) ?_
            exact t_iret dX8_lend_48 (NR_i rfl _) h
theorem bX8_cap_0 {g : Gt} {d : Nat} {t : Tt} {Q : Option Value → Tt → Prop} {p0 : Int32} {p1 : Int32} (h : Rt g d mX8_isPerson 0 [some (.ref 57), some (.int p0)] [] t (QI (fun v2 t1 => (v2 = 0 → Q (some (.int (-1))) t1) ∧ (¬ v2 = 0 → Rt g d mX8_in 0 [some (.int p1), some (.int 0), some (.int 7)] [] t1 (QI (fun v5 t4 => (¬ v5 = 0 → vp_in p0 7 ∧ ((¬ ((jsr (t4.1 59 p0.toNatClampNeg) p1) &&& 1) = 1 → vp_in p0 7 ∧ (vp_in p0 7 ∧ (vp_in p0 7 ∧ Rt g d mX8_bitsOf 0 [some (.int ((pI (pI t4 59 p0.toNatClampNeg ((t4.1 59 p0.toNatClampNeg) ||| (jsl 1 p1))) 82 4 (((pI t4 59 p0.toNatClampNeg ((t4.1 59 p0.toNatClampNeg) ||| (jsl 1 p1))).1 82 4) + 1)).1 59 p0.toNatClampNeg)), none, none] [] (pI (pI t4 59 p0.toNatClampNeg ((t4.1 59 p0.toNatClampNeg) ||| (jsl 1 p1))) 82 4 (((pI t4 59 p0.toNatClampNeg ((t4.1 59 p0.toNatClampNeg) ||| (jsl 1 p1))).1 82 4) + 1)) (QI (fun v13 t12 => Q (some (.int v13)) t12))))) ∧ (((jsr (t4.1 59 p0.toNatClampNeg) p1) &&& 1) = 1 → Q (some (.int (-5))) t4))) ∧ (v5 = 0 → Q (some (.int (-1))) t4))))))) : Rt g (d + 1) mX8_cap 0 [some (.ref 57), some (.int p0), some (.int p1)] [] t Q := by
  refine s_aload_n dX8_cap_0 rfl rfl ?_
  refine s_iload_n dX8_cap_1 rfl rfl ?_
  refine t_callV (M' := mX8_isPerson) (k := 0) (As := [.int p0]) (rest := []) dX8_cap_2 ml_X8_156 miX8_isPerson msX8_isPerson rfl (by decide) rfl rfl (Nat.le_of_ble_eq_true rfl) (Nat.le_of_ble_eq_true rfl) rfl h (fun rv t1 q => ?_)
  obtain ⟨v2, rfl, h⟩ := q
  show Rt g (d + 1) mX8_cap 5 [some (.ref 57), some (.int p0), some (.int p1)] [.int v2] t1 Q
  refine s_if_eq (tgt := 18) dX8_cap_5 (by decide) (fun c3 => ?_) (fun c3 => ?_)
  · replace h := h.1 c3
    refine s_iconst (v := (-1)) dX8_cap_18 (by decide) ?_
    exact t_iret dX8_cap_19 (NR_i rfl _) h
  · replace h := h.2 c3
    refine s_iload_n dX8_cap_8 rfl rfl ?_
    refine s_iconst (v := 0) dX8_cap_9 (by decide) ?_
    refine s_bipush (v := 7) dX8_cap_10 (by decide) ?_
    refine t_callS (M' := mX8_in) (k := 0) (As := [.int p1, .int 0, .int 7]) (rest := []) dX8_cap_12 ml_X8_128 mstX8_in rfl (Nat.le_of_ble_eq_true rfl) (Nat.le_of_ble_eq_true rfl) rfl h (fun rv t4 q => ?_)
    obtain ⟨v5, rfl, h⟩ := q
    show Rt g (d + 1) mX8_cap 15 [some (.ref 57), some (.int p0), some (.int p1)] [.int v5] t4 Q
    refine s_if_ne (tgt := 20) dX8_cap_15 (by decide) (fun c6 => ?_) (fun c6 => ?_)
    · replace h := h.1 c6
      refine s_aload_n dX8_cap_20 rfl rfl ?_
      refine t_getR (o' := 59) dX8_cap_21 fl_X8_13 rfl (by decide) rfl rfl ?_
      refine s_iload_n dX8_cap_24 rfl rfl ?_
      obtain ⟨g7, h⟩ := h
      refine t_iald dX8_cap_25 rfl (by decide) g7 ?_
      refine s_iload_n dX8_cap_26 rfl rfl ?_
      refine s_ishr dX8_cap_27 ?_
      refine s_iconst (v := 1) dX8_cap_28 (by decide) ?_
      refine s_iand dX8_cap_29 ?_
      refine s_iconst (v := 1) dX8_cap_30 (by decide) ?_
      refine s_icmp_ne (tgt := 37) dX8_cap_31 (by decide) (fun c8 => ?_) (fun c8 => ?_)
      · replace h := h.1 c8
        refine s_aload_n dX8_cap_37 rfl rfl ?_
        refine t_getR (o' := 59) dX8_cap_38 fl_X8_13 rfl (by decide) rfl rfl ?_
        refine s_iload_n dX8_cap_41 rfl rfl ?_
        refine s_dup2 dX8_cap_42 rfl rfl ?_
        obtain ⟨g9, h⟩ := h
        refine t_iald dX8_cap_43 rfl (by decide) g9 ?_
        refine s_iconst (v := 1) dX8_cap_44 (by decide) ?_
        refine s_iload_n dX8_cap_45 rfl rfl ?_
        refine s_ishl dX8_cap_46 ?_
        refine s_ior dX8_cap_47 ?_
        obtain ⟨g10, h⟩ := h
        refine t_iast dX8_cap_48 rfl (by decide) g10 ?_
        refine s_aload_n dX8_cap_49 rfl rfl ?_
        refine t_getR (o' := 82) dX8_cap_50 fl_X8_88 rfl (by decide) rfl rfl ?_
        refine s_iconst (v := 4) dX8_cap_53 (by decide) ?_
        refine s_dup2 dX8_cap_54 rfl rfl ?_
        refine t_iald dX8_cap_55 rfl (by decide) (show vp_in 4 6 from by unfold vp_in; decide) ?_
        refine s_iconst (v := 1) dX8_cap_56 (by decide) ?_
        refine s_iadd dX8_cap_57 ?_
        refine t_iast dX8_cap_58 rfl (by decide) (show vp_in 4 6 from by unfold vp_in; decide) ?_
        refine s_aload_n dX8_cap_59 rfl rfl ?_
        refine t_getR (o' := 59) dX8_cap_60 fl_X8_13 rfl (by decide) rfl rfl ?_
        refine s_iload_n dX8_cap_63 rfl rfl ?_
        obtain ⟨g11, h⟩ := h
        refine t_iald dX8_cap_64 rfl (by decide) g11 ?_
        refine t_callS (M' := mX8_bitsOf) (k := 2) (As := [.int ((pI (pI t4 59 p0.toNatClampNeg ((t4.1 59 p0.toNatClampNeg) ||| (jsl 1 p1))) 82 4 (((pI t4 59 p0.toNatClampNeg ((t4.1 59 p0.toNatClampNeg) ||| (jsl 1 p1))).1 82 4) + 1)).1 59 p0.toNatClampNeg)]) (rest := []) dX8_cap_65 ml_X8_252 mstX8_bitsOf rfl (Nat.le_of_ble_eq_true rfl) (Nat.le_of_ble_eq_true rfl) rfl h (fun rv t12 q => ?_)
        obtain ⟨v13, rfl, h⟩ := q
        show Rt g (d + 1) mX8_cap 68 [some (.ref 57), some (.int p0), some (.int p1)] [.int v13] t12 Q
        exact t_iret dX8_cap_68 (NR_i rfl _) h
      · replace h := h.2 c8
        refine s_bipush (v := (-5)) dX8_cap_34 (by decide) ?_
        exact t_iret dX8_cap_36 (NR_i rfl _) h
    · replace h := h.2 c6
      refine s_iconst (v := (-1)) dX8_cap_18 (by decide) ?_
      exact t_iret dX8_cap_19 (NR_i rfl _) h
theorem bX8_year_0 {g : Gt} {d : Nat} {t : Tt} {Q : Option Value → Tt → Prop} (h : Rt g d mX8_year 4 [some (.ref 57), some (.int 0), some (.int 0)] [] t Q) : Rt g d mX8_year 0 [some (.ref 57), none, none] [] t Q := by
  refine s_iconst (v := 0) dX8_year_0 (by decide) ?_
  refine s_istore_n dX8_year_1 rfl (by decide) rfl (L9 := [some (.ref 57), some (.int 0), none]) rfl ?_
  refine s_iconst (v := 0) dX8_year_2 (by decide) ?_
  refine s_istore_n dX8_year_3 rfl (by decide) rfl (L9 := [some (.ref 57), some (.int 0), some (.int 0)]) rfl ?_
  exact h
theorem bX8_year_4 {g : Gt} {d : Nat} {t : Tt} {Q : Option Value → Tt → Prop} {x1 : Int32} {x2 : Int32} (h : ((t.1 57 1) ≤ x2 → Q (some (.int x1)) (pI t 82 5 ((t.1 82 5) + 1))) ∧ (¬ (t.1 57 1) ≤ x2 → vp_in x2 7 ∧ (∀ z3 : Int32, z3 = (x1 + (t.1 60 x2.toNatClampNeg)) → vp_in x2 7 ∧ Rt g d mX8_year 4 [some (.ref 57), some (.int z3), some (.int (x2 + 1))] [] (pI t 60 x2.toNatClampNeg 0) Q))) : Rt g d mX8_year 4 [some (.ref 57), some (.int x1), some (.int x2)] [] t Q := by
  refine s_iload_n dX8_year_4 rfl rfl ?_
  refine s_aload_n dX8_year_5 rfl rfl ?_
  refine t_getI dX8_year_6 fl_X8_125 rfl (by decide) rfl ?_
  refine s_icmp_ge (tgt := 34) dX8_year_9 (by decide) (fun c1 => ?_) (fun c1 => ?_)
  · replace h := h.1 c1
    refine s_aload_n dX8_year_34 rfl rfl ?_
    refine t_getR (o' := 82) dX8_year_35 fl_X8_88 rfl (by decide) rfl rfl ?_
    refine s_iconst (v := 5) dX8_year_38 (by decide) ?_
    refine s_dup2 dX8_year_39 rfl rfl ?_
    refine t_iald dX8_year_40 rfl (by decide) (show vp_in 5 6 from by unfold vp_in; decide) ?_
    refine s_iconst (v := 1) dX8_year_41 (by decide) ?_
    refine s_iadd dX8_year_42 ?_
    refine t_iast dX8_year_43 rfl (by decide) (show vp_in 5 6 from by unfold vp_in; decide) ?_
    refine s_iload_n dX8_year_44 rfl rfl ?_
    exact t_iret dX8_year_45 (NR_i rfl _) h
  · replace h := h.2 c1
    refine s_iload_n dX8_year_12 rfl rfl ?_
    refine s_aload_n dX8_year_13 rfl rfl ?_
    refine t_getR (o' := 60) dX8_year_14 fl_X8_16 rfl (by decide) rfl rfl ?_
    refine s_iload_n dX8_year_17 rfl rfl ?_
    obtain ⟨g2, h⟩ := h
    refine t_iald dX8_year_18 rfl (by decide) g2 ?_
    refine s_iadd dX8_year_19 ?_
    refine t_nmI (fun z3 ez3 => ?_)
    replace h := h z3 ez3
    refine s_istore_n dX8_year_20 rfl (by decide) rfl (L9 := [some (.ref 57), some (.int z3), some (.int x2)]) rfl ?_
    refine s_aload_n dX8_year_21 rfl rfl ?_
    refine t_getR (o' := 60) dX8_year_22 fl_X8_16 rfl (by decide) rfl rfl ?_
    refine s_iload_n dX8_year_25 rfl rfl ?_
    refine s_iconst (v := 0) dX8_year_26 (by decide) ?_
    obtain ⟨g4, h⟩ := h
    refine t_iast dX8_year_27 rfl (by decide) g4 ?_
    refine s_iinc (w := x2 + 1) dX8_year_28 rfl (by rfl) (by decide) rfl (L9 := [some (.ref 57), some (.int z3), some (.int (x2 + 1))]) rfl ?_
    refine s_goto (tgt := 4) dX8_year_31 (by decide) ?_
    exact h
theorem bX8_led_0 {g : Gt} {d : Nat} {t : Tt} {Q : Option Value → Tt → Prop} {p0 : Int32} (h : Rt g d mX8_in 0 [some (.int p0), some (.int 0), some (.int 5)] [] t (QI (fun v2 t1 => (v2 = 0 → Q (some (.int (-1))) t1) ∧ (¬ v2 = 0 → vp_in p0 6 ∧ Q (some (.int (t1.1 82 p0.toNatClampNeg))) t1)))) : Rt g (d + 1) mX8_led 0 [some (.ref 57), some (.int p0)] [] t Q := by
  refine s_iload_n dX8_led_0 rfl rfl ?_
  refine s_iconst (v := 0) dX8_led_1 (by decide) ?_
  refine s_iconst (v := 5) dX8_led_2 (by decide) ?_
  refine t_callS (M' := mX8_in) (k := 0) (As := [.int p0, .int 0, .int 5]) (rest := []) dX8_led_3 ml_X8_128 mstX8_in rfl (Nat.le_of_ble_eq_true rfl) (Nat.le_of_ble_eq_true rfl) rfl h (fun rv t1 q => ?_)
  obtain ⟨v2, rfl, h⟩ := q
  show Rt g (d + 1) mX8_led 6 [some (.ref 57), some (.int p0)] [.int v2] t1 Q
  refine s_if_eq (tgt := 18) dX8_led_6 (by decide) (fun c3 => ?_) (fun c3 => ?_)
  · replace h := h.1 c3
    refine s_iconst (v := (-1)) dX8_led_18 (by decide) ?_
    exact t_iret dX8_led_19 (NR_i rfl _) h
  · replace h := h.2 c3
    refine s_aload_n dX8_led_9 rfl rfl ?_
    refine t_getR (o' := 82) dX8_led_10 fl_X8_88 rfl (by decide) rfl rfl ?_
    refine s_iload_n dX8_led_13 rfl rfl ?_
    obtain ⟨g4, h⟩ := h
    refine t_iald dX8_led_14 rfl (by decide) g4 ?_
    refine s_goto (tgt := 19) dX8_led_15 (by decide) ?_
    exact t_iret dX8_led_19 (NR_i rfl _) h
theorem bX8_image_0 {g : Gt} {d : Nat} {t : Tt} {Q : Option Value → Tt → Prop} (h : Rt g d mX8_image 15 [some (.ref 57), some (.int 0)] [] (pI (pI t 57 39 1) 57 40 ((pI t 57 39 1).1 57 1)) Q) : Rt g d mX8_image 0 [some (.ref 57), none] [] t Q := by
  refine s_aload_n dX8_image_0 rfl rfl ?_
  refine s_iconst (v := 1) dX8_image_1 (by decide) ?_
  refine t_putI dX8_image_2 fl_X8_321 rfl (by decide) rfl rfl rfl rfl ?_
  refine s_aload_n dX8_image_5 rfl rfl ?_
  refine s_aload_n dX8_image_6 rfl rfl ?_
  refine t_getI dX8_image_7 fl_X8_125 rfl (by decide) rfl ?_
  refine t_putI dX8_image_10 fl_X8_324 rfl (by decide) rfl rfl rfl rfl ?_
  refine s_iconst (v := 0) dX8_image_13 (by decide) ?_
  refine s_istore_n dX8_image_14 rfl (by decide) rfl (L9 := [some (.ref 57), some (.int 0)]) rfl ?_
  exact h
theorem bX8_image_15 {g : Gt} {d : Nat} {t : Tt} {Q : Option Value → Tt → Prop} {x1 : Int32} (h : (56 ≤ x1 → Rt g d mX8_image 41 [some (.ref 57), some (.int 0)] [] t Q) ∧ (¬ 56 ≤ x1 → vp_in x1 56 ∧ (vp_in x1 56 ∧ Rt g d mX8_image 15 [some (.ref 57), some (.int (x1 + 1))] [] (pI t 83 x1.toNatClampNeg (t.1 58 x1.toNatClampNeg)) Q))) : Rt g d mX8_image 15 [some (.ref 57), some (.int x1)] [] t Q := by
  refine s_iload_n dX8_image_15 rfl rfl ?_
  refine s_bipush (v := 56) dX8_image_16 (by decide) ?_
  refine s_icmp_ge (tgt := 39) dX8_image_18 (by decide) (fun c1 => ?_) (fun c1 => ?_)
  · replace h := h.1 c1
    refine s_iconst (v := 0) dX8_image_39 (by decide) ?_
    refine s_istore_n dX8_image_40 rfl (by decide) rfl (L9 := [some (.ref 57), some (.int 0)]) rfl ?_
    exact h
  · replace h := h.2 c1
    refine s_aload_n dX8_image_21 rfl rfl ?_
    refine t_getR (o' := 83) dX8_image_22 fl_X8_91 rfl (by decide) rfl rfl ?_
    refine s_iload_n dX8_image_25 rfl rfl ?_
    refine s_aload_n dX8_image_26 rfl rfl ?_
    refine t_getR (o' := 58) dX8_image_27 fl_X8_7 rfl (by decide) rfl rfl ?_
    refine s_iload_n dX8_image_30 rfl rfl ?_
    obtain ⟨g2, h⟩ := h
    refine t_iald dX8_image_31 rfl (by decide) g2 ?_
    obtain ⟨g3, h⟩ := h
    refine t_iast dX8_image_32 rfl (by decide) g3 ?_
    refine s_iinc (w := x1 + 1) dX8_image_33 rfl (by rfl) (by decide) rfl (L9 := [some (.ref 57), some (.int (x1 + 1))]) rfl ?_
    refine s_goto (tgt := 15) dX8_image_36 (by decide) ?_
    exact h
theorem bX8_image_41 {g : Gt} {d : Nat} {t : Tt} {Q : Option Value → Tt → Prop} {x1 : Int32} (h : (7 ≤ x1 → Rt g d mX8_image 79 [some (.ref 57), some (.int 0)] [] t Q) ∧ (¬ 7 ≤ x1 → vp_in x1 7 ∧ (vp_in x1 7 ∧ (vp_in x1 7 ∧ (vp_in x1 7 ∧ Rt g d mX8_image 41 [some (.ref 57), some (.int (x1 + 1))] [] (pI (pI t 84 x1.toNatClampNeg (t.1 59 x1.toNatClampNeg)) 85 x1.toNatClampNeg ((pI t 84 x1.toNatClampNeg (t.1 59 x1.toNatClampNeg)).1 60 x1.toNatClampNeg)) Q))))) : Rt g d mX8_image 41 [some (.ref 57), some (.int x1)] [] t Q := by
  refine s_iload_n dX8_image_41 rfl rfl ?_
  refine s_bipush (v := 7) dX8_image_42 (by decide) ?_
  refine s_icmp_ge (tgt := 77) dX8_image_44 (by decide) (fun c1 => ?_) (fun c1 => ?_)
  · replace h := h.1 c1
    refine s_iconst (v := 0) dX8_image_77 (by decide) ?_
    refine s_istore_n dX8_image_78 rfl (by decide) rfl (L9 := [some (.ref 57), some (.int 0)]) rfl ?_
    exact h
  · replace h := h.2 c1
    refine s_aload_n dX8_image_47 rfl rfl ?_
    refine t_getR (o' := 84) dX8_image_48 fl_X8_94 rfl (by decide) rfl rfl ?_
    refine s_iload_n dX8_image_51 rfl rfl ?_
    refine s_aload_n dX8_image_52 rfl rfl ?_
    refine t_getR (o' := 59) dX8_image_53 fl_X8_13 rfl (by decide) rfl rfl ?_
    refine s_iload_n dX8_image_56 rfl rfl ?_
    obtain ⟨g2, h⟩ := h
    refine t_iald dX8_image_57 rfl (by decide) g2 ?_
    obtain ⟨g3, h⟩ := h
    refine t_iast dX8_image_58 rfl (by decide) g3 ?_
    refine s_aload_n dX8_image_59 rfl rfl ?_
    refine t_getR (o' := 85) dX8_image_60 fl_X8_97 rfl (by decide) rfl rfl ?_
    refine s_iload_n dX8_image_63 rfl rfl ?_
    refine s_aload_n dX8_image_64 rfl rfl ?_
    refine t_getR (o' := 60) dX8_image_65 fl_X8_16 rfl (by decide) rfl rfl ?_
    refine s_iload_n dX8_image_68 rfl rfl ?_
    obtain ⟨g4, h⟩ := h
    refine t_iald dX8_image_69 rfl (by decide) g4 ?_
    obtain ⟨g5, h⟩ := h
    refine t_iast dX8_image_70 rfl (by decide) g5 ?_
    refine s_iinc (w := x1 + 1) dX8_image_71 rfl (by rfl) (by decide) rfl (L9 := [some (.ref 57), some (.int (x1 + 1))]) rfl ?_
    refine s_goto (tgt := 41) dX8_image_74 (by decide) ?_
    exact h
theorem bX8_image_79 {g : Gt} {d : Nat} {t : Tt} {Q : Option Value → Tt → Prop} {x1 : Int32} (h : (6 ≤ x1 → Q (some (.int (t.1 82 0))) t) ∧ (¬ 6 ≤ x1 → vp_in x1 6 ∧ (vp_in x1 6 ∧ Rt g d mX8_image 79 [some (.ref 57), some (.int (x1 + 1))] [] (pI t 86 x1.toNatClampNeg (t.1 82 x1.toNatClampNeg)) Q))) : Rt g d mX8_image 79 [some (.ref 57), some (.int x1)] [] t Q := by
  refine s_iload_n dX8_image_79 rfl rfl ?_
  refine s_bipush (v := 6) dX8_image_80 (by decide) ?_
  refine s_icmp_ge (tgt := 103) dX8_image_82 (by decide) (fun c1 => ?_) (fun c1 => ?_)
  · replace h := h.1 c1
    refine s_aload_n dX8_image_103 rfl rfl ?_
    refine t_getR (o' := 82) dX8_image_104 fl_X8_88 rfl (by decide) rfl rfl ?_
    refine s_iconst (v := 0) dX8_image_107 (by decide) ?_
    refine t_iald dX8_image_108 rfl (by decide) (show vp_in 0 6 from by unfold vp_in; decide) ?_
    exact t_iret dX8_image_109 (NR_i rfl _) h
  · replace h := h.2 c1
    refine s_aload_n dX8_image_85 rfl rfl ?_
    refine t_getR (o' := 86) dX8_image_86 fl_X8_100 rfl (by decide) rfl rfl ?_
    refine s_iload_n dX8_image_89 rfl rfl ?_
    refine s_aload_n dX8_image_90 rfl rfl ?_
    refine t_getR (o' := 82) dX8_image_91 fl_X8_88 rfl (by decide) rfl rfl ?_
    refine s_iload_n dX8_image_94 rfl rfl ?_
    obtain ⟨g2, h⟩ := h
    refine t_iald dX8_image_95 rfl (by decide) g2 ?_
    obtain ⟨g3, h⟩ := h
    refine t_iast dX8_image_96 rfl (by decide) g3 ?_
    refine s_iinc (w := x1 + 1) dX8_image_97 rfl (by rfl) (by decide) rfl (L9 := [some (.ref 57), some (.int (x1 + 1))]) rfl ?_
    refine s_goto (tgt := 79) dX8_image_100 (by decide) ?_
    exact h
theorem bX8_back_0 {g : Gt} {d : Nat} {t : Tt} {Q : Option Value → Tt → Prop} (h : (¬ (t.1 57 39) = 0 → Rt g d mX8_back 12 [some (.ref 57), some (.int 0)] [] t Q) ∧ ((t.1 57 39) = 0 → Q (some (.int (-5))) t)) : Rt g d mX8_back 0 [some (.ref 57), none] [] t Q := by
  refine s_aload_n dX8_back_0 rfl rfl ?_
  refine t_getI dX8_back_1 fl_X8_321 rfl (by decide) rfl ?_
  refine s_if_ne (tgt := 10) dX8_back_4 (by decide) (fun c1 => ?_) (fun c1 => ?_)
  · replace h := h.1 c1
    refine s_iconst (v := 0) dX8_back_10 (by decide) ?_
    refine s_istore_n dX8_back_11 rfl (by decide) rfl (L9 := [some (.ref 57), some (.int 0)]) rfl ?_
    exact h
  · replace h := h.2 c1
    refine s_bipush (v := (-5)) dX8_back_7 (by decide) ?_
    exact t_iret dX8_back_9 (NR_i rfl _) h
theorem bX8_back_12 {g : Gt} {d : Nat} {t : Tt} {Q : Option Value → Tt → Prop} {x1 : Int32} (h : ((8 * (t.1 57 40)) ≤ x1 → Rt g d mX8_back 43 [some (.ref 57), some (.int 0)] [] t Q) ∧ (¬ (8 * (t.1 57 40)) ≤ x1 → vp_in x1 56 ∧ (vp_in x1 56 ∧ Rt g d mX8_back 12 [some (.ref 57), some (.int (x1 + 1))] [] (pI t 58 x1.toNatClampNeg (t.1 83 x1.toNatClampNeg)) Q))) : Rt g d mX8_back 12 [some (.ref 57), some (.int x1)] [] t Q := by
  refine s_iload_n dX8_back_12 rfl rfl ?_
  refine s_bipush (v := 8) dX8_back_13 (by decide) ?_
  refine s_aload_n dX8_back_15 rfl rfl ?_
  refine t_getI dX8_back_16 fl_X8_324 rfl (by decide) rfl ?_
  refine s_imul dX8_back_19 ?_
  refine s_icmp_ge (tgt := 41) dX8_back_20 (by decide) (fun c1 => ?_) (fun c1 => ?_)
  · replace h := h.1 c1
    refine s_iconst (v := 0) dX8_back_41 (by decide) ?_
    refine s_istore_n dX8_back_42 rfl (by decide) rfl (L9 := [some (.ref 57), some (.int 0)]) rfl ?_
    exact h
  · replace h := h.2 c1
    refine s_aload_n dX8_back_23 rfl rfl ?_
    refine t_getR (o' := 58) dX8_back_24 fl_X8_7 rfl (by decide) rfl rfl ?_
    refine s_iload_n dX8_back_27 rfl rfl ?_
    refine s_aload_n dX8_back_28 rfl rfl ?_
    refine t_getR (o' := 83) dX8_back_29 fl_X8_91 rfl (by decide) rfl rfl ?_
    refine s_iload_n dX8_back_32 rfl rfl ?_
    obtain ⟨g2, h⟩ := h
    refine t_iald dX8_back_33 rfl (by decide) g2 ?_
    obtain ⟨g3, h⟩ := h
    refine t_iast dX8_back_34 rfl (by decide) g3 ?_
    refine s_iinc (w := x1 + 1) dX8_back_35 rfl (by rfl) (by decide) rfl (L9 := [some (.ref 57), some (.int (x1 + 1))]) rfl ?_
    refine s_goto (tgt := 12) dX8_back_38 (by decide) ?_
    exact h
theorem bX8_back_43 {g : Gt} {d : Nat} {t : Tt} {Q : Option Value → Tt → Prop} {x1 : Int32} (h : ((t.1 57 1) ≤ x1 → Rt g d mX8_back 103 [some (.ref 57), some (.int 0)] [] t Q) ∧ (¬ (t.1 57 1) ≤ x1 → ((t.1 57 40) ≤ x1 → Rt g d mX8_back 71 [some (.ref 57), some (.int x1)] [] t Q) ∧ (¬ (t.1 57 40) ≤ x1 → vp_in x1 7 ∧ (vp_in x1 7 ∧ Rt g d mX8_back 71 [some (.ref 57), some (.int x1)] [] (pI t 59 x1.toNatClampNeg (t.1 84 x1.toNatClampNeg)) Q)))) : Rt g d mX8_back 43 [some (.ref 57), some (.int x1)] [] t Q := by
  refine s_iload_n dX8_back_43 rfl rfl ?_
  refine s_aload_n dX8_back_44 rfl rfl ?_
  refine t_getI dX8_back_45 fl_X8_125 rfl (by decide) rfl ?_
  refine s_icmp_ge (tgt := 101) dX8_back_48 (by decide) (fun c1 => ?_) (fun c1 => ?_)
  · replace h := h.1 c1
    refine s_iconst (v := 0) dX8_back_101 (by decide) ?_
    refine s_istore_n dX8_back_102 rfl (by decide) rfl (L9 := [some (.ref 57), some (.int 0)]) rfl ?_
    exact h
  · replace h := h.2 c1
    refine s_iload_n dX8_back_51 rfl rfl ?_
    refine s_aload_n dX8_back_52 rfl rfl ?_
    refine t_getI dX8_back_53 fl_X8_324 rfl (by decide) rfl ?_
    refine s_icmp_ge (tgt := 71) dX8_back_56 (by decide) (fun c2 => ?_) (fun c2 => ?_)
    · replace h := h.1 c2
      exact h
    · replace h := h.2 c2
      refine s_aload_n dX8_back_59 rfl rfl ?_
      refine t_getR (o' := 59) dX8_back_60 fl_X8_13 rfl (by decide) rfl rfl ?_
      refine s_iload_n dX8_back_63 rfl rfl ?_
      refine s_aload_n dX8_back_64 rfl rfl ?_
      refine t_getR (o' := 84) dX8_back_65 fl_X8_94 rfl (by decide) rfl rfl ?_
      refine s_iload_n dX8_back_68 rfl rfl ?_
      obtain ⟨g3, h⟩ := h
      refine t_iald dX8_back_69 rfl (by decide) g3 ?_
      obtain ⟨g4, h⟩ := h
      refine t_iast dX8_back_70 rfl (by decide) g4 ?_
      exact h
theorem bX8_back_103 {g : Gt} {d : Nat} {t : Tt} {Q : Option Value → Tt → Prop} {x1 : Int32} (h : (6 ≤ x1 → Q (some (.int (t.1 82 0))) t) ∧ (¬ 6 ≤ x1 → vp_in x1 6 ∧ (vp_in x1 6 ∧ Rt g d mX8_back 103 [some (.ref 57), some (.int (x1 + 1))] [] (pI t 82 x1.toNatClampNeg (t.1 86 x1.toNatClampNeg)) Q))) : Rt g d mX8_back 103 [some (.ref 57), some (.int x1)] [] t Q := by
  refine s_iload_n dX8_back_103 rfl rfl ?_
  refine s_bipush (v := 6) dX8_back_104 (by decide) ?_
  refine s_icmp_ge (tgt := 127) dX8_back_106 (by decide) (fun c1 => ?_) (fun c1 => ?_)
  · replace h := h.1 c1
    refine s_aload_n dX8_back_127 rfl rfl ?_
    refine t_getR (o' := 82) dX8_back_128 fl_X8_88 rfl (by decide) rfl rfl ?_
    refine s_iconst (v := 0) dX8_back_131 (by decide) ?_
    refine t_iald dX8_back_132 rfl (by decide) (show vp_in 0 6 from by unfold vp_in; decide) ?_
    exact t_iret dX8_back_133 (NR_i rfl _) h
  · replace h := h.2 c1
    refine s_aload_n dX8_back_109 rfl rfl ?_
    refine t_getR (o' := 82) dX8_back_110 fl_X8_88 rfl (by decide) rfl rfl ?_
    refine s_iload_n dX8_back_113 rfl rfl ?_
    refine s_aload_n dX8_back_114 rfl rfl ?_
    refine t_getR (o' := 86) dX8_back_115 fl_X8_100 rfl (by decide) rfl rfl ?_
    refine s_iload_n dX8_back_118 rfl rfl ?_
    obtain ⟨g2, h⟩ := h
    refine t_iald dX8_back_119 rfl (by decide) g2 ?_
    obtain ⟨g3, h⟩ := h
    refine t_iast dX8_back_120 rfl (by decide) g3 ?_
    refine s_iinc (w := x1 + 1) dX8_back_121 rfl (by rfl) (by decide) rfl (L9 := [some (.ref 57), some (.int (x1 + 1))]) rfl ?_
    refine s_goto (tgt := 103) dX8_back_124 (by decide) ?_
    exact h
theorem bX8_back_71 {g : Gt} {d : Nat} {t : Tt} {Q : Option Value → Tt → Prop} {x1 : Int32} (h : ((t.1 57 40) ≤ x1 → Rt g d mX8_back 94 [some (.ref 57), some (.int x1)] [.int 0, .int x1, .ref 60] t Q) ∧ (¬ (t.1 57 40) ≤ x1 → vp_in x1 7 ∧ Rt g d mX8_back 94 [some (.ref 57), some (.int x1)] [.int (t.1 85 x1.toNatClampNeg), .int x1, .ref 60] t Q)) : Rt g d mX8_back 71 [some (.ref 57), some (.int x1)] [] t Q := by
  refine s_aload_n dX8_back_71 rfl rfl ?_
  refine t_getR (o' := 60) dX8_back_72 fl_X8_16 rfl (by decide) rfl rfl ?_
  refine s_iload_n dX8_back_75 rfl rfl ?_
  refine s_iload_n dX8_back_76 rfl rfl ?_
  refine s_aload_n dX8_back_77 rfl rfl ?_
  refine t_getI dX8_back_78 fl_X8_324 rfl (by decide) rfl ?_
  refine s_icmp_ge (tgt := 93) dX8_back_81 (by decide) (fun c1 => ?_) (fun c1 => ?_)
  · replace h := h.1 c1
    refine s_iconst (v := 0) dX8_back_93 (by decide) ?_
    exact h
  · replace h := h.2 c1
    refine s_aload_n dX8_back_84 rfl rfl ?_
    refine t_getR (o' := 85) dX8_back_85 fl_X8_97 rfl (by decide) rfl rfl ?_
    refine s_iload_n dX8_back_88 rfl rfl ?_
    obtain ⟨g2, h⟩ := h
    refine t_iald dX8_back_89 rfl (by decide) g2 ?_
    refine s_goto (tgt := 94) dX8_back_90 (by decide) ?_
    exact h
theorem bX8_back_94 {g : Gt} {d : Nat} {t : Tt} {Q : Option Value → Tt → Prop} {x1 : Int32} {s0 : Int32} {s1 : Int32} (h : vp_in s1 7 ∧ Rt g d mX8_back 43 [some (.ref 57), some (.int (x1 + 1))] [] (pI t 60 s1.toNatClampNeg s0) Q) : Rt g d mX8_back 94 [some (.ref 57), some (.int x1)] [.int s0, .int s1, .ref 60] t Q := by
  obtain ⟨g1, h⟩ := h
  refine t_iast dX8_back_94 rfl (by decide) g1 ?_
  refine s_iinc (w := x1 + 1) dX8_back_95 rfl (by rfl) (by decide) rfl (L9 := [some (.ref 57), some (.int (x1 + 1))]) rfl ?_
  refine s_goto (tgt := 43) dX8_back_98 (by decide) ?_
  exact h
theorem bX8_isBody_0 {g : Gt} {d : Nat} {t : Tt} {Q : Option Value → Tt → Prop} {p0 : Int32} (h : Rt g d mX8_in 0 [some (.int p0), some (.int 0), some (.int ((t.1 57 45) - 1))] [] t (QI (fun v2 t1 => (v2 = 0 ∨ v2 = 1) ∧ Q (some (.int v2)) t1))) : Rt g (d + 1) mX8_isBody 0 [some (.ref 57), some (.int p0)] [] t Q := by
  refine s_iload_n dX8_isBody_0 rfl rfl ?_
  refine s_iconst (v := 0) dX8_isBody_1 (by decide) ?_
  refine s_aload_n dX8_isBody_2 rfl rfl ?_
  refine t_getI dX8_isBody_3 fl_X8_327 rfl (by decide) rfl ?_
  refine s_iconst (v := 1) dX8_isBody_6 (by decide) ?_
  refine s_isub dX8_isBody_7 ?_
  refine t_callS (M' := mX8_in) (k := 0) (As := [.int p0, .int 0, .int ((t.1 57 45) - 1)]) (rest := []) dX8_isBody_8 ml_X8_128 mstX8_in rfl (Nat.le_of_ble_eq_true rfl) (Nat.le_of_ble_eq_true rfl) rfl h (fun rv t1 q => ?_)
  obtain ⟨v2, rfl, h⟩ := q
  show Rt g (d + 1) mX8_isBody 11 [some (.ref 57), some (.int p0)] [.int v2] t1 Q
  exact t_iret dX8_isBody_11 (NR_z rfl h.1) h.2
theorem bX8_ran_0 {g : Gt} {d : Nat} {t : Tt} {Q : Option Value → Tt → Prop} {p0 : Int32} (h : (24 ≤ (t.1 57 47) → Q none (pI t 57 47 ((t.1 57 47) + 1))) ∧ (¬ 24 ≤ (t.1 57 47) → vp_in (t.1 57 47) 24 ∧ Q none (pI (pI t 88 (t.1 57 47).toNatClampNeg p0) 57 47 (((pI t 88 (t.1 57 47).toNatClampNeg p0).1 57 47) + 1)))) : Rt g d mX8_ran 0 [some (.ref 57), some (.int p0)] [] t Q := by
  refine s_aload_n dX8_ran_0 rfl rfl ?_
  refine t_getI dX8_ran_1 fl_X8_330 rfl (by decide) rfl ?_
  refine s_bipush (v := 24) dX8_ran_4 (by decide) ?_
  refine s_icmp_ge (tgt := 19) dX8_ran_6 (by decide) (fun c1 => ?_) (fun c1 => ?_)
  · replace h := h.1 c1
    refine s_aload_n dX8_ran_19 rfl rfl ?_
    refine s_dup dX8_ran_20 rfl ?_
    refine t_getI dX8_ran_21 fl_X8_330 rfl (by decide) rfl ?_
    refine s_iconst (v := 1) dX8_ran_24 (by decide) ?_
    refine s_iadd dX8_ran_25 ?_
    refine t_putI dX8_ran_26 fl_X8_330 rfl (by decide) rfl rfl rfl rfl ?_
    exact t_vret dX8_ran_29 rfl h
  · replace h := h.2 c1
    refine s_aload_n dX8_ran_9 rfl rfl ?_
    refine t_getR (o' := 88) dX8_ran_10 fl_X8_106 rfl (by decide) rfl rfl ?_
    refine s_aload_n dX8_ran_13 rfl rfl ?_
    refine t_getI dX8_ran_14 fl_X8_330 rfl (by decide) rfl ?_
    refine s_iload_n dX8_ran_17 rfl rfl ?_
    obtain ⟨g2, h⟩ := h
    refine t_iast dX8_ran_18 rfl (by decide) g2 ?_
    refine s_aload_n dX8_ran_19 rfl rfl ?_
    refine s_dup dX8_ran_20 rfl ?_
    refine t_getI dX8_ran_21 fl_X8_330 rfl (by decide) rfl ?_
    refine s_iconst (v := 1) dX8_ran_24 (by decide) ?_
    refine s_iadd dX8_ran_25 ?_
    refine t_putI dX8_ran_26 fl_X8_330 rfl (by decide) rfl rfl rfl rfl ?_
    exact t_vret dX8_ran_29 rfl h
theorem bX8_trace_0 {g : Gt} {d : Nat} {t : Tt} {Q : Option Value → Tt → Prop} {p0 : Int32} (h : (p0 < 0 → Q (some (.int (-1))) t) ∧ (¬ p0 < 0 → ((t.1 57 47) ≤ p0 → Q (some (.int (-1))) t) ∧ (¬ (t.1 57 47) ≤ p0 → (24 ≤ p0 → Q (some (.int (-1))) t) ∧ (¬ 24 ≤ p0 → vp_in p0 24 ∧ Q (some (.int (t.1 88 p0.toNatClampNeg))) t)))) : Rt g d mX8_trace 0 [some (.ref 57), some (.int p0)] [] t Q := by
  refine s_iload_n dX8_trace_0 rfl rfl ?_
  refine s_if_lt (tgt := 27) dX8_trace_1 (by decide) (fun c1 => ?_) (fun c1 => ?_)
  · replace h := h.1 c1
    refine s_iconst (v := (-1)) dX8_trace_27 (by decide) ?_
    exact t_iret dX8_trace_28 (NR_i rfl _) h
  · replace h := h.2 c1
    refine s_iload_n dX8_trace_4 rfl rfl ?_
    refine s_aload_n dX8_trace_5 rfl rfl ?_
    refine t_getI dX8_trace_6 fl_X8_330 rfl (by decide) rfl ?_
    refine s_icmp_ge (tgt := 27) dX8_trace_9 (by decide) (fun c2 => ?_) (fun c2 => ?_)
    · replace h := h.1 c2
      refine s_iconst (v := (-1)) dX8_trace_27 (by decide) ?_
      exact t_iret dX8_trace_28 (NR_i rfl _) h
    · replace h := h.2 c2
      refine s_iload_n dX8_trace_12 rfl rfl ?_
      refine s_bipush (v := 24) dX8_trace_13 (by decide) ?_
      refine s_icmp_ge (tgt := 27) dX8_trace_15 (by decide) (fun c3 => ?_) (fun c3 => ?_)
      · replace h := h.1 c3
        refine s_iconst (v := (-1)) dX8_trace_27 (by decide) ?_
        exact t_iret dX8_trace_28 (NR_i rfl _) h
      · replace h := h.2 c3
        refine s_aload_n dX8_trace_18 rfl rfl ?_
        refine t_getR (o' := 88) dX8_trace_19 fl_X8_106 rfl (by decide) rfl rfl ?_
        refine s_iload_n dX8_trace_22 rfl rfl ?_
        obtain ⟨g4, h⟩ := h
        refine t_iald dX8_trace_23 rfl (by decide) g4 ?_
        refine s_goto (tgt := 28) dX8_trace_24 (by decide) ?_
        exact t_iret dX8_trace_28 (NR_i rfl _) h
theorem bX8_body_0 {g : Gt} {d : Nat} {t : Tt} {Q : Option Value → Tt → Prop} {p0 : Int32} (h : Rt g d mX8_in 0 [some (.int p0), some (.int 0), some (.int 7)] [] t (QI (fun v2 t1 => (¬ v2 = 0 → (¬ (t1.1 57 45) = 50 → vp_in (t1.1 57 45) 50 ∧ Q (some (.int (((pI (pI t1 87 (t1.1 57 45).toNatClampNeg p0) 57 45 (((pI t1 87 (t1.1 57 45).toNatClampNeg p0).1 57 45) + 1)).1 57 45) - 1))) (pI (pI t1 87 (t1.1 57 45).toNatClampNeg p0) 57 45 (((pI t1 87 (t1.1 57 45).toNatClampNeg p0).1 57 45) + 1))) ∧ ((t1.1 57 45) = 50 → Q (some (.int (-3))) t1)) ∧ (v2 = 0 → Q (some (.int (-1))) t1)))) : Rt g (d + 1) mX8_body 0 [some (.ref 57), some (.int p0)] [] t Q := by
  refine s_iload_n dX8_body_0 rfl rfl ?_
  refine s_iconst (v := 0) dX8_body_1 (by decide) ?_
  refine s_bipush (v := 7) dX8_body_2 (by decide) ?_
  refine t_callS (M' := mX8_in) (k := 0) (As := [.int p0, .int 0, .int 7]) (rest := []) dX8_body_4 ml_X8_128 mstX8_in rfl (Nat.le_of_ble_eq_true rfl) (Nat.le_of_ble_eq_true rfl) rfl h (fun rv t1 q => ?_)
  obtain ⟨v2, rfl, h⟩ := q
  show Rt g (d + 1) mX8_body 7 [some (.ref 57), some (.int p0)] [.int v2] t1 Q
  refine s_if_ne (tgt := 12) dX8_body_7 (by decide) (fun c3 => ?_) (fun c3 => ?_)
  · replace h := h.1 c3
    refine s_aload_n dX8_body_12 rfl rfl ?_
    refine t_getI dX8_body_13 fl_X8_327 rfl (by decide) rfl ?_
    refine s_bipush (v := 50) dX8_body_16 (by decide) ?_
    refine s_icmp_ne (tgt := 24) dX8_body_18 (by decide) (fun c4 => ?_) (fun c4 => ?_)
    · replace h := h.1 c4
      refine s_aload_n dX8_body_24 rfl rfl ?_
      refine t_getR (o' := 87) dX8_body_25 fl_X8_103 rfl (by decide) rfl rfl ?_
      refine s_aload_n dX8_body_28 rfl rfl ?_
      refine t_getI dX8_body_29 fl_X8_327 rfl (by decide) rfl ?_
      refine s_iload_n dX8_body_32 rfl rfl ?_
      obtain ⟨g5, h⟩ := h
      refine t_iast dX8_body_33 rfl (by decide) g5 ?_
      refine s_aload_n dX8_body_34 rfl rfl ?_
      refine s_dup dX8_body_35 rfl ?_
      refine t_getI dX8_body_36 fl_X8_327 rfl (by decide) rfl ?_
      refine s_iconst (v := 1) dX8_body_39 (by decide) ?_
      refine s_iadd dX8_body_40 ?_
      refine t_putI dX8_body_41 fl_X8_327 rfl (by decide) rfl rfl rfl rfl ?_
      refine s_aload_n dX8_body_44 rfl rfl ?_
      refine t_getI dX8_body_45 fl_X8_327 rfl (by decide) rfl ?_
      refine s_iconst (v := 1) dX8_body_48 (by decide) ?_
      refine s_isub dX8_body_49 ?_
      exact t_iret dX8_body_50 (NR_i rfl _) h
    · replace h := h.2 c4
      refine s_bipush (v := (-3)) dX8_body_21 (by decide) ?_
      exact t_iret dX8_body_23 (NR_i rfl _) h
  · replace h := h.2 c3
    refine s_iconst (v := (-1)) dX8_body_10 (by decide) ?_
    exact t_iret dX8_body_11 (NR_i rfl _) h
theorem bX8_isUnder_0 {g : Gt} {d : Nat} {t : Tt} {Q : Option Value → Tt → Prop} {p0 : Int32} {p1 : Int32} (h : (p1 = 0 → Rt g d mX8_isUnder 56 [none, none] [] t Q) ∧ (¬ p1 = 0 → (p0 = p1 → Rt g d mX8_isUnder 56 [none, none] [] t Q) ∧ (¬ p0 = p1 → (¬ p1 = 1 → Rt g d mX8_isUnder 19 [some (.int p0), some (.int p1)] [] t Q) ∧ (p1 = 1 → (p0 = 4 → Rt g d mX8_isUnder 56 [none, none] [] t Q) ∧ (¬ p0 = 4 → Rt g d mX8_isUnder 19 [some (.int p0), some (.int p1)] [] t Q))))) : Rt g d mX8_isUnder 0 [some (.int p0), some (.int p1)] [] t Q := by
  refine s_iload_n dX8_isUnder_0 rfl rfl ?_
  refine s_if_eq (tgt := 56) dX8_isUnder_1 (by decide) (fun c1 => ?_) (fun c1 => ?_)
  · replace h := h.1 c1
    exact Rt.lc h (lc_none (lc_none lc_nil))
  · replace h := h.2 c1
    refine s_iload_n dX8_isUnder_4 rfl rfl ?_
    refine s_iload_n dX8_isUnder_5 rfl rfl ?_
    refine s_icmp_eq (tgt := 56) dX8_isUnder_6 (by decide) (fun c2 => ?_) (fun c2 => ?_)
    · replace h := h.1 c2
      exact Rt.lc h (lc_none (lc_none lc_nil))
    · replace h := h.2 c2
      refine s_iload_n dX8_isUnder_9 rfl rfl ?_
      refine s_iconst (v := 1) dX8_isUnder_10 (by decide) ?_
      refine s_icmp_ne (tgt := 19) dX8_isUnder_11 (by decide) (fun c3 => ?_) (fun c3 => ?_)
      · replace h := h.1 c3
        exact h
      · replace h := h.2 c3
        refine s_iload_n dX8_isUnder_14 rfl rfl ?_
        refine s_iconst (v := 4) dX8_isUnder_15 (by decide) ?_
        refine s_icmp_eq (tgt := 56) dX8_isUnder_16 (by decide) (fun c4 => ?_) (fun c4 => ?_)
        · replace h := h.1 c4
          exact Rt.lc h (lc_none (lc_none lc_nil))
        · replace h := h.2 c4
          exact h
theorem bX8_isUnder_56 {g : Gt} {d : Nat} {t : Tt} {Q : Option Value → Tt → Prop} (h : Q (some (.int 1)) t) : Rt g d mX8_isUnder 56 [none, none] [] t Q := by
  refine s_iconst (v := 1) dX8_isUnder_56 (by decide) ?_
  refine s_goto (tgt := 61) dX8_isUnder_57 (by decide) ?_
  exact t_iret dX8_isUnder_61 (NR_z rfl (Or.inr rfl)) h
theorem bX8_isUnder_19 {g : Gt} {d : Nat} {t : Tt} {Q : Option Value → Tt → Prop} {x0 : Int32} {x1 : Int32} (h : (¬ x1 = 2 → Rt g d mX8_isUnder 34 [some (.int x0), some (.int x1)] [] t Q) ∧ (x1 = 2 → (x0 = 3 → Rt g d mX8_isUnder 56 [none, none] [] t Q) ∧ (¬ x0 = 3 → (x0 = 5 → Rt g d mX8_isUnder 56 [none, none] [] t Q) ∧ (¬ x0 = 5 → Rt g d mX8_isUnder 34 [some (.int x0), some (.int x1)] [] t Q)))) : Rt g d mX8_isUnder 19 [some (.int x0), some (.int x1)] [] t Q := by
  refine s_iload_n dX8_isUnder_19 rfl rfl ?_
  refine s_iconst (v := 2) dX8_isUnder_20 (by decide) ?_
  refine s_icmp_ne (tgt := 34) dX8_isUnder_21 (by decide) (fun c1 => ?_) (fun c1 => ?_)
  · replace h := h.1 c1
    exact h
  · replace h := h.2 c1
    refine s_iload_n dX8_isUnder_24 rfl rfl ?_
    refine s_iconst (v := 3) dX8_isUnder_25 (by decide) ?_
    refine s_icmp_eq (tgt := 56) dX8_isUnder_26 (by decide) (fun c2 => ?_) (fun c2 => ?_)
    · replace h := h.1 c2
      exact Rt.lc h (lc_none (lc_none lc_nil))
    · replace h := h.2 c2
      refine s_iload_n dX8_isUnder_29 rfl rfl ?_
      refine s_iconst (v := 5) dX8_isUnder_30 (by decide) ?_
      refine s_icmp_eq (tgt := 56) dX8_isUnder_31 (by decide) (fun c3 => ?_) (fun c3 => ?_)
      · replace h := h.1 c3
        exact Rt.lc h (lc_none (lc_none lc_nil))
      · replace h := h.2 c3
        exact h
theorem bX8_isUnder_34 {g : Gt} {d : Nat} {t : Tt} {Q : Option Value → Tt → Prop} {x0 : Int32} {x1 : Int32} (h : (¬ x1 = 3 → Rt g d mX8_isUnder 44 [some (.int x0), some (.int x1)] [] t Q) ∧ (x1 = 3 → (x0 = 5 → Rt g d mX8_isUnder 56 [none, none] [] t Q) ∧ (¬ x0 = 5 → Rt g d mX8_isUnder 44 [some (.int x0), some (.int x1)] [] t Q))) : Rt g d mX8_isUnder 34 [some (.int x0), some (.int x1)] [] t Q := by
  refine s_iload_n dX8_isUnder_34 rfl rfl ?_
  refine s_iconst (v := 3) dX8_isUnder_35 (by decide) ?_
  refine s_icmp_ne (tgt := 44) dX8_isUnder_36 (by decide) (fun c1 => ?_) (fun c1 => ?_)
  · replace h := h.1 c1
    exact h
  · replace h := h.2 c1
    refine s_iload_n dX8_isUnder_39 rfl rfl ?_
    refine s_iconst (v := 5) dX8_isUnder_40 (by decide) ?_
    refine s_icmp_eq (tgt := 56) dX8_isUnder_41 (by decide) (fun c2 => ?_) (fun c2 => ?_)
    · replace h := h.1 c2
      exact Rt.lc h (lc_none (lc_none lc_nil))
    · replace h := h.2 c2
      exact h
theorem bX8_isUnder_44 {g : Gt} {d : Nat} {t : Tt} {Q : Option Value → Tt → Prop} {x0 : Int32} {x1 : Int32} (h : (¬ x1 = 6 → Q (some (.int 0)) t) ∧ (x1 = 6 → (¬ x0 = 7 → Q (some (.int 0)) t) ∧ (x0 = 7 → Rt g d mX8_isUnder 56 [none, none] [] t Q))) : Rt g d mX8_isUnder 44 [some (.int x0), some (.int x1)] [] t Q := by
  refine s_iload_n dX8_isUnder_44 rfl rfl ?_
  refine s_bipush (v := 6) dX8_isUnder_45 (by decide) ?_
  refine s_icmp_ne (tgt := 60) dX8_isUnder_47 (by decide) (fun c1 => ?_) (fun c1 => ?_)
  · replace h := h.1 c1
    refine s_iconst (v := 0) dX8_isUnder_60 (by decide) ?_
    exact t_iret dX8_isUnder_61 (NR_z rfl (Or.inl rfl)) h
  · replace h := h.2 c1
    refine s_iload_n dX8_isUnder_50 rfl rfl ?_
    refine s_bipush (v := 7) dX8_isUnder_51 (by decide) ?_
    refine s_icmp_ne (tgt := 60) dX8_isUnder_53 (by decide) (fun c2 => ?_) (fun c2 => ?_)
    · replace h := h.1 c2
      refine s_iconst (v := 0) dX8_isUnder_60 (by decide) ?_
      exact t_iret dX8_isUnder_61 (NR_z rfl (Or.inl rfl)) h
    · replace h := h.2 c2
      exact Rt.lc h (lc_none (lc_none lc_nil))
theorem bX8_plainBites_0 {g : Gt} {d : Nat} {t : Tt} {Q : Option Value → Tt → Prop} {p0 : Int32} {p1 : Int32} (h : Rt g d mX8_ran 0 [some (.ref 57), some (.int 1)] [] t (QV (fun t1 => Q (some (.int (p1 + p0))) t1))) : Rt g (d + 1) mX8_plainBites 0 [some (.ref 57), some (.int p0), some (.int p1)] [] t Q := by
  refine s_aload_n dX8_plainBites_0 rfl rfl ?_
  refine s_iconst (v := 1) dX8_plainBites_1 (by decide) ?_
  refine t_callV (M' := mX8_ran) (k := 0) (As := [.int 1]) (rest := []) dX8_plainBites_2 ml_X8_333 miX8_ran msX8_ran rfl (by decide) rfl rfl (Nat.le_of_ble_eq_true rfl) (Nat.le_of_ble_eq_true rfl) rfl h (fun rv t1 q => ?_)
  obtain ⟨rfl, h⟩ := q
  show Rt g (d + 1) mX8_plainBites 5 [some (.ref 57), some (.int p0), some (.int p1)] [] t1 Q
  refine s_iload_n dX8_plainBites_5 rfl rfl ?_
  refine s_iload_n dX8_plainBites_6 rfl rfl ?_
  refine s_iadd dX8_plainBites_7 ?_
  exact t_iret dX8_plainBites_8 (NR_i rfl _) h
theorem bX8_mirrorBites_0 {g : Gt} {d : Nat} {t : Tt} {Q : Option Value → Tt → Prop} {p0 : Int32} {p1 : Int32} (h : Rt g d mX8_ran 0 [some (.ref 57), some (.int 70)] [] t (QV (fun t1 => Rt g d mX8_plainBites 0 [some (.ref 57), some (.int p0), some (.int p1)] [] t1 (QI (fun v3 t2 => Q (some (.int (v3 * 2))) t2))))) : Rt g (d + 1) mX8_mirrorBites 0 [some (.ref 57), some (.int p0), some (.int p1)] [] t Q := by
  refine s_aload_n dX8_mirrorBites_0 rfl rfl ?_
  refine s_bipush (v := 70) dX8_mirrorBites_1 (by decide) ?_
  refine t_callV (M' := mX8_ran) (k := 0) (As := [.int 70]) (rest := []) dX8_mirrorBites_3 ml_X8_333 miX8_ran msX8_ran rfl (by decide) rfl rfl (Nat.le_of_ble_eq_true rfl) (Nat.le_of_ble_eq_true rfl) rfl h (fun rv t1 q => ?_)
  obtain ⟨rfl, h⟩ := q
  show Rt g (d + 1) mX8_mirrorBites 6 [some (.ref 57), some (.int p0), some (.int p1)] [] t1 Q
  refine s_aload_n dX8_mirrorBites_6 rfl rfl ?_
  refine s_iload_n dX8_mirrorBites_7 rfl rfl ?_
  refine s_iload_n dX8_mirrorBites_8 rfl rfl ?_
  refine t_callV (M' := mX8_plainBites) (k := 0) (As := [.int p0, .int p1]) (rest := []) dX8_mirrorBites_9 ml_X8_336 miX8_plainBites msX8_plainBites rfl (by decide) rfl rfl (Nat.le_of_ble_eq_true rfl) (Nat.le_of_ble_eq_true rfl) rfl h (fun rv t2 q => ?_)
  obtain ⟨v3, rfl, h⟩ := q
  show Rt g (d + 1) mX8_mirrorBites 12 [some (.ref 57), some (.int p0), some (.int p1)] [.int v3] t2 Q
  refine s_iconst (v := 2) dX8_mirrorBites_12 (by decide) ?_
  refine s_imul dX8_mirrorBites_13 ?_
  exact t_iret dX8_mirrorBites_14 (NR_i rfl _) h
theorem bX8_biting_0 {g : Gt} {d : Nat} {t : Tt} {Q : Option Value → Tt → Prop} {p0 : Int32} {p1 : Int32} (h : vp_in p0 50 ∧ (Rt g d mX8_isUnder 0 [some (.int (t.1 87 p0.toNatClampNeg)), some (.int 1)] [] t (QI (fun v3 t2 => (v3 = 0 → vp_in p0 50 ∧ ((¬ (t2.1 87 p0.toNatClampNeg) = 7 → vp_in p0 50 ∧ ((¬ (t2.1 87 p0.toNatClampNeg) = 6 → Rt g d mX8_plainBites 0 [some (.ref 57), some (.int p0), some (.int p1)] [] t2 (QI (fun v10 t9 => Q (some (.int v10)) t9))) ∧ ((t2.1 87 p0.toNatClampNeg) = 6 → Rt g d mX8_mirrorBites 0 [some (.ref 57), some (.int p0), some (.int p1)] [] t2 (QI (fun v12 t11 => Q (some (.int v12)) t11))))) ∧ ((t2.1 87 p0.toNatClampNeg) = 7 → Rt g d mX8_ran 0 [some (.ref 57), some (.int 81)] [] t2 (QV (fun t13 => Rt g d mX8_mirrorBites 0 [some (.ref 57), some (.int p0), some (.int p1)] [] t13 (QI (fun v15 t14 => Q (some (.int (v15 - 1))) t14))))))) ∧ (¬ v3 = 0 → Rt g d mX8_ran 0 [some (.ref 57), some (.int 20)] [] t2 (QV (fun t16 => Rt g d mX8_plainBites 0 [some (.ref 57), some (.int p0), some (.int p1)] [] t16 (QI (fun v18 t17 => Q (some (.int (v18 + 3))) t17))))))))) : Rt g (d + 1) mX8_biting 0 [some (.ref 57), some (.int p0), some (.int p1)] [] t Q := by
  refine s_aload_n dX8_biting_0 rfl rfl ?_
  refine t_getR (o' := 87) dX8_biting_1 fl_X8_103 rfl (by decide) rfl rfl ?_
  refine s_iload_n dX8_biting_4 rfl rfl ?_
  obtain ⟨g1, h⟩ := h
  refine t_iald dX8_biting_5 rfl (by decide) g1 ?_
  refine s_iconst (v := 1) dX8_biting_6 (by decide) ?_
  refine t_callS (M' := mX8_isUnder) (k := 0) (As := [.int (t.1 87 p0.toNatClampNeg), .int 1]) (rest := []) dX8_biting_7 ml_X8_339 mstX8_isUnder rfl (Nat.le_of_ble_eq_true rfl) (Nat.le_of_ble_eq_true rfl) rfl h (fun rv t2 q => ?_)
  obtain ⟨v3, rfl, h⟩ := q
  show Rt g (d + 1) mX8_biting 10 [some (.ref 57), some (.int p0), some (.int p1)] [.int v3] t2 Q
  refine s_if_eq (tgt := 28) dX8_biting_10 (by decide) (fun c4 => ?_) (fun c4 => ?_)
  · replace h := h.1 c4
    refine s_aload_n dX8_biting_28 rfl rfl ?_
    refine t_getR (o' := 87) dX8_biting_29 fl_X8_103 rfl (by decide) rfl rfl ?_
    refine s_iload_n dX8_biting_32 rfl rfl ?_
    obtain ⟨g5, h⟩ := h
    refine t_iald dX8_biting_33 rfl (by decide) g5 ?_
    refine s_bipush (v := 7) dX8_biting_34 (by decide) ?_
    refine s_icmp_ne (tgt := 54) dX8_biting_36 (by decide) (fun c6 => ?_) (fun c6 => ?_)
    · replace h := h.1 c6
      refine s_aload_n dX8_biting_54 rfl rfl ?_
      refine t_getR (o' := 87) dX8_biting_55 fl_X8_103 rfl (by decide) rfl rfl ?_
      refine s_iload_n dX8_biting_58 rfl rfl ?_
      obtain ⟨g7, h⟩ := h
      refine t_iald dX8_biting_59 rfl (by decide) g7 ?_
      refine s_bipush (v := 6) dX8_biting_60 (by decide) ?_
      refine s_icmp_ne (tgt := 74) dX8_biting_62 (by decide) (fun c8 => ?_) (fun c8 => ?_)
      · replace h := h.1 c8
        refine s_aload_n dX8_biting_74 rfl rfl ?_
        refine s_iload_n dX8_biting_75 rfl rfl ?_
        refine s_iload_n dX8_biting_76 rfl rfl ?_
        refine t_callV (M' := mX8_plainBites) (k := 0) (As := [.int p0, .int p1]) (rest := []) dX8_biting_77 ml_X8_336 miX8_plainBites msX8_plainBites rfl (by decide) rfl rfl (Nat.le_of_ble_eq_true rfl) (Nat.le_of_ble_eq_true rfl) rfl h (fun rv t9 q => ?_)
        obtain ⟨v10, rfl, h⟩ := q
        show Rt g (d + 1) mX8_biting 80 [some (.ref 57), some (.int p0), some (.int p1)] [.int v10] t9 Q
        exact t_iret dX8_biting_80 (NR_i rfl _) h
      · replace h := h.2 c8
        refine s_aload_n dX8_biting_65 rfl rfl ?_
        refine s_iload_n dX8_biting_66 rfl rfl ?_
        refine s_iload_n dX8_biting_67 rfl rfl ?_
        refine t_callV (M' := mX8_mirrorBites) (k := 0) (As := [.int p0, .int p1]) (rest := []) dX8_biting_68 ml_X8_342 miX8_mirrorBites msX8_mirrorBites rfl (by decide) rfl rfl (Nat.le_of_ble_eq_true rfl) (Nat.le_of_ble_eq_true rfl) rfl h (fun rv t11 q => ?_)
        obtain ⟨v12, rfl, h⟩ := q
        show Rt g (d + 1) mX8_biting 71 [some (.ref 57), some (.int p0), some (.int p1)] [.int v12] t11 Q
        refine s_goto (tgt := 80) dX8_biting_71 (by decide) ?_
        exact t_iret dX8_biting_80 (NR_i rfl _) h
    · replace h := h.2 c6
      refine s_aload_n dX8_biting_39 rfl rfl ?_
      refine s_bipush (v := 81) dX8_biting_40 (by decide) ?_
      refine t_callV (M' := mX8_ran) (k := 0) (As := [.int 81]) (rest := []) dX8_biting_42 ml_X8_333 miX8_ran msX8_ran rfl (by decide) rfl rfl (Nat.le_of_ble_eq_true rfl) (Nat.le_of_ble_eq_true rfl) rfl h (fun rv t13 q => ?_)
      obtain ⟨rfl, h⟩ := q
      show Rt g (d + 1) mX8_biting 45 [some (.ref 57), some (.int p0), some (.int p1)] [] t13 Q
      refine s_aload_n dX8_biting_45 rfl rfl ?_
      refine s_iload_n dX8_biting_46 rfl rfl ?_
      refine s_iload_n dX8_biting_47 rfl rfl ?_
      refine t_callV (M' := mX8_mirrorBites) (k := 0) (As := [.int p0, .int p1]) (rest := []) dX8_biting_48 ml_X8_342 miX8_mirrorBites msX8_mirrorBites rfl (by decide) rfl rfl (Nat.le_of_ble_eq_true rfl) (Nat.le_of_ble_eq_true rfl) rfl h (fun rv t14 q => ?_)
      obtain ⟨v15, rfl, h⟩ := q
      show Rt g (d + 1) mX8_biting 51 [some (.ref 57), some (.int p0), some (.int p1)] [.int v15] t14 Q
      refine s_iconst (v := 1) dX8_biting_51 (by decide) ?_
      refine s_isub dX8_biting_52 ?_
      exact t_iret dX8_biting_53 (NR_i rfl _) h
  · replace h := h.2 c4
    refine s_aload_n dX8_biting_13 rfl rfl ?_
    refine s_bipush (v := 20) dX8_biting_14 (by decide) ?_
    refine t_callV (M' := mX8_ran) (k := 0) (As := [.int 20]) (rest := []) dX8_biting_16 ml_X8_333 miX8_ran msX8_ran rfl (by decide) rfl rfl (Nat.le_of_ble_eq_true rfl) (Nat.le_of_ble_eq_true rfl) rfl h (fun rv t16 q => ?_)
    obtain ⟨rfl, h⟩ := q
    show Rt g (d + 1) mX8_biting 19 [some (.ref 57), some (.int p0), some (.int p1)] [] t16 Q
    refine s_aload_n dX8_biting_19 rfl rfl ?_
    refine s_iload_n dX8_biting_20 rfl rfl ?_
    refine s_iload_n dX8_biting_21 rfl rfl ?_
    refine t_callV (M' := mX8_plainBites) (k := 0) (As := [.int p0, .int p1]) (rest := []) dX8_biting_22 ml_X8_336 miX8_plainBites msX8_plainBites rfl (by decide) rfl rfl (Nat.le_of_ble_eq_true rfl) (Nat.le_of_ble_eq_true rfl) rfl h (fun rv t17 q => ?_)
    obtain ⟨v18, rfl, h⟩ := q
    show Rt g (d + 1) mX8_biting 25 [some (.ref 57), some (.int p0), some (.int p1)] [.int v18] t17 Q
    refine s_iconst (v := 3) dX8_biting_25 (by decide) ?_
    refine s_iadd dX8_biting_26 ?_
    exact t_iret dX8_biting_27 (NR_i rfl _) h
theorem bX8_plainLies_0 {g : Gt} {d : Nat} {t : Tt} {Q : Option Value → Tt → Prop} {p0 : Int32} {p1 : Int32} (h : Rt g d mX8_ran 0 [some (.ref 57), some (.int 10)] [] t (QV (fun t1 => Rt g d mX8_biting 0 [some (.ref 57), some (.int p0), some (.int p1)] [] t1 (QI (fun v3 t2 => Q (some (.int (v3 * 2))) t2))))) : Rt g (d + 1) mX8_plainLies 0 [some (.ref 57), some (.int p0), some (.int p1)] [] t Q := by
  refine s_aload_n dX8_plainLies_0 rfl rfl ?_
  refine s_bipush (v := 10) dX8_plainLies_1 (by decide) ?_
  refine t_callV (M' := mX8_ran) (k := 0) (As := [.int 10]) (rest := []) dX8_plainLies_3 ml_X8_333 miX8_ran msX8_ran rfl (by decide) rfl rfl (Nat.le_of_ble_eq_true rfl) (Nat.le_of_ble_eq_true rfl) rfl h (fun rv t1 q => ?_)
  obtain ⟨rfl, h⟩ := q
  show Rt g (d + 1) mX8_plainLies 6 [some (.ref 57), some (.int p0), some (.int p1)] [] t1 Q
  refine s_aload_n dX8_plainLies_6 rfl rfl ?_
  refine s_iload_n dX8_plainLies_7 rfl rfl ?_
  refine s_iload_n dX8_plainLies_8 rfl rfl ?_
  refine t_callV (M' := mX8_biting) (k := 0) (As := [.int p0, .int p1]) (rest := []) dX8_plainLies_9 ml_X8_345 miX8_biting msX8_biting rfl (by decide) rfl rfl (Nat.le_of_ble_eq_true rfl) (Nat.le_of_ble_eq_true rfl) rfl h (fun rv t2 q => ?_)
  obtain ⟨v3, rfl, h⟩ := q
  show Rt g (d + 1) mX8_plainLies 12 [some (.ref 57), some (.int p0), some (.int p1)] [.int v3] t2 Q
  refine s_iconst (v := 2) dX8_plainLies_12 (by decide) ?_
  refine s_imul dX8_plainLies_13 ?_
  exact t_iret dX8_plainLies_14 (NR_i rfl _) h
theorem bX8_stumpLies_0 {g : Gt} {d : Nat} {t : Tt} {Q : Option Value → Tt → Prop} {p0 : Int32} {p1 : Int32} (h : Rt g d mX8_ran 0 [some (.ref 57), some (.int 30)] [] t (QV (fun t1 => Rt g d mX8_plainLies 0 [some (.ref 57), some (.int p0), some (.int p1)] [] t1 (QI (fun v3 t2 => Q (some (.int (-v3))) t2))))) : Rt g (d + 1) mX8_stumpLies 0 [some (.ref 57), some (.int p0), some (.int p1)] [] t Q := by
  refine s_aload_n dX8_stumpLies_0 rfl rfl ?_
  refine s_bipush (v := 30) dX8_stumpLies_1 (by decide) ?_
  refine t_callV (M' := mX8_ran) (k := 0) (As := [.int 30]) (rest := []) dX8_stumpLies_3 ml_X8_333 miX8_ran msX8_ran rfl (by decide) rfl rfl (Nat.le_of_ble_eq_true rfl) (Nat.le_of_ble_eq_true rfl) rfl h (fun rv t1 q => ?_)
  obtain ⟨rfl, h⟩ := q
  show Rt g (d + 1) mX8_stumpLies 6 [some (.ref 57), some (.int p0), some (.int p1)] [] t1 Q
  refine s_aload_n dX8_stumpLies_6 rfl rfl ?_
  refine s_iload_n dX8_stumpLies_7 rfl rfl ?_
  refine s_iload_n dX8_stumpLies_8 rfl rfl ?_
  refine t_callV (M' := mX8_plainLies) (k := 0) (As := [.int p0, .int p1]) (rest := []) dX8_stumpLies_9 ml_X8_348 miX8_plainLies msX8_plainLies rfl (by decide) rfl rfl (Nat.le_of_ble_eq_true rfl) (Nat.le_of_ble_eq_true rfl) rfl h (fun rv t2 q => ?_)
  obtain ⟨v3, rfl, h⟩ := q
  show Rt g (d + 1) mX8_stumpLies 12 [some (.ref 57), some (.int p0), some (.int p1)] [.int v3] t2 Q
  refine s_ineg dX8_stumpLies_12 ?_
  exact t_iret dX8_stumpLies_13 (NR_i rfl _) h
theorem bX8_lying_0 {g : Gt} {d : Nat} {t : Tt} {Q : Option Value → Tt → Prop} {p0 : Int32} {p1 : Int32} (h : vp_in p0 50 ∧ (Rt g d mX8_isUnder 0 [some (.int (t.1 87 p0.toNatClampNeg)), some (.int 3)] [] t (QI (fun v3 t2 => (v3 = 0 → vp_in p0 50 ∧ ((¬ (t2.1 87 p0.toNatClampNeg) = 7 → vp_in p0 50 ∧ ((¬ (t2.1 87 p0.toNatClampNeg) = 2 → Rt g d mX8_plainLies 0 [some (.ref 57), some (.int p0), some (.int p1)] [] t2 (QI (fun v10 t9 => Q (some (.int v10)) t9))) ∧ ((t2.1 87 p0.toNatClampNeg) = 2 → Rt g d mX8_stumpLies 0 [some (.ref 57), some (.int p0), some (.int p1)] [] t2 (QI (fun v12 t11 => Q (some (.int v12)) t11))))) ∧ ((t2.1 87 p0.toNatClampNeg) = 7 → Rt g d mX8_ran 0 [some (.ref 57), some (.int 80)] [] t2 (QV (fun t13 => Rt g d mX8_plainLies 0 [some (.ref 57), some (.int p0), some (.int p1)] [] t13 (QI (fun v15 t14 => Rt g d mX8_grinning 0 [some (.ref 57), some (.int p0), some (.int 2), none] [] t14 (QI (fun v17 t16 => Q (some (.int (v15 + v17))) t16))))))))) ∧ (¬ v3 = 0 → Rt g d mX8_ran 0 [some (.ref 57), some (.int 41)] [] t2 (QV (fun t18 => Rt g d mX8_stumpLies 0 [some (.ref 57), some (.int p0), some (.int (p1 + 1))] [] t18 (QI (fun v20 t19 => Q (some (.int v20)) t19))))))))) : Rt g (d + 1) mX8_lying 0 [some (.ref 57), some (.int p0), some (.int p1), none] [] t Q := by
  refine s_aload_n dX8_lying_0 rfl rfl ?_
  refine t_getR (o' := 87) dX8_lying_1 fl_X8_103 rfl (by decide) rfl rfl ?_
  refine s_iload_n dX8_lying_4 rfl rfl ?_
  obtain ⟨g1, h⟩ := h
  refine t_iald dX8_lying_5 rfl (by decide) g1 ?_
  refine s_iconst (v := 3) dX8_lying_6 (by decide) ?_
  refine t_callS (M' := mX8_isUnder) (k := 0) (As := [.int (t.1 87 p0.toNatClampNeg), .int 3]) (rest := []) dX8_lying_7 ml_X8_339 mstX8_isUnder rfl (Nat.le_of_ble_eq_true rfl) (Nat.le_of_ble_eq_true rfl) rfl h (fun rv t2 q => ?_)
  obtain ⟨v3, rfl, h⟩ := q
  show Rt g (d + 1) mX8_lying 10 [some (.ref 57), some (.int p0), some (.int p1), none] [.int v3] t2 Q
  refine s_if_eq (tgt := 28) dX8_lying_10 (by decide) (fun c4 => ?_) (fun c4 => ?_)
  · replace h := h.1 c4
    refine s_aload_n dX8_lying_28 rfl rfl ?_
    refine t_getR (o' := 87) dX8_lying_29 fl_X8_103 rfl (by decide) rfl rfl ?_
    refine s_iload_n dX8_lying_32 rfl rfl ?_
    obtain ⟨g5, h⟩ := h
    refine t_iald dX8_lying_33 rfl (by decide) g5 ?_
    refine s_bipush (v := 7) dX8_lying_34 (by decide) ?_
    refine s_icmp_ne (tgt := 61) dX8_lying_36 (by decide) (fun c6 => ?_) (fun c6 => ?_)
    · replace h := h.1 c6
      refine s_aload_n dX8_lying_61 rfl rfl ?_
      refine t_getR (o' := 87) dX8_lying_62 fl_X8_103 rfl (by decide) rfl rfl ?_
      refine s_iload_n dX8_lying_65 rfl rfl ?_
      obtain ⟨g7, h⟩ := h
      refine t_iald dX8_lying_66 rfl (by decide) g7 ?_
      refine s_iconst (v := 2) dX8_lying_67 (by decide) ?_
      refine s_icmp_ne (tgt := 80) dX8_lying_68 (by decide) (fun c8 => ?_) (fun c8 => ?_)
      · replace h := h.1 c8
        refine s_aload_n dX8_lying_80 rfl rfl ?_
        refine s_iload_n dX8_lying_81 rfl rfl ?_
        refine s_iload_n dX8_lying_82 rfl rfl ?_
        refine t_callV (M' := mX8_plainLies) (k := 0) (As := [.int p0, .int p1]) (rest := []) dX8_lying_83 ml_X8_348 miX8_plainLies msX8_plainLies rfl (by decide) rfl rfl (Nat.le_of_ble_eq_true rfl) (Nat.le_of_ble_eq_true rfl) rfl h (fun rv t9 q => ?_)
        obtain ⟨v10, rfl, h⟩ := q
        show Rt g (d + 1) mX8_lying 86 [some (.ref 57), some (.int p0), some (.int p1), none] [.int v10] t9 Q
        exact t_iret dX8_lying_86 (NR_i rfl _) h
      · replace h := h.2 c8
        refine s_aload_n dX8_lying_71 rfl rfl ?_
        refine s_iload_n dX8_lying_72 rfl rfl ?_
        refine s_iload_n dX8_lying_73 rfl rfl ?_
        refine t_callV (M' := mX8_stumpLies) (k := 0) (As := [.int p0, .int p1]) (rest := []) dX8_lying_74 ml_X8_351 miX8_stumpLies msX8_stumpLies rfl (by decide) rfl rfl (Nat.le_of_ble_eq_true rfl) (Nat.le_of_ble_eq_true rfl) rfl h (fun rv t11 q => ?_)
        obtain ⟨v12, rfl, h⟩ := q
        show Rt g (d + 1) mX8_lying 77 [some (.ref 57), some (.int p0), some (.int p1), none] [.int v12] t11 Q
        refine s_goto (tgt := 86) dX8_lying_77 (by decide) ?_
        exact t_iret dX8_lying_86 (NR_i rfl _) h
    · replace h := h.2 c6
      refine s_aload_n dX8_lying_39 rfl rfl ?_
      refine s_bipush (v := 80) dX8_lying_40 (by decide) ?_
      refine t_callV (M' := mX8_ran) (k := 0) (As := [.int 80]) (rest := []) dX8_lying_42 ml_X8_333 miX8_ran msX8_ran rfl (by decide) rfl rfl (Nat.le_of_ble_eq_true rfl) (Nat.le_of_ble_eq_true rfl) rfl h (fun rv t13 q => ?_)
      obtain ⟨rfl, h⟩ := q
      show Rt g (d + 1) mX8_lying 45 [some (.ref 57), some (.int p0), some (.int p1), none] [] t13 Q
      refine s_aload_n dX8_lying_45 rfl rfl ?_
      refine s_iload_n dX8_lying_46 rfl rfl ?_
      refine s_iload_n dX8_lying_47 rfl rfl ?_
      refine t_callV (M' := mX8_plainLies) (k := 0) (As := [.int p0, .int p1]) (rest := []) dX8_lying_48 ml_X8_348 miX8_plainLies msX8_plainLies rfl (by decide) rfl rfl (Nat.le_of_ble_eq_true rfl) (Nat.le_of_ble_eq_true rfl) rfl h (fun rv t14 q => ?_)
      obtain ⟨v15, rfl, h⟩ := q
      show Rt g (d + 1) mX8_lying 51 [some (.ref 57), some (.int p0), some (.int p1), none] [.int v15] t14 Q
      refine s_istore_n dX8_lying_51 rfl (by decide) rfl (L9 := [some (.ref 57), some (.int p0), some (.int p1), some (.int v15)]) rfl ?_
      refine s_iload_n dX8_lying_52 rfl rfl ?_
      refine s_aload_n dX8_lying_53 rfl rfl ?_
      refine s_iload_n dX8_lying_54 rfl rfl ?_
      refine s_iconst (v := 2) dX8_lying_55 (by decide) ?_
      refine t_callV (M' := mX8_grinning) (k := 1) (As := [.int p0, .int 2]) (rest := [.int v15]) dX8_lying_56 ml_X8_354 miX8_grinning msX8_grinning rfl (by decide) rfl rfl (Nat.le_of_ble_eq_true rfl) (Nat.le_of_ble_eq_true rfl) rfl h (fun rv t16 q => ?_)
      obtain ⟨v17, rfl, h⟩ := q
      show Rt g (d + 1) mX8_lying 59 [some (.ref 57), some (.int p0), some (.int p1), some (.int v15)] [.int v17, .int v15] t16 Q
      refine s_iadd dX8_lying_59 ?_
      exact t_iret dX8_lying_60 (NR_i rfl _) h
  · replace h := h.2 c4
    refine s_aload_n dX8_lying_13 rfl rfl ?_
    refine s_bipush (v := 41) dX8_lying_14 (by decide) ?_
    refine t_callV (M' := mX8_ran) (k := 0) (As := [.int 41]) (rest := []) dX8_lying_16 ml_X8_333 miX8_ran msX8_ran rfl (by decide) rfl rfl (Nat.le_of_ble_eq_true rfl) (Nat.le_of_ble_eq_true rfl) rfl h (fun rv t18 q => ?_)
    obtain ⟨rfl, h⟩ := q
    show Rt g (d + 1) mX8_lying 19 [some (.ref 57), some (.int p0), some (.int p1), none] [] t18 Q
    refine s_aload_n dX8_lying_19 rfl rfl ?_
    refine s_iload_n dX8_lying_20 rfl rfl ?_
    refine s_iload_n dX8_lying_21 rfl rfl ?_
    refine s_iconst (v := 1) dX8_lying_22 (by decide) ?_
    refine s_iadd dX8_lying_23 ?_
    refine t_callV (M' := mX8_stumpLies) (k := 0) (As := [.int p0, .int (p1 + 1)]) (rest := []) dX8_lying_24 ml_X8_351 miX8_stumpLies msX8_stumpLies rfl (by decide) rfl rfl (Nat.le_of_ble_eq_true rfl) (Nat.le_of_ble_eq_true rfl) rfl h (fun rv t19 q => ?_)
    obtain ⟨v20, rfl, h⟩ := q
    show Rt g (d + 1) mX8_lying 27 [some (.ref 57), some (.int p0), some (.int p1), none] [.int v20] t19 Q
    exact t_iret dX8_lying_27 (NR_i rfl _) h
theorem bX8_plainGrins_0 {g : Gt} {d : Nat} {t : Tt} {Q : Option Value → Tt → Prop} {p0 : Int32} {p1 : Int32} (h : Rt g d mX8_ran 0 [some (.ref 57), some (.int 11)] [] t (QV (fun t1 => Q (some (.int (p1 ^^^ p0))) t1))) : Rt g (d + 1) mX8_plainGrins 0 [some (.ref 57), some (.int p0), some (.int p1)] [] t Q := by
  refine s_aload_n dX8_plainGrins_0 rfl rfl ?_
  refine s_bipush (v := 11) dX8_plainGrins_1 (by decide) ?_
  refine t_callV (M' := mX8_ran) (k := 0) (As := [.int 11]) (rest := []) dX8_plainGrins_3 ml_X8_333 miX8_ran msX8_ran rfl (by decide) rfl rfl (Nat.le_of_ble_eq_true rfl) (Nat.le_of_ble_eq_true rfl) rfl h (fun rv t1 q => ?_)
  obtain ⟨rfl, h⟩ := q
  show Rt g (d + 1) mX8_plainGrins 6 [some (.ref 57), some (.int p0), some (.int p1)] [] t1 Q
  refine s_iload_n dX8_plainGrins_6 rfl rfl ?_
  refine s_iload_n dX8_plainGrins_7 rfl rfl ?_
  refine s_ixor dX8_plainGrins_8 ?_
  exact t_iret dX8_plainGrins_9 (NR_i rfl _) h
theorem bX8_capGrins_0 {g : Gt} {d : Nat} {t : Tt} {Q : Option Value → Tt → Prop} {p0 : Int32} {p1 : Int32} (h : Rt g d mX8_ran 0 [some (.ref 57), some (.int 40)] [] t (QV (fun t1 => Rt g d mX8_plainGrins 0 [some (.ref 57), some (.int p0), some (.int p1)] [] t1 (QI (fun v3 t2 => Q (some (.int (v3 * 3))) t2))))) : Rt g (d + 1) mX8_capGrins 0 [some (.ref 57), some (.int p0), some (.int p1)] [] t Q := by
  refine s_aload_n dX8_capGrins_0 rfl rfl ?_
  refine s_bipush (v := 40) dX8_capGrins_1 (by decide) ?_
  refine t_callV (M' := mX8_ran) (k := 0) (As := [.int 40]) (rest := []) dX8_capGrins_3 ml_X8_333 miX8_ran msX8_ran rfl (by decide) rfl rfl (Nat.le_of_ble_eq_true rfl) (Nat.le_of_ble_eq_true rfl) rfl h (fun rv t1 q => ?_)
  obtain ⟨rfl, h⟩ := q
  show Rt g (d + 1) mX8_capGrins 6 [some (.ref 57), some (.int p0), some (.int p1)] [] t1 Q
  refine s_aload_n dX8_capGrins_6 rfl rfl ?_
  refine s_iload_n dX8_capGrins_7 rfl rfl ?_
  refine s_iload_n dX8_capGrins_8 rfl rfl ?_
  refine t_callV (M' := mX8_plainGrins) (k := 0) (As := [.int p0, .int p1]) (rest := []) dX8_capGrins_9 ml_X8_357 miX8_plainGrins msX8_plainGrins rfl (by decide) rfl rfl (Nat.le_of_ble_eq_true rfl) (Nat.le_of_ble_eq_true rfl) rfl h (fun rv t2 q => ?_)
  obtain ⟨v3, rfl, h⟩ := q
  show Rt g (d + 1) mX8_capGrins 12 [some (.ref 57), some (.int p0), some (.int p1)] [.int v3] t2 Q
  refine s_iconst (v := 3) dX8_capGrins_12 (by decide) ?_
  refine s_imul dX8_capGrins_13 ?_
  exact t_iret dX8_capGrins_14 (NR_i rfl _) h
theorem bX8_grinning_0 {g : Gt} {d : Nat} {t : Tt} {Q : Option Value → Tt → Prop} {p0 : Int32} {p1 : Int32} (h : vp_in p0 50 ∧ ((¬ (t.1 87 p0.toNatClampNeg) = 5 → vp_in p0 50 ∧ ((¬ (t.1 87 p0.toNatClampNeg) = 3 → Rt g d mX8_plainGrins 0 [some (.ref 57), some (.int p0), some (.int p1)] [] t (QI (fun v6 t5 => Q (some (.int v6)) t5))) ∧ ((t.1 87 p0.toNatClampNeg) = 3 → Rt g d mX8_capGrins 0 [some (.ref 57), some (.int p0), some (.int p1)] [] t (QI (fun v8 t7 => Q (some (.int v8)) t7))))) ∧ ((t.1 87 p0.toNatClampNeg) = 5 → Rt g d mX8_ran 0 [some (.ref 57), some (.int 60)] [] t (QV (fun t9 => Rt g d mX8_capGrins 0 [some (.ref 57), some (.int p0), some (.int p1)] [] t9 (QI (fun v11 t10 => Rt g d mX8_biting 0 [some (.ref 57), some (.int p0), some (.int 2)] [] t10 (QI (fun v13 t12 => Q (some (.int (v11 - v13))) t12))))))))) : Rt g (d + 1) mX8_grinning 0 [some (.ref 57), some (.int p0), some (.int p1), none] [] t Q := by
  refine s_aload_n dX8_grinning_0 rfl rfl ?_
  refine t_getR (o' := 87) dX8_grinning_1 fl_X8_103 rfl (by decide) rfl rfl ?_
  refine s_iload_n dX8_grinning_4 rfl rfl ?_
  obtain ⟨g1, h⟩ := h
  refine t_iald dX8_grinning_5 rfl (by decide) g1 ?_
  refine s_iconst (v := 5) dX8_grinning_6 (by decide) ?_
  refine s_icmp_ne (tgt := 32) dX8_grinning_7 (by decide) (fun c2 => ?_) (fun c2 => ?_)
  · replace h := h.1 c2
    refine s_aload_n dX8_grinning_32 rfl rfl ?_
    refine t_getR (o' := 87) dX8_grinning_33 fl_X8_103 rfl (by decide) rfl rfl ?_
    refine s_iload_n dX8_grinning_36 rfl rfl ?_
    obtain ⟨g3, h⟩ := h
    refine t_iald dX8_grinning_37 rfl (by decide) g3 ?_
    refine s_iconst (v := 3) dX8_grinning_38 (by decide) ?_
    refine s_icmp_ne (tgt := 51) dX8_grinning_39 (by decide) (fun c4 => ?_) (fun c4 => ?_)
    · replace h := h.1 c4
      refine s_aload_n dX8_grinning_51 rfl rfl ?_
      refine s_iload_n dX8_grinning_52 rfl rfl ?_
      refine s_iload_n dX8_grinning_53 rfl rfl ?_
      refine t_callV (M' := mX8_plainGrins) (k := 0) (As := [.int p0, .int p1]) (rest := []) dX8_grinning_54 ml_X8_357 miX8_plainGrins msX8_plainGrins rfl (by decide) rfl rfl (Nat.le_of_ble_eq_true rfl) (Nat.le_of_ble_eq_true rfl) rfl h (fun rv t5 q => ?_)
      obtain ⟨v6, rfl, h⟩ := q
      show Rt g (d + 1) mX8_grinning 57 [some (.ref 57), some (.int p0), some (.int p1), none] [.int v6] t5 Q
      exact t_iret dX8_grinning_57 (NR_i rfl _) h
    · replace h := h.2 c4
      refine s_aload_n dX8_grinning_42 rfl rfl ?_
      refine s_iload_n dX8_grinning_43 rfl rfl ?_
      refine s_iload_n dX8_grinning_44 rfl rfl ?_
      refine t_callV (M' := mX8_capGrins) (k := 0) (As := [.int p0, .int p1]) (rest := []) dX8_grinning_45 ml_X8_360 miX8_capGrins msX8_capGrins rfl (by decide) rfl rfl (Nat.le_of_ble_eq_true rfl) (Nat.le_of_ble_eq_true rfl) rfl h (fun rv t7 q => ?_)
      obtain ⟨v8, rfl, h⟩ := q
      show Rt g (d + 1) mX8_grinning 48 [some (.ref 57), some (.int p0), some (.int p1), none] [.int v8] t7 Q
      refine s_goto (tgt := 57) dX8_grinning_48 (by decide) ?_
      exact t_iret dX8_grinning_57 (NR_i rfl _) h
  · replace h := h.2 c2
    refine s_aload_n dX8_grinning_10 rfl rfl ?_
    refine s_bipush (v := 60) dX8_grinning_11 (by decide) ?_
    refine t_callV (M' := mX8_ran) (k := 0) (As := [.int 60]) (rest := []) dX8_grinning_13 ml_X8_333 miX8_ran msX8_ran rfl (by decide) rfl rfl (Nat.le_of_ble_eq_true rfl) (Nat.le_of_ble_eq_true rfl) rfl h (fun rv t9 q => ?_)
    obtain ⟨rfl, h⟩ := q
    show Rt g (d + 1) mX8_grinning 16 [some (.ref 57), some (.int p0), some (.int p1), none] [] t9 Q
    refine s_aload_n dX8_grinning_16 rfl rfl ?_
    refine s_iload_n dX8_grinning_17 rfl rfl ?_
    refine s_iload_n dX8_grinning_18 rfl rfl ?_
    refine t_callV (M' := mX8_capGrins) (k := 0) (As := [.int p0, .int p1]) (rest := []) dX8_grinning_19 ml_X8_360 miX8_capGrins msX8_capGrins rfl (by decide) rfl rfl (Nat.le_of_ble_eq_true rfl) (Nat.le_of_ble_eq_true rfl) rfl h (fun rv t10 q => ?_)
    obtain ⟨v11, rfl, h⟩ := q
    show Rt g (d + 1) mX8_grinning 22 [some (.ref 57), some (.int p0), some (.int p1), none] [.int v11] t10 Q
    refine s_istore_n dX8_grinning_22 rfl (by decide) rfl (L9 := [some (.ref 57), some (.int p0), some (.int p1), some (.int v11)]) rfl ?_
    refine s_iload_n dX8_grinning_23 rfl rfl ?_
    refine s_aload_n dX8_grinning_24 rfl rfl ?_
    refine s_iload_n dX8_grinning_25 rfl rfl ?_
    refine s_iconst (v := 2) dX8_grinning_26 (by decide) ?_
    refine t_callV (M' := mX8_biting) (k := 0) (As := [.int p0, .int 2]) (rest := [.int v11]) dX8_grinning_27 ml_X8_345 miX8_biting msX8_biting rfl (by decide) rfl rfl (Nat.le_of_ble_eq_true rfl) (Nat.le_of_ble_eq_true rfl) rfl h (fun rv t12 q => ?_)
    obtain ⟨v13, rfl, h⟩ := q
    show Rt g (d + 1) mX8_grinning 30 [some (.ref 57), some (.int p0), some (.int p1), some (.int v11)] [.int v13, .int v11] t12 Q
    refine s_isub dX8_grinning_30 ?_
    exact t_iret dX8_grinning_31 (NR_i rfl _) h
theorem bX8_plainTells_0 {g : Gt} {d : Nat} {t : Tt} {Q : Option Value → Tt → Prop} {p0 : Int32} {p1 : Int32} (h : Rt g d mX8_ran 0 [some (.ref 57), some (.int 2)] [] t (QV (fun t1 => Rt g d mX8_lying 0 [some (.ref 57), some (.int p0), some (.int p1), none] [] t1 (QI (fun v3 t2 => Rt g d mX8_grinning 0 [some (.ref 57), some (.int p0), some (.int 1), none] [] t2 (QI (fun v5 t4 => Q (some (.int (v3 - v5))) t4))))))) : Rt g (d + 1) mX8_plainTells 0 [some (.ref 57), some (.int p0), some (.int p1), none] [] t Q := by
  refine s_aload_n dX8_plainTells_0 rfl rfl ?_
  refine s_iconst (v := 2) dX8_plainTells_1 (by decide) ?_
  refine t_callV (M' := mX8_ran) (k := 0) (As := [.int 2]) (rest := []) dX8_plainTells_2 ml_X8_333 miX8_ran msX8_ran rfl (by decide) rfl rfl (Nat.le_of_ble_eq_true rfl) (Nat.le_of_ble_eq_true rfl) rfl h (fun rv t1 q => ?_)
  obtain ⟨rfl, h⟩ := q
  show Rt g (d + 1) mX8_plainTells 5 [some (.ref 57), some (.int p0), some (.int p1), none] [] t1 Q
  refine s_aload_n dX8_plainTells_5 rfl rfl ?_
  refine s_iload_n dX8_plainTells_6 rfl rfl ?_
  refine s_iload_n dX8_plainTells_7 rfl rfl ?_
  refine t_callV (M' := mX8_lying) (k := 1) (As := [.int p0, .int p1]) (rest := []) dX8_plainTells_8 ml_X8_363 miX8_lying msX8_lying rfl (by decide) rfl rfl (Nat.le_of_ble_eq_true rfl) (Nat.le_of_ble_eq_true rfl) rfl h (fun rv t2 q => ?_)
  obtain ⟨v3, rfl, h⟩ := q
  show Rt g (d + 1) mX8_plainTells 11 [some (.ref 57), some (.int p0), some (.int p1), none] [.int v3] t2 Q
  refine s_istore_n dX8_plainTells_11 rfl (by decide) rfl (L9 := [some (.ref 57), some (.int p0), some (.int p1), some (.int v3)]) rfl ?_
  refine s_iload_n dX8_plainTells_12 rfl rfl ?_
  refine s_aload_n dX8_plainTells_13 rfl rfl ?_
  refine s_iload_n dX8_plainTells_14 rfl rfl ?_
  refine s_iconst (v := 1) dX8_plainTells_15 (by decide) ?_
  refine t_callV (M' := mX8_grinning) (k := 1) (As := [.int p0, .int 1]) (rest := [.int v3]) dX8_plainTells_16 ml_X8_354 miX8_grinning msX8_grinning rfl (by decide) rfl rfl (Nat.le_of_ble_eq_true rfl) (Nat.le_of_ble_eq_true rfl) rfl h (fun rv t4 q => ?_)
  obtain ⟨v5, rfl, h⟩ := q
  show Rt g (d + 1) mX8_plainTells 19 [some (.ref 57), some (.int p0), some (.int p1), some (.int v3)] [.int v5, .int v3] t4 Q
  refine s_isub dX8_plainTells_19 ?_
  exact t_iret dX8_plainTells_20 (NR_i rfl _) h
theorem bX8_telling_0 {g : Gt} {d : Nat} {t : Tt} {Q : Option Value → Tt → Prop} {p0 : Int32} {p1 : Int32} (h : vp_in p0 50 ∧ ((¬ (t.1 87 p0.toNatClampNeg) = 4 → vp_in p0 50 ∧ ((¬ (t.1 87 p0.toNatClampNeg) = 5 → Rt g d mX8_plainTells 0 [some (.ref 57), some (.int p0), some (.int p1), none] [] t (QI (fun v6 t5 => Q (some (.int v6)) t5))) ∧ ((t.1 87 p0.toNatClampNeg) = 5 → Rt g d mX8_ran 0 [some (.ref 57), some (.int 61)] [] t (QV (fun t7 => Rt g d mX8_plainTells 0 [some (.ref 57), some (.int p0), some (.int p1), none] [] t7 (QI (fun v9 t8 => Q (some (.int (v9 + 1))) t8))))))) ∧ ((t.1 87 p0.toNatClampNeg) = 4 → Rt g d mX8_ran 0 [some (.ref 57), some (.int 50)] [] t (QV (fun t10 => Rt g d mX8_plainTells 0 [some (.ref 57), some (.int p0), some (.int p1), none] [] t10 (QI (fun v12 t11 => Q (some (.int (v12 ^^^ 5))) t11))))))) : Rt g (d + 1) mX8_telling 0 [some (.ref 57), some (.int p0), some (.int p1)] [] t Q := by
  refine s_aload_n dX8_telling_0 rfl rfl ?_
  refine t_getR (o' := 87) dX8_telling_1 fl_X8_103 rfl (by decide) rfl rfl ?_
  refine s_iload_n dX8_telling_4 rfl rfl ?_
  obtain ⟨g1, h⟩ := h
  refine t_iald dX8_telling_5 rfl (by decide) g1 ?_
  refine s_iconst (v := 4) dX8_telling_6 (by decide) ?_
  refine s_icmp_ne (tgt := 25) dX8_telling_7 (by decide) (fun c2 => ?_) (fun c2 => ?_)
  · replace h := h.1 c2
    refine s_aload_n dX8_telling_25 rfl rfl ?_
    refine t_getR (o' := 87) dX8_telling_26 fl_X8_103 rfl (by decide) rfl rfl ?_
    refine s_iload_n dX8_telling_29 rfl rfl ?_
    obtain ⟨g3, h⟩ := h
    refine t_iald dX8_telling_30 rfl (by decide) g3 ?_
    refine s_iconst (v := 5) dX8_telling_31 (by decide) ?_
    refine s_icmp_ne (tgt := 50) dX8_telling_32 (by decide) (fun c4 => ?_) (fun c4 => ?_)
    · replace h := h.1 c4
      refine s_aload_n dX8_telling_50 rfl rfl ?_
      refine s_iload_n dX8_telling_51 rfl rfl ?_
      refine s_iload_n dX8_telling_52 rfl rfl ?_
      refine t_callV (M' := mX8_plainTells) (k := 1) (As := [.int p0, .int p1]) (rest := []) dX8_telling_53 ml_X8_366 miX8_plainTells msX8_plainTells rfl (by decide) rfl rfl (Nat.le_of_ble_eq_true rfl) (Nat.le_of_ble_eq_true rfl) rfl h (fun rv t5 q => ?_)
      obtain ⟨v6, rfl, h⟩ := q
      show Rt g (d + 1) mX8_telling 56 [some (.ref 57), some (.int p0), some (.int p1)] [.int v6] t5 Q
      exact t_iret dX8_telling_56 (NR_i rfl _) h
    · replace h := h.2 c4
      refine s_aload_n dX8_telling_35 rfl rfl ?_
      refine s_bipush (v := 61) dX8_telling_36 (by decide) ?_
      refine t_callV (M' := mX8_ran) (k := 0) (As := [.int 61]) (rest := []) dX8_telling_38 ml_X8_333 miX8_ran msX8_ran rfl (by decide) rfl rfl (Nat.le_of_ble_eq_true rfl) (Nat.le_of_ble_eq_true rfl) rfl h (fun rv t7 q => ?_)
      obtain ⟨rfl, h⟩ := q
      show Rt g (d + 1) mX8_telling 41 [some (.ref 57), some (.int p0), some (.int p1)] [] t7 Q
      refine s_aload_n dX8_telling_41 rfl rfl ?_
      refine s_iload_n dX8_telling_42 rfl rfl ?_
      refine s_iload_n dX8_telling_43 rfl rfl ?_
      refine t_callV (M' := mX8_plainTells) (k := 1) (As := [.int p0, .int p1]) (rest := []) dX8_telling_44 ml_X8_366 miX8_plainTells msX8_plainTells rfl (by decide) rfl rfl (Nat.le_of_ble_eq_true rfl) (Nat.le_of_ble_eq_true rfl) rfl h (fun rv t8 q => ?_)
      obtain ⟨v9, rfl, h⟩ := q
      show Rt g (d + 1) mX8_telling 47 [some (.ref 57), some (.int p0), some (.int p1)] [.int v9] t8 Q
      refine s_iconst (v := 1) dX8_telling_47 (by decide) ?_
      refine s_iadd dX8_telling_48 ?_
      exact t_iret dX8_telling_49 (NR_i rfl _) h
  · replace h := h.2 c2
    refine s_aload_n dX8_telling_10 rfl rfl ?_
    refine s_bipush (v := 50) dX8_telling_11 (by decide) ?_
    refine t_callV (M' := mX8_ran) (k := 0) (As := [.int 50]) (rest := []) dX8_telling_13 ml_X8_333 miX8_ran msX8_ran rfl (by decide) rfl rfl (Nat.le_of_ble_eq_true rfl) (Nat.le_of_ble_eq_true rfl) rfl h (fun rv t10 q => ?_)
    obtain ⟨rfl, h⟩ := q
    show Rt g (d + 1) mX8_telling 16 [some (.ref 57), some (.int p0), some (.int p1)] [] t10 Q
    refine s_aload_n dX8_telling_16 rfl rfl ?_
    refine s_iload_n dX8_telling_17 rfl rfl ?_
    refine s_iload_n dX8_telling_18 rfl rfl ?_
    refine t_callV (M' := mX8_plainTells) (k := 1) (As := [.int p0, .int p1]) (rest := []) dX8_telling_19 ml_X8_366 miX8_plainTells msX8_plainTells rfl (by decide) rfl rfl (Nat.le_of_ble_eq_true rfl) (Nat.le_of_ble_eq_true rfl) rfl h (fun rv t11 q => ?_)
    obtain ⟨v12, rfl, h⟩ := q
    show Rt g (d + 1) mX8_telling 22 [some (.ref 57), some (.int p0), some (.int p1)] [.int v12] t11 Q
    refine s_iconst (v := 5) dX8_telling_22 (by decide) ?_
    refine s_ixor dX8_telling_23 ?_
    exact t_iret dX8_telling_24 (NR_i rfl _) h
theorem bX8_act_0 {g : Gt} {d : Nat} {t : Tt} {Q : Option Value → Tt → Prop} {p0 : Int32} {p1 : Int32} {p2 : Int32} (h : Rt g d mX8_isBody 0 [some (.ref 57), some (.int p0)] [] (pI t 57 47 0) (QI (fun v2 t1 => (v2 = 0 → Q (some (.int 0)) t1) ∧ (¬ v2 = 0 → Rt g d mX8_in 0 [some (.int p1), some (.int 0), some (.int 3)] [] t1 (QI (fun v5 t4 => (¬ v5 = 0 → (¬ p1 = 0 → (¬ p1 = 1 → (¬ p1 = 2 → Rt g d mX8_telling 0 [some (.ref 57), some (.int p0), some (.int p2)] [] t4 (QI (fun v11 t10 => Q (some (.int v11)) t10))) ∧ (p1 = 2 → Rt g d mX8_grinning 0 [some (.ref 57), some (.int p0), some (.int p2), none] [] t4 (QI (fun v13 t12 => Q (some (.int v13)) t12)))) ∧ (p1 = 1 → Rt g d mX8_lying 0 [some (.ref 57), some (.int p0), some (.int p2), none] [] t4 (QI (fun v15 t14 => Q (some (.int v15)) t14)))) ∧ (p1 = 0 → Rt g d mX8_biting 0 [some (.ref 57), some (.int p0), some (.int p2)] [] t4 (QI (fun v17 t16 => Q (some (.int v17)) t16)))) ∧ (v5 = 0 → Q (some (.int 0)) t4))))))) : Rt g (d + 1) mX8_act 0 [some (.ref 57), some (.int p0), some (.int p1), some (.int p2)] [] t Q := by
  refine s_aload_n dX8_act_0 rfl rfl ?_
  refine s_iconst (v := 0) dX8_act_1 (by decide) ?_
  refine t_putI dX8_act_2 fl_X8_330 rfl (by decide) rfl rfl rfl rfl ?_
  refine s_aload_n dX8_act_5 rfl rfl ?_
  refine s_iload_n dX8_act_6 rfl rfl ?_
  refine t_callV (M' := mX8_isBody) (k := 0) (As := [.int p0]) (rest := []) dX8_act_7 ml_X8_369 miX8_isBody msX8_isBody rfl (by decide) rfl rfl (Nat.le_of_ble_eq_true rfl) (Nat.le_of_ble_eq_true rfl) rfl h (fun rv t1 q => ?_)
  obtain ⟨v2, rfl, h⟩ := q
  show Rt g (d + 1) mX8_act 10 [some (.ref 57), some (.int p0), some (.int p1), some (.int p2)] [.int v2] t1 Q
  refine s_if_eq (tgt := 22) dX8_act_10 (by decide) (fun c3 => ?_) (fun c3 => ?_)
  · replace h := h.1 c3
    refine s_iconst (v := 0) dX8_act_22 (by decide) ?_
    exact t_iret dX8_act_23 (NR_i rfl _) h
  · replace h := h.2 c3
    refine s_iload_n dX8_act_13 rfl rfl ?_
    refine s_iconst (v := 0) dX8_act_14 (by decide) ?_
    refine s_iconst (v := 3) dX8_act_15 (by decide) ?_
    refine t_callS (M' := mX8_in) (k := 0) (As := [.int p1, .int 0, .int 3]) (rest := []) dX8_act_16 ml_X8_128 mstX8_in rfl (Nat.le_of_ble_eq_true rfl) (Nat.le_of_ble_eq_true rfl) rfl h (fun rv t4 q => ?_)
    obtain ⟨v5, rfl, h⟩ := q
    show Rt g (d + 1) mX8_act 19 [some (.ref 57), some (.int p0), some (.int p1), some (.int p2)] [.int v5] t4 Q
    refine s_if_ne (tgt := 24) dX8_act_19 (by decide) (fun c6 => ?_) (fun c6 => ?_)
    · replace h := h.1 c6
      refine s_iload_n dX8_act_24 rfl rfl ?_
      refine s_if_ne (tgt := 37) dX8_act_25 (by decide) (fun c7 => ?_) (fun c7 => ?_)
      · replace h := h.1 c7
        refine s_iload_n dX8_act_37 rfl rfl ?_
        refine s_iconst (v := 1) dX8_act_38 (by decide) ?_
        refine s_icmp_ne (tgt := 51) dX8_act_39 (by decide) (fun c8 => ?_) (fun c8 => ?_)
        · replace h := h.1 c8
          refine s_iload_n dX8_act_51 rfl rfl ?_
          refine s_iconst (v := 2) dX8_act_52 (by decide) ?_
          refine s_icmp_ne (tgt := 65) dX8_act_53 (by decide) (fun c9 => ?_) (fun c9 => ?_)
          · replace h := h.1 c9
            refine s_aload_n dX8_act_65 rfl rfl ?_
            refine s_iload_n dX8_act_66 rfl rfl ?_
            refine s_iload_n dX8_act_67 rfl rfl ?_
            refine t_callV (M' := mX8_telling) (k := 0) (As := [.int p0, .int p2]) (rest := []) dX8_act_68 ml_X8_372 miX8_telling msX8_telling rfl (by decide) rfl rfl (Nat.le_of_ble_eq_true rfl) (Nat.le_of_ble_eq_true rfl) rfl h (fun rv t10 q => ?_)
            obtain ⟨v11, rfl, h⟩ := q
            show Rt g (d + 1) mX8_act 71 [some (.ref 57), some (.int p0), some (.int p1), some (.int p2)] [.int v11] t10 Q
            exact t_iret dX8_act_71 (NR_i rfl _) h
          · replace h := h.2 c9
            refine s_aload_n dX8_act_56 rfl rfl ?_
            refine s_iload_n dX8_act_57 rfl rfl ?_
            refine s_iload_n dX8_act_58 rfl rfl ?_
            refine t_callV (M' := mX8_grinning) (k := 1) (As := [.int p0, .int p2]) (rest := []) dX8_act_59 ml_X8_354 miX8_grinning msX8_grinning rfl (by decide) rfl rfl (Nat.le_of_ble_eq_true rfl) (Nat.le_of_ble_eq_true rfl) rfl h (fun rv t12 q => ?_)
            obtain ⟨v13, rfl, h⟩ := q
            show Rt g (d + 1) mX8_act 62 [some (.ref 57), some (.int p0), some (.int p1), some (.int p2)] [.int v13] t12 Q
            refine s_goto (tgt := 71) dX8_act_62 (by decide) ?_
            exact t_iret dX8_act_71 (NR_i rfl _) h
        · replace h := h.2 c8
          refine s_aload_n dX8_act_42 rfl rfl ?_
          refine s_iload_n dX8_act_43 rfl rfl ?_
          refine s_iload_n dX8_act_44 rfl rfl ?_
          refine t_callV (M' := mX8_lying) (k := 1) (As := [.int p0, .int p2]) (rest := []) dX8_act_45 ml_X8_363 miX8_lying msX8_lying rfl (by decide) rfl rfl (Nat.le_of_ble_eq_true rfl) (Nat.le_of_ble_eq_true rfl) rfl h (fun rv t14 q => ?_)
          obtain ⟨v15, rfl, h⟩ := q
          show Rt g (d + 1) mX8_act 48 [some (.ref 57), some (.int p0), some (.int p1), some (.int p2)] [.int v15] t14 Q
          refine s_goto (tgt := 71) dX8_act_48 (by decide) ?_
          exact t_iret dX8_act_71 (NR_i rfl _) h
      · replace h := h.2 c7
        refine s_aload_n dX8_act_28 rfl rfl ?_
        refine s_iload_n dX8_act_29 rfl rfl ?_
        refine s_iload_n dX8_act_30 rfl rfl ?_
        refine t_callV (M' := mX8_biting) (k := 0) (As := [.int p0, .int p2]) (rest := []) dX8_act_31 ml_X8_345 miX8_biting msX8_biting rfl (by decide) rfl rfl (Nat.le_of_ble_eq_true rfl) (Nat.le_of_ble_eq_true rfl) rfl h (fun rv t16 q => ?_)
        obtain ⟨v17, rfl, h⟩ := q
        show Rt g (d + 1) mX8_act 34 [some (.ref 57), some (.int p0), some (.int p1), some (.int p2)] [.int v17] t16 Q
        refine s_goto (tgt := 71) dX8_act_34 (by decide) ?_
        exact t_iret dX8_act_71 (NR_i rfl _) h
    · replace h := h.2 c6
      refine s_iconst (v := 0) dX8_act_22 (by decide) ?_
      exact t_iret dX8_act_23 (NR_i rfl _) h
theorem bX8_count_0 {g : Gt} {d : Nat} {t : Tt} {Q : Option Value → Tt → Prop} {p0 : Int32} (h : (p0 = 0 → Q (some (.int (t.1 57 1))) t) ∧ (¬ p0 = 0 → (p0 = 1 → Rt g d mX8_beginMouths 0 [some (.ref 57), none] [] t (QV (fun t3 => Rt g (d + 1) mX8_count 53 [some (.ref 57), none, some (.int 0), some (.int 0)] [] t3 Q))) ∧ (¬ p0 = 1 → (p0 = 2 → Q (some (.int (t.1 57 14))) t) ∧ (¬ p0 = 2 → (p0 = 3 → Q (some (.int (t.1 57 7))) t) ∧ (¬ p0 = 3 → (p0 = 4 → Q (some (.int (t.1 57 45))) t) ∧ (¬ p0 = 4 → (p0 = 5 → Q (some (.int (t.1 57 47))) t) ∧ (¬ p0 = 5 → Q (some (.int (-1))) t))))))) : Rt g (d + 1) mX8_count 0 [some (.ref 57), some (.int p0), none, none] [] t Q := by
  refine s_iload_n dX8_count_0 rfl rfl ?_
  by_cases c1 : p0 = 0
  · replace h := h.1 c1
    refine s_tin (off := 39) (tgt := 40) dX8_count_1 (by rw [c1]; decide) (by rw [c1]; decide) (by rw [c1]; rfl) (by decide) ?_
    refine s_aload_n dX8_count_40 rfl rfl ?_
    refine t_getI dX8_count_41 fl_X8_125 rfl (by decide) rfl ?_
    exact t_iret dX8_count_44 (NR_i rfl _) h
  · replace h := h.2 c1
    by_cases c2 : p0 = 1
    · replace h := h.1 c2
      refine s_tin (off := 44) (tgt := 45) dX8_count_1 (by rw [c2]; decide) (by rw [c2]; decide) (by rw [c2]; rfl) (by decide) ?_
      refine s_aload_n dX8_count_45 rfl rfl ?_
      refine t_callV (M' := mX8_beginMouths) (k := 1) (As := []) (rest := []) dX8_count_46 ml_X8_172 miX8_beginMouths msX8_beginMouths rfl (by decide) rfl rfl (Nat.le_of_ble_eq_true rfl) (Nat.le_of_ble_eq_true rfl) rfl h (fun rv t3 q => ?_)
      obtain ⟨rfl, h⟩ := q
      show Rt g (d + 1) mX8_count 49 [some (.ref 57), some (.int p0), none, none] [] t3 Q
      refine s_iconst (v := 0) dX8_count_49 (by decide) ?_
      refine s_istore_n dX8_count_50 rfl (by decide) rfl (L9 := [some (.ref 57), some (.int p0), some (.int 0), none]) rfl ?_
      refine s_iconst (v := 0) dX8_count_51 (by decide) ?_
      refine s_istore_n dX8_count_52 rfl (by decide) rfl (L9 := [some (.ref 57), some (.int p0), some (.int 0), some (.int 0)]) rfl ?_
      exact Rt.lc h (lc_some (lc_none (lc_some (lc_some lc_nil))))
    · replace h := h.2 c2
      by_cases c4 : p0 = 2
      · replace h := h.1 c4
        refine s_tin (off := 79) (tgt := 80) dX8_count_1 (by rw [c4]; decide) (by rw [c4]; decide) (by rw [c4]; rfl) (by decide) ?_
        refine s_aload_n dX8_count_80 rfl rfl ?_
        refine t_getI dX8_count_81 fl_X8_179 rfl (by decide) rfl ?_
        exact t_iret dX8_count_84 (NR_i rfl _) h
      · replace h := h.2 c4
        by_cases c5 : p0 = 3
        · replace h := h.1 c5
          refine s_tin (off := 84) (tgt := 85) dX8_count_1 (by rw [c5]; decide) (by rw [c5]; decide) (by rw [c5]; rfl) (by decide) ?_
          refine s_aload_n dX8_count_85 rfl rfl ?_
          refine t_getI dX8_count_86 fl_X8_149 rfl (by decide) rfl ?_
          exact t_iret dX8_count_89 (NR_i rfl _) h
        · replace h := h.2 c5
          by_cases c6 : p0 = 4
          · replace h := h.1 c6
            refine s_tin (off := 89) (tgt := 90) dX8_count_1 (by rw [c6]; decide) (by rw [c6]; decide) (by rw [c6]; rfl) (by decide) ?_
            refine s_aload_n dX8_count_90 rfl rfl ?_
            refine t_getI dX8_count_91 fl_X8_327 rfl (by decide) rfl ?_
            exact t_iret dX8_count_94 (NR_i rfl _) h
          · replace h := h.2 c6
            by_cases c7 : p0 = 5
            · replace h := h.1 c7
              refine s_tin (off := 94) (tgt := 95) dX8_count_1 (by rw [c7]; decide) (by rw [c7]; decide) (by rw [c7]; rfl) (by decide) ?_
              refine s_aload_n dX8_count_95 rfl rfl ?_
              refine t_getI dX8_count_96 fl_X8_330 rfl (by decide) rfl ?_
              exact t_iret dX8_count_99 (NR_i rfl _) h
            · replace h := h.2 c7
              refine s_tout (tgt := 100) dX8_count_1 (by have q0 := lv_neT c1 (a := 0) rfl; have q1 := lv_neT c2 (a := 1) rfl; have q2 := lv_neT c4 (a := 2) rfl; have q3 := lv_neT c5 (a := 3) rfl; have q4 := lv_neT c6 (a := 4) rfl; have q5 := lv_neT c7 (a := 5) rfl; omega) (by decide) ?_
              refine s_iconst (v := (-1)) dX8_count_100 (by decide) ?_
              exact t_iret dX8_count_101 (NR_i rfl _) h
theorem bX8_count_53 {g : Gt} {d : Nat} {t : Tt} {Q : Option Value → Tt → Prop} {x2 : Int32} {x3 : Int32} (h : ((t.1 57 1) ≤ x3 → Q (some (.int x2)) t) ∧ (¬ (t.1 57 1) ≤ x3 → Rt g d mX8_isGone 0 [some (.ref 57), some (.int x3)] [] t (QI (fun v3 t2 => (v3 = 0 → Rt g (d + 1) mX8_count 72 [some (.ref 57), none, some (.int x2), some (.int x3)] [] t2 Q) ∧ (¬ v3 = 0 → Rt g (d + 1) mX8_count 72 [some (.ref 57), none, some (.int (x2 + 1)), some (.int x3)] [] t2 Q))))) : Rt g (d + 1) mX8_count 53 [some (.ref 57), none, some (.int x2), some (.int x3)] [] t Q := by
  refine s_iload_n dX8_count_53 rfl rfl ?_
  refine s_aload_n dX8_count_54 rfl rfl ?_
  refine t_getI dX8_count_55 fl_X8_125 rfl (by decide) rfl ?_
  refine s_icmp_ge (tgt := 78) dX8_count_58 (by decide) (fun c1 => ?_) (fun c1 => ?_)
  · replace h := h.1 c1
    refine s_iload_n dX8_count_78 rfl rfl ?_
    exact t_iret dX8_count_79 (NR_i rfl _) h
  · replace h := h.2 c1
    refine s_aload_n dX8_count_61 rfl rfl ?_
    refine s_iload_n dX8_count_62 rfl rfl ?_
    refine t_callV (M' := mX8_isGone) (k := 0) (As := [.int x3]) (rest := []) dX8_count_63 ml_X8_280 miX8_isGone msX8_isGone rfl (by decide) rfl rfl (Nat.le_of_ble_eq_true rfl) (Nat.le_of_ble_eq_true rfl) rfl h (fun rv t2 q => ?_)
    obtain ⟨v3, rfl, h⟩ := q
    show Rt g (d + 1) mX8_count 66 [some (.ref 57), none, some (.int x2), some (.int x3)] [.int v3] t2 Q
    refine s_if_eq (tgt := 72) dX8_count_66 (by decide) (fun c4 => ?_) (fun c4 => ?_)
    · replace h := h.1 c4
      exact h
    · replace h := h.2 c4
      refine s_iinc (w := x2 + 1) dX8_count_69 rfl (by rfl) (by decide) rfl (L9 := [some (.ref 57), none, some (.int (x2 + 1)), some (.int x3)]) rfl ?_
      exact h
theorem bX8_count_72 {g : Gt} {d : Nat} {t : Tt} {Q : Option Value → Tt → Prop} {x2 : Int32} {x3 : Int32} (h : Rt g (d + 1) mX8_count 53 [some (.ref 57), none, some (.int x2), some (.int (x3 + 1))] [] t Q) : Rt g (d + 1) mX8_count 72 [some (.ref 57), none, some (.int x2), some (.int x3)] [] t Q := by
  refine s_iinc (w := x3 + 1) dX8_count_72 rfl (by rfl) (by decide) rfl (L9 := [some (.ref 57), none, some (.int x2), some (.int (x3 + 1))]) rfl ?_
  refine s_goto (tgt := 53) dX8_count_75 (by decide) ?_
  exact h
theorem bX8_isShelf_0 {g : Gt} {d : Nat} {t : Tt} {Q : Option Value → Tt → Prop} {p0 : Int32} (h : Rt g d mX8_in 0 [some (.int p0), some (.int 0), some (.int 5)] [] t (QI (fun v2 t1 => (v2 = 0 ∨ v2 = 1) ∧ Q (some (.int v2)) t1))) : Rt g (d + 1) mX8_isShelf 0 [some (.int p0)] [] t Q := by
  refine s_iload_n dX8_isShelf_0 rfl rfl ?_
  refine s_iconst (v := 0) dX8_isShelf_1 (by decide) ?_
  refine s_iconst (v := 5) dX8_isShelf_2 (by decide) ?_
  refine t_callS (M' := mX8_in) (k := 0) (As := [.int p0, .int 0, .int 5]) (rest := []) dX8_isShelf_3 ml_X8_128 mstX8_in rfl (Nat.le_of_ble_eq_true rfl) (Nat.le_of_ble_eq_true rfl) rfl h (fun rv t1 q => ?_)
  obtain ⟨v2, rfl, h⟩ := q
  show Rt g (d + 1) mX8_isShelf 6 [some (.int p0)] [.int v2] t1 Q
  exact t_iret dX8_isShelf_6 (NR_z rfl h.1) h.2
theorem bX8_keep_0 {g : Gt} {d : Nat} {t : Tt} {Q : Option Value → Tt → Prop} {p0 : Int32} {p1 : Int32} (h : Rt g d mX8_isShelf 0 [some (.int p0)] [] t (QI (fun v2 t1 => (v2 = 0 → Q (some (.int (-1))) t1) ∧ (¬ v2 = 0 → (p1 = (-1) → vp_in p0 6 ∧ Q (some (.int 1)) (pI t1 89 p0.toNatClampNeg p1)) ∧ (¬ p1 = (-1) → Rt g d mX8_isBody 0 [some (.ref 57), some (.int p1)] [] t1 (QI (fun v7 t6 => (¬ v7 = 0 → vp_in p0 6 ∧ Q (some (.int 1)) (pI t6 89 p0.toNatClampNeg p1)) ∧ (v7 = 0 → Q (some (.int (-1))) t6)))))))) : Rt g (d + 1) mX8_keep 0 [some (.ref 57), some (.int p0), some (.int p1)] [] t Q := by
  refine s_iload_n dX8_keep_0 rfl rfl ?_
  refine t_callS (M' := mX8_isShelf) (k := 0) (As := [.int p0]) (rest := []) dX8_keep_1 ml_X8_132 mstX8_isShelf rfl (Nat.le_of_ble_eq_true rfl) (Nat.le_of_ble_eq_true rfl) rfl h (fun rv t1 q => ?_)
  obtain ⟨v2, rfl, h⟩ := q
  show Rt g (d + 1) mX8_keep 4 [some (.ref 57), some (.int p0), some (.int p1)] [.int v2] t1 Q
  refine s_if_eq (tgt := 20) dX8_keep_4 (by decide) (fun c3 => ?_) (fun c3 => ?_)
  · replace h := h.1 c3
    refine s_iconst (v := (-1)) dX8_keep_20 (by decide) ?_
    exact t_iret dX8_keep_21 (NR_i rfl _) h
  · replace h := h.2 c3
    refine s_iload_n dX8_keep_7 rfl rfl ?_
    refine s_iconst (v := (-1)) dX8_keep_8 (by decide) ?_
    refine s_icmp_eq (tgt := 22) dX8_keep_9 (by decide) (fun c4 => ?_) (fun c4 => ?_)
    · replace h := h.1 c4
      refine s_aload_n dX8_keep_22 rfl rfl ?_
      refine t_getR (o' := 89) dX8_keep_23 fl_X8_109 rfl (by decide) rfl rfl ?_
      refine s_iload_n dX8_keep_26 rfl rfl ?_
      refine s_iload_n dX8_keep_27 rfl rfl ?_
      obtain ⟨g5, h⟩ := h
      refine t_iast dX8_keep_28 rfl (by decide) g5 ?_
      refine s_iconst (v := 1) dX8_keep_29 (by decide) ?_
      exact t_iret dX8_keep_30 (NR_i rfl _) h
    · replace h := h.2 c4
      refine s_aload_n dX8_keep_12 rfl rfl ?_
      refine s_iload_n dX8_keep_13 rfl rfl ?_
      refine t_callV (M' := mX8_isBody) (k := 0) (As := [.int p1]) (rest := []) dX8_keep_14 ml_X8_369 miX8_isBody msX8_isBody rfl (by decide) rfl rfl (Nat.le_of_ble_eq_true rfl) (Nat.le_of_ble_eq_true rfl) rfl h (fun rv t6 q => ?_)
      obtain ⟨v7, rfl, h⟩ := q
      show Rt g (d + 1) mX8_keep 17 [some (.ref 57), some (.int p0), some (.int p1)] [.int v7] t6 Q
      refine s_if_ne (tgt := 22) dX8_keep_17 (by decide) (fun c8 => ?_) (fun c8 => ?_)
      · replace h := h.1 c8
        refine s_aload_n dX8_keep_22 rfl rfl ?_
        refine t_getR (o' := 89) dX8_keep_23 fl_X8_109 rfl (by decide) rfl rfl ?_
        refine s_iload_n dX8_keep_26 rfl rfl ?_
        refine s_iload_n dX8_keep_27 rfl rfl ?_
        obtain ⟨g9, h⟩ := h
        refine t_iast dX8_keep_28 rfl (by decide) g9 ?_
        refine s_iconst (v := 1) dX8_keep_29 (by decide) ?_
        exact t_iret dX8_keep_30 (NR_i rfl _) h
      · replace h := h.2 c8
        refine s_iconst (v := (-1)) dX8_keep_20 (by decide) ?_
        exact t_iret dX8_keep_21 (NR_i rfl _) h
theorem bX8_row_0 {g : Gt} {d : Nat} {t : Tt} {Q : Option Value → Tt → Prop} {p0 : Int32} {p1 : Int32} {p2 : Int32} (h : Rt g d mX8_isShelf 0 [some (.int p0)] [] t (QI (fun v2 t1 => (v2 = 0 → Q (some (.int (-1))) t1) ∧ (¬ v2 = 0 → Rt g d mX8_in 0 [some (.int p1), some (.int 0), some (.int 4)] [] t1 (QI (fun v5 t4 => (v5 = 0 → Q (some (.int (-1))) t4) ∧ (¬ v5 = 0 → (p2 ≤ 60 → (0 ≤ p2 → vp_in p0 6 ∧ (vp_in p0 6 ∧ (∀ z11 : Int32, z11 = (60 * p0) → Rt g (d + 1) mX8_row 54 [some (.ref 57), some (.int p0), none, none, some (.int z11)] [] (pI (pI t4 89 p0.toNatClampNeg ((-2) - p1)) 90 p0.toNatClampNeg p2) Q))) ∧ (¬ 0 ≤ p2 → Q (some (.int (-14))) t4)) ∧ (¬ p2 ≤ 60 → Q (some (.int (-1))) t4)))))))) : Rt g (d + 1) mX8_row 0 [some (.ref 57), some (.int p0), some (.int p1), some (.int p2), none] [] t Q := by
  refine s_iload_n dX8_row_0 rfl rfl ?_
  refine t_callS (M' := mX8_isShelf) (k := 0) (As := [.int p0]) (rest := []) dX8_row_1 ml_X8_132 mstX8_isShelf rfl (Nat.le_of_ble_eq_true rfl) (Nat.le_of_ble_eq_true rfl) rfl h (fun rv t1 q => ?_)
  obtain ⟨v2, rfl, h⟩ := q
  show Rt g (d + 1) mX8_row 4 [some (.ref 57), some (.int p0), some (.int p1), some (.int p2), none] [.int v2] t1 Q
  refine s_if_eq (tgt := 22) dX8_row_4 (by decide) (fun c3 => ?_) (fun c3 => ?_)
  · replace h := h.1 c3
    refine s_iconst (v := (-1)) dX8_row_22 (by decide) ?_
    exact t_iret dX8_row_23 (NR_i rfl _) h
  · replace h := h.2 c3
    refine s_iload_n dX8_row_7 rfl rfl ?_
    refine s_iconst (v := 0) dX8_row_8 (by decide) ?_
    refine s_iconst (v := 4) dX8_row_9 (by decide) ?_
    refine t_callS (M' := mX8_in) (k := 0) (As := [.int p1, .int 0, .int 4]) (rest := []) dX8_row_10 ml_X8_128 mstX8_in rfl (Nat.le_of_ble_eq_true rfl) (Nat.le_of_ble_eq_true rfl) rfl h (fun rv t4 q => ?_)
    obtain ⟨v5, rfl, h⟩ := q
    show Rt g (d + 1) mX8_row 13 [some (.ref 57), some (.int p0), some (.int p1), some (.int p2), none] [.int v5] t4 Q
    refine s_if_eq (tgt := 22) dX8_row_13 (by decide) (fun c6 => ?_) (fun c6 => ?_)
    · replace h := h.1 c6
      refine s_iconst (v := (-1)) dX8_row_22 (by decide) ?_
      exact t_iret dX8_row_23 (NR_i rfl _) h
    · replace h := h.2 c6
      refine s_iload_n dX8_row_16 rfl rfl ?_
      refine s_bipush (v := 60) dX8_row_17 (by decide) ?_
      refine s_icmp_le (tgt := 24) dX8_row_19 (by decide) (fun c7 => ?_) (fun c7 => ?_)
      · replace h := h.1 c7
        refine s_iload_n dX8_row_24 rfl rfl ?_
        refine s_if_ge (tgt := 31) dX8_row_25 (by decide) (fun c8 => ?_) (fun c8 => ?_)
        · replace h := h.1 c8
          refine s_aload_n dX8_row_31 rfl rfl ?_
          refine t_getR (o' := 89) dX8_row_32 fl_X8_109 rfl (by decide) rfl rfl ?_
          refine s_iload_n dX8_row_35 rfl rfl ?_
          refine s_bipush (v := (-2)) dX8_row_36 (by decide) ?_
          refine s_iload_n dX8_row_38 rfl rfl ?_
          refine s_isub dX8_row_39 ?_
          obtain ⟨g9, h⟩ := h
          refine t_iast dX8_row_40 rfl (by decide) g9 ?_
          refine s_aload_n dX8_row_41 rfl rfl ?_
          refine t_getR (o' := 90) dX8_row_42 fl_X8_112 rfl (by decide) rfl rfl ?_
          refine s_iload_n dX8_row_45 rfl rfl ?_
          refine s_iload_n dX8_row_46 rfl rfl ?_
          obtain ⟨g10, h⟩ := h
          refine t_iast dX8_row_47 rfl (by decide) g10 ?_
          refine s_bipush (v := 60) dX8_row_48 (by decide) ?_
          refine s_iload_n dX8_row_50 rfl rfl ?_
          refine s_imul dX8_row_51 ?_
          refine t_nmI (fun z11 ez11 => ?_)
          replace h := h z11 ez11
          refine s_istore dX8_row_52 (by decide) rfl (L9 := [some (.ref 57), some (.int p0), some (.int p1), some (.int p2), some (.int z11)]) rfl ?_
          exact Rt.lc h (lc_some (lc_some (lc_none (lc_none (lc_some lc_nil)))))
        · replace h := h.2 c8
          refine s_bipush (v := (-14)) dX8_row_28 (by decide) ?_
          exact t_iret dX8_row_30 (NR_i rfl _) h
      · replace h := h.2 c7
        refine s_iconst (v := (-1)) dX8_row_22 (by decide) ?_
        exact t_iret dX8_row_23 (NR_i rfl _) h
theorem bX8_row_54 {g : Gt} {d : Nat} {t : Tt} {Q : Option Value → Tt → Prop} {x1 : Int32} {x4 : Int32} (h : (((60 * x1) + 60) ≤ x4 → Q (some (.int 1)) t) ∧ (¬ ((60 * x1) + 60) ≤ x4 → vp_in x4 360 ∧ Rt g (d + 1) mX8_row 54 [some (.ref 57), some (.int x1), none, none, some (.int (x4 + 1))] [] (pJ t 91 x4.toNatClampNeg 0) Q)) : Rt g (d + 1) mX8_row 54 [some (.ref 57), some (.int x1), none, none, some (.int x4)] [] t Q := by
  refine s_iload dX8_row_54 rfl ?_
  refine s_bipush (v := 60) dX8_row_56 (by decide) ?_
  refine s_iload_n dX8_row_58 rfl rfl ?_
  refine s_imul dX8_row_59 ?_
  refine s_bipush (v := 60) dX8_row_60 (by decide) ?_
  refine s_iadd dX8_row_62 ?_
  refine s_icmp_ge (tgt := 80) dX8_row_63 (by decide) (fun c1 => ?_) (fun c1 => ?_)
  · replace h := h.1 c1
    refine s_iconst (v := 1) dX8_row_80 (by decide) ?_
    exact t_iret dX8_row_81 (NR_i rfl _) h
  · replace h := h.2 c1
    refine s_aload_n dX8_row_66 rfl rfl ?_
    refine t_getR (o' := 91) dX8_row_67 fl_X8_115 rfl (by decide) rfl rfl ?_
    refine s_iload dX8_row_70 rfl ?_
    refine s_lconst (v := 0) dX8_row_72 rfl ?_
    obtain ⟨g2, h⟩ := h
    refine t_last dX8_row_73 rfl (by decide) g2 ?_
    refine s_iinc (w := x4 + 1) dX8_row_74 rfl (by rfl) (by decide) rfl (L9 := [some (.ref 57), some (.int x1), none, none, some (.int (x4 + 1))]) rfl ?_
    refine s_goto (tgt := 54) dX8_row_77 (by decide) ?_
    exact h
theorem bX8_whyNoPlace_0 {g : Gt} {d : Nat} {t : Tt} {Q : Option Value → Tt → Prop} {p0 : Int32} {p1 : Int32} (h : Rt g d mX8_isShelf 0 [some (.int p0)] [] t (QI (fun v2 t1 => (¬ v2 = 0 → vp_in p0 6 ∧ ((¬ (t1.1 89 p0.toNatClampNeg) = (-1) → vp_in p0 6 ∧ (((t1.1 89 p0.toNatClampNeg) < 0 → vp_in p0 6 ∧ (Rt g d mX8_in 0 [some (.int p1), some (.int 0), some (.int ((t1.1 90 p0.toNatClampNeg) - 1))] [] t1 (QI (fun v10 t9 => (v10 = 0 → Q (some (.int (-13))) t9) ∧ (¬ v10 = 0 → Q (some (.int 0)) t9))))) ∧ (¬ (t1.1 89 p0.toNatClampNeg) < 0 → Q (some (.int (-12))) t1))) ∧ ((t1.1 89 p0.toNatClampNeg) = (-1) → Q (some (.int (-11))) t1))) ∧ (v2 = 0 → Q (some (.int (-1))) t1)))) : Rt g (d + 1) mX8_whyNoPlace 0 [some (.ref 57), some (.int p0), some (.int p1)] [] t Q := by
  refine s_iload_n dX8_whyNoPlace_0 rfl rfl ?_
  refine t_callS (M' := mX8_isShelf) (k := 0) (As := [.int p0]) (rest := []) dX8_whyNoPlace_1 ml_X8_132 mstX8_isShelf rfl (Nat.le_of_ble_eq_true rfl) (Nat.le_of_ble_eq_true rfl) rfl h (fun rv t1 q => ?_)
  obtain ⟨v2, rfl, h⟩ := q
  show Rt g (d + 1) mX8_whyNoPlace 4 [some (.ref 57), some (.int p0), some (.int p1)] [.int v2] t1 Q
  refine s_if_ne (tgt := 9) dX8_whyNoPlace_4 (by decide) (fun c3 => ?_) (fun c3 => ?_)
  · replace h := h.1 c3
    refine s_aload_n dX8_whyNoPlace_9 rfl rfl ?_
    refine t_getR (o' := 89) dX8_whyNoPlace_10 fl_X8_109 rfl (by decide) rfl rfl ?_
    refine s_iload_n dX8_whyNoPlace_13 rfl rfl ?_
    obtain ⟨g4, h⟩ := h
    refine t_iald dX8_whyNoPlace_14 rfl (by decide) g4 ?_
    refine s_iconst (v := (-1)) dX8_whyNoPlace_15 (by decide) ?_
    refine s_icmp_ne (tgt := 22) dX8_whyNoPlace_16 (by decide) (fun c5 => ?_) (fun c5 => ?_)
    · replace h := h.1 c5
      refine s_aload_n dX8_whyNoPlace_22 rfl rfl ?_
      refine t_getR (o' := 89) dX8_whyNoPlace_23 fl_X8_109 rfl (by decide) rfl rfl ?_
      refine s_iload_n dX8_whyNoPlace_26 rfl rfl ?_
      obtain ⟨g6, h⟩ := h
      refine t_iald dX8_whyNoPlace_27 rfl (by decide) g6 ?_
      refine s_if_lt (tgt := 34) dX8_whyNoPlace_28 (by decide) (fun c7 => ?_) (fun c7 => ?_)
      · replace h := h.1 c7
        refine s_iload_n dX8_whyNoPlace_34 rfl rfl ?_
        refine s_iconst (v := 0) dX8_whyNoPlace_35 (by decide) ?_
        refine s_aload_n dX8_whyNoPlace_36 rfl rfl ?_
        refine t_getR (o' := 90) dX8_whyNoPlace_37 fl_X8_112 rfl (by decide) rfl rfl ?_
        refine s_iload_n dX8_whyNoPlace_40 rfl rfl ?_
        obtain ⟨g8, h⟩ := h
        refine t_iald dX8_whyNoPlace_41 rfl (by decide) g8 ?_
        refine s_iconst (v := 1) dX8_whyNoPlace_42 (by decide) ?_
        refine s_isub dX8_whyNoPlace_43 ?_
        refine t_callS (M' := mX8_in) (k := 0) (As := [.int p1, .int 0, .int ((t1.1 90 p0.toNatClampNeg) - 1)]) (rest := []) dX8_whyNoPlace_44 ml_X8_128 mstX8_in rfl (Nat.le_of_ble_eq_true rfl) (Nat.le_of_ble_eq_true rfl) rfl h (fun rv t9 q => ?_)
        obtain ⟨v10, rfl, h⟩ := q
        show Rt g (d + 1) mX8_whyNoPlace 47 [some (.ref 57), some (.int p0), some (.int p1)] [.int v10] t9 Q
        refine s_if_eq (tgt := 54) dX8_whyNoPlace_47 (by decide) (fun c11 => ?_) (fun c11 => ?_)
        · replace h := h.1 c11
          refine s_bipush (v := (-13)) dX8_whyNoPlace_54 (by decide) ?_
          exact t_iret dX8_whyNoPlace_56 (NR_i rfl _) h
        · replace h := h.2 c11
          refine s_iconst (v := 0) dX8_whyNoPlace_50 (by decide) ?_
          refine s_goto (tgt := 56) dX8_whyNoPlace_51 (by decide) ?_
          exact t_iret dX8_whyNoPlace_56 (NR_i rfl _) h
      · replace h := h.2 c7
        refine s_bipush (v := (-12)) dX8_whyNoPlace_31 (by decide) ?_
        exact t_iret dX8_whyNoPlace_33 (NR_i rfl _) h
    · replace h := h.2 c5
      refine s_bipush (v := (-11)) dX8_whyNoPlace_19 (by decide) ?_
      exact t_iret dX8_whyNoPlace_21 (NR_i rfl _) h
  · replace h := h.2 c3
    refine s_iconst (v := (-1)) dX8_whyNoPlace_7 (by decide) ?_
    exact t_iret dX8_whyNoPlace_8 (NR_i rfl _) h
theorem bX8_put_0 {g : Gt} {d : Nat} {t : Tt} {Q : Option Value → Tt → Prop} {p0 : Int32} {p1 : Int32} {p2 : Int64} (h : Rt g d mX8_whyNoPlace 0 [some (.ref 57), some (.int p0), some (.int p1)] [] t (QI (fun v2 t1 => (0 ≤ v2 → vp_in p0 6 ∧ (∀ z5 : Int32, z5 = ((-2) - (t1.1 89 p0.toNatClampNeg)) → (¬ z5 = 0 → (¬ z5 = 1 → (¬ z5 = 2 → (¬ z5 = 3 → (p2 = 0 → vp_in ((60 * p0) + p1) 360 ∧ Q (some (.int 1)) (pJ t1 91 ((60 * p0) + p1).toNatClampNeg 0)) ∧ (¬ p2 = 0 → vp_in ((60 * p0) + p1) 360 ∧ Q (some (.int 1)) (pJ t1 91 ((60 * p0) + p1).toNatClampNeg 1))) ∧ (z5 = 3 → vp_in ((60 * p0) + p1) 360 ∧ Q (some (.int 1)) (pJ t1 91 ((60 * p0) + p1).toNatClampNeg p2))) ∧ (z5 = 2 → vp_in ((60 * p0) + p1) 360 ∧ Q (some (.int 1)) (pJ t1 91 ((60 * p0) + p1).toNatClampNeg ((p2.toInt32).toInt64)))) ∧ (z5 = 1 → vp_in ((60 * p0) + p1) 360 ∧ Q (some (.int 1)) (pJ t1 91 ((60 * p0) + p1).toNatClampNeg (((p2.toInt32).toInt16.toInt32).toInt64)))) ∧ (z5 = 0 → vp_in ((60 * p0) + p1) 360 ∧ Q (some (.int 1)) (pJ t1 91 ((60 * p0) + p1).toNatClampNeg (((p2.toInt32).toInt8.toInt32).toInt64))))) ∧ (¬ 0 ≤ v2 → Q (some (.int v2)) t1)))) : Rt g (d + 1) mX8_put 0 [some (.ref 57), some (.int p0), some (.int p1), some (.long p2), none, none, none] [] t Q := by
  refine s_aload_n dX8_put_0 rfl rfl ?_
  refine s_iload_n dX8_put_1 rfl rfl ?_
  refine s_iload_n dX8_put_2 rfl rfl ?_
  refine t_callV (M' := mX8_whyNoPlace) (k := 0) (As := [.int p0, .int p1]) (rest := []) dX8_put_3 ml_X8_375 miX8_whyNoPlace msX8_whyNoPlace rfl (by decide) rfl rfl (Nat.le_of_ble_eq_true rfl) (Nat.le_of_ble_eq_true rfl) rfl h (fun rv t1 q => ?_)
  obtain ⟨v2, rfl, h⟩ := q
  show Rt g (d + 1) mX8_put 6 [some (.ref 57), some (.int p0), some (.int p1), some (.long p2), none, none, none] [.int v2] t1 Q
  refine s_istore dX8_put_6 (by decide) rfl (L9 := [some (.ref 57), some (.int p0), some (.int p1), some (.long p2), none, some (.int v2), none]) rfl ?_
  refine s_iload dX8_put_8 rfl ?_
  refine s_if_ge (tgt := 16) dX8_put_10 (by decide) (fun c3 => ?_) (fun c3 => ?_)
  · replace h := h.1 c3
    refine s_bipush (v := (-2)) dX8_put_16 (by decide) ?_
    refine s_aload_n dX8_put_18 rfl rfl ?_
    refine t_getR (o' := 89) dX8_put_19 fl_X8_109 rfl (by decide) rfl rfl ?_
    refine s_iload_n dX8_put_22 rfl rfl ?_
    obtain ⟨g4, h⟩ := h
    refine t_iald dX8_put_23 rfl (by decide) g4 ?_
    refine s_isub dX8_put_24 ?_
    refine t_nmI (fun z5 ez5 => ?_)
    replace h := h z5 ez5
    refine s_istore dX8_put_25 (by decide) rfl (L9 := [some (.ref 57), some (.int p0), some (.int p1), some (.long p2), none, some (.int v2), some (.int z5)]) rfl ?_
    refine s_aload_n dX8_put_27 rfl rfl ?_
    refine t_getR (o' := 91) dX8_put_28 fl_X8_115 rfl (by decide) rfl rfl ?_
    refine s_bipush (v := 60) dX8_put_31 (by decide) ?_
    refine s_iload_n dX8_put_33 rfl rfl ?_
    refine s_imul dX8_put_34 ?_
    refine s_iload_n dX8_put_35 rfl rfl ?_
    refine s_iadd dX8_put_36 ?_
    refine s_iload dX8_put_37 rfl ?_
    refine s_if_ne (tgt := 49) dX8_put_39 (by decide) (fun c6 => ?_) (fun c6 => ?_)
    · replace h := h.1 c6
      refine s_iload dX8_put_49 rfl ?_
      refine s_iconst (v := 1) dX8_put_51 (by decide) ?_
      refine s_icmp_ne (tgt := 62) dX8_put_52 (by decide) (fun c7 => ?_) (fun c7 => ?_)
      · replace h := h.1 c7
        refine s_iload dX8_put_62 rfl ?_
        refine s_iconst (v := 2) dX8_put_64 (by decide) ?_
        refine s_icmp_ne (tgt := 74) dX8_put_65 (by decide) (fun c8 => ?_) (fun c8 => ?_)
        · replace h := h.1 c8
          refine s_iload dX8_put_74 rfl ?_
          refine s_iconst (v := 3) dX8_put_76 (by decide) ?_
          refine s_icmp_ne (tgt := 84) dX8_put_77 (by decide) (fun c9 => ?_) (fun c9 => ?_)
          · replace h := h.1 c9
            refine s_lload_n dX8_put_84 rfl rfl ?_
            refine s_lconst (v := 0) dX8_put_85 rfl ?_
            refine t_cmp_eq (tgt := 94) dX8_put_86 dX8_put_87 (by decide) (fun c10 => ?_) (fun c10 => ?_)
            · replace h := h.1 c10
              refine s_lconst (v := 0) dX8_put_94 rfl ?_
              obtain ⟨g11, h⟩ := h
              refine t_last dX8_put_95 rfl (by decide) g11 ?_
              refine s_iconst (v := 1) dX8_put_96 (by decide) ?_
              exact t_iret dX8_put_97 (NR_i rfl _) h
            · replace h := h.2 c10
              refine s_lconst (v := 1) dX8_put_90 rfl ?_
              refine s_goto (tgt := 95) dX8_put_91 (by decide) ?_
              obtain ⟨g12, h⟩ := h
              refine t_last dX8_put_95 rfl (by decide) g12 ?_
              refine s_iconst (v := 1) dX8_put_96 (by decide) ?_
              exact t_iret dX8_put_97 (NR_i rfl _) h
          · replace h := h.2 c9
            refine s_lload_n dX8_put_80 rfl rfl ?_
            refine s_goto (tgt := 95) dX8_put_81 (by decide) ?_
            obtain ⟨g13, h⟩ := h
            refine t_last dX8_put_95 rfl (by decide) g13 ?_
            refine s_iconst (v := 1) dX8_put_96 (by decide) ?_
            exact t_iret dX8_put_97 (NR_i rfl _) h
        · replace h := h.2 c8
          refine s_lload_n dX8_put_68 rfl rfl ?_
          refine s_l2i dX8_put_69 ?_
          refine s_i2l dX8_put_70 ?_
          refine s_goto (tgt := 95) dX8_put_71 (by decide) ?_
          obtain ⟨g14, h⟩ := h
          refine t_last dX8_put_95 rfl (by decide) g14 ?_
          refine s_iconst (v := 1) dX8_put_96 (by decide) ?_
          exact t_iret dX8_put_97 (NR_i rfl _) h
      · replace h := h.2 c7
        refine s_lload_n dX8_put_55 rfl rfl ?_
        refine s_l2i dX8_put_56 ?_
        refine s_i2s dX8_put_57 ?_
        refine s_i2l dX8_put_58 ?_
        refine s_goto (tgt := 95) dX8_put_59 (by decide) ?_
        obtain ⟨g15, h⟩ := h
        refine t_last dX8_put_95 rfl (by decide) g15 ?_
        refine s_iconst (v := 1) dX8_put_96 (by decide) ?_
        exact t_iret dX8_put_97 (NR_i rfl _) h
    · replace h := h.2 c6
      refine s_lload_n dX8_put_42 rfl rfl ?_
      refine s_l2i dX8_put_43 ?_
      refine s_i2b dX8_put_44 ?_
      refine s_i2l dX8_put_45 ?_
      refine s_goto (tgt := 95) dX8_put_46 (by decide) ?_
      obtain ⟨g16, h⟩ := h
      refine t_last dX8_put_95 rfl (by decide) g16 ?_
      refine s_iconst (v := 1) dX8_put_96 (by decide) ?_
      exact t_iret dX8_put_97 (NR_i rfl _) h
  · replace h := h.2 c3
    refine s_iload dX8_put_13 rfl ?_
    exact t_iret dX8_put_15 (NR_i rfl _) h
theorem bX8_element_0 {g : Gt} {d : Nat} {t : Tt} {Q : Option Value → Tt → Prop} {p0 : Int32} {p1 : Int32} (h : Rt g d mX8_whyNoPlace 0 [some (.ref 57), some (.int p0), some (.int p1)] [] t (QI (fun v2 t1 => (0 ≤ v2 → vp_in ((60 * p0) + p1) 360 ∧ Q (some (.long (t1.2.1 91 ((60 * p0) + p1).toNatClampNeg))) t1) ∧ (¬ 0 ≤ v2 → Q (some (.long (-9223372036854775808))) t1)))) : Rt g (d + 1) mX8_element 0 [some (.ref 57), some (.int p0), some (.int p1)] [] t Q := by
  refine s_aload_n dX8_element_0 rfl rfl ?_
  refine s_iload_n dX8_element_1 rfl rfl ?_
  refine s_iload_n dX8_element_2 rfl rfl ?_
  refine t_callV (M' := mX8_whyNoPlace) (k := 0) (As := [.int p0, .int p1]) (rest := []) dX8_element_3 ml_X8_375 miX8_whyNoPlace msX8_whyNoPlace rfl (by decide) rfl rfl (Nat.le_of_ble_eq_true rfl) (Nat.le_of_ble_eq_true rfl) rfl h (fun rv t1 q => ?_)
  obtain ⟨v2, rfl, h⟩ := q
  show Rt g (d + 1) mX8_element 6 [some (.ref 57), some (.int p0), some (.int p1)] [.int v2] t1 Q
  refine s_if_ge (tgt := 15) dX8_element_6 (by decide) (fun c3 => ?_) (fun c3 => ?_)
  · replace h := h.1 c3
    refine s_aload_n dX8_element_15 rfl rfl ?_
    refine t_getR (o' := 91) dX8_element_16 fl_X8_115 rfl (by decide) rfl rfl ?_
    refine s_bipush (v := 60) dX8_element_19 (by decide) ?_
    refine s_iload_n dX8_element_21 rfl rfl ?_
    refine s_imul dX8_element_22 ?_
    refine s_iload_n dX8_element_23 rfl rfl ?_
    refine s_iadd dX8_element_24 ?_
    obtain ⟨g4, h⟩ := h
    refine t_lald dX8_element_25 rfl (by decide) g4 ?_
    exact t_lret dX8_element_26 rfl h
  · replace h := h.2 c3
    refine s_ldc2 (v := (-9223372036854775808)) dX8_element_9 cl_X8_380 ?_
    refine s_goto (tgt := 26) dX8_element_12 (by decide) ?_
    exact t_lret dX8_element_26 rfl h
theorem bX8_shift_0 {g : Gt} {d : Nat} {t : Tt} {Q : Option Value → Tt → Prop} {p0 : Int32} {p1 : Int32} {p2 : Int32} {p3 : Int32} {p4 : Int32} (h : Rt g d mX8_isShelf 0 [some (.int p0)] [] t (QI (fun v2 t1 => (v2 = 0 → Q (some (.int (-1))) t1) ∧ (¬ v2 = 0 → Rt g d mX8_isShelf 0 [some (.int p2)] [] t1 (QI (fun v5 t4 => (¬ v5 = 0 → vp_in p0 6 ∧ (((t4.1 89 p0.toNatClampNeg) = (-1) → Q (some (.int (-11))) t4) ∧ (¬ (t4.1 89 p0.toNatClampNeg) = (-1) → vp_in p2 6 ∧ ((¬ (t4.1 89 p2.toNatClampNeg) = (-1) → vp_in p0 6 ∧ ((0 ≤ (t4.1 89 p0.toNatClampNeg) → Q (some (.int (-12))) t4) ∧ (¬ 0 ≤ (t4.1 89 p0.toNatClampNeg) → vp_in p0 6 ∧ (vp_in p2 6 ∧ (((t4.1 89 p0.toNatClampNeg) = (t4.1 89 p2.toNatClampNeg) → (p4 < 0 → Q (some (.int (-13))) t4) ∧ (¬ p4 < 0 → (p1 < 0 → Q (some (.int (-13))) t4) ∧ (¬ p1 < 0 → (p3 < 0 → Q (some (.int (-13))) t4) ∧ (¬ p3 < 0 → vp_in p0 6 ∧ ((((t4.1 90 p0.toNatClampNeg) - p4) < p1 → Q (some (.int (-13))) t4) ∧ (¬ ((t4.1 90 p0.toNatClampNeg) - p4) < p1 → vp_in p2 6 ∧ ((p3 ≤ ((t4.1 90 p2.toNatClampNeg) - p4) → Rt g (d + 1) mX8_shift 113 [some (.ref 57), some (.int p0), some (.int p1), some (.int p2), some (.int p3), some (.int p4), some (.int 0)] [] t4 Q) ∧ (¬ p3 ≤ ((t4.1 90 p2.toNatClampNeg) - p4) → Q (some (.int (-13))) t4)))))))) ∧ (¬ (t4.1 89 p0.toNatClampNeg) = (t4.1 89 p2.toNatClampNeg) → Q (some (.int (-12))) t4)))))) ∧ ((t4.1 89 p2.toNatClampNeg) = (-1) → Q (some (.int (-11))) t4))))) ∧ (v5 = 0 → Q (some (.int (-1))) t4))))))) : Rt g (d + 1) mX8_shift 0 [some (.ref 57), some (.int p0), some (.int p1), some (.int p2), some (.int p3), some (.int p4), none] [] t Q := by
  refine s_iload_n dX8_shift_0 rfl rfl ?_
  refine t_callS (M' := mX8_isShelf) (k := 0) (As := [.int p0]) (rest := []) dX8_shift_1 ml_X8_132 mstX8_isShelf rfl (Nat.le_of_ble_eq_true rfl) (Nat.le_of_ble_eq_true rfl) rfl h (fun rv t1 q => ?_)
  obtain ⟨v2, rfl, h⟩ := q
  show Rt g (d + 1) mX8_shift 4 [some (.ref 57), some (.int p0), some (.int p1), some (.int p2), some (.int p3), some (.int p4), none] [.int v2] t1 Q
  refine s_if_eq (tgt := 14) dX8_shift_4 (by decide) (fun c3 => ?_) (fun c3 => ?_)
  · replace h := h.1 c3
    refine s_iconst (v := (-1)) dX8_shift_14 (by decide) ?_
    exact t_iret dX8_shift_15 (NR_i rfl _) h
  · replace h := h.2 c3
    refine s_iload_n dX8_shift_7 rfl rfl ?_
    refine t_callS (M' := mX8_isShelf) (k := 0) (As := [.int p2]) (rest := []) dX8_shift_8 ml_X8_132 mstX8_isShelf rfl (Nat.le_of_ble_eq_true rfl) (Nat.le_of_ble_eq_true rfl) rfl h (fun rv t4 q => ?_)
    obtain ⟨v5, rfl, h⟩ := q
    show Rt g (d + 1) mX8_shift 11 [some (.ref 57), some (.int p0), some (.int p1), some (.int p2), some (.int p3), some (.int p4), none] [.int v5] t4 Q
    refine s_if_ne (tgt := 16) dX8_shift_11 (by decide) (fun c6 => ?_) (fun c6 => ?_)
    · replace h := h.1 c6
      refine s_aload_n dX8_shift_16 rfl rfl ?_
      refine t_getR (o' := 89) dX8_shift_17 fl_X8_109 rfl (by decide) rfl rfl ?_
      refine s_iload_n dX8_shift_20 rfl rfl ?_
      obtain ⟨g7, h⟩ := h
      refine t_iald dX8_shift_21 rfl (by decide) g7 ?_
      refine s_iconst (v := (-1)) dX8_shift_22 (by decide) ?_
      refine s_icmp_eq (tgt := 36) dX8_shift_23 (by decide) (fun c8 => ?_) (fun c8 => ?_)
      · replace h := h.1 c8
        refine s_bipush (v := (-11)) dX8_shift_36 (by decide) ?_
        exact t_iret dX8_shift_38 (NR_i rfl _) h
      · replace h := h.2 c8
        refine s_aload_n dX8_shift_26 rfl rfl ?_
        refine t_getR (o' := 89) dX8_shift_27 fl_X8_109 rfl (by decide) rfl rfl ?_
        refine s_iload_n dX8_shift_30 rfl rfl ?_
        obtain ⟨g9, h⟩ := h
        refine t_iald dX8_shift_31 rfl (by decide) g9 ?_
        refine s_iconst (v := (-1)) dX8_shift_32 (by decide) ?_
        refine s_icmp_ne (tgt := 39) dX8_shift_33 (by decide) (fun c10 => ?_) (fun c10 => ?_)
        · replace h := h.1 c10
          refine s_aload_n dX8_shift_39 rfl rfl ?_
          refine t_getR (o' := 89) dX8_shift_40 fl_X8_109 rfl (by decide) rfl rfl ?_
          refine s_iload_n dX8_shift_43 rfl rfl ?_
          obtain ⟨g11, h⟩ := h
          refine t_iald dX8_shift_44 rfl (by decide) g11 ?_
          refine s_if_ge (tgt := 63) dX8_shift_45 (by decide) (fun c12 => ?_) (fun c12 => ?_)
          · replace h := h.1 c12
            refine s_bipush (v := (-12)) dX8_shift_63 (by decide) ?_
            exact t_iret dX8_shift_65 (NR_i rfl _) h
          · replace h := h.2 c12
            refine s_aload_n dX8_shift_48 rfl rfl ?_
            refine t_getR (o' := 89) dX8_shift_49 fl_X8_109 rfl (by decide) rfl rfl ?_
            refine s_iload_n dX8_shift_52 rfl rfl ?_
            obtain ⟨g13, h⟩ := h
            refine t_iald dX8_shift_53 rfl (by decide) g13 ?_
            refine s_aload_n dX8_shift_54 rfl rfl ?_
            refine t_getR (o' := 89) dX8_shift_55 fl_X8_109 rfl (by decide) rfl rfl ?_
            refine s_iload_n dX8_shift_58 rfl rfl ?_
            obtain ⟨g14, h⟩ := h
            refine t_iald dX8_shift_59 rfl (by decide) g14 ?_
            refine s_icmp_eq (tgt := 66) dX8_shift_60 (by decide) (fun c15 => ?_) (fun c15 => ?_)
            · replace h := h.1 c15
              refine s_iload dX8_shift_66 rfl ?_
              refine s_if_lt (tgt := 107) dX8_shift_68 (by decide) (fun c16 => ?_) (fun c16 => ?_)
              · replace h := h.1 c16
                refine s_bipush (v := (-13)) dX8_shift_107 (by decide) ?_
                exact t_iret dX8_shift_109 (NR_i rfl _) h
              · replace h := h.2 c16
                refine s_iload_n dX8_shift_71 rfl rfl ?_
                refine s_if_lt (tgt := 107) dX8_shift_72 (by decide) (fun c17 => ?_) (fun c17 => ?_)
                · replace h := h.1 c17
                  refine s_bipush (v := (-13)) dX8_shift_107 (by decide) ?_
                  exact t_iret dX8_shift_109 (NR_i rfl _) h
                · replace h := h.2 c17
                  refine s_iload dX8_shift_75 rfl ?_
                  refine s_if_lt (tgt := 107) dX8_shift_77 (by decide) (fun c18 => ?_) (fun c18 => ?_)
                  · replace h := h.1 c18
                    refine s_bipush (v := (-13)) dX8_shift_107 (by decide) ?_
                    exact t_iret dX8_shift_109 (NR_i rfl _) h
                  · replace h := h.2 c18
                    refine s_iload_n dX8_shift_80 rfl rfl ?_
                    refine s_aload_n dX8_shift_81 rfl rfl ?_
                    refine t_getR (o' := 90) dX8_shift_82 fl_X8_112 rfl (by decide) rfl rfl ?_
                    refine s_iload_n dX8_shift_85 rfl rfl ?_
                    obtain ⟨g19, h⟩ := h
                    refine t_iald dX8_shift_86 rfl (by decide) g19 ?_
                    refine s_iload dX8_shift_87 rfl ?_
                    refine s_isub dX8_shift_89 ?_
                    refine s_icmp_gt (tgt := 107) dX8_shift_90 (by decide) (fun c20 => ?_) (fun c20 => ?_)
                    · replace h := h.1 c20
                      refine s_bipush (v := (-13)) dX8_shift_107 (by decide) ?_
                      exact t_iret dX8_shift_109 (NR_i rfl _) h
                    · replace h := h.2 c20
                      refine s_iload dX8_shift_93 rfl ?_
                      refine s_aload_n dX8_shift_95 rfl rfl ?_
                      refine t_getR (o' := 90) dX8_shift_96 fl_X8_112 rfl (by decide) rfl rfl ?_
                      refine s_iload_n dX8_shift_99 rfl rfl ?_
                      obtain ⟨g21, h⟩ := h
                      refine t_iald dX8_shift_100 rfl (by decide) g21 ?_
                      refine s_iload dX8_shift_101 rfl ?_
                      refine s_isub dX8_shift_103 ?_
                      refine s_icmp_le (tgt := 110) dX8_shift_104 (by decide) (fun c22 => ?_) (fun c22 => ?_)
                      · replace h := h.1 c22
                        refine s_iconst (v := 0) dX8_shift_110 (by decide) ?_
                        refine s_istore dX8_shift_111 (by decide) rfl (L9 := [some (.ref 57), some (.int p0), some (.int p1), some (.int p2), some (.int p3), some (.int p4), some (.int 0)]) rfl ?_
                        exact h
                      · replace h := h.2 c22
                        refine s_bipush (v := (-13)) dX8_shift_107 (by decide) ?_
                        exact t_iret dX8_shift_109 (NR_i rfl _) h
            · replace h := h.2 c15
              refine s_bipush (v := (-12)) dX8_shift_63 (by decide) ?_
              exact t_iret dX8_shift_65 (NR_i rfl _) h
        · replace h := h.2 c10
          refine s_bipush (v := (-11)) dX8_shift_36 (by decide) ?_
          exact t_iret dX8_shift_38 (NR_i rfl _) h
    · replace h := h.2 c6
      refine s_iconst (v := (-1)) dX8_shift_14 (by decide) ?_
      exact t_iret dX8_shift_15 (NR_i rfl _) h
theorem bX8_shift_113 {g : Gt} {d : Nat} {t : Tt} {Q : Option Value → Tt → Prop} {x1 : Int32} {x2 : Int32} {x3 : Int32} {x4 : Int32} {x5 : Int32} {x6 : Int32} (h : (x5 ≤ x6 → Rt g (d + 1) mX8_shift 150 [some (.ref 57), none, none, some (.int x3), some (.int x4), some (.int x5), some (.int 0)] [] t Q) ∧ (¬ x5 ≤ x6 → vp_in (((60 * x1) + x2) + x6) 360 ∧ (vp_in x6 60 ∧ Rt g (d + 1) mX8_shift 113 [some (.ref 57), some (.int x1), some (.int x2), some (.int x3), some (.int x4), some (.int x5), some (.int (x6 + 1))] [] (pJ t 92 x6.toNatClampNeg (t.2.1 91 (((60 * x1) + x2) + x6).toNatClampNeg)) Q))) : Rt g (d + 1) mX8_shift 113 [some (.ref 57), some (.int x1), some (.int x2), some (.int x3), some (.int x4), some (.int x5), some (.int x6)] [] t Q := by
  refine s_iload dX8_shift_113 rfl ?_
  refine s_iload dX8_shift_115 rfl ?_
  refine s_icmp_ge (tgt := 147) dX8_shift_117 (by decide) (fun c1 => ?_) (fun c1 => ?_)
  · replace h := h.1 c1
    refine s_iconst (v := 0) dX8_shift_147 (by decide) ?_
    refine s_istore dX8_shift_148 (by decide) rfl (L9 := [some (.ref 57), some (.int x1), some (.int x2), some (.int x3), some (.int x4), some (.int x5), some (.int 0)]) rfl ?_
    exact Rt.lc h (lc_some (lc_none (lc_none (lc_some (lc_some (lc_some (lc_some lc_nil)))))))
  · replace h := h.2 c1
    refine s_aload_n dX8_shift_120 rfl rfl ?_
    refine t_getR (o' := 92) dX8_shift_121 fl_X8_119 rfl (by decide) rfl rfl ?_
    refine s_iload dX8_shift_124 rfl ?_
    refine s_aload_n dX8_shift_126 rfl rfl ?_
    refine t_getR (o' := 91) dX8_shift_127 fl_X8_115 rfl (by decide) rfl rfl ?_
    refine s_bipush (v := 60) dX8_shift_130 (by decide) ?_
    refine s_iload_n dX8_shift_132 rfl rfl ?_
    refine s_imul dX8_shift_133 ?_
    refine s_iload_n dX8_shift_134 rfl rfl ?_
    refine s_iadd dX8_shift_135 ?_
    refine s_iload dX8_shift_136 rfl ?_
    refine s_iadd dX8_shift_138 ?_
    obtain ⟨g2, h⟩ := h
    refine t_lald dX8_shift_139 rfl (by decide) g2 ?_
    obtain ⟨g3, h⟩ := h
    refine t_last dX8_shift_140 rfl (by decide) g3 ?_
    refine s_iinc (w := x6 + 1) dX8_shift_141 rfl (by rfl) (by decide) rfl (L9 := [some (.ref 57), some (.int x1), some (.int x2), some (.int x3), some (.int x4), some (.int x5), some (.int (x6 + 1))]) rfl ?_
    refine s_goto (tgt := 113) dX8_shift_144 (by decide) ?_
    exact h
theorem bX8_shift_150 {g : Gt} {d : Nat} {t : Tt} {Q : Option Value → Tt → Prop} {x3 : Int32} {x4 : Int32} {x5 : Int32} {x6 : Int32} (h : (x5 ≤ x6 → Q (some (.int x5)) t) ∧ (¬ x5 ≤ x6 → vp_in x6 60 ∧ (vp_in (((60 * x3) + x4) + x6) 360 ∧ Rt g (d + 1) mX8_shift 150 [some (.ref 57), none, none, some (.int x3), some (.int x4), some (.int x5), some (.int (x6 + 1))] [] (pJ t 91 (((60 * x3) + x4) + x6).toNatClampNeg (t.2.1 92 x6.toNatClampNeg)) Q))) : Rt g (d + 1) mX8_shift 150 [some (.ref 57), none, none, some (.int x3), some (.int x4), some (.int x5), some (.int x6)] [] t Q := by
  refine s_iload dX8_shift_150 rfl ?_
  refine s_iload dX8_shift_152 rfl ?_
  refine s_icmp_ge (tgt := 185) dX8_shift_154 (by decide) (fun c1 => ?_) (fun c1 => ?_)
  · replace h := h.1 c1
    refine s_iload dX8_shift_185 rfl ?_
    exact t_iret dX8_shift_187 (NR_i rfl _) h
  · replace h := h.2 c1
    refine s_aload_n dX8_shift_157 rfl rfl ?_
    refine t_getR (o' := 91) dX8_shift_158 fl_X8_115 rfl (by decide) rfl rfl ?_
    refine s_bipush (v := 60) dX8_shift_161 (by decide) ?_
    refine s_iload_n dX8_shift_163 rfl rfl ?_
    refine s_imul dX8_shift_164 ?_
    refine s_iload dX8_shift_165 rfl ?_
    refine s_iadd dX8_shift_167 ?_
    refine s_iload dX8_shift_168 rfl ?_
    refine s_iadd dX8_shift_170 ?_
    refine s_aload_n dX8_shift_171 rfl rfl ?_
    refine t_getR (o' := 92) dX8_shift_172 fl_X8_119 rfl (by decide) rfl rfl ?_
    refine s_iload dX8_shift_175 rfl ?_
    obtain ⟨g2, h⟩ := h
    refine t_lald dX8_shift_177 rfl (by decide) g2 ?_
    obtain ⟨g3, h⟩ := h
    refine t_last dX8_shift_178 rfl (by decide) g3 ?_
    refine s_iinc (w := x6 + 1) dX8_shift_179 rfl (by rfl) (by decide) rfl (L9 := [some (.ref 57), none, none, some (.int x3), some (.int x4), some (.int x5), some (.int (x6 + 1))]) rfl ?_
    refine s_goto (tgt := 150) dX8_shift_182 (by decide) ?_
    exact h
theorem bX8_taken_0 {g : Gt} {d : Nat} {t : Tt} {Q : Option Value → Tt → Prop} {p0 : Int32} {p1 : Int32} (h : Rt g d mX8_isShelf 0 [some (.int p0)] [] t (QI (fun v2 t1 => (v2 = 0 → Q (some (.int (-1))) t1) ∧ (¬ v2 = 0 → Rt g d mX8_in 0 [some (.int p1), some (.int 0), some (.int 7)] [] t1 (QI (fun v5 t4 => (¬ v5 = 0 → vp_in p0 6 ∧ ((¬ (t4.1 89 p0.toNatClampNeg) = (-1) → vp_in p0 6 ∧ (((t4.1 89 p0.toNatClampNeg) < 0 → Q (some (.int (-12))) t4) ∧ (¬ (t4.1 89 p0.toNatClampNeg) < 0 → vp_in p0 6 ∧ (vp_in (t4.1 89 p0.toNatClampNeg) 50 ∧ (Rt g d mX8_isUnder 0 [some (.int (t4.1 87 (t4.1 89 p0.toNatClampNeg).toNatClampNeg)), some (.int p1)] [] t4 (QI (fun v14 t13 => (v14 = 0 → Q (some (.int (-12))) t13) ∧ (¬ v14 = 0 → vp_in p0 6 ∧ (vp_in (t13.1 89 p0.toNatClampNeg) 50 ∧ Q (some (.int (t13.1 87 (t13.1 89 p0.toNatClampNeg).toNatClampNeg))) t13))))))))) ∧ ((t4.1 89 p0.toNatClampNeg) = (-1) → Q (some (.int (-11))) t4))) ∧ (v5 = 0 → Q (some (.int (-1))) t4))))))) : Rt g (d + 1) mX8_taken 0 [some (.ref 57), some (.int p0), some (.int p1)] [] t Q := by
  refine s_iload_n dX8_taken_0 rfl rfl ?_
  refine t_callS (M' := mX8_isShelf) (k := 0) (As := [.int p0]) (rest := []) dX8_taken_1 ml_X8_132 mstX8_isShelf rfl (Nat.le_of_ble_eq_true rfl) (Nat.le_of_ble_eq_true rfl) rfl h (fun rv t1 q => ?_)
  obtain ⟨v2, rfl, h⟩ := q
  show Rt g (d + 1) mX8_taken 4 [some (.ref 57), some (.int p0), some (.int p1)] [.int v2] t1 Q
  refine s_if_eq (tgt := 17) dX8_taken_4 (by decide) (fun c3 => ?_) (fun c3 => ?_)
  · replace h := h.1 c3
    refine s_iconst (v := (-1)) dX8_taken_17 (by decide) ?_
    exact t_iret dX8_taken_18 (NR_i rfl _) h
  · replace h := h.2 c3
    refine s_iload_n dX8_taken_7 rfl rfl ?_
    refine s_iconst (v := 0) dX8_taken_8 (by decide) ?_
    refine s_bipush (v := 7) dX8_taken_9 (by decide) ?_
    refine t_callS (M' := mX8_in) (k := 0) (As := [.int p1, .int 0, .int 7]) (rest := []) dX8_taken_11 ml_X8_128 mstX8_in rfl (Nat.le_of_ble_eq_true rfl) (Nat.le_of_ble_eq_true rfl) rfl h (fun rv t4 q => ?_)
    obtain ⟨v5, rfl, h⟩ := q
    show Rt g (d + 1) mX8_taken 14 [some (.ref 57), some (.int p0), some (.int p1)] [.int v5] t4 Q
    refine s_if_ne (tgt := 19) dX8_taken_14 (by decide) (fun c6 => ?_) (fun c6 => ?_)
    · replace h := h.1 c6
      refine s_aload_n dX8_taken_19 rfl rfl ?_
      refine t_getR (o' := 89) dX8_taken_20 fl_X8_109 rfl (by decide) rfl rfl ?_
      refine s_iload_n dX8_taken_23 rfl rfl ?_
      obtain ⟨g7, h⟩ := h
      refine t_iald dX8_taken_24 rfl (by decide) g7 ?_
      refine s_iconst (v := (-1)) dX8_taken_25 (by decide) ?_
      refine s_icmp_ne (tgt := 32) dX8_taken_26 (by decide) (fun c8 => ?_) (fun c8 => ?_)
      · replace h := h.1 c8
        refine s_aload_n dX8_taken_32 rfl rfl ?_
        refine t_getR (o' := 89) dX8_taken_33 fl_X8_109 rfl (by decide) rfl rfl ?_
        refine s_iload_n dX8_taken_36 rfl rfl ?_
        obtain ⟨g9, h⟩ := h
        refine t_iald dX8_taken_37 rfl (by decide) g9 ?_
        refine s_if_lt (tgt := 73) dX8_taken_38 (by decide) (fun c10 => ?_) (fun c10 => ?_)
        · replace h := h.1 c10
          refine s_bipush (v := (-12)) dX8_taken_73 (by decide) ?_
          exact t_iret dX8_taken_75 (NR_i rfl _) h
        · replace h := h.2 c10
          refine s_aload_n dX8_taken_41 rfl rfl ?_
          refine t_getR (o' := 87) dX8_taken_42 fl_X8_103 rfl (by decide) rfl rfl ?_
          refine s_aload_n dX8_taken_45 rfl rfl ?_
          refine t_getR (o' := 89) dX8_taken_46 fl_X8_109 rfl (by decide) rfl rfl ?_
          refine s_iload_n dX8_taken_49 rfl rfl ?_
          obtain ⟨g11, h⟩ := h
          refine t_iald dX8_taken_50 rfl (by decide) g11 ?_
          obtain ⟨g12, h⟩ := h
          refine t_iald dX8_taken_51 rfl (by decide) g12 ?_
          refine s_iload_n dX8_taken_52 rfl rfl ?_
          refine t_callS (M' := mX8_isUnder) (k := 0) (As := [.int (t4.1 87 (t4.1 89 p0.toNatClampNeg).toNatClampNeg), .int p1]) (rest := []) dX8_taken_53 ml_X8_339 mstX8_isUnder rfl (Nat.le_of_ble_eq_true rfl) (Nat.le_of_ble_eq_true rfl) rfl h (fun rv t13 q => ?_)
          obtain ⟨v14, rfl, h⟩ := q
          show Rt g (d + 1) mX8_taken 56 [some (.ref 57), some (.int p0), some (.int p1)] [.int v14] t13 Q
          refine s_if_eq (tgt := 73) dX8_taken_56 (by decide) (fun c15 => ?_) (fun c15 => ?_)
          · replace h := h.1 c15
            refine s_bipush (v := (-12)) dX8_taken_73 (by decide) ?_
            exact t_iret dX8_taken_75 (NR_i rfl _) h
          · replace h := h.2 c15
            refine s_aload_n dX8_taken_59 rfl rfl ?_
            refine t_getR (o' := 87) dX8_taken_60 fl_X8_103 rfl (by decide) rfl rfl ?_
            refine s_aload_n dX8_taken_63 rfl rfl ?_
            refine t_getR (o' := 89) dX8_taken_64 fl_X8_109 rfl (by decide) rfl rfl ?_
            refine s_iload_n dX8_taken_67 rfl rfl ?_
            obtain ⟨g16, h⟩ := h
            refine t_iald dX8_taken_68 rfl (by decide) g16 ?_
            obtain ⟨g17, h⟩ := h
            refine t_iald dX8_taken_69 rfl (by decide) g17 ?_
            refine s_goto (tgt := 75) dX8_taken_70 (by decide) ?_
            exact t_iret dX8_taken_75 (NR_i rfl _) h
      · replace h := h.2 c8
        refine s_bipush (v := (-11)) dX8_taken_29 (by decide) ?_
        exact t_iret dX8_taken_31 (NR_i rfl _) h
    · replace h := h.2 c6
      refine s_iconst (v := (-1)) dX8_taken_17 (by decide) ?_
      exact t_iret dX8_taken_18 (NR_i rfl _) h
