theorem bX2_summon_0 {g : Gt} {d : Nat} {t : Tt} {Q : Option Value → Tt → Prop} {o0 : Nat} (ho0 : isSh o0) {p1 : Int32} (h : Rt g d mX2_summon 7 [some (.ref 13), some (.ref o0), some (.int p1), some (.int 0), none, none, none, none, none, none, none, none, none, none] [] (pI t 13 0 0) Q) : Rt g d mX2_summon 0 [some (.ref 13), some (.ref o0), some (.int p1), none, none, none, none, none, none, none, none, none, none, none] [] t Q := by
  refine s_aload_n dX2_summon_0 rfl rfl ?_
  refine s_iconst (v := 0) dX2_summon_1 (by decide) ?_
  refine t_putI dX2_summon_2 fl_X2_31 rfl (by decide) rfl rfl rfl rfl ?_
  refine s_iconst (v := 0) dX2_summon_5 (by decide) ?_
  refine s_istore_n dX2_summon_6 rfl (by decide) rfl (L9 := [some (.ref 13), some (.ref o0), some (.int p1), some (.int 0), none, none, none, none, none, none, none, none, none, none]) rfl ?_
  exact h
theorem bX2_summon_7 {g : Gt} {d : Nat} {t : Tt} {Q : Option Value → Tt → Prop} {o0 : Nat} (ho0 : isSh o0) {x2 : Int32} {x3 : Int32} (h : ((t.1 o0 1) < (x3 + 4) → Q none t) ∧ (¬ (t.1 o0 1) < (x3 + 4) → (15 ≤ (t.1 13 0) → Q none t) ∧ (¬ 15 ≤ (t.1 13 0) → vp_in x3 60 ∧ (∀ z4 : Int64, z4 = (t.2.1 (o0 + 1) x3.toNatClampNeg) → vp_in (x3 + 1) 60 ∧ (∀ z6 : Int64, z6 = (t.2.1 (o0 + 1) (x3 + 1).toNatClampNeg) → vp_in (x3 + 2) 60 ∧ (∀ z8 : Int64, z8 = (t.2.1 (o0 + 1) (x3 + 2).toNatClampNeg) → vp_in (x3 + 3) 60 ∧ (∀ z10 : Int64, z10 = (t.2.1 (o0 + 1) (x3 + 3).toNatClampNeg) → (z4 < 0 → Rt g d mX2_summon 83 [some (.ref 13), some (.ref o0), some (.int x2), some (.int x3), some (.long z4), none, some (.long z6), none, some (.long z8), none, some (.long z10), none, none, none] [] t Q) ∧ (¬ z4 < 0 → ((x2.toInt64) ≤ z4 → Rt g d mX2_summon 83 [some (.ref 13), some (.ref o0), some (.int x2), some (.int x3), some (.long z4), none, some (.long z6), none, some (.long z8), none, some (.long z10), none, none, none] [] t Q) ∧ (¬ (x2.toInt64) ≤ z4 → Rt g d mX2_summon 84 [some (.ref 13), some (.ref o0), some (.int x2), some (.int x3), some (.long z4), none, some (.long z6), none, some (.long z8), none, some (.long z10), none, none, none] [.int 1] t Q))))))))) : Rt g d mX2_summon 7 [some (.ref 13), some (.ref o0), some (.int x2), some (.int x3), none, none, none, none, none, none, none, none, none, none] [] t Q := by
  refine s_iload_n dX2_summon_7 rfl rfl ?_
  refine s_iconst (v := 4) dX2_summon_8 (by decide) ?_
  refine s_iadd dX2_summon_9 ?_
  refine s_aload_n dX2_summon_10 rfl rfl ?_
  refine t_getI dX2_summon_11 fl_X2_35 (isSh_k ho0) (isSh_z ho0) rfl ?_
  refine s_icmp_gt (tgt := 209) dX2_summon_14 (by decide) (fun c1 => ?_) (fun c1 => ?_)
  · replace h := h.1 c1
    exact t_vret dX2_summon_209 rfl h
  · replace h := h.2 c1
    refine s_aload_n dX2_summon_17 rfl rfl ?_
    refine t_getI dX2_summon_18 fl_X2_31 rfl (by decide) rfl ?_
    refine s_bipush (v := 15) dX2_summon_21 (by decide) ?_
    refine s_icmp_ge (tgt := 209) dX2_summon_23 (by decide) (fun c2 => ?_) (fun c2 => ?_)
    · replace h := h.1 c2
      exact t_vret dX2_summon_209 rfl h
    · replace h := h.2 c2
      refine s_aload_n dX2_summon_26 rfl rfl ?_
      refine t_getR dX2_summon_27 fl_X2_40 (isSh_k ho0) (isSh_z ho0) rfl (isSh_r3 _ ho0) ?_
      refine s_iload_n dX2_summon_30 rfl rfl ?_
      obtain ⟨g3, h⟩ := h
      refine t_lald dX2_summon_31 (isSh_k3 ho0) (isSh_z3 ho0) g3 ?_
      refine t_nmJ (fun z4 ez4 => ?_)
      replace h := h z4 ez4
      refine s_lstore dX2_summon_32 (by decide) rfl (L9 := [some (.ref 13), some (.ref o0), some (.int x2), some (.int x3), some (.long z4), none, none, none, none, none, none, none, none, none]) rfl ?_
      refine s_aload_n dX2_summon_34 rfl rfl ?_
      refine t_getR dX2_summon_35 fl_X2_40 (isSh_k ho0) (isSh_z ho0) rfl (isSh_r3 _ ho0) ?_
      refine s_iload_n dX2_summon_38 rfl rfl ?_
      refine s_iconst (v := 1) dX2_summon_39 (by decide) ?_
      refine s_iadd dX2_summon_40 ?_
      obtain ⟨g5, h⟩ := h
      refine t_lald dX2_summon_41 (isSh_k3 ho0) (isSh_z3 ho0) g5 ?_
      refine t_nmJ (fun z6 ez6 => ?_)
      replace h := h z6 ez6
      refine s_lstore dX2_summon_42 (by decide) rfl (L9 := [some (.ref 13), some (.ref o0), some (.int x2), some (.int x3), some (.long z4), none, some (.long z6), none, none, none, none, none, none, none]) rfl ?_
      refine s_aload_n dX2_summon_44 rfl rfl ?_
      refine t_getR dX2_summon_45 fl_X2_40 (isSh_k ho0) (isSh_z ho0) rfl (isSh_r3 _ ho0) ?_
      refine s_iload_n dX2_summon_48 rfl rfl ?_
      refine s_iconst (v := 2) dX2_summon_49 (by decide) ?_
      refine s_iadd dX2_summon_50 ?_
      obtain ⟨g7, h⟩ := h
      refine t_lald dX2_summon_51 (isSh_k3 ho0) (isSh_z3 ho0) g7 ?_
      refine t_nmJ (fun z8 ez8 => ?_)
      replace h := h z8 ez8
      refine s_lstore dX2_summon_52 (by decide) rfl (L9 := [some (.ref 13), some (.ref o0), some (.int x2), some (.int x3), some (.long z4), none, some (.long z6), none, some (.long z8), none, none, none, none, none]) rfl ?_
      refine s_aload_n dX2_summon_54 rfl rfl ?_
      refine t_getR dX2_summon_55 fl_X2_40 (isSh_k ho0) (isSh_z ho0) rfl (isSh_r3 _ ho0) ?_
      refine s_iload_n dX2_summon_58 rfl rfl ?_
      refine s_iconst (v := 3) dX2_summon_59 (by decide) ?_
      refine s_iadd dX2_summon_60 ?_
      obtain ⟨g9, h⟩ := h
      refine t_lald dX2_summon_61 (isSh_k3 ho0) (isSh_z3 ho0) g9 ?_
      refine t_nmJ (fun z10 ez10 => ?_)
      replace h := h z10 ez10
      refine s_lstore dX2_summon_62 (by decide) rfl (L9 := [some (.ref 13), some (.ref o0), some (.int x2), some (.int x3), some (.long z4), none, some (.long z6), none, some (.long z8), none, some (.long z10), none, none, none]) rfl ?_
      refine s_lload dX2_summon_64 rfl ?_
      refine s_lconst (v := 0) dX2_summon_66 rfl ?_
      refine t_cmp_lt (tgt := 83) dX2_summon_67 dX2_summon_68 (by decide) (fun c11 => ?_) (fun c11 => ?_)
      · replace h := h.1 c11
        exact h
      · replace h := h.2 c11
        refine s_lload dX2_summon_71 rfl ?_
        refine s_iload_n dX2_summon_73 rfl rfl ?_
        refine s_i2l dX2_summon_74 ?_
        refine t_cmp_ge (tgt := 83) dX2_summon_75 dX2_summon_76 (by decide) (fun c12 => ?_) (fun c12 => ?_)
        · replace h := h.1 c12
          exact h
        · replace h := h.2 c12
          refine s_iconst (v := 1) dX2_summon_79 (by decide) ?_
          refine s_goto (tgt := 84) dX2_summon_80 (by decide) ?_
          exact h
theorem bX2_summon_83 {g : Gt} {d : Nat} {t : Tt} {Q : Option Value → Tt → Prop} {o0 : Nat} (ho0 : isSh o0) {x2 : Int32} {x3 : Int32} {x4 : Int64} {x6 : Int64} {x8 : Int64} {x10 : Int64} (h : Rt g d mX2_summon 84 [some (.ref 13), some (.ref o0), some (.int x2), some (.int x3), some (.long x4), none, some (.long x6), none, some (.long x8), none, some (.long x10), none, none, none] [.int 0] t Q) : Rt g d mX2_summon 83 [some (.ref 13), some (.ref o0), some (.int x2), some (.int x3), some (.long x4), none, some (.long x6), none, some (.long x8), none, some (.long x10), none, none, none] [] t Q := by
  refine s_iconst (v := 0) dX2_summon_83 (by decide) ?_
  exact h
theorem bX2_summon_84 {g : Gt} {d : Nat} {t : Tt} {Q : Option Value → Tt → Prop} {o0 : Nat} (ho0 : isSh o0) {x2 : Int32} {x3 : Int32} {x4 : Int64} {x6 : Int64} {x8 : Int64} {x10 : Int64} {s0 : Int32} (h : (x6 < 0 → Rt g d mX2_summon 120 [some (.ref 13), some (.ref o0), some (.int x2), some (.int x3), some (.long x4), none, some (.long x6), none, some (.long x8), none, some (.long x10), none, some (.int s0), none] [] t Q) ∧ (¬ x6 < 0 → (10 ≤ x6 → Rt g d mX2_summon 120 [some (.ref 13), some (.ref o0), some (.int x2), some (.int x3), some (.long x4), none, some (.long x6), none, some (.long x8), none, some (.long x10), none, some (.int s0), none] [] t Q) ∧ (¬ 10 ≤ x6 → (x8 < 0 → Rt g d mX2_summon 120 [some (.ref 13), some (.ref o0), some (.int x2), some (.int x3), some (.long x4), none, some (.long x6), none, some (.long x8), none, some (.long x10), none, some (.int s0), none] [] t Q) ∧ (¬ x8 < 0 → (1 < x8 → Rt g d mX2_summon 120 [some (.ref 13), some (.ref o0), some (.int x2), some (.int x3), some (.long x4), none, some (.long x6), none, some (.long x8), none, some (.long x10), none, some (.int s0), none] [] t Q) ∧ (¬ 1 < x8 → Rt g d mX2_summon 121 [some (.ref 13), some (.ref o0), some (.int x2), some (.int x3), some (.long x4), none, some (.long x6), none, some (.long x8), none, some (.long x10), none, some (.int s0), none] [.int 1] t Q))))) : Rt g d mX2_summon 84 [some (.ref 13), some (.ref o0), some (.int x2), some (.int x3), some (.long x4), none, some (.long x6), none, some (.long x8), none, some (.long x10), none, none, none] [.int s0] t Q := by
  refine s_istore dX2_summon_84 (by decide) rfl (L9 := [some (.ref 13), some (.ref o0), some (.int x2), some (.int x3), some (.long x4), none, some (.long x6), none, some (.long x8), none, some (.long x10), none, some (.int s0), none]) rfl ?_
  refine s_lload dX2_summon_86 rfl ?_
  refine s_lconst (v := 0) dX2_summon_88 rfl ?_
  refine t_cmp_lt (tgt := 120) dX2_summon_89 dX2_summon_90 (by decide) (fun c1 => ?_) (fun c1 => ?_)
  · replace h := h.1 c1
    exact h
  · replace h := h.2 c1
    refine s_lload dX2_summon_93 rfl ?_
    refine s_ldc2 (v := 10) dX2_summon_95 cl_X2_44 ?_
    refine t_cmp_ge (tgt := 120) dX2_summon_98 dX2_summon_99 (by decide) (fun c2 => ?_) (fun c2 => ?_)
    · replace h := h.1 c2
      exact h
    · replace h := h.2 c2
      refine s_lload dX2_summon_102 rfl ?_
      refine s_lconst (v := 0) dX2_summon_104 rfl ?_
      refine t_cmp_lt (tgt := 120) dX2_summon_105 dX2_summon_106 (by decide) (fun c3 => ?_) (fun c3 => ?_)
      · replace h := h.1 c3
        exact h
      · replace h := h.2 c3
        refine s_lload dX2_summon_109 rfl ?_
        refine s_lconst (v := 1) dX2_summon_111 rfl ?_
        refine t_cmp_gt (tgt := 120) dX2_summon_112 dX2_summon_113 (by decide) (fun c4 => ?_) (fun c4 => ?_)
        · replace h := h.1 c4
          exact h
        · replace h := h.2 c4
          refine s_iconst (v := 1) dX2_summon_116 (by decide) ?_
          refine s_goto (tgt := 121) dX2_summon_117 (by decide) ?_
          exact h
theorem bX2_summon_120 {g : Gt} {d : Nat} {t : Tt} {Q : Option Value → Tt → Prop} {o0 : Nat} (ho0 : isSh o0) {x2 : Int32} {x3 : Int32} {x4 : Int64} {x6 : Int64} {x8 : Int64} {x10 : Int64} {x12 : Int32} (h : Rt g d mX2_summon 121 [some (.ref 13), some (.ref o0), some (.int x2), some (.int x3), some (.long x4), none, some (.long x6), none, some (.long x8), none, some (.long x10), none, some (.int x12), none] [.int 0] t Q) : Rt g d mX2_summon 120 [some (.ref 13), some (.ref o0), some (.int x2), some (.int x3), some (.long x4), none, some (.long x6), none, some (.long x8), none, some (.long x10), none, some (.int x12), none] [] t Q := by
  refine s_iconst (v := 0) dX2_summon_120 (by decide) ?_
  exact h
theorem bX2_summon_121 {g : Gt} {d : Nat} {t : Tt} {Q : Option Value → Tt → Prop} {o0 : Nat} (ho0 : isSh o0) {x2 : Int32} {x3 : Int32} {x4 : Int64} {x6 : Int64} {x8 : Int64} {x10 : Int64} {x12 : Int32} {s0 : Int32} (h : (x12 = 0 → Q none t) ∧ (¬ x12 = 0 → (s0 = 0 → Q none t) ∧ (¬ s0 = 0 → (x10 < 0 → Q none t) ∧ (¬ x10 < 0 → (x10 < 10 → vp_in (t.1 13 0) 15 ∧ (vp_in ((pI t 14 (t.1 13 0).toNatClampNeg (x4.toInt32)).1 13 0) 15 ∧ (vp_in ((pI (pI t 14 (t.1 13 0).toNatClampNeg (x4.toInt32)) 15 ((pI t 14 (t.1 13 0).toNatClampNeg (x4.toInt32)).1 13 0).toNatClampNeg (((x6 * 2) + x8).toInt32)).1 13 0) 15 ∧ Rt g d mX2_summon 7 [some (.ref 13), some (.ref o0), some (.int x2), some (.int (x3 + 4)), none, none, none, none, none, none, none, none, none, none] [] (pI (pI (pI (pI t 14 (t.1 13 0).toNatClampNeg (x4.toInt32)) 15 ((pI t 14 (t.1 13 0).toNatClampNeg (x4.toInt32)).1 13 0).toNatClampNeg (((x6 * 2) + x8).toInt32)) 16 ((pI (pI t 14 (t.1 13 0).toNatClampNeg (x4.toInt32)) 15 ((pI t 14 (t.1 13 0).toNatClampNeg (x4.toInt32)).1 13 0).toNatClampNeg (((x6 * 2) + x8).toInt32)).1 13 0).toNatClampNeg (x10.toInt32)) 13 0 (((pI (pI (pI t 14 (t.1 13 0).toNatClampNeg (x4.toInt32)) 15 ((pI t 14 (t.1 13 0).toNatClampNeg (x4.toInt32)).1 13 0).toNatClampNeg (((x6 * 2) + x8).toInt32)) 16 ((pI (pI t 14 (t.1 13 0).toNatClampNeg (x4.toInt32)) 15 ((pI t 14 (t.1 13 0).toNatClampNeg (x4.toInt32)).1 13 0).toNatClampNeg (((x6 * 2) + x8).toInt32)).1 13 0).toNatClampNeg (x10.toInt32)).1 13 0) + 1)) Q))) ∧ (¬ x10 < 10 → Q none t))))) : Rt g d mX2_summon 121 [some (.ref 13), some (.ref o0), some (.int x2), some (.int x3), some (.long x4), none, some (.long x6), none, some (.long x8), none, some (.long x10), none, some (.int x12), none] [.int s0] t Q := by
  refine s_istore dX2_summon_121 (by decide) rfl (L9 := [some (.ref 13), some (.ref o0), some (.int x2), some (.int x3), some (.long x4), none, some (.long x6), none, some (.long x8), none, some (.long x10), none, some (.int x12), some (.int s0)]) rfl ?_
  refine s_iload dX2_summon_123 rfl ?_
  refine s_if_eq (tgt := 149) dX2_summon_125 (by decide) (fun c1 => ?_) (fun c1 => ?_)
  · replace h := h.1 c1
    exact t_vret dX2_summon_149 rfl h
  · replace h := h.2 c1
    refine s_iload dX2_summon_128 rfl ?_
    refine s_if_eq (tgt := 149) dX2_summon_130 (by decide) (fun c2 => ?_) (fun c2 => ?_)
    · replace h := h.1 c2
      exact t_vret dX2_summon_149 rfl h
    · replace h := h.2 c2
      refine s_lload dX2_summon_133 rfl ?_
      refine s_lconst (v := 0) dX2_summon_135 rfl ?_
      refine t_cmp_lt (tgt := 149) dX2_summon_136 dX2_summon_137 (by decide) (fun c3 => ?_) (fun c3 => ?_)
      · replace h := h.1 c3
        exact t_vret dX2_summon_149 rfl h
      · replace h := h.2 c3
        refine s_lload dX2_summon_140 rfl ?_
        refine s_ldc2 (v := 10) dX2_summon_142 cl_X2_44 ?_
        refine t_cmp_lt (tgt := 150) dX2_summon_145 dX2_summon_146 (by decide) (fun c4 => ?_) (fun c4 => ?_)
        · replace h := h.1 c4
          refine s_aload_n dX2_summon_150 rfl rfl ?_
          refine t_getR (o' := 14) dX2_summon_151 fl_X2_11 rfl (by decide) rfl rfl ?_
          refine s_aload_n dX2_summon_154 rfl rfl ?_
          refine t_getI dX2_summon_155 fl_X2_31 rfl (by decide) rfl ?_
          refine s_lload dX2_summon_158 rfl ?_
          refine s_l2i dX2_summon_160 ?_
          obtain ⟨g5, h⟩ := h
          refine t_iast dX2_summon_161 rfl (by decide) g5 ?_
          refine s_aload_n dX2_summon_162 rfl rfl ?_
          refine t_getR (o' := 15) dX2_summon_163 fl_X2_15 rfl (by decide) rfl rfl ?_
          refine s_aload_n dX2_summon_166 rfl rfl ?_
          refine t_getI dX2_summon_167 fl_X2_31 rfl (by decide) rfl ?_
          refine s_lload dX2_summon_170 rfl ?_
          refine s_ldc2 (v := 2) dX2_summon_172 cl_X2_46 ?_
          refine s_lmul dX2_summon_175 ?_
          refine s_lload dX2_summon_176 rfl ?_
          refine s_ladd dX2_summon_178 ?_
          refine s_l2i dX2_summon_179 ?_
          obtain ⟨g6, h⟩ := h
          refine t_iast dX2_summon_180 rfl (by decide) g6 ?_
          refine s_aload_n dX2_summon_181 rfl rfl ?_
          refine t_getR (o' := 16) dX2_summon_182 fl_X2_18 rfl (by decide) rfl rfl ?_
          refine s_aload_n dX2_summon_185 rfl rfl ?_
          refine t_getI dX2_summon_186 fl_X2_31 rfl (by decide) rfl ?_
          refine s_lload dX2_summon_189 rfl ?_
          refine s_l2i dX2_summon_191 ?_
          obtain ⟨g7, h⟩ := h
          refine t_iast dX2_summon_192 rfl (by decide) g7 ?_
          refine s_aload_n dX2_summon_193 rfl rfl ?_
          refine s_dup dX2_summon_194 rfl ?_
          refine t_getI dX2_summon_195 fl_X2_31 rfl (by decide) rfl ?_
          refine s_iconst (v := 1) dX2_summon_198 (by decide) ?_
          refine s_iadd dX2_summon_199 ?_
          refine t_putI dX2_summon_200 fl_X2_31 rfl (by decide) rfl rfl rfl rfl ?_
          refine s_iinc (w := x3 + 4) dX2_summon_203 rfl (by rfl) (by decide) rfl (L9 := [some (.ref 13), some (.ref o0), some (.int x2), some (.int (x3 + 4)), some (.long x4), none, some (.long x6), none, some (.long x8), none, some (.long x10), none, some (.int x12), some (.int s0)]) rfl ?_
          refine s_goto (tgt := 7) dX2_summon_206 (by decide) ?_
          exact Rt.lc h (lc_some (lc_some (lc_some (lc_some (lc_none (lc_none (lc_none (lc_none (lc_none (lc_none (lc_none (lc_none (lc_none (lc_none lc_nil))))))))))))))
        · replace h := h.2 c4
          exact t_vret dX2_summon_149 rfl h
theorem bX3_together_0 {g : Gt} {d : Nat} {t : Tt} {Q : Option Value → Tt → Prop} {p0 : Int32} {p1 : Int32} {p2 : Int32} (h : (p0 = 37 → (¬ p2 = 0 → ¬ p2 = 0 ∧ Q (some (.int (jr p1 p2))) t) ∧ (p2 = 0 → Q (some (.int 0)) t)) ∧ (¬ p0 = 37 → (p0 = 38 → (p1 = 0 → Q (some (.int 0)) t) ∧ (¬ p1 = 0 → (p2 = 0 → Q (some (.int 0)) t) ∧ (¬ p2 = 0 → Q (some (.int 1)) t))) ∧ (¬ p0 = 38 → (p0 = 42 → Q (some (.int (p1 * p2))) t) ∧ (¬ p0 = 42 → (p0 = 43 → Q (some (.int (p1 + p2))) t) ∧ (¬ p0 = 43 → (p0 = 45 → Q (some (.int (p1 - p2))) t) ∧ (¬ p0 = 45 → (p0 = 47 → (¬ p2 = 0 → ¬ p2 = 0 ∧ Q (some (.int (p1 / p2))) t) ∧ (p2 = 0 → Q (some (.int 0)) t)) ∧ (¬ p0 = 47 → (p0 = 60 → (p2 ≤ p1 → Q (some (.int 0)) t) ∧ (¬ p2 ≤ p1 → Q (some (.int 1)) t)) ∧ (¬ p0 = 60 → (p0 = 61 → (¬ p1 = p2 → Q (some (.int 0)) t) ∧ (p1 = p2 → Q (some (.int 1)) t)) ∧ (¬ p0 = 61 → (p0 = 62 → (p1 ≤ p2 → Q (some (.int 0)) t) ∧ (¬ p1 ≤ p2 → Q (some (.int 1)) t)) ∧ (¬ p0 = 62 → (p0 = 124 → (¬ p1 = 0 → Rt g d mX3_together 100 [none, none, none] [] t Q) ∧ (p1 = 0 → (p2 = 0 → Q (some (.int 0)) t) ∧ (¬ p2 = 0 → Rt g d mX3_together 100 [none, none, none] [] t Q))) ∧ (¬ p0 = 124 → Q (some (.int 0)) t))))))))))) : Rt g d mX3_together 0 [some (.int p0), some (.int p1), some (.int p2)] [] t Q := by
  refine s_iload_n dX3_together_0 rfl rfl ?_
  by_cases c1 : p0 = 37
  · replace h := h.1 c1
    refine s_lsw (off := 176) (tgt := 177) dX3_together_1 (by decide) (by rw [c1]; rfl) (by decide) ?_
    refine s_iload_n dX3_together_177 rfl rfl ?_
    refine s_if_ne (tgt := 185) dX3_together_178 (by decide) (fun c2 => ?_) (fun c2 => ?_)
    · replace h := h.1 c2
      refine s_iload_n dX3_together_185 rfl rfl ?_
      refine s_iload_n dX3_together_186 rfl rfl ?_
      obtain ⟨g3, h⟩ := h
      refine s_irem dX3_together_187 g3 ?_
      exact t_iret dX3_together_188 (NR_i rfl _) h
    · replace h := h.2 c2
      refine s_iconst (v := 0) dX3_together_181 (by decide) ?_
      refine s_goto (tgt := 188) dX3_together_182 (by decide) ?_
      exact t_iret dX3_together_188 (NR_i rfl _) h
  · replace h := h.2 c1
    by_cases c4 : p0 = 38
    · replace h := h.1 c4
      refine s_lsw (off := 105) (tgt := 106) dX3_together_1 (by decide) (by rw [c4]; rfl) (by decide) ?_
      refine s_iload_n dX3_together_106 rfl rfl ?_
      refine s_if_eq (tgt := 118) dX3_together_107 (by decide) (fun c5 => ?_) (fun c5 => ?_)
      · replace h := h.1 c5
        refine s_iconst (v := 0) dX3_together_118 (by decide) ?_
        exact t_iret dX3_together_119 (NR_i rfl _) h
      · replace h := h.2 c5
        refine s_iload_n dX3_together_110 rfl rfl ?_
        refine s_if_eq (tgt := 118) dX3_together_111 (by decide) (fun c6 => ?_) (fun c6 => ?_)
        · replace h := h.1 c6
          refine s_iconst (v := 0) dX3_together_118 (by decide) ?_
          exact t_iret dX3_together_119 (NR_i rfl _) h
        · replace h := h.2 c6
          refine s_iconst (v := 1) dX3_together_114 (by decide) ?_
          refine s_goto (tgt := 119) dX3_together_115 (by decide) ?_
          exact t_iret dX3_together_119 (NR_i rfl _) h
    · replace h := h.2 c4
      by_cases c7 : p0 = 42
      · replace h := h.1 c7
        refine s_lsw (off := 160) (tgt := 161) dX3_together_1 (by decide) (by rw [c7]; rfl) (by decide) ?_
        refine s_iload_n dX3_together_161 rfl rfl ?_
        refine s_iload_n dX3_together_162 rfl rfl ?_
        refine s_imul dX3_together_163 ?_
        exact t_iret dX3_together_164 (NR_i rfl _) h
      · replace h := h.2 c7
        by_cases c8 : p0 = 43
        · replace h := h.1 c8
          refine s_lsw (off := 152) (tgt := 153) dX3_together_1 (by decide) (by rw [c8]; rfl) (by decide) ?_
          refine s_iload_n dX3_together_153 rfl rfl ?_
          refine s_iload_n dX3_together_154 rfl rfl ?_
          refine s_iadd dX3_together_155 ?_
          exact t_iret dX3_together_156 (NR_i rfl _) h
        · replace h := h.2 c8
          by_cases c9 : p0 = 45
          · replace h := h.1 c9
            refine s_lsw (off := 156) (tgt := 157) dX3_together_1 (by decide) (by rw [c9]; rfl) (by decide) ?_
            refine s_iload_n dX3_together_157 rfl rfl ?_
            refine s_iload_n dX3_together_158 rfl rfl ?_
            refine s_isub dX3_together_159 ?_
            exact t_iret dX3_together_160 (NR_i rfl _) h
          · replace h := h.2 c9
            by_cases c10 : p0 = 47
            · replace h := h.1 c10
              refine s_lsw (off := 164) (tgt := 165) dX3_together_1 (by decide) (by rw [c10]; rfl) (by decide) ?_
              refine s_iload_n dX3_together_165 rfl rfl ?_
              refine s_if_ne (tgt := 173) dX3_together_166 (by decide) (fun c11 => ?_) (fun c11 => ?_)
              · replace h := h.1 c11
                refine s_iload_n dX3_together_173 rfl rfl ?_
                refine s_iload_n dX3_together_174 rfl rfl ?_
                obtain ⟨g12, h⟩ := h
                refine s_idiv dX3_together_175 g12 ?_
                exact t_iret dX3_together_176 (NR_i rfl _) h
              · replace h := h.2 c11
                refine s_iconst (v := 0) dX3_together_169 (by decide) ?_
                refine s_goto (tgt := 176) dX3_together_170 (by decide) ?_
                exact t_iret dX3_together_176 (NR_i rfl _) h
            · replace h := h.2 c10
              by_cases c13 : p0 = 60
              · replace h := h.1 c13
                refine s_lsw (off := 119) (tgt := 120) dX3_together_1 (by decide) (by rw [c13]; rfl) (by decide) ?_
                refine s_iload_n dX3_together_120 rfl rfl ?_
                refine s_iload_n dX3_together_121 rfl rfl ?_
                refine s_icmp_ge (tgt := 129) dX3_together_122 (by decide) (fun c14 => ?_) (fun c14 => ?_)
                · replace h := h.1 c14
                  refine s_iconst (v := 0) dX3_together_129 (by decide) ?_
                  exact t_iret dX3_together_130 (NR_i rfl _) h
                · replace h := h.2 c14
                  refine s_iconst (v := 1) dX3_together_125 (by decide) ?_
                  refine s_goto (tgt := 130) dX3_together_126 (by decide) ?_
                  exact t_iret dX3_together_130 (NR_i rfl _) h
              · replace h := h.2 c13
                by_cases c15 : p0 = 61
                · replace h := h.1 c15
                  refine s_lsw (off := 130) (tgt := 131) dX3_together_1 (by decide) (by rw [c15]; rfl) (by decide) ?_
                  refine s_iload_n dX3_together_131 rfl rfl ?_
                  refine s_iload_n dX3_together_132 rfl rfl ?_
                  refine s_icmp_ne (tgt := 140) dX3_together_133 (by decide) (fun c16 => ?_) (fun c16 => ?_)
                  · replace h := h.1 c16
                    refine s_iconst (v := 0) dX3_together_140 (by decide) ?_
                    exact t_iret dX3_together_141 (NR_i rfl _) h
                  · replace h := h.2 c16
                    refine s_iconst (v := 1) dX3_together_136 (by decide) ?_
                    refine s_goto (tgt := 141) dX3_together_137 (by decide) ?_
                    exact t_iret dX3_together_141 (NR_i rfl _) h
                · replace h := h.2 c15
                  by_cases c17 : p0 = 62
                  · replace h := h.1 c17
                    refine s_lsw (off := 141) (tgt := 142) dX3_together_1 (by decide) (by rw [c17]; rfl) (by decide) ?_
                    refine s_iload_n dX3_together_142 rfl rfl ?_
                    refine s_iload_n dX3_together_143 rfl rfl ?_
                    refine s_icmp_le (tgt := 151) dX3_together_144 (by decide) (fun c18 => ?_) (fun c18 => ?_)
                    · replace h := h.1 c18
                      refine s_iconst (v := 0) dX3_together_151 (by decide) ?_
                      exact t_iret dX3_together_152 (NR_i rfl _) h
                    · replace h := h.2 c18
                      refine s_iconst (v := 1) dX3_together_147 (by decide) ?_
                      refine s_goto (tgt := 152) dX3_together_148 (by decide) ?_
                      exact t_iret dX3_together_152 (NR_i rfl _) h
                  · replace h := h.2 c17
                    by_cases c19 : p0 = 124
                    · replace h := h.1 c19
                      refine s_lsw (off := 91) (tgt := 92) dX3_together_1 (by decide) (by rw [c19]; rfl) (by decide) ?_
                      refine s_iload_n dX3_together_92 rfl rfl ?_
                      refine s_if_ne (tgt := 100) dX3_together_93 (by decide) (fun c20 => ?_) (fun c20 => ?_)
                      · replace h := h.1 c20
                        exact Rt.lc h (lc_none (lc_none (lc_none lc_nil)))
                      · replace h := h.2 c20
                        refine s_iload_n dX3_together_96 rfl rfl ?_
                        refine s_if_eq (tgt := 104) dX3_together_97 (by decide) (fun c21 => ?_) (fun c21 => ?_)
                        · replace h := h.1 c21
                          refine s_iconst (v := 0) dX3_together_104 (by decide) ?_
                          exact t_iret dX3_together_105 (NR_i rfl _) h
                        · replace h := h.2 c21
                          exact Rt.lc h (lc_none (lc_none (lc_none lc_nil)))
                    · replace h := h.2 c19
                      refine s_lsw (off := 188) (tgt := 189) dX3_together_1 (by decide) ((lv_osw c1 rfl).trans ((lv_osw c4 rfl).trans ((lv_osw c7 rfl).trans ((lv_osw c8 rfl).trans ((lv_osw c9 rfl).trans ((lv_osw c10 rfl).trans ((lv_osw c13 rfl).trans ((lv_osw c15 rfl).trans ((lv_osw c17 rfl).trans ((lv_osw c19 rfl).trans rfl)))))))))) (by decide) ?_
                      refine s_iconst (v := 0) dX3_together_189 (by decide) ?_
                      exact t_iret dX3_together_190 (NR_i rfl _) h
theorem bX3_together_100 {g : Gt} {d : Nat} {t : Tt} {Q : Option Value → Tt → Prop} (h : Q (some (.int 1)) t) : Rt g d mX3_together 100 [none, none, none] [] t Q := by
  refine s_iconst (v := 1) dX3_together_100 (by decide) ?_
  refine s_goto (tgt := 105) dX3_together_101 (by decide) ?_
  exact t_iret dX3_together_105 (NR_i rfl _) h
theorem bX5_flakesOf_0 {g : Gt} {d : Nat} {t : Tt} {Q : Option Value → Tt → Prop} {o : Nat} (ho : isMo o) {p0 : Int32} (h : Rt g d mX5_flakesOf 4 [some (.ref o), some (.int p0), some (.int 0), some (.int 0)] [] t Q) : Rt g d mX5_flakesOf 0 [some (.ref o), some (.int p0), none, none] [] t Q := by
  refine s_iconst (v := 0) dX5_flakesOf_0 (by decide) ?_
  refine s_istore_n dX5_flakesOf_1 rfl (by decide) rfl (L9 := [some (.ref o), some (.int p0), some (.int 0), none]) rfl ?_
  refine s_iconst (v := 0) dX5_flakesOf_2 (by decide) ?_
  refine s_istore_n dX5_flakesOf_3 rfl (by decide) rfl (L9 := [some (.ref o), some (.int p0), some (.int 0), some (.int 0)]) rfl ?_
  exact h
theorem bX5_flakesOf_4 {g : Gt} {d : Nat} {t : Tt} {Q : Option Value → Tt → Prop} {o : Nat} (ho : isMo o) {x1 : Int32} {x2 : Int32} {x3 : Int32} (h : (8 ≤ x3 → Q (some (.int x2)) t) ∧ (¬ 8 ≤ x3 → vp_in ((x1 * 8) + x3) 56 ∧ (∀ z3 : Int32, z3 = (x2 + (t.1 (o + 1) ((x1 * 8) + x3).toNatClampNeg)) → Rt g d mX5_flakesOf 4 [some (.ref o), some (.int x1), some (.int z3), some (.int (x3 + 1))] [] t Q))) : Rt g d mX5_flakesOf 4 [some (.ref o), some (.int x1), some (.int x2), some (.int x3)] [] t Q := by
  refine s_iload_n dX5_flakesOf_4 rfl rfl ?_
  refine s_bipush (v := 8) dX5_flakesOf_5 (by decide) ?_
  refine s_icmp_ge (tgt := 30) dX5_flakesOf_7 (by decide) (fun c1 => ?_) (fun c1 => ?_)
  · replace h := h.1 c1
    refine s_iload_n dX5_flakesOf_30 rfl rfl ?_
    exact t_iret dX5_flakesOf_31 (NR_i rfl _) h
  · replace h := h.2 c1
    refine s_iload_n dX5_flakesOf_10 rfl rfl ?_
    refine s_aload_n dX5_flakesOf_11 rfl rfl ?_
    refine t_getR dX5_flakesOf_12 fl_X5_15 (isMo_k ho) (isMo_z ho) rfl (isMo_r2 _ ho) ?_
    refine s_iload_n dX5_flakesOf_15 rfl rfl ?_
    refine s_bipush (v := 8) dX5_flakesOf_16 (by decide) ?_
    refine s_imul dX5_flakesOf_18 ?_
    refine s_iload_n dX5_flakesOf_19 rfl rfl ?_
    refine s_iadd dX5_flakesOf_20 ?_
    obtain ⟨g2, h⟩ := h
    refine t_iald dX5_flakesOf_21 (isMo_k2 ho) (isMo_z2 ho) g2 ?_
    refine s_iadd dX5_flakesOf_22 ?_
    refine t_nmI (fun z3 ez3 => ?_)
    replace h := h z3 ez3
    refine s_istore_n dX5_flakesOf_23 rfl (by decide) rfl (L9 := [some (.ref o), some (.int x1), some (.int z3), some (.int x3)]) rfl ?_
    refine s_iinc (w := x3 + 1) dX5_flakesOf_24 rfl (by rfl) (by decide) rfl (L9 := [some (.ref o), some (.int x1), some (.int z3), some (.int (x3 + 1))]) rfl ?_
    refine s_goto (tgt := 4) dX5_flakesOf_27 (by decide) ?_
    exact h
theorem bX5_worthOf_0 {g : Gt} {d : Nat} {t : Tt} {Q : Option Value → Tt → Prop} {o : Nat} (ho : isMo o) {p0 : Int32} (h : Rt g d mX5_flakesOf 0 [some (.ref o), some (.int p0), none, none] [] t (QI (fun v2 t1 => vp_in p0 7 ∧ Rt g d mJ6_bitCount_0f7a4 0 [some (.int (t1.1 (o + 2) p0.toNatClampNeg))] [] t1 (QI (fun v5 t4 => Q (some (.int (v2 + ((t1.1 o 1) * v5)))) t4))))) : Rt g (d + 1) mX5_worthOf 0 [some (.ref o), some (.int p0)] [] t Q := by
  refine s_aload_n dX5_worthOf_0 rfl rfl ?_
  refine s_iload_n dX5_worthOf_1 rfl rfl ?_
  refine t_callV (M' := mX5_flakesOf) (k := 2) (As := [.int p0]) (rest := []) dX5_worthOf_2 ml_X5_34 miX5_flakesOf msX5_flakesOf (isMo_k ho) (isMo_z ho) rfl rfl (Nat.le_of_ble_eq_true rfl) (Nat.le_of_ble_eq_true rfl) rfl h (fun rv t1 q => ?_)
  obtain ⟨v2, rfl, h⟩ := q
  show Rt g (d + 1) mX5_worthOf 5 [some (.ref o), some (.int p0)] [.int v2] t1 Q
  refine s_aload_n dX5_worthOf_5 rfl rfl ?_
  refine t_getI dX5_worthOf_6 fl_X5_9 (isMo_k ho) (isMo_z ho) rfl ?_
  refine s_aload_n dX5_worthOf_9 rfl rfl ?_
  refine t_getR dX5_worthOf_10 fl_X5_19 (isMo_k ho) (isMo_z ho) rfl (isMo_r3 _ ho) ?_
  refine s_iload_n dX5_worthOf_13 rfl rfl ?_
  obtain ⟨g3, h⟩ := h
  refine t_iald dX5_worthOf_14 (isMo_k3 ho) (isMo_z3 ho) g3 ?_
  refine t_callS (M' := mJ6_bitCount_0f7a4) (k := 0) (As := [.int (t1.1 (o + 2) p0.toNatClampNeg)]) (rest := [.int (t1.1 o 1), .int v2]) dX5_worthOf_15 ml_X5_38 mstJ6_bitCount_0f7a4 rfl (Nat.le_of_ble_eq_true rfl) (Nat.le_of_ble_eq_true rfl) rfl h (fun rv t4 q => ?_)
  obtain ⟨v5, rfl, h⟩ := q
  show Rt g (d + 1) mX5_worthOf 18 [some (.ref o), some (.int p0)] [.int v5, .int (t1.1 o 1), .int v2] t4 Q
  refine s_imul dX5_worthOf_18 ?_
  refine s_iadd dX5_worthOf_19 ?_
  exact t_iret dX5_worthOf_20 (NR_i rfl _) h
theorem bX5_lie_0 {g : Gt} {d : Nat} {t : Tt} {Q : Option Value → Tt → Prop} {o : Nat} (ho : isMo o) {o0 : Nat} (ho0 : isLw o0) {p1 : Int32} {p2 : Int32} {p3 : Int32} (h : Rt g d mX3_priceOf 0 [some (.ref o0), some (.ref o), some (.int p1), some (.int p2), some (.int p3), none] [] t (QI (fun v2 t1 => Rt g (d + 1) mX5_lie 17 [some (.ref o), none, some (.int p1), none, some (.int p3), some (.int v2), some (.int 0), some (.int 0), none, none, none] [] t1 Q))) : Rt g (d + 1) mX5_lie 0 [some (.ref o), some (.ref o0), some (.int p1), some (.int p2), some (.int p3), none, none, none, none, none, none] [] t Q := by
  refine s_aload_n dX5_lie_0 rfl rfl ?_
  refine s_aload_n dX5_lie_1 rfl rfl ?_
  refine s_iload_n dX5_lie_2 rfl rfl ?_
  refine s_iload_n dX5_lie_3 rfl rfl ?_
  refine s_iload dX5_lie_4 rfl ?_
  refine t_callV (M' := mX3_priceOf) (k := 1) (As := [.ref o, .int p1, .int p2, .int p3]) (rest := []) dX5_lie_6 ml_X5_56 miX3_priceOf msX3_priceOf (isLw_k ho0) (isLw_z ho0) rfl rfl (Nat.le_of_ble_eq_true rfl) (Nat.le_of_ble_eq_true rfl) rfl h (fun rv t1 q => ?_)
  obtain ⟨v2, rfl, h⟩ := q
  show Rt g (d + 1) mX5_lie 9 [some (.ref o), some (.ref o0), some (.int p1), some (.int p2), some (.int p3), none, none, none, none, none, none] [.int v2] t1 Q
  refine s_istore dX5_lie_9 (by decide) rfl (L9 := [some (.ref o), some (.ref o0), some (.int p1), some (.int p2), some (.int p3), some (.int v2), none, none, none, none, none]) rfl ?_
  refine s_iconst (v := 0) dX5_lie_11 (by decide) ?_
  refine s_istore dX5_lie_12 (by decide) rfl (L9 := [some (.ref o), some (.ref o0), some (.int p1), some (.int p2), some (.int p3), some (.int v2), some (.int 0), none, none, none, none]) rfl ?_
  refine s_iconst (v := 0) dX5_lie_14 (by decide) ?_
  refine s_istore dX5_lie_15 (by decide) rfl (L9 := [some (.ref o), some (.ref o0), some (.int p1), some (.int p2), some (.int p3), some (.int v2), some (.int 0), some (.int 0), none, none, none]) rfl ?_
  exact Rt.lc h (lc_some (lc_none (lc_some (lc_none (lc_some (lc_some (lc_some (lc_some (lc_none (lc_none (lc_none lc_nil)))))))))))
theorem bX5_lie_17 {g : Gt} {d : Nat} {t : Tt} {Q : Option Value → Tt → Prop} {o : Nat} (ho : isMo o) {x2 : Int32} {x4 : Int32} {x5 : Int32} {x6 : Int32} {x7 : Int32} (h : (8 ≤ x7 → Rt g (d + 1) mX5_lie 102 [some (.ref o), none, some (.int x2), none, none, none, some (.int x6), none, none, none, none] [] t Q) ∧ (¬ 8 ≤ x7 → (x5 ≤ x6 → Rt g (d + 1) mX5_lie 102 [some (.ref o), none, some (.int x2), none, none, none, some (.int x6), none, none, none, none] [] t Q) ∧ (¬ x5 ≤ x6 → ∀ z3 : Int32, z3 = (jr (x4 + x7) 8) → Rt g d mX5_isCapped 0 [some (.ref o), some (.int x2), some (.int z3)] [] t (QI (fun v5 t4 => (¬ v5 = 0 → Rt g (d + 1) mX5_lie 96 [some (.ref o), none, some (.int x2), none, some (.int x4), some (.int x5), some (.int x6), some (.int x7), none, none, none] [] t4 Q) ∧ (v5 = 0 → ∀ z7 : Int32, z7 = ((x2 * 8) + z3) → vp_in z7 56 ∧ (∀ z9 : Int32, z9 = (imin (x5 - x6) (t4.1 (o + 1) z7.toNatClampNeg)) → vp_in z7 56 ∧ (vp_in z7 56 ∧ (∀ z12 : Int32, z12 = (x6 + z9) → Rt g (d + 1) mX5_lie 96 [some (.ref o), none, some (.int x2), none, some (.int x4), some (.int x5), some (.int z12), some (.int x7), none, none, none] [] (pI t4 (o + 1) z7.toNatClampNeg ((t4.1 (o + 1) z7.toNatClampNeg) - z9)) Q))))))))) : Rt g (d + 1) mX5_lie 17 [some (.ref o), none, some (.int x2), none, some (.int x4), some (.int x5), some (.int x6), some (.int x7), none, none, none] [] t Q := by
  refine s_iload dX5_lie_17 rfl ?_
  refine s_bipush (v := 8) dX5_lie_19 (by decide) ?_
  refine s_icmp_ge (tgt := 102) dX5_lie_21 (by decide) (fun c1 => ?_) (fun c1 => ?_)
  · replace h := h.1 c1
    exact Rt.lc h (lc_some (lc_none (lc_some (lc_none (lc_none (lc_none (lc_some (lc_none (lc_none (lc_none (lc_none lc_nil)))))))))))
  · replace h := h.2 c1
    refine s_iload dX5_lie_24 rfl ?_
    refine s_iload dX5_lie_26 rfl ?_
    refine s_icmp_ge (tgt := 102) dX5_lie_28 (by decide) (fun c2 => ?_) (fun c2 => ?_)
    · replace h := h.1 c2
      exact Rt.lc h (lc_some (lc_none (lc_some (lc_none (lc_none (lc_none (lc_some (lc_none (lc_none (lc_none (lc_none lc_nil)))))))))))
    · replace h := h.2 c2
      refine s_iload dX5_lie_31 rfl ?_
      refine s_iload dX5_lie_33 rfl ?_
      refine s_iadd dX5_lie_35 ?_
      refine s_bipush (v := 8) dX5_lie_36 (by decide) ?_
      refine s_irem dX5_lie_38 (by decide) ?_
      refine t_nmI (fun z3 ez3 => ?_)
      replace h := h z3 ez3
      refine s_istore dX5_lie_39 (by decide) rfl (L9 := [some (.ref o), none, some (.int x2), none, some (.int x4), some (.int x5), some (.int x6), some (.int x7), some (.int z3), none, none]) rfl ?_
      refine s_aload_n dX5_lie_41 rfl rfl ?_
      refine s_iload_n dX5_lie_42 rfl rfl ?_
      refine s_iload dX5_lie_43 rfl ?_
      refine t_callV (M' := mX5_isCapped) (k := 0) (As := [.int x2, .int z3]) (rest := []) dX5_lie_45 ml_X5_62 miX5_isCapped msX5_isCapped (isMo_k ho) (isMo_z ho) rfl rfl (Nat.le_of_ble_eq_true rfl) (Nat.le_of_ble_eq_true rfl) rfl h (fun rv t4 q => ?_)
      obtain ⟨v5, rfl, h⟩ := q
      show Rt g (d + 1) mX5_lie 48 [some (.ref o), none, some (.int x2), none, some (.int x4), some (.int x5), some (.int x6), some (.int x7), some (.int z3), none, none] [.int v5] t4 Q
      refine s_if_ne (tgt := 96) dX5_lie_48 (by decide) (fun c6 => ?_) (fun c6 => ?_)
      · replace h := h.1 c6
        exact Rt.lc h (lc_some (lc_none (lc_some (lc_none (lc_some (lc_some (lc_some (lc_some (lc_none (lc_none (lc_none lc_nil)))))))))))
      · replace h := h.2 c6
        refine s_iload_n dX5_lie_51 rfl rfl ?_
        refine s_bipush (v := 8) dX5_lie_52 (by decide) ?_
        refine s_imul dX5_lie_54 ?_
        refine s_iload dX5_lie_55 rfl ?_
        refine s_iadd dX5_lie_57 ?_
        refine t_nmI (fun z7 ez7 => ?_)
        replace h := h z7 ez7
        refine s_istore dX5_lie_58 (by decide) rfl (L9 := [some (.ref o), none, some (.int x2), none, some (.int x4), some (.int x5), some (.int x6), some (.int x7), some (.int z3), some (.int z7), none]) rfl ?_
        refine s_iload dX5_lie_60 rfl ?_
        refine s_iload dX5_lie_62 rfl ?_
        refine s_isub dX5_lie_64 ?_
        refine s_aload_n dX5_lie_65 rfl rfl ?_
        refine t_getR dX5_lie_66 fl_X5_15 (isMo_k ho) (isMo_z ho) rfl (isMo_r2 _ ho) ?_
        refine s_iload dX5_lie_69 rfl ?_
        obtain ⟨g8, h⟩ := h
        refine t_iald dX5_lie_71 (isMo_k2 ho) (isMo_z2 ho) g8 ?_
        refine t_min dX5_lie_72 mmin_X5_66 (Nat.le_of_ble_eq_true rfl) ?_
        refine t_nmI (fun z9 ez9 => ?_)
        replace h := h z9 ez9
        refine s_istore dX5_lie_75 (by decide) rfl (L9 := [some (.ref o), none, some (.int x2), none, some (.int x4), some (.int x5), some (.int x6), some (.int x7), some (.int z3), some (.int z7), some (.int z9)]) rfl ?_
        refine s_aload_n dX5_lie_77 rfl rfl ?_
        refine t_getR dX5_lie_78 fl_X5_15 (isMo_k ho) (isMo_z ho) rfl (isMo_r2 _ ho) ?_
        refine s_iload dX5_lie_81 rfl ?_
        refine s_dup2 dX5_lie_83 rfl rfl ?_
        obtain ⟨g10, h⟩ := h
        refine t_iald dX5_lie_84 (isMo_k2 ho) (isMo_z2 ho) g10 ?_
        refine s_iload dX5_lie_85 rfl ?_
        refine s_isub dX5_lie_87 ?_
        obtain ⟨g11, h⟩ := h
        refine t_iast dX5_lie_88 (isMo_k2 ho) (isMo_z2 ho) g11 ?_
        refine s_iload dX5_lie_89 rfl ?_
        refine s_iload dX5_lie_91 rfl ?_
        refine s_iadd dX5_lie_93 ?_
        refine t_nmI (fun z12 ez12 => ?_)
        replace h := h z12 ez12
        refine s_istore dX5_lie_94 (by decide) rfl (L9 := [some (.ref o), none, some (.int x2), none, some (.int x4), some (.int x5), some (.int z12), some (.int x7), some (.int z3), some (.int z7), some (.int z9)]) rfl ?_
        exact Rt.lc h (lc_some (lc_none (lc_some (lc_none (lc_some (lc_some (lc_some (lc_some (lc_none (lc_none (lc_none lc_nil)))))))))))
theorem bX5_lie_102 {g : Gt} {d : Nat} {t : Tt} {Q : Option Value → Tt → Prop} {o : Nat} (ho : isMo o) {x2 : Int32} {x6 : Int32} (h : vp_in x2 7 ∧ (vp_in x2 7 ∧ Q (some (.int x6)) (pI t (o + 3) x2.toNatClampNeg ((t.1 (o + 3) x2.toNatClampNeg) + 1)))) : Rt g (d + 1) mX5_lie 102 [some (.ref o), none, some (.int x2), none, none, none, some (.int x6), none, none, none, none] [] t Q := by
  refine s_aload_n dX5_lie_102 rfl rfl ?_
  refine t_getR dX5_lie_103 fl_X5_22 (isMo_k ho) (isMo_z ho) rfl (isMo_r4 _ ho) ?_
  refine s_iload_n dX5_lie_106 rfl rfl ?_
  refine s_dup2 dX5_lie_107 rfl rfl ?_
  obtain ⟨g1, h⟩ := h
  refine t_iald dX5_lie_108 (isMo_k4 ho) (isMo_z4 ho) g1 ?_
  refine s_iconst (v := 1) dX5_lie_109 (by decide) ?_
  refine s_iadd dX5_lie_110 ?_
  obtain ⟨g2, h⟩ := h
  refine t_iast dX5_lie_111 (isMo_k4 ho) (isMo_z4 ho) g2 ?_
  refine s_iload dX5_lie_112 rfl ?_
  exact t_iret dX5_lie_114 (NR_i rfl _) h
theorem bX5_lie_96 {g : Gt} {d : Nat} {t : Tt} {Q : Option Value → Tt → Prop} {o : Nat} (ho : isMo o) {x2 : Int32} {x4 : Int32} {x5 : Int32} {x6 : Int32} {x7 : Int32} (h : Rt g (d + 1) mX5_lie 17 [some (.ref o), none, some (.int x2), none, some (.int x4), some (.int x5), some (.int x6), some (.int (x7 + 1)), none, none, none] [] t Q) : Rt g (d + 1) mX5_lie 96 [some (.ref o), none, some (.int x2), none, some (.int x4), some (.int x5), some (.int x6), some (.int x7), none, none, none] [] t Q := by
  refine s_iinc (w := x7 + 1) dX5_lie_96 rfl (by rfl) (by decide) rfl (L9 := [some (.ref o), none, some (.int x2), none, some (.int x4), some (.int x5), some (.int x6), some (.int (x7 + 1)), none, none, none]) rfl ?_
  refine s_goto (tgt := 17) dX5_lie_99 (by decide) ?_
  exact h
theorem bX6_narrowed_0 {g : Gt} {d : Nat} {t : Tt} {Q : Option Value → Tt → Prop} {p0 : Int32} {p1 : Int64} (h : (p0 = 0 → Q (some (.long (((p1.toInt32).toInt8.toInt32).toInt64))) t) ∧ (¬ p0 = 0 → (p0 = 1 → Q (some (.long (((p1.toInt32).toInt16.toInt32).toInt64))) t) ∧ (¬ p0 = 1 → (p0 = 2 → Q (some (.long ((p1.toInt32).toInt64))) t) ∧ (¬ p0 = 2 → (p0 = 3 → Q (some (.long p1)) t) ∧ (¬ p0 = 3 → (p1 = 0 → Q (some (.long 0)) t) ∧ (¬ p1 = 0 → Q (some (.long 1)) t)))))) : Rt g d mX6_narrowed 0 [some (.int p0), some (.long p1), none] [] t Q := by
  refine s_iload_n dX6_narrowed_0 rfl rfl ?_
  by_cases c1 : p0 = 0
  · replace h := h.1 c1
    refine s_tin (off := 31) (tgt := 32) dX6_narrowed_1 (by rw [c1]; decide) (by rw [c1]; decide) (by rw [c1]; rfl) (by decide) ?_
    refine s_lload_n dX6_narrowed_32 rfl rfl ?_
    refine s_l2i dX6_narrowed_33 ?_
    refine s_i2b dX6_narrowed_34 ?_
    refine s_i2l dX6_narrowed_35 ?_
    exact t_lret dX6_narrowed_36 rfl h
  · replace h := h.2 c1
    by_cases c2 : p0 = 1
    · replace h := h.1 c2
      refine s_tin (off := 36) (tgt := 37) dX6_narrowed_1 (by rw [c2]; decide) (by rw [c2]; decide) (by rw [c2]; rfl) (by decide) ?_
      refine s_lload_n dX6_narrowed_37 rfl rfl ?_
      refine s_l2i dX6_narrowed_38 ?_
      refine s_i2s dX6_narrowed_39 ?_
      refine s_i2l dX6_narrowed_40 ?_
      exact t_lret dX6_narrowed_41 rfl h
    · replace h := h.2 c2
      by_cases c3 : p0 = 2
      · replace h := h.1 c3
        refine s_tin (off := 41) (tgt := 42) dX6_narrowed_1 (by rw [c3]; decide) (by rw [c3]; decide) (by rw [c3]; rfl) (by decide) ?_
        refine s_lload_n dX6_narrowed_42 rfl rfl ?_
        refine s_l2i dX6_narrowed_43 ?_
        refine s_i2l dX6_narrowed_44 ?_
        exact t_lret dX6_narrowed_45 rfl h
      · replace h := h.2 c3
        by_cases c4 : p0 = 3
        · replace h := h.1 c4
          refine s_tin (off := 45) (tgt := 46) dX6_narrowed_1 (by rw [c4]; decide) (by rw [c4]; decide) (by rw [c4]; rfl) (by decide) ?_
          refine s_lload_n dX6_narrowed_46 rfl rfl ?_
          exact t_lret dX6_narrowed_47 rfl h
        · replace h := h.2 c4
          refine s_tout (tgt := 48) dX6_narrowed_1 (by have q0 := lv_neT c1 (a := 0) rfl; have q1 := lv_neT c2 (a := 1) rfl; have q2 := lv_neT c3 (a := 2) rfl; have q3 := lv_neT c4 (a := 3) rfl; omega) (by decide) ?_
          refine s_lload_n dX6_narrowed_48 rfl rfl ?_
          refine s_lconst (v := 0) dX6_narrowed_49 rfl ?_
          refine t_cmp_eq (tgt := 58) dX6_narrowed_50 dX6_narrowed_51 (by decide) (fun c5 => ?_) (fun c5 => ?_)
          · replace h := h.1 c5
            refine s_lconst (v := 0) dX6_narrowed_58 rfl ?_
            exact t_lret dX6_narrowed_59 rfl h
          · replace h := h.2 c5
            refine s_lconst (v := 1) dX6_narrowed_54 rfl ?_
            refine s_goto (tgt := 59) dX6_narrowed_55 (by decide) ?_
            exact t_lret dX6_narrowed_59 rfl h
theorem bX7_person_0 {g : Gt} {d : Nat} {t : Tt} {Q : Option Value → Tt → Prop} {p0 : Int32} (h : Rt g d mX7_outside 0 [some (.int p0), some (.int 9)] [] t (QI (fun v2 t1 => (v2 = 0 → ((t1.1 1 0) < 7 → Rt g d mX5_newcomer 0 [some (.ref 1), some (.int 0), none] [] t1 (QI (fun v6 t5 => Rt g (d + 1) mX7_person 37 [some (.ref 0), some (.int p0), some (.int v6), some (.int 0)] [] t5 Q))) ∧ (¬ (t1.1 1 0) < 7 → Q (some (.int (-3))) t1)) ∧ (¬ v2 = 0 → Q (some (.int (-1))) t1)))) : Rt g (d + 1) mX7_person 0 [some (.ref 0), some (.int p0), none, none] [] t Q := by
  refine s_iload_n dX7_person_0 rfl rfl ?_
  refine s_bipush (v := 9) dX7_person_1 (by decide) ?_
  refine t_callS (M' := mX7_outside) (k := 0) (As := [.int p0, .int 9]) (rest := []) dX7_person_3 ml_X7_71 mstX7_outside rfl (Nat.le_of_ble_eq_true rfl) (Nat.le_of_ble_eq_true rfl) rfl h (fun rv t1 q => ?_)
  obtain ⟨v2, rfl, h⟩ := q
  show Rt g (d + 1) mX7_person 6 [some (.ref 0), some (.int p0), none, none] [.int v2] t1 Q
  refine s_if_eq (tgt := 11) dX7_person_6 (by decide) (fun c3 => ?_) (fun c3 => ?_)
  · replace h := h.1 c3
    refine s_aload_n dX7_person_11 rfl rfl ?_
    refine t_getR (o' := 1) dX7_person_12 fl_X7_10 rfl (by decide) rfl rfl ?_
    refine t_getI dX7_person_15 fl_X7_75 rfl (by decide) rfl ?_
    refine s_bipush (v := 7) dX7_person_18 (by decide) ?_
    refine s_icmp_lt (tgt := 26) dX7_person_20 (by decide) (fun c4 => ?_) (fun c4 => ?_)
    · replace h := h.1 c4
      refine s_aload_n dX7_person_26 rfl rfl ?_
      refine t_getR (o' := 1) dX7_person_27 fl_X7_10 rfl (by decide) rfl rfl ?_
      refine s_iconst (v := 0) dX7_person_30 (by decide) ?_
      refine t_callV (M' := mX5_newcomer) (k := 1) (As := [.int 0]) (rest := []) dX7_person_31 ml_X7_79 miX5_newcomer msX5_newcomer rfl (by decide) rfl rfl (Nat.le_of_ble_eq_true rfl) (Nat.le_of_ble_eq_true rfl) rfl h (fun rv t5 q => ?_)
      obtain ⟨v6, rfl, h⟩ := q
      show Rt g (d + 1) mX7_person 34 [some (.ref 0), some (.int p0), none, none] [.int v6] t5 Q
      refine s_istore_n dX7_person_34 rfl (by decide) rfl (L9 := [some (.ref 0), some (.int p0), some (.int v6), none]) rfl ?_
      refine s_iconst (v := 0) dX7_person_35 (by decide) ?_
      refine s_istore_n dX7_person_36 rfl (by decide) rfl (L9 := [some (.ref 0), some (.int p0), some (.int v6), some (.int 0)]) rfl ?_
      exact h
    · replace h := h.2 c4
      refine s_bipush (v := (-3)) dX7_person_23 (by decide) ?_
      exact t_iret dX7_person_25 (NR_i rfl _) h
  · replace h := h.2 c3
    refine s_iconst (v := (-1)) dX7_person_9 (by decide) ?_
    exact t_iret dX7_person_10 (NR_i rfl _) h
theorem bX7_person_37 {g : Gt} {d : Nat} {t : Tt} {Q : Option Value → Tt → Prop} {x1 : Int32} {x2 : Int32} {x3 : Int32} (h : (8 ≤ x3 → Q (some (.int x2)) t) ∧ (¬ 8 ≤ x3 → vp_in ((x2 * 8) + x3) 56 ∧ Rt g (d + 1) mX7_person 37 [some (.ref 0), some (.int x1), some (.int x2), some (.int (x3 + 1))] [] (pI t 2 ((x2 * 8) + x3).toNatClampNeg x1) Q)) : Rt g (d + 1) mX7_person 37 [some (.ref 0), some (.int x1), some (.int x2), some (.int x3)] [] t Q := by
  refine s_iload_n dX7_person_37 rfl rfl ?_
  refine s_bipush (v := 8) dX7_person_38 (by decide) ?_
  refine s_icmp_ge (tgt := 64) dX7_person_40 (by decide) (fun c1 => ?_) (fun c1 => ?_)
  · replace h := h.1 c1
    refine s_iload_n dX7_person_64 rfl rfl ?_
    exact t_iret dX7_person_65 (NR_i rfl _) h
  · replace h := h.2 c1
    refine s_aload_n dX7_person_43 rfl rfl ?_
    refine t_getR (o' := 1) dX7_person_44 fl_X7_10 rfl (by decide) rfl rfl ?_
    refine t_getR (o' := 2) dX7_person_47 fl_X7_83 rfl (by decide) rfl rfl ?_
    refine s_iload_n dX7_person_50 rfl rfl ?_
    refine s_bipush (v := 8) dX7_person_51 (by decide) ?_
    refine s_imul dX7_person_53 ?_
    refine s_iload_n dX7_person_54 rfl rfl ?_
    refine s_iadd dX7_person_55 ?_
    refine s_iload_n dX7_person_56 rfl rfl ?_
    obtain ⟨g2, h⟩ := h
    refine t_iast dX7_person_57 rfl (by decide) g2 ?_
    refine s_iinc (w := x3 + 1) dX7_person_58 rfl (by rfl) (by decide) rfl (L9 := [some (.ref 0), some (.int x1), some (.int x2), some (.int (x3 + 1))]) rfl ?_
    refine s_goto (tgt := 37) dX7_person_61 (by decide) ?_
    exact h
theorem bX7_numberNow_0 {g : Gt} {d : Nat} {t : Tt} {Q : Option Value → Tt → Prop} {p0 : Int32} {p1 : Int32} (h : (p1 = 8 → vp_in p0 7 ∧ Q (some (.int (t.1 3 p0.toNatClampNeg))) t) ∧ (¬ p1 = 8 → (p1 = 9 → Q (some (.int ((jsr (t.1 0 11) p0) &&& 1))) t) ∧ (¬ p1 = 9 → (p1 = 10 → Q (some (.int (t.1 1 1))) t) ∧ (¬ p1 = 10 → (p1 = 11 → Rt g d mX5_worthOf 0 [some (.ref 1), some (.int p0)] [] t (QI (fun v7 t6 => Q (some (.int v7)) t6))) ∧ (¬ p1 = 11 → (p1 = 12 → vp_in p0 7 ∧ Q (some (.int (t.1 4 p0.toNatClampNeg))) t) ∧ (¬ p1 = 12 → vp_in ((p0 * 8) + p1) 56 ∧ Q (some (.int (t.1 2 ((p0 * 8) + p1).toNatClampNeg))) t)))))) : Rt g (d + 1) mX7_numberNow 0 [some (.ref 0), some (.int p0), some (.int p1)] [] t Q := by
  refine s_iload_n dX7_numberNow_0 rfl rfl ?_
  by_cases c1 : p1 = 8
  · replace h := h.1 c1
    refine s_tin (off := 35) (tgt := 36) dX7_numberNow_1 (by rw [c1]; decide) (by rw [c1]; decide) (by rw [c1]; rfl) (by decide) ?_
    refine s_aload_n dX7_numberNow_36 rfl rfl ?_
    refine t_getR (o' := 1) dX7_numberNow_37 fl_X7_10 rfl (by decide) rfl rfl ?_
    refine t_getR (o' := 3) dX7_numberNow_40 fl_X7_129 rfl (by decide) rfl rfl ?_
    refine s_iload_n dX7_numberNow_43 rfl rfl ?_
    obtain ⟨g2, h⟩ := h
    refine t_iald dX7_numberNow_44 rfl (by decide) g2 ?_
    exact t_iret dX7_numberNow_45 (NR_i rfl _) h
  · replace h := h.2 c1
    by_cases c3 : p1 = 9
    · replace h := h.1 c3
      refine s_tin (off := 45) (tgt := 46) dX7_numberNow_1 (by rw [c3]; decide) (by rw [c3]; decide) (by rw [c3]; rfl) (by decide) ?_
      refine s_aload_n dX7_numberNow_46 rfl rfl ?_
      refine t_getI dX7_numberNow_47 fl_X7_132 rfl (by decide) rfl ?_
      refine s_iload_n dX7_numberNow_50 rfl rfl ?_
      refine s_ishr dX7_numberNow_51 ?_
      refine s_iconst (v := 1) dX7_numberNow_52 (by decide) ?_
      refine s_iand dX7_numberNow_53 ?_
      exact t_iret dX7_numberNow_54 (NR_i rfl _) h
    · replace h := h.2 c3
      by_cases c4 : p1 = 10
      · replace h := h.1 c4
        refine s_tin (off := 54) (tgt := 55) dX7_numberNow_1 (by rw [c4]; decide) (by rw [c4]; decide) (by rw [c4]; rfl) (by decide) ?_
        refine s_aload_n dX7_numberNow_55 rfl rfl ?_
        refine t_getR (o' := 1) dX7_numberNow_56 fl_X7_10 rfl (by decide) rfl rfl ?_
        refine t_getI dX7_numberNow_59 fl_X7_135 rfl (by decide) rfl ?_
        exact t_iret dX7_numberNow_62 (NR_i rfl _) h
      · replace h := h.2 c4
        by_cases c5 : p1 = 11
        · replace h := h.1 c5
          refine s_tin (off := 62) (tgt := 63) dX7_numberNow_1 (by rw [c5]; decide) (by rw [c5]; decide) (by rw [c5]; rfl) (by decide) ?_
          refine s_aload_n dX7_numberNow_63 rfl rfl ?_
          refine t_getR (o' := 1) dX7_numberNow_64 fl_X7_10 rfl (by decide) rfl rfl ?_
          refine s_iload_n dX7_numberNow_67 rfl rfl ?_
          refine t_callV (M' := mX5_worthOf) (k := 0) (As := [.int p0]) (rest := []) dX7_numberNow_68 ml_X7_138 miX5_worthOf msX5_worthOf rfl (by decide) rfl rfl (Nat.le_of_ble_eq_true rfl) (Nat.le_of_ble_eq_true rfl) rfl h (fun rv t6 q => ?_)
          obtain ⟨v7, rfl, h⟩ := q
          show Rt g (d + 1) mX7_numberNow 71 [some (.ref 0), some (.int p0), some (.int p1)] [.int v7] t6 Q
          exact t_iret dX7_numberNow_71 (NR_i rfl _) h
        · replace h := h.2 c5
          by_cases c8 : p1 = 12
          · replace h := h.1 c8
            refine s_tin (off := 71) (tgt := 72) dX7_numberNow_1 (by rw [c8]; decide) (by rw [c8]; decide) (by rw [c8]; rfl) (by decide) ?_
            refine s_aload_n dX7_numberNow_72 rfl rfl ?_
            refine t_getR (o' := 1) dX7_numberNow_73 fl_X7_10 rfl (by decide) rfl rfl ?_
            refine t_getR (o' := 4) dX7_numberNow_76 fl_X7_141 rfl (by decide) rfl rfl ?_
            refine s_iload_n dX7_numberNow_79 rfl rfl ?_
            obtain ⟨g9, h⟩ := h
            refine t_iald dX7_numberNow_80 rfl (by decide) g9 ?_
            exact t_iret dX7_numberNow_81 (NR_i rfl _) h
          · replace h := h.2 c8
            refine s_tout (tgt := 82) dX7_numberNow_1 (by have q0 := lv_neT c1 (a := 8) rfl; have q1 := lv_neT c3 (a := 9) rfl; have q2 := lv_neT c4 (a := 10) rfl; have q3 := lv_neT c5 (a := 11) rfl; have q4 := lv_neT c8 (a := 12) rfl; omega) (by decide) ?_
            refine s_aload_n dX7_numberNow_82 rfl rfl ?_
            refine t_getR (o' := 1) dX7_numberNow_83 fl_X7_10 rfl (by decide) rfl rfl ?_
            refine t_getR (o' := 2) dX7_numberNow_86 fl_X7_83 rfl (by decide) rfl rfl ?_
            refine s_iload_n dX7_numberNow_89 rfl rfl ?_
            refine s_bipush (v := 8) dX7_numberNow_90 (by decide) ?_
            refine s_imul dX7_numberNow_92 ?_
            refine s_iload_n dX7_numberNow_93 rfl rfl ?_
            refine s_iadd dX7_numberNow_94 ?_
            obtain ⟨g10, h⟩ := h
            refine t_iald dX7_numberNow_95 rfl (by decide) g10 ?_
            exact t_iret dX7_numberNow_96 (NR_i rfl _) h
theorem bX7_law_0 {g : Gt} {d : Nat} {t : Tt} {Q : Option Value → Tt → Prop} (h : Rt g d mX4_read 0 [some (.ref 33), none, none] [] t (QI (fun v2 t1 => (v2 < 0 → isLw t1.2.2.1 ∧ Rt g d mX4_exchangeFor 0 [some (.ref 33), some (.ref t1.2.2.1), none] [] (pI t1 33 1 0) (QR (fun v6 t5 => Q (some (.int 1)) (t5.1, t5.2.1, v6, t5.2.2.2)))) ∧ (¬ v2 < 0 → Q (some (.int ((-100) - v2))) (pI t1 33 1 0))))) : Rt g (d + 1) mX7_law 0 [some (.ref 0), none] [] t Q := by
  refine s_aload_n dX7_law_0 rfl rfl ?_
  refine t_getR (o' := 33) dX7_law_1 fl_X7_59 rfl (by decide) rfl rfl ?_
  refine t_callV (M' := mX4_read) (k := 2) (As := []) (rest := []) dX7_law_4 ml_X7_147 miX4_read msX4_read rfl (by decide) rfl rfl (Nat.le_of_ble_eq_true rfl) (Nat.le_of_ble_eq_true rfl) rfl h (fun rv t1 q => ?_)
  obtain ⟨v2, rfl, h⟩ := q
  show Rt g (d + 1) mX7_law 7 [some (.ref 0), none] [.int v2] t1 Q
  refine s_istore_n dX7_law_7 rfl (by decide) rfl (L9 := [some (.ref 0), some (.int v2)]) rfl ?_
  refine s_aload_n dX7_law_8 rfl rfl ?_
  refine t_getR (o' := 33) dX7_law_9 fl_X7_59 rfl (by decide) rfl rfl ?_
  refine s_iconst (v := 0) dX7_law_12 (by decide) ?_
  refine t_putI dX7_law_13 fl_X7_151 rfl (by decide) rfl rfl rfl rfl ?_
  refine s_iload_n dX7_law_16 rfl rfl ?_
  refine s_if_lt (tgt := 25) dX7_law_17 (by decide) (fun c3 => ?_) (fun c3 => ?_)
  · replace h := h.1 c3
    refine s_aload_n dX7_law_25 rfl rfl ?_
    refine s_aload_n dX7_law_26 rfl rfl ?_
    refine t_getR (o' := 33) dX7_law_27 fl_X7_59 rfl (by decide) rfl rfl ?_
    refine s_aload_n dX7_law_30 rfl rfl ?_
    obtain ⟨g4, h⟩ := h
    refine t_getR dX7_law_31 fl_X7_66 rfl (by decide) rfl rfl ?_
    refine t_callV (M' := mX4_exchangeFor) (k := 1) (As := [.ref t1.2.2.1]) (rest := [.ref 0]) dX7_law_34 ml_X7_154 miX4_exchangeFor msX4_exchangeFor rfl (by decide) rfl rfl (Nat.le_of_ble_eq_true rfl) (Nat.le_of_ble_eq_true rfl) rfl h (fun rv t5 q => ?_)
    obtain ⟨v6, rfl, h⟩ := q
    show Rt g (d + 1) mX7_law 37 [some (.ref 0), some (.int v2)] [.ref v6, .ref 0] t5 Q
    refine t_putRul dX7_law_37 fl_X7_66 ?_
    refine s_iconst (v := 1) dX7_law_40 (by decide) ?_
    exact t_iret dX7_law_41 (NR_i rfl _) h
  · replace h := h.2 c3
    refine s_bipush (v := (-100)) dX7_law_20 (by decide) ?_
    refine s_iload_n dX7_law_22 rfl rfl ?_
    refine s_isub dX7_law_23 ?_
    exact t_iret dX7_law_24 (NR_i rfl _) h
theorem bX7_drawn_0 {g : Gt} {d : Nat} {t : Tt} {Q : Option Value → Tt → Prop} {p0 : Int32} {p1 : Int32} {p2 : Int32} (h : ∀ z1 : Int32, z1 = (p1 / 100) → ∀ z2 : Int32, z2 = (jr p1 100) → (z1 < 1 → Q (some (.int (-1))) t) ∧ (¬ z1 < 1 → (30 < z1 → Q (some (.int (-1))) t) ∧ (¬ 30 < z1 → (z2 < 1 → Q (some (.int (-1))) t) ∧ (¬ z2 < 1 → (60 < z2 → Q (some (.int (-1))) t) ∧ (¬ 60 < z2 → Rt g d mX7_outside 0 [some (.int p2), some (.int 1)] [] t (QI (fun v8 t7 => (v8 = 0 → (1 ≤ (t7.1 1 0) → Rt g (d + 1) mX7_drawn 73 [some (.ref 0), none, none, some (.int p2), some (.int z1), some (.int z2), some (.int p0), some (.int 0), some (.int 0), some (.int 0), none, none] [] t7 Q) ∧ (¬ 1 ≤ (t7.1 1 0) → Q (some (.int 0)) t7)) ∧ (¬ v8 = 0 → Q (some (.int (-1))) t7)))))))) : Rt g (d + 1) mX7_drawn 0 [some (.ref 0), some (.int p0), some (.int p1), some (.int p2), none, none, none, none, none, none, none, none] [] t Q := by
  refine s_iload_n dX7_drawn_0 rfl rfl ?_
  refine s_bipush (v := 100) dX7_drawn_1 (by decide) ?_
  refine s_idiv dX7_drawn_3 (by decide) ?_
  refine t_nmI (fun z1 ez1 => ?_)
  replace h := h z1 ez1
  refine s_istore dX7_drawn_4 (by decide) rfl (L9 := [some (.ref 0), some (.int p0), some (.int p1), some (.int p2), some (.int z1), none, none, none, none, none, none, none]) rfl ?_
  refine s_iload_n dX7_drawn_6 rfl rfl ?_
  refine s_bipush (v := 100) dX7_drawn_7 (by decide) ?_
  refine s_irem dX7_drawn_9 (by decide) ?_
  refine t_nmI (fun z2 ez2 => ?_)
  replace h := h z2 ez2
  refine s_istore dX7_drawn_10 (by decide) rfl (L9 := [some (.ref 0), some (.int p0), some (.int p1), some (.int p2), some (.int z1), some (.int z2), none, none, none, none, none, none]) rfl ?_
  refine s_iload dX7_drawn_12 rfl ?_
  refine s_iconst (v := 1) dX7_drawn_14 (by decide) ?_
  refine s_icmp_lt (tgt := 46) dX7_drawn_15 (by decide) (fun c3 => ?_) (fun c3 => ?_)
  · replace h := h.1 c3
    refine s_iconst (v := (-1)) dX7_drawn_46 (by decide) ?_
    exact t_iret dX7_drawn_47 (NR_i rfl _) h
  · replace h := h.2 c3
    refine s_iload dX7_drawn_18 rfl ?_
    refine s_bipush (v := 30) dX7_drawn_20 (by decide) ?_
    refine s_icmp_gt (tgt := 46) dX7_drawn_22 (by decide) (fun c4 => ?_) (fun c4 => ?_)
    · replace h := h.1 c4
      refine s_iconst (v := (-1)) dX7_drawn_46 (by decide) ?_
      exact t_iret dX7_drawn_47 (NR_i rfl _) h
    · replace h := h.2 c4
      refine s_iload dX7_drawn_25 rfl ?_
      refine s_iconst (v := 1) dX7_drawn_27 (by decide) ?_
      refine s_icmp_lt (tgt := 46) dX7_drawn_28 (by decide) (fun c5 => ?_) (fun c5 => ?_)
      · replace h := h.1 c5
        refine s_iconst (v := (-1)) dX7_drawn_46 (by decide) ?_
        exact t_iret dX7_drawn_47 (NR_i rfl _) h
      · replace h := h.2 c5
        refine s_iload dX7_drawn_31 rfl ?_
        refine s_bipush (v := 60) dX7_drawn_33 (by decide) ?_
        refine s_icmp_gt (tgt := 46) dX7_drawn_35 (by decide) (fun c6 => ?_) (fun c6 => ?_)
        · replace h := h.1 c6
          refine s_iconst (v := (-1)) dX7_drawn_46 (by decide) ?_
          exact t_iret dX7_drawn_47 (NR_i rfl _) h
        · replace h := h.2 c6
          refine s_iload_n dX7_drawn_38 rfl rfl ?_
          refine s_iconst (v := 1) dX7_drawn_39 (by decide) ?_
          refine t_callS (M' := mX7_outside) (k := 0) (As := [.int p2, .int 1]) (rest := []) dX7_drawn_40 ml_X7_71 mstX7_outside rfl (Nat.le_of_ble_eq_true rfl) (Nat.le_of_ble_eq_true rfl) rfl h (fun rv t7 q => ?_)
          obtain ⟨v8, rfl, h⟩ := q
          show Rt g (d + 1) mX7_drawn 43 [some (.ref 0), some (.int p0), some (.int p1), some (.int p2), some (.int z1), some (.int z2), none, none, none, none, none, none] [.int v8] t7 Q
          refine s_if_eq (tgt := 48) dX7_drawn_43 (by decide) (fun c9 => ?_) (fun c9 => ?_)
          · replace h := h.1 c9
            refine s_aload_n dX7_drawn_48 rfl rfl ?_
            refine t_getR (o' := 1) dX7_drawn_49 fl_X7_10 rfl (by decide) rfl rfl ?_
            refine t_getI dX7_drawn_52 fl_X7_75 rfl (by decide) rfl ?_
            refine s_iconst (v := 1) dX7_drawn_55 (by decide) ?_
            refine s_icmp_ge (tgt := 61) dX7_drawn_56 (by decide) (fun c10 => ?_) (fun c10 => ?_)
            · replace h := h.1 c10
              refine s_iload_n dX7_drawn_61 rfl rfl ?_
              refine s_istore dX7_drawn_62 (by decide) rfl (L9 := [some (.ref 0), some (.int p0), some (.int p1), some (.int p2), some (.int z1), some (.int z2), some (.int p0), none, none, none, none, none]) rfl ?_
              refine s_iconst (v := 0) dX7_drawn_64 (by decide) ?_
              refine s_istore dX7_drawn_65 (by decide) rfl (L9 := [some (.ref 0), some (.int p0), some (.int p1), some (.int p2), some (.int z1), some (.int z2), some (.int p0), some (.int 0), none, none, none, none]) rfl ?_
              refine s_iconst (v := 0) dX7_drawn_67 (by decide) ?_
              refine s_istore dX7_drawn_68 (by decide) rfl (L9 := [some (.ref 0), some (.int p0), some (.int p1), some (.int p2), some (.int z1), some (.int z2), some (.int p0), some (.int 0), some (.int 0), none, none, none]) rfl ?_
              refine s_iconst (v := 0) dX7_drawn_70 (by decide) ?_
              refine s_istore dX7_drawn_71 (by decide) rfl (L9 := [some (.ref 0), some (.int p0), some (.int p1), some (.int p2), some (.int z1), some (.int z2), some (.int p0), some (.int 0), some (.int 0), some (.int 0), none, none]) rfl ?_
              exact Rt.lc h (lc_some (lc_none (lc_none (lc_some (lc_some (lc_some (lc_some (lc_some (lc_some (lc_some (lc_none (lc_none lc_nil))))))))))))
            · replace h := h.2 c10
              refine s_iconst (v := 0) dX7_drawn_59 (by decide) ?_
              exact t_iret dX7_drawn_60 (NR_i rfl _) h
          · replace h := h.2 c9
            refine s_iconst (v := (-1)) dX7_drawn_46 (by decide) ?_
            exact t_iret dX7_drawn_47 (NR_i rfl _) h
theorem bX7_drawn_73 {g : Gt} {d : Nat} {t : Tt} {Q : Option Value → Tt → Prop} {x3 : Int32} {x4 : Int32} {x5 : Int32} {x6 : Int32} {x7 : Int32} {x8 : Int32} {x9 : Int32} (h : (x4 ≤ x9 → (¬ x3 = 0 → Q (some (.int x8)) t) ∧ (x3 = 0 → Q (some (.int x7)) t)) ∧ (¬ x4 ≤ x9 → Rt g d mX5_copyFrom 0 [some (.ref 5), some (.ref 1)] [] t (QV (fun t3 => Rt g (d + 1) mX7_drawn 94 [some (.ref 0), none, none, some (.int x3), some (.int x4), some (.int x5), some (.int x6), some (.int x7), some (.int x8), some (.int x9), some (.int 0), none] [] t3 Q)))) : Rt g (d + 1) mX7_drawn 73 [some (.ref 0), none, none, some (.int x3), some (.int x4), some (.int x5), some (.int x6), some (.int x7), some (.int x8), some (.int x9), none, none] [] t Q := by
  refine s_iload dX7_drawn_73 rfl ?_
  refine s_iload dX7_drawn_75 rfl ?_
  refine s_icmp_ge (tgt := 202) dX7_drawn_77 (by decide) (fun c1 => ?_) (fun c1 => ?_)
  · replace h := h.1 c1
    refine s_iload_n dX7_drawn_202 rfl rfl ?_
    refine s_if_ne (tgt := 211) dX7_drawn_203 (by decide) (fun c2 => ?_) (fun c2 => ?_)
    · replace h := h.1 c2
      refine s_iload dX7_drawn_211 rfl ?_
      exact t_iret dX7_drawn_213 (NR_i rfl _) h
    · replace h := h.2 c2
      refine s_iload dX7_drawn_206 rfl ?_
      refine s_goto (tgt := 213) dX7_drawn_208 (by decide) ?_
      exact t_iret dX7_drawn_213 (NR_i rfl _) h
  · replace h := h.2 c1
    refine s_aload_n dX7_drawn_80 rfl rfl ?_
    refine t_getR (o' := 5) dX7_drawn_81 fl_X7_16 rfl (by decide) rfl rfl ?_
    refine s_aload_n dX7_drawn_84 rfl rfl ?_
    refine t_getR (o' := 1) dX7_drawn_85 fl_X7_10 rfl (by decide) rfl rfl ?_
    refine t_callV (M' := mX5_copyFrom) (k := 0) (As := [.ref 1]) (rest := []) dX7_drawn_88 ml_X7_203 miX5_copyFrom msX5_copyFrom rfl (by decide) rfl rfl (Nat.le_of_ble_eq_true rfl) (Nat.le_of_ble_eq_true rfl) rfl h (fun rv t3 q => ?_)
    obtain ⟨rfl, h⟩ := q
    show Rt g (d + 1) mX7_drawn 91 [some (.ref 0), none, none, some (.int x3), some (.int x4), some (.int x5), some (.int x6), some (.int x7), some (.int x8), some (.int x9), none, none] [] t3 Q
    refine s_iconst (v := 0) dX7_drawn_91 (by decide) ?_
    refine s_istore dX7_drawn_92 (by decide) rfl (L9 := [some (.ref 0), none, none, some (.int x3), some (.int x4), some (.int x5), some (.int x6), some (.int x7), some (.int x8), some (.int x9), some (.int 0), none]) rfl ?_
    exact h
theorem bX7_drawn_94 {g : Gt} {d : Nat} {t : Tt} {Q : Option Value → Tt → Prop} {x3 : Int32} {x4 : Int32} {x5 : Int32} {x6 : Int32} {x7 : Int32} {x8 : Int32} {x9 : Int32} {x10 : Int32} (h : (x5 ≤ x10 → Rt g d mX5_flakesOfAll 0 [some (.ref 5), none, none] [] t (QI (fun v3 t2 => ∀ z4 : Int32, z4 = (x8 + v3) → Rt g (d + 1) mX7_drawn 73 [some (.ref 0), none, none, some (.int x3), some (.int x4), some (.int x5), some (.int x6), some (.int x7), some (.int z4), some (.int (x9 + 1)), none, none] [] t2 Q))) ∧ (¬ x5 ≤ x10 → ∀ z5 : Int32, z5 = ((x6 * 1103515245) + 12345) → ∀ z6 : Int32, z6 = (jr (jus z5 12) 10) → Rt g d mX7_isLie 0 [some (.int (t.1 0 11)), some (.int z6), some (.int (jr (jus z5 18) 2))] [] t (QI (fun v8 t7 => (v8 = 0 → Rt g (d + 1) mX7_drawn 178 [some (.ref 0), none, none, some (.int x3), some (.int x4), some (.int x5), some (.int z5), some (.int x7), some (.int x8), some (.int x9), some (.int x10), none] [] t7 Q) ∧ (¬ v8 = 0 → isLw t7.2.2.1 ∧ (¬ (t7.1 1 0) = 0 ∧ Rt g d mX5_lie 0 [some (.ref 5), some (.ref t7.2.2.1), some (.int (jr (jus z5 4) (t7.1 1 0))), some (.int z6), some (.int (jr (jus z5 22) 10)), none, none, none, none, none, none] [] t7 (QI (fun v13 t12 => Rt g (d + 1) mX7_drawn 178 [some (.ref 0), none, none, some (.int x3), some (.int x4), some (.int x5), some (.int z5), some (.int (x7 + 1)), some (.int x8), some (.int x9), some (.int x10), none] [] t12 Q)))))))) : Rt g (d + 1) mX7_drawn 94 [some (.ref 0), none, none, some (.int x3), some (.int x4), some (.int x5), some (.int x6), some (.int x7), some (.int x8), some (.int x9), some (.int x10), none] [] t Q := by
  refine s_iload dX7_drawn_94 rfl ?_
  refine s_iload dX7_drawn_96 rfl ?_
  refine s_icmp_ge (tgt := 184) dX7_drawn_98 (by decide) (fun c1 => ?_) (fun c1 => ?_)
  · replace h := h.1 c1
    refine s_iload dX7_drawn_184 rfl ?_
    refine s_aload_n dX7_drawn_186 rfl rfl ?_
    refine t_getR (o' := 5) dX7_drawn_187 fl_X7_16 rfl (by decide) rfl rfl ?_
    refine t_callV (M' := mX5_flakesOfAll) (k := 2) (As := []) (rest := [.int x8]) dX7_drawn_190 ml_X7_258 miX5_flakesOfAll msX5_flakesOfAll rfl (by decide) rfl rfl (Nat.le_of_ble_eq_true rfl) (Nat.le_of_ble_eq_true rfl) rfl h (fun rv t2 q => ?_)
    obtain ⟨v3, rfl, h⟩ := q
    show Rt g (d + 1) mX7_drawn 193 [some (.ref 0), none, none, some (.int x3), some (.int x4), some (.int x5), some (.int x6), some (.int x7), some (.int x8), some (.int x9), some (.int x10), none] [.int v3, .int x8] t2 Q
    refine s_iadd dX7_drawn_193 ?_
    refine t_nmI (fun z4 ez4 => ?_)
    replace h := h z4 ez4
    refine s_istore dX7_drawn_194 (by decide) rfl (L9 := [some (.ref 0), none, none, some (.int x3), some (.int x4), some (.int x5), some (.int x6), some (.int x7), some (.int z4), some (.int x9), some (.int x10), none]) rfl ?_
    refine s_iinc (w := x9 + 1) dX7_drawn_196 rfl (by rfl) (by decide) rfl (L9 := [some (.ref 0), none, none, some (.int x3), some (.int x4), some (.int x5), some (.int x6), some (.int x7), some (.int z4), some (.int (x9 + 1)), some (.int x10), none]) rfl ?_
    refine s_goto (tgt := 73) dX7_drawn_199 (by decide) ?_
    exact Rt.lc h (lc_some (lc_none (lc_none (lc_some (lc_some (lc_some (lc_some (lc_some (lc_some (lc_some (lc_none (lc_none lc_nil))))))))))))
  · replace h := h.2 c1
    refine s_iload dX7_drawn_101 rfl ?_
    refine s_ldc (v := 1103515245) dX7_drawn_103 ct_X7_253 ?_
    refine s_imul dX7_drawn_105 ?_
    refine s_sipush (v := 12345) dX7_drawn_106 (by decide) ?_
    refine s_iadd dX7_drawn_109 ?_
    refine t_nmI (fun z5 ez5 => ?_)
    replace h := h z5 ez5
    refine s_istore dX7_drawn_110 (by decide) rfl (L9 := [some (.ref 0), none, none, some (.int x3), some (.int x4), some (.int x5), some (.int z5), some (.int x7), some (.int x8), some (.int x9), some (.int x10), none]) rfl ?_
    refine s_iload dX7_drawn_112 rfl ?_
    refine s_bipush (v := 12) dX7_drawn_114 (by decide) ?_
    refine s_iushr dX7_drawn_116 ?_
    refine s_bipush (v := 10) dX7_drawn_117 (by decide) ?_
    refine s_irem dX7_drawn_119 (by decide) ?_
    refine t_nmI (fun z6 ez6 => ?_)
    replace h := h z6 ez6
    refine s_istore dX7_drawn_120 (by decide) rfl (L9 := [some (.ref 0), none, none, some (.int x3), some (.int x4), some (.int x5), some (.int z5), some (.int x7), some (.int x8), some (.int x9), some (.int x10), some (.int z6)]) rfl ?_
    refine s_aload_n dX7_drawn_122 rfl rfl ?_
    refine t_getI dX7_drawn_123 fl_X7_132 rfl (by decide) rfl ?_
    refine s_iload dX7_drawn_126 rfl ?_
    refine s_iload dX7_drawn_128 rfl ?_
    refine s_bipush (v := 18) dX7_drawn_130 (by decide) ?_
    refine s_iushr dX7_drawn_132 ?_
    refine s_iconst (v := 2) dX7_drawn_133 (by decide) ?_
    refine s_irem dX7_drawn_134 (by decide) ?_
    refine t_callS (M' := mX7_isLie) (k := 0) (As := [.int (t.1 0 11), .int z6, .int (jr (jus z5 18) 2)]) (rest := []) dX7_drawn_135 ml_X7_254 mstX7_isLie rfl (Nat.le_of_ble_eq_true rfl) (Nat.le_of_ble_eq_true rfl) rfl h (fun rv t7 q => ?_)
    obtain ⟨v8, rfl, h⟩ := q
    show Rt g (d + 1) mX7_drawn 138 [some (.ref 0), none, none, some (.int x3), some (.int x4), some (.int x5), some (.int z5), some (.int x7), some (.int x8), some (.int x9), some (.int x10), some (.int z6)] [.int v8] t7 Q
    refine s_if_eq (tgt := 178) dX7_drawn_138 (by decide) (fun c9 => ?_) (fun c9 => ?_)
    · replace h := h.1 c9
      exact Rt.lc h (lc_some (lc_none (lc_none (lc_some (lc_some (lc_some (lc_some (lc_some (lc_some (lc_some (lc_some (lc_none lc_nil))))))))))))
    · replace h := h.2 c9
      refine s_aload_n dX7_drawn_141 rfl rfl ?_
      refine t_getR (o' := 5) dX7_drawn_142 fl_X7_16 rfl (by decide) rfl rfl ?_
      refine s_aload_n dX7_drawn_145 rfl rfl ?_
      obtain ⟨g10, h⟩ := h
      refine t_getR dX7_drawn_146 fl_X7_66 rfl (by decide) rfl rfl ?_
      refine s_iload dX7_drawn_149 rfl ?_
      refine s_iconst (v := 4) dX7_drawn_151 (by decide) ?_
      refine s_iushr dX7_drawn_152 ?_
      refine s_aload_n dX7_drawn_153 rfl rfl ?_
      refine t_getR (o' := 1) dX7_drawn_154 fl_X7_10 rfl (by decide) rfl rfl ?_
      refine t_getI dX7_drawn_157 fl_X7_75 rfl (by decide) rfl ?_
      obtain ⟨g11, h⟩ := h
      refine s_irem dX7_drawn_160 g11 ?_
      refine s_iload dX7_drawn_161 rfl ?_
      refine s_iload dX7_drawn_163 rfl ?_
      refine s_bipush (v := 22) dX7_drawn_165 (by decide) ?_
      refine s_iushr dX7_drawn_167 ?_
      refine s_bipush (v := 10) dX7_drawn_168 (by decide) ?_
      refine s_irem dX7_drawn_170 (by decide) ?_
      refine t_callV (M' := mX5_lie) (k := 6) (As := [.ref t7.2.2.1, .int (jr (jus z5 4) (t7.1 1 0)), .int z6, .int (jr (jus z5 22) 10)]) (rest := []) dX7_drawn_171 ml_X7_217 miX5_lie msX5_lie rfl (by decide) rfl rfl (Nat.le_of_ble_eq_true rfl) (Nat.le_of_ble_eq_true rfl) rfl h (fun rv t12 q => ?_)
      obtain ⟨v13, rfl, h⟩ := q
      show Rt g (d + 1) mX7_drawn 174 [some (.ref 0), none, none, some (.int x3), some (.int x4), some (.int x5), some (.int z5), some (.int x7), some (.int x8), some (.int x9), some (.int x10), some (.int z6)] [.int v13] t12 Q
      refine s_pop dX7_drawn_174 rfl ?_
      refine s_iinc (w := x7 + 1) dX7_drawn_175 rfl (by rfl) (by decide) rfl (L9 := [some (.ref 0), none, none, some (.int x3), some (.int x4), some (.int x5), some (.int z5), some (.int (x7 + 1)), some (.int x8), some (.int x9), some (.int x10), some (.int z6)]) rfl ?_
      exact Rt.lc h (lc_some (lc_none (lc_none (lc_some (lc_some (lc_some (lc_some (lc_some (lc_some (lc_some (lc_some (lc_none lc_nil))))))))))))
theorem bX7_drawn_178 {g : Gt} {d : Nat} {t : Tt} {Q : Option Value → Tt → Prop} {x3 : Int32} {x4 : Int32} {x5 : Int32} {x6 : Int32} {x7 : Int32} {x8 : Int32} {x9 : Int32} {x10 : Int32} (h : Rt g (d + 1) mX7_drawn 94 [some (.ref 0), none, none, some (.int x3), some (.int x4), some (.int x5), some (.int x6), some (.int x7), some (.int x8), some (.int x9), some (.int (x10 + 1)), none] [] t Q) : Rt g (d + 1) mX7_drawn 178 [some (.ref 0), none, none, some (.int x3), some (.int x4), some (.int x5), some (.int x6), some (.int x7), some (.int x8), some (.int x9), some (.int x10), none] [] t Q := by
  refine s_iinc (w := x10 + 1) dX7_drawn_178 rfl (by rfl) (by decide) rfl (L9 := [some (.ref 0), none, none, some (.int x3), some (.int x4), some (.int x5), some (.int x6), some (.int x7), some (.int x8), some (.int x9), some (.int (x10 + 1)), none]) rfl ?_
  refine s_goto (tgt := 94) dX7_drawn_181 (by decide) ?_
  exact h
theorem bX7_keep_0 {g : Gt} {d : Nat} {t : Tt} {Q : Option Value → Tt → Prop} {p0 : Int32} {p1 : Int32} (h : Rt g d mX7_noShelf 0 [some (.int p0)] [] t (QI (fun v2 t1 => (¬ v2 = 0 → Q (some (.int (-1))) t1) ∧ (v2 = 0 → (p1 < (-1) → Q (some (.int (-1))) t1) ∧ (¬ p1 < (-1) → (p1 < (t1.1 27 0) → vp_in p0 6 ∧ ((¬ p1 = (-1) → Rt g (d + 1) mX7_keep 42 [some (.ref 0), some (.int p0), some (.int p1)] [.int (-1), .ref (45 + 2 * p0.toNatClampNeg)] t1 Q) ∧ (p1 = (-1) → Rt g (d + 1) mX7_keep 42 [some (.ref 0), some (.int p0), some (.int p1)] [.int (-2), .ref (45 + 2 * p0.toNatClampNeg)] t1 Q))) ∧ (¬ p1 < (t1.1 27 0) → Q (some (.int (-1))) t1)))))) : Rt g (d + 1) mX7_keep 0 [some (.ref 0), some (.int p0), some (.int p1)] [] t Q := by
  refine s_iload_n dX7_keep_0 rfl rfl ?_
  refine t_callS (M' := mX7_noShelf) (k := 0) (As := [.int p0]) (rest := []) dX7_keep_1 ml_X7_86 mstX7_noShelf rfl (Nat.le_of_ble_eq_true rfl) (Nat.le_of_ble_eq_true rfl) rfl h (fun rv t1 q => ?_)
  obtain ⟨v2, rfl, h⟩ := q
  show Rt g (d + 1) mX7_keep 4 [some (.ref 0), some (.int p0), some (.int p1)] [.int v2] t1 Q
  refine s_if_ne (tgt := 23) dX7_keep_4 (by decide) (fun c3 => ?_) (fun c3 => ?_)
  · replace h := h.1 c3
    refine s_iconst (v := (-1)) dX7_keep_23 (by decide) ?_
    exact t_iret dX7_keep_24 (NR_i rfl _) h
  · replace h := h.2 c3
    refine s_iload_n dX7_keep_7 rfl rfl ?_
    refine s_iconst (v := (-1)) dX7_keep_8 (by decide) ?_
    refine s_icmp_lt (tgt := 23) dX7_keep_9 (by decide) (fun c4 => ?_) (fun c4 => ?_)
    · replace h := h.1 c4
      refine s_iconst (v := (-1)) dX7_keep_23 (by decide) ?_
      exact t_iret dX7_keep_24 (NR_i rfl _) h
    · replace h := h.2 c4
      refine s_iload_n dX7_keep_12 rfl rfl ?_
      refine s_aload_n dX7_keep_13 rfl rfl ?_
      refine t_getR (o' := 27) dX7_keep_14 fl_X7_39 rfl (by decide) rfl rfl ?_
      refine t_getI dX7_keep_17 fl_X7_311 rfl (by decide) rfl ?_
      refine s_icmp_lt (tgt := 25) dX7_keep_20 (by decide) (fun c5 => ?_) (fun c5 => ?_)
      · replace h := h.1 c5
        refine s_aload_n dX7_keep_25 rfl rfl ?_
        refine t_getR (o' := 30) dX7_keep_26 fl_X7_45 rfl (by decide) rfl rfl ?_
        refine s_iload_n dX7_keep_29 rfl rfl ?_
        obtain ⟨g6, h⟩ := h
        refine t_aald dX7_keep_30 g6 rfl ?_
        refine s_iload_n dX7_keep_31 rfl rfl ?_
        refine s_iconst (v := (-1)) dX7_keep_32 (by decide) ?_
        refine s_icmp_ne (tgt := 41) dX7_keep_33 (by decide) (fun c7 => ?_) (fun c7 => ?_)
        · replace h := h.1 c7
          refine s_iconst (v := (-1)) dX7_keep_41 (by decide) ?_
          exact h
        · replace h := h.2 c7
          refine s_bipush (v := (-2)) dX7_keep_36 (by decide) ?_
          refine s_goto (tgt := 42) dX7_keep_38 (by decide) ?_
          exact h
      · replace h := h.2 c5
        refine s_iconst (v := (-1)) dX7_keep_23 (by decide) ?_
        exact t_iret dX7_keep_24 (NR_i rfl _) h
theorem bX7_keep_42 {g : Gt} {d : Nat} {t : Tt} {Q : Option Value → Tt → Prop} {x1 : Int32} {x2 : Int32} {s0 : Int32} {(45 + 2 * p0.toNatClampNeg) : Nat} ((isSh_of g6) : isSh (45 + 2 * p0.toNatClampNeg)) (h : vp_in x1 6 ∧ Q (some (.int 1)) (pI (pI t (45 + 2 * p0.toNatClampNeg) 0 s0) (45 + 2 * x1.toNatClampNeg) 2 x2)) : Rt g (d + 1) mX7_keep 42 [some (.ref 0), some (.int x1), some (.int x2)] [.int s0, .ref (45 + 2 * p0.toNatClampNeg)] t Q := by
  refine t_putI dX7_keep_42 fl_X7_90 (isSh_k (isSh_of g6)) (isSh_z (isSh_of g6)) rfl rfl rfl rfl ?_
  refine s_aload_n dX7_keep_45 rfl rfl ?_
  refine t_getR (o' := 30) dX7_keep_46 fl_X7_45 rfl (by decide) rfl rfl ?_
  refine s_iload_n dX7_keep_49 rfl rfl ?_
  obtain ⟨g1, h⟩ := h
  refine t_aald dX7_keep_50 g1 rfl ?_
  refine s_iload_n dX7_keep_51 rfl rfl ?_
  refine t_putI dX7_keep_52 fl_X7_314 (isSh_k (isSh_of g1)) (isSh_z (isSh_of g1)) rfl rfl rfl rfl ?_
  refine s_iconst (v := 1) dX7_keep_55 (by decide) ?_
  exact t_iret dX7_keep_56 (NR_i rfl _) h
theorem bX7_shift_0 {g : Gt} {d : Nat} {t : Tt} {Q : Option Value → Tt → Prop} {p0 : Int32} {p1 : Int32} {p2 : Int32} {p3 : Int32} {p4 : Int32} (h : Rt g d mX7_noShelf 0 [some (.int p0)] [] t (QI (fun v2 t1 => (¬ v2 = 0 → Q (some (.int (-1))) t1) ∧ (v2 = 0 → Rt g d mX7_noShelf 0 [some (.int p2)] [] t1 (QI (fun v5 t4 => (v5 = 0 → vp_in p0 6 ∧ (vp_in p2 6 ∧ (((t4.1 (45 + 2 * p0.toNatClampNeg) 0) = (-2) → Q (some (.int (-11))) t4) ∧ (¬ (t4.1 (45 + 2 * p0.toNatClampNeg) 0) = (-2) → (¬ (t4.1 (45 + 2 * p2.toNatClampNeg) 0) = (-2) → ((t4.1 (45 + 2 * p0.toNatClampNeg) 0) = (-1) → Q (some (.int (-12))) t4) ∧ (¬ (t4.1 (45 + 2 * p0.toNatClampNeg) 0) = (-1) → ((t4.1 (45 + 2 * p0.toNatClampNeg) 0) = (t4.1 (45 + 2 * p2.toNatClampNeg) 0) → Rt g d mX6_lacks 0 [some (.ref (45 + 2 * p0.toNatClampNeg)), some (.int p1), some (.int p4)] [] t4 (QI (fun v14 t13 => (¬ v14 = 0 → Q (some (.int (-13))) t13) ∧ (v14 = 0 → Rt g d mX6_lacks 0 [some (.ref (45 + 2 * p2.toNatClampNeg)), some (.int p3), some (.int p4)] [] t13 (QI (fun v17 t16 => (v17 = 0 → ¬ p1 < 0 ∧ (¬ p3 < 0 ∧ (¬ p4 < 0 ∧ (p1.toNatClampNeg + p4.toNatClampNeg ≤ 60 ∧ (p3.toNatClampNeg + p4.toNatClampNeg ≤ 60 ∧ Q (some (.int p4)) (cJ t16 ((45 + 2 * p0.toNatClampNeg) + 1) ((45 + 2 * p2.toNatClampNeg) + 1) p1.toNatClampNeg p3.toNatClampNeg p4.toNatClampNeg)))))) ∧ (¬ v17 = 0 → Q (some (.int (-13))) t16))))))) ∧ (¬ (t4.1 (45 + 2 * p0.toNatClampNeg) 0) = (t4.1 (45 + 2 * p2.toNatClampNeg) 0) → Q (some (.int (-12))) t4))) ∧ ((t4.1 (45 + 2 * p2.toNatClampNeg) 0) = (-2) → Q (some (.int (-11))) t4))))) ∧ (¬ v5 = 0 → Q (some (.int (-1))) t4))))))) : Rt g (d + 1) mX7_shift 0 [some (.ref 0), some (.int p0), some (.int p1), some (.int p2), some (.int p3), some (.int p4), none, none] [] t Q := by
  refine s_iload_n dX7_shift_0 rfl rfl ?_
  refine t_callS (M' := mX7_noShelf) (k := 0) (As := [.int p0]) (rest := []) dX7_shift_1 ml_X7_86 mstX7_noShelf rfl (Nat.le_of_ble_eq_true rfl) (Nat.le_of_ble_eq_true rfl) rfl h (fun rv t1 q => ?_)
  obtain ⟨v2, rfl, h⟩ := q
  show Rt g (d + 1) mX7_shift 4 [some (.ref 0), some (.int p0), some (.int p1), some (.int p2), some (.int p3), some (.int p4), none, none] [.int v2] t1 Q
  refine s_if_ne (tgt := 14) dX7_shift_4 (by decide) (fun c3 => ?_) (fun c3 => ?_)
  · replace h := h.1 c3
    refine s_iconst (v := (-1)) dX7_shift_14 (by decide) ?_
    exact t_iret dX7_shift_15 (NR_i rfl _) h
  · replace h := h.2 c3
    refine s_iload_n dX7_shift_7 rfl rfl ?_
    refine t_callS (M' := mX7_noShelf) (k := 0) (As := [.int p2]) (rest := []) dX7_shift_8 ml_X7_86 mstX7_noShelf rfl (Nat.le_of_ble_eq_true rfl) (Nat.le_of_ble_eq_true rfl) rfl h (fun rv t4 q => ?_)
    obtain ⟨v5, rfl, h⟩ := q
    show Rt g (d + 1) mX7_shift 11 [some (.ref 0), some (.int p0), some (.int p1), some (.int p2), some (.int p3), some (.int p4), none, none] [.int v5] t4 Q
    refine s_if_eq (tgt := 16) dX7_shift_11 (by decide) (fun c6 => ?_) (fun c6 => ?_)
    · replace h := h.1 c6
      refine s_aload_n dX7_shift_16 rfl rfl ?_
      refine t_getR (o' := 30) dX7_shift_17 fl_X7_45 rfl (by decide) rfl rfl ?_
      refine s_iload_n dX7_shift_20 rfl rfl ?_
      obtain ⟨g7, h⟩ := h
      refine t_aald dX7_shift_21 g7 rfl ?_
      refine s_astore dX7_shift_22 (by decide) rfl (L9 := [some (.ref 0), some (.int p0), some (.int p1), some (.int p2), some (.int p3), some (.int p4), some (.ref (45 + 2 * p0.toNatClampNeg)), none]) rfl ?_
      refine s_aload_n dX7_shift_24 rfl rfl ?_
      refine t_getR (o' := 30) dX7_shift_25 fl_X7_45 rfl (by decide) rfl rfl ?_
      refine s_iload_n dX7_shift_28 rfl rfl ?_
      obtain ⟨g8, h⟩ := h
      refine t_aald dX7_shift_29 g8 rfl ?_
      refine s_astore dX7_shift_30 (by decide) rfl (L9 := [some (.ref 0), some (.int p0), some (.int p1), some (.int p2), some (.int p3), some (.int p4), some (.ref (45 + 2 * p0.toNatClampNeg)), some (.ref (45 + 2 * p2.toNatClampNeg))]) rfl ?_
      refine s_aload dX7_shift_32 rfl ?_
      refine t_getI dX7_shift_34 fl_X7_90 (isSh_k (isSh_of g7)) (isSh_z (isSh_of g7)) rfl ?_
      refine s_bipush (v := (-2)) dX7_shift_37 (by decide) ?_
      refine s_icmp_eq (tgt := 52) dX7_shift_39 (by decide) (fun c9 => ?_) (fun c9 => ?_)
      · replace h := h.1 c9
        refine s_bipush (v := (-11)) dX7_shift_52 (by decide) ?_
        exact t_iret dX7_shift_54 (NR_i rfl _) h
      · replace h := h.2 c9
        refine s_aload dX7_shift_42 rfl ?_
        refine t_getI dX7_shift_44 fl_X7_90 (isSh_k (isSh_of g8)) (isSh_z (isSh_of g8)) rfl ?_
        refine s_bipush (v := (-2)) dX7_shift_47 (by decide) ?_
        refine s_icmp_ne (tgt := 55) dX7_shift_49 (by decide) (fun c10 => ?_) (fun c10 => ?_)
        · replace h := h.1 c10
          refine s_aload dX7_shift_55 rfl ?_
          refine t_getI dX7_shift_57 fl_X7_90 (isSh_k (isSh_of g7)) (isSh_z (isSh_of g7)) rfl ?_
          refine s_iconst (v := (-1)) dX7_shift_60 (by decide) ?_
          refine s_icmp_eq (tgt := 77) dX7_shift_61 (by decide) (fun c11 => ?_) (fun c11 => ?_)
          · replace h := h.1 c11
            refine s_bipush (v := (-12)) dX7_shift_77 (by decide) ?_
            exact t_iret dX7_shift_79 (NR_i rfl _) h
          · replace h := h.2 c11
            refine s_aload dX7_shift_64 rfl ?_
            refine t_getI dX7_shift_66 fl_X7_90 (isSh_k (isSh_of g7)) (isSh_z (isSh_of g7)) rfl ?_
            refine s_aload dX7_shift_69 rfl ?_
            refine t_getI dX7_shift_71 fl_X7_90 (isSh_k (isSh_of g8)) (isSh_z (isSh_of g8)) rfl ?_
            refine s_icmp_eq (tgt := 80) dX7_shift_74 (by decide) (fun c12 => ?_) (fun c12 => ?_)
            · replace h := h.1 c12
              refine s_aload dX7_shift_80 rfl ?_
              refine s_iload_n dX7_shift_82 rfl rfl ?_
              refine s_iload dX7_shift_83 rfl ?_
              refine t_callV (M' := mX6_lacks) (k := 0) (As := [.int p1, .int p4]) (rest := []) dX7_shift_85 ml_X7_332 miX6_lacks msX6_lacks (isSh_k (isSh_of g7)) (isSh_z (isSh_of g7)) rfl rfl (Nat.le_of_ble_eq_true rfl) (Nat.le_of_ble_eq_true rfl) rfl h (fun rv t13 q => ?_)
              obtain ⟨v14, rfl, h⟩ := q
              show Rt g (d + 1) mX7_shift 88 [some (.ref 0), some (.int p0), some (.int p1), some (.int p2), some (.int p3), some (.int p4), some (.ref (45 + 2 * p0.toNatClampNeg)), some (.ref (45 + 2 * p2.toNatClampNeg))] [.int v14] t13 Q
              refine s_if_ne (tgt := 103) dX7_shift_88 (by decide) (fun c15 => ?_) (fun c15 => ?_)
              · replace h := h.1 c15
                refine s_bipush (v := (-13)) dX7_shift_103 (by decide) ?_
                exact t_iret dX7_shift_105 (NR_i rfl _) h
              · replace h := h.2 c15
                refine s_aload dX7_shift_91 rfl ?_
                refine s_iload dX7_shift_93 rfl ?_
                refine s_iload dX7_shift_95 rfl ?_
                refine t_callV (M' := mX6_lacks) (k := 0) (As := [.int p3, .int p4]) (rest := []) dX7_shift_97 ml_X7_332 miX6_lacks msX6_lacks (isSh_k (isSh_of g8)) (isSh_z (isSh_of g8)) rfl rfl (Nat.le_of_ble_eq_true rfl) (Nat.le_of_ble_eq_true rfl) rfl h (fun rv t16 q => ?_)
                obtain ⟨v17, rfl, h⟩ := q
                show Rt g (d + 1) mX7_shift 100 [some (.ref 0), some (.int p0), some (.int p1), some (.int p2), some (.int p3), some (.int p4), some (.ref (45 + 2 * p0.toNatClampNeg)), some (.ref (45 + 2 * p2.toNatClampNeg))] [.int v17] t16 Q
                refine s_if_eq (tgt := 106) dX7_shift_100 (by decide) (fun c18 => ?_) (fun c18 => ?_)
                · replace h := h.1 c18
                  refine s_aload dX7_shift_106 rfl ?_
                  refine t_getR dX7_shift_108 fl_X7_104 (isSh_k (isSh_of g7)) (isSh_z (isSh_of g7)) rfl (isSh_r3 _ (isSh_of g7)) ?_
                  refine s_iload_n dX7_shift_111 rfl rfl ?_
                  refine s_aload dX7_shift_112 rfl ?_
                  refine t_getR dX7_shift_114 fl_X7_104 (isSh_k (isSh_of g8)) (isSh_z (isSh_of g8)) rfl (isSh_r3 _ (isSh_of g8)) ?_
                  refine s_iload dX7_shift_117 rfl ?_
                  refine s_iload dX7_shift_119 rfl ?_
                  obtain ⟨g19, h⟩ := h
                  obtain ⟨g20, h⟩ := h
                  obtain ⟨g21, h⟩ := h
                  obtain ⟨g22, h⟩ := h
                  obtain ⟨g23, h⟩ := h
                  refine t_cpyJ dX7_shift_121 ac_X7_267 (isSh_k3 (isSh_of g7)) (isSh_z3 (isSh_of g7)) (isSh_k3 (isSh_of g8)) (isSh_z3 (isSh_of g8)) g19 g20 g21 g22 g23 (Nat.le_of_ble_eq_true rfl) ?_
                  refine s_iload dX7_shift_124 rfl ?_
                  exact t_iret dX7_shift_126 (NR_i rfl _) h
                · replace h := h.2 c18
                  refine s_bipush (v := (-13)) dX7_shift_103 (by decide) ?_
                  exact t_iret dX7_shift_105 (NR_i rfl _) h
            · replace h := h.2 c12
              refine s_bipush (v := (-12)) dX7_shift_77 (by decide) ?_
              exact t_iret dX7_shift_79 (NR_i rfl _) h
        · replace h := h.2 c10
          refine s_bipush (v := (-11)) dX7_shift_52 (by decide) ?_
          exact t_iret dX7_shift_54 (NR_i rfl _) h
    · replace h := h.2 c6
      refine s_iconst (v := (-1)) dX7_shift_14 (by decide) ?_
      exact t_iret dX7_shift_15 (NR_i rfl _) h
theorem bX7_count_0 {g : Gt} {d : Nat} {t : Tt} {Q : Option Value → Tt → Prop} {p0 : Int32} (h : (p0 = 0 → Q (some (.int (t.1 1 0))) t) ∧ (¬ p0 = 0 → (p0 = 1 → Rt g d mX5_howManyGone 0 [some (.ref 1), none, none] [] t (QI (fun v4 t3 => Q (some (.int v4)) t3))) ∧ (¬ p0 = 1 → (p0 = 2 → Q (some (.int (t.1 33 1))) t) ∧ (¬ p0 = 2 → (p0 = 3 → Q (some (.int (t.1 22 0))) t) ∧ (¬ p0 = 3 → (p0 = 4 → Q (some (.int (t.1 27 0))) t) ∧ (¬ p0 = 4 → (p0 = 5 → Q (some (.int (t.1 27 2))) t) ∧ (¬ p0 = 5 → Q (some (.int (-1))) t))))))) : Rt g (d + 1) mX7_count 0 [some (.ref 0), some (.int p0)] [] t Q := by
  refine s_iload_n dX7_count_0 rfl rfl ?_
  by_cases c1 : p0 = 0
  · replace h := h.1 c1
    refine s_tin (off := 39) (tgt := 40) dX7_count_1 (by rw [c1]; decide) (by rw [c1]; decide) (by rw [c1]; rfl) (by decide) ?_
    refine s_aload_n dX7_count_40 rfl rfl ?_
    refine t_getR (o' := 1) dX7_count_41 fl_X7_10 rfl (by decide) rfl rfl ?_
    refine t_getI dX7_count_44 fl_X7_75 rfl (by decide) rfl ?_
    exact t_iret dX7_count_47 (NR_i rfl _) h
  · replace h := h.2 c1
    by_cases c2 : p0 = 1
    · replace h := h.1 c2
      refine s_tin (off := 47) (tgt := 48) dX7_count_1 (by rw [c2]; decide) (by rw [c2]; decide) (by rw [c2]; rfl) (by decide) ?_
      refine s_aload_n dX7_count_48 rfl rfl ?_
      refine t_getR (o' := 1) dX7_count_49 fl_X7_10 rfl (by decide) rfl rfl ?_
      refine t_callV (M' := mX5_howManyGone) (k := 2) (As := []) (rest := []) dX7_count_52 ml_X7_341 miX5_howManyGone msX5_howManyGone rfl (by decide) rfl rfl (Nat.le_of_ble_eq_true rfl) (Nat.le_of_ble_eq_true rfl) rfl h (fun rv t3 q => ?_)
      obtain ⟨v4, rfl, h⟩ := q
      show Rt g (d + 1) mX7_count 55 [some (.ref 0), some (.int p0)] [.int v4] t3 Q
      exact t_iret dX7_count_55 (NR_i rfl _) h
    · replace h := h.2 c2
      by_cases c5 : p0 = 2
      · replace h := h.1 c5
        refine s_tin (off := 55) (tgt := 56) dX7_count_1 (by rw [c5]; decide) (by rw [c5]; decide) (by rw [c5]; rfl) (by decide) ?_
        refine s_aload_n dX7_count_56 rfl rfl ?_
        refine t_getR (o' := 33) dX7_count_57 fl_X7_59 rfl (by decide) rfl rfl ?_
        refine t_getI dX7_count_60 fl_X7_151 rfl (by decide) rfl ?_
        exact t_iret dX7_count_63 (NR_i rfl _) h
      · replace h := h.2 c5
        by_cases c6 : p0 = 3
        · replace h := h.1 c6
          refine s_tin (off := 63) (tgt := 64) dX7_count_1 (by rw [c6]; decide) (by rw [c6]; decide) (by rw [c6]; rfl) (by decide) ?_
          refine s_aload_n dX7_count_64 rfl rfl ?_
          refine t_getR (o' := 22) dX7_count_65 fl_X7_32 rfl (by decide) rfl rfl ?_
          refine t_getI dX7_count_68 fl_X7_280 rfl (by decide) rfl ?_
          exact t_iret dX7_count_71 (NR_i rfl _) h
        · replace h := h.2 c6
          by_cases c7 : p0 = 4
          · replace h := h.1 c7
            refine s_tin (off := 71) (tgt := 72) dX7_count_1 (by rw [c7]; decide) (by rw [c7]; decide) (by rw [c7]; rfl) (by decide) ?_
            refine s_aload_n dX7_count_72 rfl rfl ?_
            refine t_getR (o' := 27) dX7_count_73 fl_X7_39 rfl (by decide) rfl rfl ?_
            refine t_getI dX7_count_76 fl_X7_311 rfl (by decide) rfl ?_
            exact t_iret dX7_count_79 (NR_i rfl _) h
          · replace h := h.2 c7
            by_cases c8 : p0 = 5
            · replace h := h.1 c8
              refine s_tin (off := 79) (tgt := 80) dX7_count_1 (by rw [c8]; decide) (by rw [c8]; decide) (by rw [c8]; rfl) (by decide) ?_
              refine s_aload_n dX7_count_80 rfl rfl ?_
              refine t_getR (o' := 27) dX7_count_81 fl_X7_39 rfl (by decide) rfl rfl ?_
              refine t_getI dX7_count_84 fl_X7_344 rfl (by decide) rfl ?_
              exact t_iret dX7_count_87 (NR_i rfl _) h
            · replace h := h.2 c8
              refine s_tout (tgt := 88) dX7_count_1 (by have q0 := lv_neT c1 (a := 0) rfl; have q1 := lv_neT c2 (a := 1) rfl; have q2 := lv_neT c5 (a := 2) rfl; have q3 := lv_neT c6 (a := 3) rfl; have q4 := lv_neT c7 (a := 4) rfl; have q5 := lv_neT c8 (a := 5) rfl; omega) (by decide) ?_
              refine s_iconst (v := (-1)) dX7_count_88 (by decide) ?_
              exact t_iret dX7_count_89 (NR_i rfl _) h
theorem bJ0_length_8abf5_0 {g : Gt} {d : Nat} {t : Tt} {Q : Option Value → Tt → Prop} (h : Rt g d mJ0_coder_7d493 0 [some (.ref 1003)] [] t (QI (fun v2 t1 => Q (some (.int (jsr 6 v2))) t1))) : Rt g (d + 1) mJ0_length_8abf5 0 [some (.ref 1003)] [] t Q := by
  refine s_aload_n dJ0_length_8abf5_0 rfl rfl ?_
  refine s_strV dJ0_length_8abf5_1 sf_J0_9 ?_
  refine s_tabNl dJ0_length_8abf5_4 ?_
  refine s_aload_n dJ0_length_8abf5_5 rfl rfl ?_
  refine t_callStr (M' := mJ0_coder_7d493) (k := 0) (As := []) (rest := [.int 6]) dJ0_length_8abf5_6 ml_J0_335 miJ0_coder_7d493 msJ0_coder_7d493 rfl rfl (Nat.le_of_ble_eq_true rfl) (Nat.le_of_ble_eq_true rfl) rfl h (fun rv t1 q => ?_)
  obtain ⟨v2, rfl, h⟩ := q
  show Rt g (d + 1) mJ0_length_8abf5 9 [some (.ref 1003)] [.int v2, .int 6] t1 Q
  refine s_ishr dJ0_length_8abf5_9 ?_
  exact t_iret dJ0_length_8abf5_10 (NR_i rfl _) h
theorem bJ0_indexOf_0f7a4_0 {g : Gt} {d : Nat} {t : Tt} {Q : Option Value → Tt → Prop} {p0 : Int32} (h : Rt g d mJ0_indexOf_7cf53 0 [some (.ref 1003), some (.int p0), some (.int 0)] [] t (QI (fun v2 t1 => Q (some (.int v2)) t1))) : Rt g (d + 1) mJ0_indexOf_0f7a4 0 [some (.ref 1003), some (.int p0)] [] t Q := by
  refine s_aload_n dJ0_indexOf_0f7a4_0 rfl rfl ?_
  refine s_iload_n dJ0_indexOf_0f7a4_1 rfl rfl ?_
  refine s_iconst (v := 0) dJ0_indexOf_0f7a4_2 (by decide) ?_
  refine t_callStr (M' := mJ0_indexOf_7cf53) (k := 0) (As := [.int p0, .int 0]) (rest := []) dJ0_indexOf_0f7a4_3 ml_J0_633 miJ0_indexOf_7cf53 msJ0_indexOf_7cf53 rfl rfl (Nat.le_of_ble_eq_true rfl) (Nat.le_of_ble_eq_true rfl) rfl h (fun rv t1 q => ?_)
  obtain ⟨v2, rfl, h⟩ := q
  show Rt g (d + 1) mJ0_indexOf_0f7a4 6 [some (.ref 1003), some (.int p0)] [.int v2] t1 Q
  exact t_iret dJ0_indexOf_0f7a4_6 (NR_i rfl _) h
theorem bJ0_indexOf_7cf53_0 {g : Gt} {d : Nat} {t : Tt} {Q : Option Value → Tt → Prop} {p0 : Int32} {p1 : Int32} (h : Rt g d mJ0_isLatin1_aae02 0 [some (.ref 1003)] [] t (QI (fun v2 t1 => (v2 = 0 → Rt g d mJ0_length_8abf5 0 [some (.ref 1003)] [] t1 (QI (fun v5 t4 => False))) ∧ (¬ v2 = 0 → Rt g d mJ0_length_8abf5 0 [some (.ref 1003)] [] t1 (QI (fun v7 t6 => Rt g d mJ1_indexOf_4cfef 0 [some (.ref 1004), some (.int p0), some (.int p1), some (.int v7)] [] t6 (QI (fun v9 t8 => Q (some (.int v9)) t8)))))))) : Rt g (d + 1) mJ0_indexOf_7cf53 0 [some (.ref 1003), some (.int p0), some (.int p1)] [] t Q := by
  refine s_aload_n dJ0_indexOf_7cf53_0 rfl rfl ?_
  refine t_callStr (M' := mJ0_isLatin1_aae02) (k := 0) (As := []) (rest := []) dJ0_indexOf_7cf53_1 ml_J0_492 miJ0_isLatin1_aae02 msJ0_isLatin1_aae02 rfl rfl (Nat.le_of_ble_eq_true rfl) (Nat.le_of_ble_eq_true rfl) rfl h (fun rv t1 q => ?_)
  obtain ⟨v2, rfl, h⟩ := q
  show Rt g (d + 1) mJ0_indexOf_7cf53 4 [some (.ref 1003), some (.int p0), some (.int p1)] [.int v2] t1 Q
  refine s_if_eq (tgt := 23) dJ0_indexOf_7cf53_4 (by decide) (fun c3 => ?_) (fun c3 => ?_)
  · replace h := h.1 c3
    refine s_aload_n dJ0_indexOf_7cf53_23 rfl rfl ?_
    refine s_strV dJ0_indexOf_7cf53_24 sf_J0_9 ?_
    refine s_iload_n dJ0_indexOf_7cf53_27 rfl rfl ?_
    refine s_iload_n dJ0_indexOf_7cf53_28 rfl rfl ?_
    refine s_aload_n dJ0_indexOf_7cf53_29 rfl rfl ?_
    refine t_callStr (M' := mJ0_length_8abf5) (k := 0) (As := []) (rest := [.int p1, .int p0, .ref 1004]) dJ0_indexOf_7cf53_30 ml_J0_505 miJ0_length_8abf5 msJ0_length_8abf5 rfl rfl (Nat.le_of_ble_eq_true rfl) (Nat.le_of_ble_eq_true rfl) rfl h (fun rv t4 q => ?_)
    obtain ⟨v5, rfl, h⟩ := q
    show Rt g (d + 1) mJ0_indexOf_7cf53 33 [some (.ref 1003), some (.int p0), some (.int p1)] [.int v5, .int p1, .int p0, .ref 1004] t4 Q
    exact h.elim
  · replace h := h.2 c3
    refine s_aload_n dJ0_indexOf_7cf53_7 rfl rfl ?_
    refine s_strV dJ0_indexOf_7cf53_8 sf_J0_9 ?_
    refine s_iload_n dJ0_indexOf_7cf53_11 rfl rfl ?_
    refine s_iload_n dJ0_indexOf_7cf53_12 rfl rfl ?_
    refine s_aload_n dJ0_indexOf_7cf53_13 rfl rfl ?_
    refine t_callStr (M' := mJ0_length_8abf5) (k := 0) (As := []) (rest := [.int p1, .int p0, .ref 1004]) dJ0_indexOf_7cf53_14 ml_J0_505 miJ0_length_8abf5 msJ0_length_8abf5 rfl rfl (Nat.le_of_ble_eq_true rfl) (Nat.le_of_ble_eq_true rfl) rfl h (fun rv t6 q => ?_)
    obtain ⟨v7, rfl, h⟩ := q
    show Rt g (d + 1) mJ0_indexOf_7cf53 17 [some (.ref 1003), some (.int p0), some (.int p1)] [.int v7, .int p1, .int p0, .ref 1004] t6 Q
    refine t_callS (M' := mJ1_indexOf_4cfef) (k := 0) (As := [.ref 1004, .int p0, .int p1, .int v7]) (rest := []) dJ0_indexOf_7cf53_17 ml_J0_637 mstJ1_indexOf_4cfef rfl (Nat.le_of_ble_eq_true rfl) (Nat.le_of_ble_eq_true rfl) rfl h (fun rv t8 q => ?_)
    obtain ⟨v9, rfl, h⟩ := q
    show Rt g (d + 1) mJ0_indexOf_7cf53 20 [some (.ref 1003), some (.int p0), some (.int p1)] [.int v9] t8 Q
    refine s_goto (tgt := 36) dJ0_indexOf_7cf53_20 (by decide) ?_
    exact t_iret dJ0_indexOf_7cf53_36 (NR_i rfl _) h
theorem bJ0_coder_7d493_0 {g : Gt} {d : Nat} {t : Tt} {Q : Option Value → Tt → Prop} (h : (1 = 0 → Q (some (.int 1)) t) ∧ (¬ 1 = 0 → Q (some (.int 0)) t)) : Rt g d mJ0_coder_7d493 0 [some (.ref 1003)] [] t Q := by
  refine s_gsC dJ0_coder_7d493_0 sf_J0_38 ?_
  refine s_if_eq (tgt := 13) dJ0_coder_7d493_3 (by decide) (fun c1 => ?_) (fun c1 => ?_)
  · replace h := h.1 c1
    refine s_iconst (v := 1) dJ0_coder_7d493_13 (by decide) ?_
    exact t_iret dJ0_coder_7d493_14 ⟨.byte, rfl, rfl⟩ h
  · replace h := h.2 c1
    refine s_aload_n dJ0_coder_7d493_6 rfl rfl ?_
    refine s_strC dJ0_coder_7d493_7 sf_J0_15 ?_
    refine s_goto (tgt := 14) dJ0_coder_7d493_10 (by decide) ?_
    exact t_iret dJ0_coder_7d493_14 ⟨.byte, rfl, rfl⟩ h
theorem bJ0_isLatin1_aae02_0 {g : Gt} {d : Nat} {t : Tt} {Q : Option Value → Tt → Prop} (h : (1 = 0 → Q (some (.int 0)) t) ∧ (¬ 1 = 0 → (¬ 0 = 0 → Q (some (.int 0)) t) ∧ (0 = 0 → Q (some (.int 1)) t))) : Rt g d mJ0_isLatin1_aae02 0 [some (.ref 1003)] [] t Q := by
  refine s_gsC dJ0_isLatin1_aae02_0 sf_J0_38 ?_
  refine s_if_eq (tgt := 17) dJ0_isLatin1_aae02_3 (by decide) (fun c1 => ?_) (fun c1 => ?_)
  · replace h := h.1 c1
    refine s_iconst (v := 0) dJ0_isLatin1_aae02_17 (by decide) ?_
    exact t_iret dJ0_isLatin1_aae02_18 (NR_z rfl (Or.inl rfl)) h
  · replace h := h.2 c1
    refine s_aload_n dJ0_isLatin1_aae02_6 rfl rfl ?_
    refine s_strC dJ0_isLatin1_aae02_7 sf_J0_15 ?_
    refine s_if_ne (tgt := 17) dJ0_isLatin1_aae02_10 (by decide) (fun c2 => ?_) (fun c2 => ?_)
    · replace h := h.1 c2
      refine s_iconst (v := 0) dJ0_isLatin1_aae02_17 (by decide) ?_
      exact t_iret dJ0_isLatin1_aae02_18 (NR_z rfl (Or.inl rfl)) h
    · replace h := h.2 c2
      refine s_iconst (v := 1) dJ0_isLatin1_aae02_13 (by decide) ?_
      refine s_goto (tgt := 18) dJ0_isLatin1_aae02_14 (by decide) ?_
      exact t_iret dJ0_isLatin1_aae02_18 (NR_z rfl (Or.inr rfl)) h
theorem bJ1_canEncode_9a6ad_0 {g : Gt} {d : Nat} {t : Tt} {Q : Option Value → Tt → Prop} {p0 : Int32} (h : (p0 < 0 → Q (some (.int 0)) t) ∧ (¬ p0 < 0 → (255 < p0 → Q (some (.int 0)) t) ∧ (¬ 255 < p0 → Q (some (.int 1)) t))) : Rt g d mJ1_canEncode_9a6ad 0 [some (.int p0)] [] t Q := by
  refine s_iload_n dJ1_canEncode_9a6ad_0 rfl rfl ?_
  refine s_if_lt (tgt := 15) dJ1_canEncode_9a6ad_1 (by decide) (fun c1 => ?_) (fun c1 => ?_)
  · replace h := h.1 c1
    refine s_iconst (v := 0) dJ1_canEncode_9a6ad_15 (by decide) ?_
    exact t_iret dJ1_canEncode_9a6ad_16 (NR_z rfl (Or.inl rfl)) h
  · replace h := h.2 c1
    refine s_iload_n dJ1_canEncode_9a6ad_4 rfl rfl ?_
    refine s_sipush (v := 255) dJ1_canEncode_9a6ad_5 (by decide) ?_
    refine s_icmp_gt (tgt := 15) dJ1_canEncode_9a6ad_8 (by decide) (fun c2 => ?_) (fun c2 => ?_)
    · replace h := h.1 c2
      refine s_iconst (v := 0) dJ1_canEncode_9a6ad_15 (by decide) ?_
      exact t_iret dJ1_canEncode_9a6ad_16 (NR_z rfl (Or.inl rfl)) h
    · replace h := h.2 c2
      refine s_iconst (v := 1) dJ1_canEncode_9a6ad_11 (by decide) ?_
      refine s_goto (tgt := 16) dJ1_canEncode_9a6ad_12 (by decide) ?_
      exact t_iret dJ1_canEncode_9a6ad_16 (NR_z rfl (Or.inr rfl)) h
theorem bJ1_indexOf_4cfef_0 {g : Gt} {d : Nat} {t : Tt} {Q : Option Value → Tt → Prop} {p1 : Int32} {p2 : Int32} {p3 : Int32} (h : Rt g d mJ1_canEncode_9a6ad 0 [some (.int p1)] [] t (QI (fun v2 t1 => (¬ v2 = 0 → ∀ z4 : Int32, z4 = (imax p2 0) → ∀ z5 : Int32, z5 = (imin p3 6) → (z4 < z5 → Rt g d mJ1_indexOfChar_4cfef 0 [some (.ref 1004), some (.int p1), some (.int z4), some (.int z5), none, none] [] t1 (QI (fun v8 t7 => Q (some (.int v8)) t7))) ∧ (¬ z4 < z5 → Q (some (.int (-1))) t1)) ∧ (v2 = 0 → Q (some (.int (-1))) t1)))) : Rt g (d + 1) mJ1_indexOf_4cfef 0 [some (.ref 1004), some (.int p1), some (.int p2), some (.int p3)] [] t Q := by
  refine s_iload_n dJ1_indexOf_4cfef_0 rfl rfl ?_
  refine t_callS (M' := mJ1_canEncode_9a6ad) (k := 0) (As := [.int p1]) (rest := []) dJ1_indexOf_4cfef_1 ml_J1_88 mstJ1_canEncode_9a6ad rfl (Nat.le_of_ble_eq_true rfl) (Nat.le_of_ble_eq_true rfl) rfl h (fun rv t1 q => ?_)
  obtain ⟨v2, rfl, h⟩ := q
  show Rt g (d + 1) mJ1_indexOf_4cfef 4 [some (.ref 1004), some (.int p1), some (.int p2), some (.int p3)] [.int v2] t1 Q
  refine s_if_ne (tgt := 9) dJ1_indexOf_4cfef_4 (by decide) (fun c3 => ?_) (fun c3 => ?_)
  · replace h := h.1 c3
    refine s_iload_n dJ1_indexOf_4cfef_9 rfl rfl ?_
    refine s_iconst (v := 0) dJ1_indexOf_4cfef_10 (by decide) ?_
    refine t_max dJ1_indexOf_4cfef_11 mmax_J1_92 (Nat.le_of_ble_eq_true rfl) ?_
    refine t_nmI (fun z4 ez4 => ?_)
    replace h := h z4 ez4
    refine s_istore_n dJ1_indexOf_4cfef_14 rfl (by decide) rfl (L9 := [some (.ref 1004), some (.int p1), some (.int z4), some (.int p3)]) rfl ?_
    refine s_iload_n dJ1_indexOf_4cfef_15 rfl rfl ?_
    refine s_aload_n dJ1_indexOf_4cfef_16 rfl rfl ?_
    refine s_tabNl dJ1_indexOf_4cfef_17 ?_
    refine t_min dJ1_indexOf_4cfef_18 mmin_J1_38 (Nat.le_of_ble_eq_true rfl) ?_
    refine t_nmI (fun z5 ez5 => ?_)
    replace h := h z5 ez5
    refine s_istore_n dJ1_indexOf_4cfef_21 rfl (by decide) rfl (L9 := [some (.ref 1004), some (.int p1), some (.int z4), some (.int z5)]) rfl ?_
    refine s_iload_n dJ1_indexOf_4cfef_22 rfl rfl ?_
    refine s_iload_n dJ1_indexOf_4cfef_23 rfl rfl ?_
    refine s_icmp_lt (tgt := 29) dJ1_indexOf_4cfef_24 (by decide) (fun c6 => ?_) (fun c6 => ?_)
    · replace h := h.1 c6
      refine s_aload_n dJ1_indexOf_4cfef_29 rfl rfl ?_
      refine s_iload_n dJ1_indexOf_4cfef_30 rfl rfl ?_
      refine s_iload_n dJ1_indexOf_4cfef_31 rfl rfl ?_
      refine s_iload_n dJ1_indexOf_4cfef_32 rfl rfl ?_
      refine t_callS (M' := mJ1_indexOfChar_4cfef) (k := 2) (As := [.ref 1004, .int p1, .int z4, .int z5]) (rest := []) dJ1_indexOf_4cfef_33 ml_J1_95 mstJ1_indexOfChar_4cfef rfl (Nat.le_of_ble_eq_true rfl) (Nat.le_of_ble_eq_true rfl) rfl h (fun rv t7 q => ?_)
      obtain ⟨v8, rfl, h⟩ := q
      show Rt g (d + 1) mJ1_indexOf_4cfef 36 [some (.ref 1004), some (.int p1), some (.int z4), some (.int z5)] [.int v8] t7 Q
      exact t_iret dJ1_indexOf_4cfef_36 (NR_i rfl _) h
    · replace h := h.2 c6
      refine s_iconst (v := (-1)) dJ1_indexOf_4cfef_27 (by decide) ?_
      exact t_iret dJ1_indexOf_4cfef_28 (NR_i rfl _) h
  · replace h := h.2 c3
    refine s_iconst (v := (-1)) dJ1_indexOf_4cfef_7 (by decide) ?_
    exact t_iret dJ1_indexOf_4cfef_8 (NR_i rfl _) h
theorem bJ1_indexOfChar_4cfef_0 {g : Gt} {d : Nat} {t : Tt} {Q : Option Value → Tt → Prop} {p1 : Int32} {p2 : Int32} {p3 : Int32} (h : ∀ z1 : Int32, z1 = (p1.toInt8.toInt32) → Rt g d mJ1_indexOfChar_4cfef 7 [some (.ref 1004), none, none, some (.int p3), some (.int z1), some (.int p2)] [] t Q) : Rt g d mJ1_indexOfChar_4cfef 0 [some (.ref 1004), some (.int p1), some (.int p2), some (.int p3), none, none] [] t Q := by
  refine s_iload_n dJ1_indexOfChar_4cfef_0 rfl rfl ?_
  refine s_i2b dJ1_indexOfChar_4cfef_1 ?_
  refine t_nmI (fun z1 ez1 => ?_)
  replace h := h z1 ez1
  refine s_istore dJ1_indexOfChar_4cfef_2 (by decide) rfl (L9 := [some (.ref 1004), some (.int p1), some (.int p2), some (.int p3), some (.int z1), none]) rfl ?_
  refine s_iload_n dJ1_indexOfChar_4cfef_4 rfl rfl ?_
  refine s_istore dJ1_indexOfChar_4cfef_5 (by decide) rfl (L9 := [some (.ref 1004), some (.int p1), some (.int p2), some (.int p3), some (.int z1), some (.int p2)]) rfl ?_
  exact Rt.lc h (lc_some (lc_none (lc_none (lc_some (lc_some (lc_some lc_nil))))))
theorem bJ1_indexOfChar_4cfef_7 {g : Gt} {d : Nat} {t : Tt} {Q : Option Value → Tt → Prop} {x3 : Int32} {x4 : Int32} {x5 : Int32} (h : (x3 ≤ x5 → Q (some (.int (-1))) t) ∧ (¬ x3 ≤ x5 → vp_in x5 6 ∧ ((¬ (tabN x5.toNatClampNeg) = x4 → Rt g d mJ1_indexOfChar_4cfef 7 [some (.ref 1004), none, none, some (.int x3), some (.int x4), some (.int (x5 + 1))] [] t Q) ∧ ((tabN x5.toNatClampNeg) = x4 → Q (some (.int x5)) t)))) : Rt g d mJ1_indexOfChar_4cfef 7 [some (.ref 1004), none, none, some (.int x3), some (.int x4), some (.int x5)] [] t Q := by
  refine s_iload dJ1_indexOfChar_4cfef_7 rfl ?_
  refine s_iload_n dJ1_indexOfChar_4cfef_9 rfl rfl ?_
  refine s_icmp_ge (tgt := 31) dJ1_indexOfChar_4cfef_10 (by decide) (fun c1 => ?_) (fun c1 => ?_)
  · replace h := h.1 c1
    refine s_iconst (v := (-1)) dJ1_indexOfChar_4cfef_31 (by decide) ?_
    exact t_iret dJ1_indexOfChar_4cfef_32 (NR_i rfl _) h
  · replace h := h.2 c1
    refine s_aload_n dJ1_indexOfChar_4cfef_13 rfl rfl ?_
    refine s_iload dJ1_indexOfChar_4cfef_14 rfl ?_
    obtain ⟨g2, h⟩ := h
    refine s_tabN dJ1_indexOfChar_4cfef_16 g2 ?_
    refine s_iload dJ1_indexOfChar_4cfef_17 rfl ?_
    refine s_icmp_ne (tgt := 25) dJ1_indexOfChar_4cfef_19 (by decide) (fun c3 => ?_) (fun c3 => ?_)
    · replace h := h.1 c3
      refine s_iinc (w := x5 + 1) dJ1_indexOfChar_4cfef_25 rfl (by rfl) (by decide) rfl (L9 := [some (.ref 1004), none, none, some (.int x3), some (.int x4), some (.int (x5 + 1))]) rfl ?_
      refine s_goto (tgt := 7) dJ1_indexOfChar_4cfef_28 (by decide) ?_
      exact h
    · replace h := h.2 c3
      refine s_iload dJ1_indexOfChar_4cfef_22 rfl ?_
      exact t_iret dJ1_indexOfChar_4cfef_24 (NR_i rfl _) h
