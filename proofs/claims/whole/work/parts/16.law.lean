abbrev mL_law : Mt := (cL_law, 4, some .boolean, yL_law)
set_option maxRecDepth 20000 in
theorem bL_law_18 {g : Gt} {d : Nat} {t : Tt} {Q : Option Value → Tt → Prop} {x3 : Int32} (h : (((Int32.ofNat (gL g)) - 6) < x3 → Q (some (.int 1)) t) ∧ (¬ ((Int32.ofNat (gL g)) - 6) < x3 → vp_in x3 (gL g) ∧ (∀ z3 : Int32, z3 = ((gX g x3.toNatClampNeg) &&& 63) → ((z3 = 0 → Rt g (d + 1) mL_law 212 [some (.ref 1000), some (.ref 0), some (.ref 57), some (.int x3)] [] t Q) ∧ (¬ z3 = 0 → (z3 = 1 → Rt g (d + 1) mL_law 235 [some (.ref 1000), some (.ref 0), some (.ref 57), some (.int x3)] [] t Q) ∧ (¬ z3 = 1 → (z3 = 2 → Rt g (d + 1) mL_law 278 [some (.ref 1000), some (.ref 0), some (.ref 57), some (.int x3)] [] t Q) ∧ (¬ z3 = 2 → (z3 = 3 → Rt g (d + 1) mL_law 321 [some (.ref 1000), some (.ref 0), some (.ref 57), some (.int x3)] [] t Q) ∧ (¬ z3 = 3 → (z3 = 4 → Rt g (d + 1) mL_law 354 [some (.ref 1000), some (.ref 0), some (.ref 57), some (.int x3)] [] t Q) ∧ (¬ z3 = 4 → (z3 = 5 → Rt g (d + 1) mL_law 377 [some (.ref 1000), some (.ref 0), some (.ref 57), some (.int x3)] [] t Q) ∧ (¬ z3 = 5 → (z3 = 6 → Rt g (d + 1) mL_law 390 [some (.ref 1000), some (.ref 0), some (.ref 57), some (.int x3)] [] t Q) ∧ (¬ z3 = 6 → (z3 = 7 → Rt g (d + 1) mL_law 423 [some (.ref 1000), some (.ref 0), some (.ref 57), some (.int x3)] [] t Q) ∧ (¬ z3 = 7 → (z3 = 8 → Rt g (d + 1) mL_law 466 [some (.ref 1000), some (.ref 0), some (.ref 57), some (.int x3)] [] t Q) ∧ (¬ z3 = 8 → (z3 = 9 → Rt g (d + 1) mL_law 499 [some (.ref 1000), some (.ref 0), some (.ref 57), some (.int x3)] [] t Q) ∧ (¬ z3 = 9 → (z3 = 10 → Rt g (d + 1) mL_law 522 [some (.ref 1000), some (.ref 0), some (.ref 57), some (.int x3)] [] t Q) ∧ (¬ z3 = 10 → (z3 = 11 → Rt g (d + 1) mL_law 555 [some (.ref 1000), some (.ref 0), some (.ref 57), some (.int x3)] [] t Q) ∧ (¬ z3 = 11 → (z3 = 12 → Rt g (d + 1) mL_law 588 [some (.ref 1000), some (.ref 0), some (.ref 57), some (.int x3)] [] t Q) ∧ (¬ z3 = 12 → (z3 = 13 → Rt g (d + 1) mL_law 631 [some (.ref 1000), some (.ref 0), some (.ref 57), some (.int x3)] [] t Q) ∧ (¬ z3 = 13 → (z3 = 14 → Rt g (d + 1) mL_law 664 [some (.ref 1000), some (.ref 0), some (.ref 57), some (.int x3)] [] t Q) ∧ (¬ z3 = 14 → (z3 = 15 → Rt g (d + 1) mL_law 697 [some (.ref 1000), some (.ref 0), some (.ref 57), some (.int x3)] [] t Q) ∧ (¬ z3 = 15 → (z3 = 16 → Rt g (d + 1) mL_law 720 [some (.ref 1000), some (.ref 0), some (.ref 57), some (.int x3)] [] t Q) ∧ (¬ z3 = 16 → (z3 = 17 → Rt g (d + 1) mL_law 763 [some (.ref 1000), some (.ref 0), some (.ref 57), some (.int x3)] [] t Q) ∧ (¬ z3 = 17 → (z3 = 18 → Rt g (d + 1) mL_law 806 [some (.ref 1000), some (.ref 0), some (.ref 57), some (.int x3)] [] t Q) ∧ (¬ z3 = 18 → (z3 = 19 → Rt g (d + 1) mL_law 849 [some (.ref 1000), some (.ref 0), some (.ref 57), some (.int x3)] [] t Q) ∧ (¬ z3 = 19 → (z3 = 20 → Rt g (d + 1) mL_law 872 [some (.ref 1000), some (.ref 0), some (.ref 57), some (.int x3)] [] t Q) ∧ (¬ z3 = 20 → (z3 = 21 → Rt g (d + 1) mL_law 915 [some (.ref 1000), some (.ref 0), some (.ref 57), some (.int x3)] [] t Q) ∧ (¬ z3 = 21 → (z3 = 22 → Rt g (d + 1) mL_law 958 [some (.ref 1000), some (.ref 0), some (.ref 57), some (.int x3)] [] t Q) ∧ (¬ z3 = 22 → (z3 = 23 → Rt g (d + 1) mL_law 991 [some (.ref 1000), some (.ref 0), some (.ref 57), some (.int x3)] [] t Q) ∧ (¬ z3 = 23 → (z3 = 24 → Rt g (d + 1) mL_law 1024 [some (.ref 1000), some (.ref 0), some (.ref 57), some (.int x3)] [] t Q) ∧ (¬ z3 = 24 → (z3 = 25 → Rt g (d + 1) mL_law 1057 [some (.ref 1000), some (.ref 0), some (.ref 57), some (.int x3)] [] t Q) ∧ (¬ z3 = 25 → (z3 = 26 → Rt g (d + 1) mL_law 1070 [some (.ref 1000), some (.ref 0), some (.ref 57), some (.int x3)] [] t Q) ∧ (¬ z3 = 26 → (z3 = 27 → Rt g (d + 1) mL_law 1093 [some (.ref 1000), some (.ref 0), some (.ref 57), some (.int x3)] [] t Q) ∧ (¬ z3 = 27 → (z3 = 28 → Rt g (d + 1) mL_law 1106 [some (.ref 1000), some (.ref 0), some (.ref 57), some (.int x3)] [] t Q) ∧ (¬ z3 = 28 → (z3 = 29 → Rt g (d + 1) mL_law 1119 [some (.ref 1000), some (.ref 0), some (.ref 57), some (.int x3)] [] t Q) ∧ (¬ z3 = 29 → (z3 = 30 → Rt g (d + 1) mL_law 1132 [some (.ref 1000), some (.ref 0), some (.ref 57), some (.int x3)] [] t Q) ∧ (¬ z3 = 30 → (z3 = 31 → Rt g (d + 1) mL_law 1145 [some (.ref 1000), some (.ref 0), some (.ref 57), some (.int x3)] [] t Q) ∧ (¬ z3 = 31 → (z3 = 32 → Rt g (d + 1) mL_law 1168 [some (.ref 1000), some (.ref 0), some (.ref 57), some (.int x3)] [] t Q) ∧ (¬ z3 = 32 → (z3 = 33 → Rt g (d + 1) mL_law 1211 [some (.ref 1000), some (.ref 0), some (.ref 57), some (.int x3)] [] t Q) ∧ (¬ z3 = 33 → (z3 = 34 → Rt g (d + 1) mL_law 1234 [some (.ref 1000), some (.ref 0), some (.ref 57), some (.int x3)] [] t Q) ∧ (¬ z3 = 34 → (z3 = 35 → Rt g (d + 1) mL_law 1267 [some (.ref 1000), some (.ref 0), some (.ref 57), some (.int x3)] [] t Q) ∧ (¬ z3 = 35 → (z3 = 36 → Rt g (d + 1) mL_law 1310 [some (.ref 1000), some (.ref 0), some (.ref 57), some (.int x3)] [] t Q) ∧ (¬ z3 = 36 → (z3 = 37 → Rt g (d + 1) mL_law 1383 [some (.ref 1000), some (.ref 0), some (.ref 57), some (.int x3)] [] t Q) ∧ (¬ z3 = 37 → (z3 = 38 → Rt g (d + 1) mL_law 1417 [some (.ref 1000), some (.ref 0), some (.ref 57), some (.int x3)] [] t Q) ∧ (¬ z3 = 38 → (z3 = 39 → Rt g (d + 1) mL_law 1480 [some (.ref 1000), some (.ref 0), some (.ref 57), some (.int x3)] [] t Q) ∧ (¬ z3 = 39 → (z3 = 40 → Rt g (d + 1) mL_law 1513 [some (.ref 1000), some (.ref 0), some (.ref 57), some (.int x3)] [] t Q) ∧ (¬ z3 = 40 → Rt g (d + 1) mL_law 1536 [some (.ref 1000), some (.ref 0), some (.ref 57), some (.int x3)] [] t Q))))))))))))))))))))))))))))))))))))))))))))) : Rt g (d + 1) mL_law 18 [some (.ref 1000), some (.ref 0), some (.ref 57), some (.int x3)] [] t Q := by
  refine s_iload_n dL_law_18 rfl rfl ?_
  refine s_aload_n dL_law_19 rfl rfl ?_
  refine s_slen dL_law_20 ?_
  refine s_bipush (v := 6) dL_law_21 (by decide) ?_
  refine s_isub dL_law_23 ?_
  refine s_icmp_gt (tgt := 1542) dL_law_24 (by decide) (fun c1 => ?_) (fun c1 => ?_)
  · replace h := h.1 c1
    refine s_iconst (v := 1) dL_law_1542 (by decide) ?_
    exact t_iret dL_law_1543 (NR_z rfl (Or.inr rfl)) h
  · replace h := h.2 c1
    refine s_aload_n dL_law_27 rfl rfl ?_
    refine s_iload_n dL_law_28 rfl rfl ?_
    obtain ⟨g2, h⟩ := h
    refine s_scr dL_law_29 g2 ?_
    refine s_bipush (v := 63) dL_law_30 (by decide) ?_
    refine s_iand dL_law_32 ?_
    refine t_nmI (fun z3 ez3 => ?_)
    replace h := h z3 ez3
    by_cases c4 : z3 = 0
    · replace h := h.1 c4
      refine s_tin (off := 179) (tgt := 212) dL_law_33 (by rw [c4]; decide) (by rw [c4]; decide) (by rw [c4]; rfl) (by decide) ?_
      exact h
    · replace h := h.2 c4
      by_cases c5 : z3 = 1
      · replace h := h.1 c5
        refine s_tin (off := 202) (tgt := 235) dL_law_33 (by rw [c5]; decide) (by rw [c5]; decide) (by rw [c5]; rfl) (by decide) ?_
        exact h
      · replace h := h.2 c5
        by_cases c6 : z3 = 2
        · replace h := h.1 c6
          refine s_tin (off := 245) (tgt := 278) dL_law_33 (by rw [c6]; decide) (by rw [c6]; decide) (by rw [c6]; rfl) (by decide) ?_
          exact h
        · replace h := h.2 c6
          by_cases c7 : z3 = 3
          · replace h := h.1 c7
            refine s_tin (off := 288) (tgt := 321) dL_law_33 (by rw [c7]; decide) (by rw [c7]; decide) (by rw [c7]; rfl) (by decide) ?_
            exact h
          · replace h := h.2 c7
            by_cases c8 : z3 = 4
            · replace h := h.1 c8
              refine s_tin (off := 321) (tgt := 354) dL_law_33 (by rw [c8]; decide) (by rw [c8]; decide) (by rw [c8]; rfl) (by decide) ?_
              exact h
            · replace h := h.2 c8
              by_cases c9 : z3 = 5
              · replace h := h.1 c9
                refine s_tin (off := 344) (tgt := 377) dL_law_33 (by rw [c9]; decide) (by rw [c9]; decide) (by rw [c9]; rfl) (by decide) ?_
                exact h
              · replace h := h.2 c9
                by_cases c10 : z3 = 6
                · replace h := h.1 c10
                  refine s_tin (off := 357) (tgt := 390) dL_law_33 (by rw [c10]; decide) (by rw [c10]; decide) (by rw [c10]; rfl) (by decide) ?_
                  exact h
                · replace h := h.2 c10
                  by_cases c11 : z3 = 7
                  · replace h := h.1 c11
                    refine s_tin (off := 390) (tgt := 423) dL_law_33 (by rw [c11]; decide) (by rw [c11]; decide) (by rw [c11]; rfl) (by decide) ?_
                    exact h
                  · replace h := h.2 c11
                    by_cases c12 : z3 = 8
                    · replace h := h.1 c12
                      refine s_tin (off := 433) (tgt := 466) dL_law_33 (by rw [c12]; decide) (by rw [c12]; decide) (by rw [c12]; rfl) (by decide) ?_
                      exact h
                    · replace h := h.2 c12
                      by_cases c13 : z3 = 9
                      · replace h := h.1 c13
                        refine s_tin (off := 466) (tgt := 499) dL_law_33 (by rw [c13]; decide) (by rw [c13]; decide) (by rw [c13]; rfl) (by decide) ?_
                        exact h
                      · replace h := h.2 c13
                        by_cases c14 : z3 = 10
                        · replace h := h.1 c14
                          refine s_tin (off := 489) (tgt := 522) dL_law_33 (by rw [c14]; decide) (by rw [c14]; decide) (by rw [c14]; rfl) (by decide) ?_
                          exact h
                        · replace h := h.2 c14
                          by_cases c15 : z3 = 11
                          · replace h := h.1 c15
                            refine s_tin (off := 522) (tgt := 555) dL_law_33 (by rw [c15]; decide) (by rw [c15]; decide) (by rw [c15]; rfl) (by decide) ?_
                            exact h
                          · replace h := h.2 c15
                            by_cases c16 : z3 = 12
                            · replace h := h.1 c16
                              refine s_tin (off := 555) (tgt := 588) dL_law_33 (by rw [c16]; decide) (by rw [c16]; decide) (by rw [c16]; rfl) (by decide) ?_
                              exact h
                            · replace h := h.2 c16
                              by_cases c17 : z3 = 13
                              · replace h := h.1 c17
                                refine s_tin (off := 598) (tgt := 631) dL_law_33 (by rw [c17]; decide) (by rw [c17]; decide) (by rw [c17]; rfl) (by decide) ?_
                                exact h
                              · replace h := h.2 c17
                                by_cases c18 : z3 = 14
                                · replace h := h.1 c18
                                  refine s_tin (off := 631) (tgt := 664) dL_law_33 (by rw [c18]; decide) (by rw [c18]; decide) (by rw [c18]; rfl) (by decide) ?_
                                  exact h
                                · replace h := h.2 c18
                                  by_cases c19 : z3 = 15
                                  · replace h := h.1 c19
                                    refine s_tin (off := 664) (tgt := 697) dL_law_33 (by rw [c19]; decide) (by rw [c19]; decide) (by rw [c19]; rfl) (by decide) ?_
                                    exact h
                                  · replace h := h.2 c19
                                    by_cases c20 : z3 = 16
                                    · replace h := h.1 c20
                                      refine s_tin (off := 687) (tgt := 720) dL_law_33 (by rw [c20]; decide) (by rw [c20]; decide) (by rw [c20]; rfl) (by decide) ?_
                                      exact h
                                    · replace h := h.2 c20
                                      by_cases c21 : z3 = 17
                                      · replace h := h.1 c21
                                        refine s_tin (off := 730) (tgt := 763) dL_law_33 (by rw [c21]; decide) (by rw [c21]; decide) (by rw [c21]; rfl) (by decide) ?_
                                        exact h
                                      · replace h := h.2 c21
                                        by_cases c22 : z3 = 18
                                        · replace h := h.1 c22
                                          refine s_tin (off := 773) (tgt := 806) dL_law_33 (by rw [c22]; decide) (by rw [c22]; decide) (by rw [c22]; rfl) (by decide) ?_
                                          exact h
                                        · replace h := h.2 c22
                                          by_cases c23 : z3 = 19
                                          · replace h := h.1 c23
                                            refine s_tin (off := 816) (tgt := 849) dL_law_33 (by rw [c23]; decide) (by rw [c23]; decide) (by rw [c23]; rfl) (by decide) ?_
                                            exact h
                                          · replace h := h.2 c23
                                            by_cases c24 : z3 = 20
                                            · replace h := h.1 c24
                                              refine s_tin (off := 839) (tgt := 872) dL_law_33 (by rw [c24]; decide) (by rw [c24]; decide) (by rw [c24]; rfl) (by decide) ?_
                                              exact h
                                            · replace h := h.2 c24
                                              by_cases c25 : z3 = 21
                                              · replace h := h.1 c25
                                                refine s_tin (off := 882) (tgt := 915) dL_law_33 (by rw [c25]; decide) (by rw [c25]; decide) (by rw [c25]; rfl) (by decide) ?_
                                                exact h
                                              · replace h := h.2 c25
                                                by_cases c26 : z3 = 22
                                                · replace h := h.1 c26
                                                  refine s_tin (off := 925) (tgt := 958) dL_law_33 (by rw [c26]; decide) (by rw [c26]; decide) (by rw [c26]; rfl) (by decide) ?_
                                                  exact h
                                                · replace h := h.2 c26
                                                  by_cases c27 : z3 = 23
                                                  · replace h := h.1 c27
                                                    refine s_tin (off := 958) (tgt := 991) dL_law_33 (by rw [c27]; decide) (by rw [c27]; decide) (by rw [c27]; rfl) (by decide) ?_
                                                    exact h
                                                  · replace h := h.2 c27
                                                    by_cases c28 : z3 = 24
                                                    · replace h := h.1 c28
                                                      refine s_tin (off := 991) (tgt := 1024) dL_law_33 (by rw [c28]; decide) (by rw [c28]; decide) (by rw [c28]; rfl) (by decide) ?_
                                                      exact h
                                                    · replace h := h.2 c28
                                                      by_cases c29 : z3 = 25
                                                      · replace h := h.1 c29
                                                        refine s_tin (off := 1024) (tgt := 1057) dL_law_33 (by rw [c29]; decide) (by rw [c29]; decide) (by rw [c29]; rfl) (by decide) ?_
                                                        exact h
                                                      · replace h := h.2 c29
                                                        by_cases c30 : z3 = 26
                                                        · replace h := h.1 c30
                                                          refine s_tin (off := 1037) (tgt := 1070) dL_law_33 (by rw [c30]; decide) (by rw [c30]; decide) (by rw [c30]; rfl) (by decide) ?_
                                                          exact h
                                                        · replace h := h.2 c30
                                                          by_cases c31 : z3 = 27
                                                          · replace h := h.1 c31
                                                            refine s_tin (off := 1060) (tgt := 1093) dL_law_33 (by rw [c31]; decide) (by rw [c31]; decide) (by rw [c31]; rfl) (by decide) ?_
                                                            exact h
                                                          · replace h := h.2 c31
                                                            by_cases c32 : z3 = 28
                                                            · replace h := h.1 c32
                                                              refine s_tin (off := 1073) (tgt := 1106) dL_law_33 (by rw [c32]; decide) (by rw [c32]; decide) (by rw [c32]; rfl) (by decide) ?_
                                                              exact h
                                                            · replace h := h.2 c32
                                                              by_cases c33 : z3 = 29
                                                              · replace h := h.1 c33
                                                                refine s_tin (off := 1086) (tgt := 1119) dL_law_33 (by rw [c33]; decide) (by rw [c33]; decide) (by rw [c33]; rfl) (by decide) ?_
                                                                exact h
                                                              · replace h := h.2 c33
                                                                by_cases c34 : z3 = 30
                                                                · replace h := h.1 c34
                                                                  refine s_tin (off := 1099) (tgt := 1132) dL_law_33 (by rw [c34]; decide) (by rw [c34]; decide) (by rw [c34]; rfl) (by decide) ?_
                                                                  exact h
                                                                · replace h := h.2 c34
                                                                  by_cases c35 : z3 = 31
                                                                  · replace h := h.1 c35
                                                                    refine s_tin (off := 1112) (tgt := 1145) dL_law_33 (by rw [c35]; decide) (by rw [c35]; decide) (by rw [c35]; rfl) (by decide) ?_
                                                                    exact h
                                                                  · replace h := h.2 c35
                                                                    by_cases c36 : z3 = 32
                                                                    · replace h := h.1 c36
                                                                      refine s_tin (off := 1135) (tgt := 1168) dL_law_33 (by rw [c36]; decide) (by rw [c36]; decide) (by rw [c36]; rfl) (by decide) ?_
                                                                      exact h
                                                                    · replace h := h.2 c36
                                                                      by_cases c37 : z3 = 33
                                                                      · replace h := h.1 c37
                                                                        refine s_tin (off := 1178) (tgt := 1211) dL_law_33 (by rw [c37]; decide) (by rw [c37]; decide) (by rw [c37]; rfl) (by decide) ?_
                                                                        exact h
                                                                      · replace h := h.2 c37
                                                                        by_cases c38 : z3 = 34
                                                                        · replace h := h.1 c38
                                                                          refine s_tin (off := 1201) (tgt := 1234) dL_law_33 (by rw [c38]; decide) (by rw [c38]; decide) (by rw [c38]; rfl) (by decide) ?_
                                                                          exact h
                                                                        · replace h := h.2 c38
                                                                          by_cases c39 : z3 = 35
                                                                          · replace h := h.1 c39
                                                                            refine s_tin (off := 1234) (tgt := 1267) dL_law_33 (by rw [c39]; decide) (by rw [c39]; decide) (by rw [c39]; rfl) (by decide) ?_
                                                                            exact h
                                                                          · replace h := h.2 c39
                                                                            by_cases c40 : z3 = 36
                                                                            · replace h := h.1 c40
                                                                              refine s_tin (off := 1277) (tgt := 1310) dL_law_33 (by rw [c40]; decide) (by rw [c40]; decide) (by rw [c40]; rfl) (by decide) ?_
                                                                              exact h
                                                                            · replace h := h.2 c40
                                                                              by_cases c41 : z3 = 37
                                                                              · replace h := h.1 c41
                                                                                refine s_tin (off := 1350) (tgt := 1383) dL_law_33 (by rw [c41]; decide) (by rw [c41]; decide) (by rw [c41]; rfl) (by decide) ?_
                                                                                exact h
                                                                              · replace h := h.2 c41
                                                                                by_cases c42 : z3 = 38
                                                                                · replace h := h.1 c42
                                                                                  refine s_tin (off := 1384) (tgt := 1417) dL_law_33 (by rw [c42]; decide) (by rw [c42]; decide) (by rw [c42]; rfl) (by decide) ?_
                                                                                  exact h
                                                                                · replace h := h.2 c42
                                                                                  by_cases c43 : z3 = 39
                                                                                  · replace h := h.1 c43
                                                                                    refine s_tin (off := 1447) (tgt := 1480) dL_law_33 (by rw [c43]; decide) (by rw [c43]; decide) (by rw [c43]; rfl) (by decide) ?_
                                                                                    exact h
                                                                                  · replace h := h.2 c43
                                                                                    by_cases c44 : z3 = 40
                                                                                    · replace h := h.1 c44
                                                                                      refine s_tin (off := 1480) (tgt := 1513) dL_law_33 (by rw [c44]; decide) (by rw [c44]; decide) (by rw [c44]; rfl) (by decide) ?_
                                                                                      exact h
                                                                                    · replace h := h.2 c44
                                                                                      refine s_tout (tgt := 1536) dL_law_33 (by have q0 := lv_neT c4 (a := 0) rfl; have q1 := lv_neT c5 (a := 1) rfl; have q2 := lv_neT c6 (a := 2) rfl; have q3 := lv_neT c7 (a := 3) rfl; have q4 := lv_neT c8 (a := 4) rfl; have q5 := lv_neT c9 (a := 5) rfl; have q6 := lv_neT c10 (a := 6) rfl; have q7 := lv_neT c11 (a := 7) rfl; have q8 := lv_neT c12 (a := 8) rfl; have q9 := lv_neT c13 (a := 9) rfl; have q10 := lv_neT c14 (a := 10) rfl; have q11 := lv_neT c15 (a := 11) rfl; have q12 := lv_neT c16 (a := 12) rfl; have q13 := lv_neT c17 (a := 13) rfl; have q14 := lv_neT c18 (a := 14) rfl; have q15 := lv_neT c19 (a := 15) rfl; have q16 := lv_neT c20 (a := 16) rfl; have q17 := lv_neT c21 (a := 17) rfl; have q18 := lv_neT c22 (a := 18) rfl; have q19 := lv_neT c23 (a := 19) rfl; have q20 := lv_neT c24 (a := 20) rfl; have q21 := lv_neT c25 (a := 21) rfl; have q22 := lv_neT c26 (a := 22) rfl; have q23 := lv_neT c27 (a := 23) rfl; have q24 := lv_neT c28 (a := 24) rfl; have q25 := lv_neT c29 (a := 25) rfl; have q26 := lv_neT c30 (a := 26) rfl; have q27 := lv_neT c31 (a := 27) rfl; have q28 := lv_neT c32 (a := 28) rfl; have q29 := lv_neT c33 (a := 29) rfl; have q30 := lv_neT c34 (a := 30) rfl; have q31 := lv_neT c35 (a := 31) rfl; have q32 := lv_neT c36 (a := 32) rfl; have q33 := lv_neT c37 (a := 33) rfl; have q34 := lv_neT c38 (a := 34) rfl; have q35 := lv_neT c39 (a := 35) rfl; have q36 := lv_neT c40 (a := 36) rfl; have q37 := lv_neT c41 (a := 37) rfl; have q38 := lv_neT c42 (a := 38) rfl; have q39 := lv_neT c43 (a := 39) rfl; have q40 := lv_neT c44 (a := 40) rfl; omega) (by decide) ?_
                                                                                      exact h
set_option maxRecDepth 20000 in
theorem bL_law_212 {g : Gt} {d : Nat} {t : Tt} {Q : Option Value → Tt → Prop} {x3 : Int32} (h : vp_in (x3 + 1) (gL g) ∧ (Rt g d mX7_person 0 [some (.ref 0), some (.int (gX g (x3 + 1).toNatClampNeg)), none, none] [] t (QI (fun v3 t2 => vp_in (x3 + 1) (gL g) ∧ (Rt g d mX8_person 0 [some (.ref 57), some (.int (gX g (x3 + 1).toNatClampNeg)), none] [] t2 (QI (fun v6 t5 => (v3 = v6 → Rt g (d + 1) mL_law 1536 [some (.ref 1000), some (.ref 0), some (.ref 57), some (.int x3)] [] t5 Q) ∧ (¬ v3 = v6 → Q (some (.int 0)) t5)))))))) : Rt g (d + 1) mL_law 212 [some (.ref 1000), some (.ref 0), some (.ref 57), some (.int x3)] [] t Q := by
  refine s_aload_n dL_law_212 rfl rfl ?_
  refine s_aload_n dL_law_213 rfl rfl ?_
  refine s_iload_n dL_law_214 rfl rfl ?_
  refine s_iconst (v := 1) dL_law_215 (by decide) ?_
  refine s_iadd dL_law_216 ?_
  obtain ⟨g1, h⟩ := h
  refine s_scr dL_law_217 g1 ?_
  refine t_callV (M' := mX7_person) (k := 2) (As := [.int (gX g (x3 + 1).toNatClampNeg)]) (rest := []) dL_law_218 ml_L_13 miX7_person msX7_person rfl (by decide) rfl rfl (Nat.le_of_ble_eq_true rfl) (Nat.le_of_ble_eq_true rfl) rfl h (fun rv t2 q => ?_)
  obtain ⟨v3, rfl, h⟩ := q
  show Rt g (d + 1) mL_law 221 [some (.ref 1000), some (.ref 0), some (.ref 57), some (.int x3)] [.int v3] t2 Q
  refine s_aload_n dL_law_221 rfl rfl ?_
  refine s_aload_n dL_law_222 rfl rfl ?_
  refine s_iload_n dL_law_223 rfl rfl ?_
  refine s_iconst (v := 1) dL_law_224 (by decide) ?_
  refine s_iadd dL_law_225 ?_
  obtain ⟨g4, h⟩ := h
  refine s_scr dL_law_226 g4 ?_
  refine t_callV (M' := mX8_person) (k := 1) (As := [.int (gX g (x3 + 1).toNatClampNeg)]) (rest := [.int v3]) dL_law_227 ml_L_17 miX8_person msX8_person rfl (by decide) rfl rfl (Nat.le_of_ble_eq_true rfl) (Nat.le_of_ble_eq_true rfl) rfl h (fun rv t5 q => ?_)
  obtain ⟨v6, rfl, h⟩ := q
  show Rt g (d + 1) mL_law 230 [some (.ref 1000), some (.ref 0), some (.ref 57), some (.int x3)] [.int v6, .int v3] t5 Q
  refine s_icmp_eq (tgt := 1536) dL_law_230 (by decide) (fun c7 => ?_) (fun c7 => ?_)
  · replace h := h.1 c7
    exact h
  · replace h := h.2 c7
    refine s_iconst (v := 0) dL_law_233 (by decide) ?_
    exact t_iret dL_law_234 (NR_z rfl (Or.inl rfl)) h
set_option maxRecDepth 20000 in
theorem bL_law_235 {g : Gt} {d : Nat} {t : Tt} {Q : Option Value → Tt → Prop} {x3 : Int32} (h : vp_in (x3 + 1) (gL g) ∧ (vp_in (x3 + 2) (gL g) ∧ (vp_in (x3 + 3) (gL g) ∧ (Rt g d mX7_people 0 [some (.ref 0), some (.int (gX g (x3 + 1).toNatClampNeg)), some (.int (gX g (x3 + 2).toNatClampNeg)), some (.int (gX g (x3 + 3).toNatClampNeg)), none, none, none] [] t (QI (fun v5 t4 => vp_in (x3 + 1) (gL g) ∧ (vp_in (x3 + 2) (gL g) ∧ (vp_in (x3 + 3) (gL g) ∧ (Rt g d mX8_people 0 [some (.ref 57), some (.int (gX g (x3 + 1).toNatClampNeg)), some (.int (gX g (x3 + 2).toNatClampNeg)), some (.int (gX g (x3 + 3).toNatClampNeg)), none, none, none, none] [] t4 (QI (fun v10 t9 => (v5 = v10 → Rt g (d + 1) mL_law 1536 [some (.ref 1000), some (.ref 0), some (.ref 57), some (.int x3)] [] t9 Q) ∧ (¬ v5 = v10 → Q (some (.int 0)) t9)))))))))))) : Rt g (d + 1) mL_law 235 [some (.ref 1000), some (.ref 0), some (.ref 57), some (.int x3)] [] t Q := by
  refine s_aload_n dL_law_235 rfl rfl ?_
  refine s_aload_n dL_law_236 rfl rfl ?_
  refine s_iload_n dL_law_237 rfl rfl ?_
  refine s_iconst (v := 1) dL_law_238 (by decide) ?_
  refine s_iadd dL_law_239 ?_
  obtain ⟨g1, h⟩ := h
  refine s_scr dL_law_240 g1 ?_
  refine s_aload_n dL_law_241 rfl rfl ?_
  refine s_iload_n dL_law_242 rfl rfl ?_
  refine s_iconst (v := 2) dL_law_243 (by decide) ?_
  refine s_iadd dL_law_244 ?_
  obtain ⟨g2, h⟩ := h
  refine s_scr dL_law_245 g2 ?_
  refine s_aload_n dL_law_246 rfl rfl ?_
  refine s_iload_n dL_law_247 rfl rfl ?_
  refine s_iconst (v := 3) dL_law_248 (by decide) ?_
  refine s_iadd dL_law_249 ?_
  obtain ⟨g3, h⟩ := h
  refine s_scr dL_law_250 g3 ?_
  refine t_callV (M' := mX7_people) (k := 3) (As := [.int (gX g (x3 + 1).toNatClampNeg), .int (gX g (x3 + 2).toNatClampNeg), .int (gX g (x3 + 3).toNatClampNeg)]) (rest := []) dL_law_251 ml_L_18 miX7_people msX7_people rfl (by decide) rfl rfl (Nat.le_of_ble_eq_true rfl) (Nat.le_of_ble_eq_true rfl) rfl h (fun rv t4 q => ?_)
  obtain ⟨v5, rfl, h⟩ := q
  show Rt g (d + 1) mL_law 254 [some (.ref 1000), some (.ref 0), some (.ref 57), some (.int x3)] [.int v5] t4 Q
  refine s_aload_n dL_law_254 rfl rfl ?_
  refine s_aload_n dL_law_255 rfl rfl ?_
  refine s_iload_n dL_law_256 rfl rfl ?_
  refine s_iconst (v := 1) dL_law_257 (by decide) ?_
  refine s_iadd dL_law_258 ?_
  obtain ⟨g6, h⟩ := h
  refine s_scr dL_law_259 g6 ?_
  refine s_aload_n dL_law_260 rfl rfl ?_
  refine s_iload_n dL_law_261 rfl rfl ?_
  refine s_iconst (v := 2) dL_law_262 (by decide) ?_
  refine s_iadd dL_law_263 ?_
  obtain ⟨g7, h⟩ := h
  refine s_scr dL_law_264 g7 ?_
  refine s_aload_n dL_law_265 rfl rfl ?_
  refine s_iload_n dL_law_266 rfl rfl ?_
  refine s_iconst (v := 3) dL_law_267 (by decide) ?_
  refine s_iadd dL_law_268 ?_
  obtain ⟨g8, h⟩ := h
  refine s_scr dL_law_269 g8 ?_
  refine t_callV (M' := mX8_people) (k := 4) (As := [.int (gX g (x3 + 1).toNatClampNeg), .int (gX g (x3 + 2).toNatClampNeg), .int (gX g (x3 + 3).toNatClampNeg)]) (rest := [.int v5]) dL_law_270 ml_L_22 miX8_people msX8_people rfl (by decide) rfl rfl (Nat.le_of_ble_eq_true rfl) (Nat.le_of_ble_eq_true rfl) rfl h (fun rv t9 q => ?_)
  obtain ⟨v10, rfl, h⟩ := q
  show Rt g (d + 1) mL_law 273 [some (.ref 1000), some (.ref 0), some (.ref 57), some (.int x3)] [.int v10, .int v5] t9 Q
  refine s_icmp_eq (tgt := 1536) dL_law_273 (by decide) (fun c11 => ?_) (fun c11 => ?_)
  · replace h := h.1 c11
    exact h
  · replace h := h.2 c11
    refine s_iconst (v := 0) dL_law_276 (by decide) ?_
    exact t_iret dL_law_277 (NR_z rfl (Or.inl rfl)) h
set_option maxRecDepth 20000 in
theorem bL_law_278 {g : Gt} {d : Nat} {t : Tt} {Q : Option Value → Tt → Prop} {x3 : Int32} (h : vp_in (x3 + 1) (gL g) ∧ (vp_in (x3 + 2) (gL g) ∧ (vp_in (x3 + 3) (gL g) ∧ (Rt g d mX7_mend 0 [some (.ref 0), some (.int (gX g (x3 + 1).toNatClampNeg)), some (.int (gX g (x3 + 2).toNatClampNeg)), some (.int (gX g (x3 + 3).toNatClampNeg)), none] [] t (QI (fun v5 t4 => vp_in (x3 + 1) (gL g) ∧ (vp_in (x3 + 2) (gL g) ∧ (vp_in (x3 + 3) (gL g) ∧ (Rt g d mX8_mend 0 [some (.ref 57), some (.int (gX g (x3 + 1).toNatClampNeg)), some (.int (gX g (x3 + 2).toNatClampNeg)), some (.int (gX g (x3 + 3).toNatClampNeg))] [] t4 (QI (fun v10 t9 => (v5 = v10 → Rt g (d + 1) mL_law 1536 [some (.ref 1000), some (.ref 0), some (.ref 57), some (.int x3)] [] t9 Q) ∧ (¬ v5 = v10 → Q (some (.int 0)) t9)))))))))))) : Rt g (d + 1) mL_law 278 [some (.ref 1000), some (.ref 0), some (.ref 57), some (.int x3)] [] t Q := by
  refine s_aload_n dL_law_278 rfl rfl ?_
  refine s_aload_n dL_law_279 rfl rfl ?_
  refine s_iload_n dL_law_280 rfl rfl ?_
  refine s_iconst (v := 1) dL_law_281 (by decide) ?_
  refine s_iadd dL_law_282 ?_
  obtain ⟨g1, h⟩ := h
  refine s_scr dL_law_283 g1 ?_
  refine s_aload_n dL_law_284 rfl rfl ?_
  refine s_iload_n dL_law_285 rfl rfl ?_
  refine s_iconst (v := 2) dL_law_286 (by decide) ?_
  refine s_iadd dL_law_287 ?_
  obtain ⟨g2, h⟩ := h
  refine s_scr dL_law_288 g2 ?_
  refine s_aload_n dL_law_289 rfl rfl ?_
  refine s_iload_n dL_law_290 rfl rfl ?_
  refine s_iconst (v := 3) dL_law_291 (by decide) ?_
  refine s_iadd dL_law_292 ?_
  obtain ⟨g3, h⟩ := h
  refine s_scr dL_law_293 g3 ?_
  refine t_callV (M' := mX7_mend) (k := 1) (As := [.int (gX g (x3 + 1).toNatClampNeg), .int (gX g (x3 + 2).toNatClampNeg), .int (gX g (x3 + 3).toNatClampNeg)]) (rest := []) dL_law_294 ml_L_23 miX7_mend msX7_mend rfl (by decide) rfl rfl (Nat.le_of_ble_eq_true rfl) (Nat.le_of_ble_eq_true rfl) rfl h (fun rv t4 q => ?_)
  obtain ⟨v5, rfl, h⟩ := q
  show Rt g (d + 1) mL_law 297 [some (.ref 1000), some (.ref 0), some (.ref 57), some (.int x3)] [.int v5] t4 Q
  refine s_aload_n dL_law_297 rfl rfl ?_
  refine s_aload_n dL_law_298 rfl rfl ?_
  refine s_iload_n dL_law_299 rfl rfl ?_
  refine s_iconst (v := 1) dL_law_300 (by decide) ?_
  refine s_iadd dL_law_301 ?_
  obtain ⟨g6, h⟩ := h
  refine s_scr dL_law_302 g6 ?_
  refine s_aload_n dL_law_303 rfl rfl ?_
  refine s_iload_n dL_law_304 rfl rfl ?_
  refine s_iconst (v := 2) dL_law_305 (by decide) ?_
  refine s_iadd dL_law_306 ?_
  obtain ⟨g7, h⟩ := h
  refine s_scr dL_law_307 g7 ?_
  refine s_aload_n dL_law_308 rfl rfl ?_
  refine s_iload_n dL_law_309 rfl rfl ?_
  refine s_iconst (v := 3) dL_law_310 (by decide) ?_
  refine s_iadd dL_law_311 ?_
  obtain ⟨g8, h⟩ := h
  refine s_scr dL_law_312 g8 ?_
  refine t_callV (M' := mX8_mend) (k := 0) (As := [.int (gX g (x3 + 1).toNatClampNeg), .int (gX g (x3 + 2).toNatClampNeg), .int (gX g (x3 + 3).toNatClampNeg)]) (rest := [.int v5]) dL_law_313 ml_L_26 miX8_mend msX8_mend rfl (by decide) rfl rfl (Nat.le_of_ble_eq_true rfl) (Nat.le_of_ble_eq_true rfl) rfl h (fun rv t9 q => ?_)
  obtain ⟨v10, rfl, h⟩ := q
  show Rt g (d + 1) mL_law 316 [some (.ref 1000), some (.ref 0), some (.ref 57), some (.int x3)] [.int v10, .int v5] t9 Q
  refine s_icmp_eq (tgt := 1536) dL_law_316 (by decide) (fun c11 => ?_) (fun c11 => ?_)
  · replace h := h.1 c11
    exact h
  · replace h := h.2 c11
    refine s_iconst (v := 0) dL_law_319 (by decide) ?_
    exact t_iret dL_law_320 (NR_z rfl (Or.inl rfl)) h
set_option maxRecDepth 20000 in
theorem bL_law_321 {g : Gt} {d : Nat} {t : Tt} {Q : Option Value → Tt → Prop} {x3 : Int32} (h : vp_in (x3 + 1) (gL g) ∧ (vp_in (x3 + 2) (gL g) ∧ (Rt g d mX7_of 0 [some (.ref 0), some (.int (gX g (x3 + 1).toNatClampNeg)), some (.int (gX g (x3 + 2).toNatClampNeg))] [] t (QI (fun v4 t3 => vp_in (x3 + 1) (gL g) ∧ (vp_in (x3 + 2) (gL g) ∧ (Rt g d mX8_of 0 [some (.ref 57), some (.int (gX g (x3 + 1).toNatClampNeg)), some (.int (gX g (x3 + 2).toNatClampNeg))] [] t3 (QI (fun v8 t7 => (v4 = v8 → Rt g (d + 1) mL_law 1536 [some (.ref 1000), some (.ref 0), some (.ref 57), some (.int x3)] [] t7 Q) ∧ (¬ v4 = v8 → Q (some (.int 0)) t7)))))))))) : Rt g (d + 1) mL_law 321 [some (.ref 1000), some (.ref 0), some (.ref 57), some (.int x3)] [] t Q := by
  refine s_aload_n dL_law_321 rfl rfl ?_
  refine s_aload_n dL_law_322 rfl rfl ?_
  refine s_iload_n dL_law_323 rfl rfl ?_
  refine s_iconst (v := 1) dL_law_324 (by decide) ?_
  refine s_iadd dL_law_325 ?_
  obtain ⟨g1, h⟩ := h
  refine s_scr dL_law_326 g1 ?_
  refine s_aload_n dL_law_327 rfl rfl ?_
  refine s_iload_n dL_law_328 rfl rfl ?_
  refine s_iconst (v := 2) dL_law_329 (by decide) ?_
  refine s_iadd dL_law_330 ?_
  obtain ⟨g2, h⟩ := h
  refine s_scr dL_law_331 g2 ?_
  refine t_callV (M' := mX7_of) (k := 0) (As := [.int (gX g (x3 + 1).toNatClampNeg), .int (gX g (x3 + 2).toNatClampNeg)]) (rest := []) dL_law_332 ml_L_27 miX7_of msX7_of rfl (by decide) rfl rfl (Nat.le_of_ble_eq_true rfl) (Nat.le_of_ble_eq_true rfl) rfl h (fun rv t3 q => ?_)
  obtain ⟨v4, rfl, h⟩ := q
  show Rt g (d + 1) mL_law 335 [some (.ref 1000), some (.ref 0), some (.ref 57), some (.int x3)] [.int v4] t3 Q
  refine s_aload_n dL_law_335 rfl rfl ?_
  refine s_aload_n dL_law_336 rfl rfl ?_
  refine s_iload_n dL_law_337 rfl rfl ?_
  refine s_iconst (v := 1) dL_law_338 (by decide) ?_
  refine s_iadd dL_law_339 ?_
  obtain ⟨g5, h⟩ := h
  refine s_scr dL_law_340 g5 ?_
  refine s_aload_n dL_law_341 rfl rfl ?_
  refine s_iload_n dL_law_342 rfl rfl ?_
  refine s_iconst (v := 2) dL_law_343 (by decide) ?_
  refine s_iadd dL_law_344 ?_
  obtain ⟨g6, h⟩ := h
  refine s_scr dL_law_345 g6 ?_
  refine t_callV (M' := mX8_of) (k := 0) (As := [.int (gX g (x3 + 1).toNatClampNeg), .int (gX g (x3 + 2).toNatClampNeg)]) (rest := [.int v4]) dL_law_346 ml_L_31 miX8_of msX8_of rfl (by decide) rfl rfl (Nat.le_of_ble_eq_true rfl) (Nat.le_of_ble_eq_true rfl) rfl h (fun rv t7 q => ?_)
  obtain ⟨v8, rfl, h⟩ := q
  show Rt g (d + 1) mL_law 349 [some (.ref 1000), some (.ref 0), some (.ref 57), some (.int x3)] [.int v8, .int v4] t7 Q
  refine s_icmp_eq (tgt := 1536) dL_law_349 (by decide) (fun c9 => ?_) (fun c9 => ?_)
  · replace h := h.1 c9
    exact h
  · replace h := h.2 c9
    refine s_iconst (v := 0) dL_law_352 (by decide) ?_
    exact t_iret dL_law_353 (NR_z rfl (Or.inl rfl)) h
set_option maxRecDepth 20000 in
theorem bL_law_354 {g : Gt} {d : Nat} {t : Tt} {Q : Option Value → Tt → Prop} {x3 : Int32} (h : vp_in (x3 + 1) (gL g) ∧ (Rt g d mX7_feed 0 [some (.ref 0), some (.int (gX g (x3 + 1).toNatClampNeg))] [] t (QI (fun v3 t2 => vp_in (x3 + 1) (gL g) ∧ (Rt g d mX8_feed 0 [some (.ref 57), some (.int (gX g (x3 + 1).toNatClampNeg))] [] t2 (QI (fun v6 t5 => (v3 = v6 → Rt g (d + 1) mL_law 1536 [some (.ref 1000), some (.ref 0), some (.ref 57), some (.int x3)] [] t5 Q) ∧ (¬ v3 = v6 → Q (some (.int 0)) t5)))))))) : Rt g (d + 1) mL_law 354 [some (.ref 1000), some (.ref 0), some (.ref 57), some (.int x3)] [] t Q := by
  refine s_aload_n dL_law_354 rfl rfl ?_
  refine s_aload_n dL_law_355 rfl rfl ?_
  refine s_iload_n dL_law_356 rfl rfl ?_
  refine s_iconst (v := 1) dL_law_357 (by decide) ?_
  refine s_iadd dL_law_358 ?_
  obtain ⟨g1, h⟩ := h
  refine s_scr dL_law_359 g1 ?_
  refine t_callV (M' := mX7_feed) (k := 0) (As := [.int (gX g (x3 + 1).toNatClampNeg)]) (rest := []) dL_law_360 ml_L_32 miX7_feed msX7_feed rfl (by decide) rfl rfl (Nat.le_of_ble_eq_true rfl) (Nat.le_of_ble_eq_true rfl) rfl h (fun rv t2 q => ?_)
  obtain ⟨v3, rfl, h⟩ := q
  show Rt g (d + 1) mL_law 363 [some (.ref 1000), some (.ref 0), some (.ref 57), some (.int x3)] [.int v3] t2 Q
  refine s_aload_n dL_law_363 rfl rfl ?_
  refine s_aload_n dL_law_364 rfl rfl ?_
  refine s_iload_n dL_law_365 rfl rfl ?_
  refine s_iconst (v := 1) dL_law_366 (by decide) ?_
  refine s_iadd dL_law_367 ?_
  obtain ⟨g4, h⟩ := h
  refine s_scr dL_law_368 g4 ?_
  refine t_callV (M' := mX8_feed) (k := 0) (As := [.int (gX g (x3 + 1).toNatClampNeg)]) (rest := [.int v3]) dL_law_369 ml_L_35 miX8_feed msX8_feed rfl (by decide) rfl rfl (Nat.le_of_ble_eq_true rfl) (Nat.le_of_ble_eq_true rfl) rfl h (fun rv t5 q => ?_)
  obtain ⟨v6, rfl, h⟩ := q
  show Rt g (d + 1) mL_law 372 [some (.ref 1000), some (.ref 0), some (.ref 57), some (.int x3)] [.int v6, .int v3] t5 Q
  refine s_icmp_eq (tgt := 1536) dL_law_372 (by decide) (fun c7 => ?_) (fun c7 => ?_)
  · replace h := h.1 c7
    exact h
  · replace h := h.2 c7
    refine s_iconst (v := 0) dL_law_375 (by decide) ?_
    exact t_iret dL_law_376 (NR_z rfl (Or.inl rfl)) h
set_option maxRecDepth 20000 in
theorem bL_law_377 {g : Gt} {d : Nat} {t : Tt} {Q : Option Value → Tt → Prop} {x3 : Int32} (h : Rt g d mX7_law 0 [some (.ref 0), none] [] t (QI (fun v2 t1 => Rt g d mX8_law 0 [some (.ref 57), none] [] t1 (QI (fun v4 t3 => (v2 = v4 → Rt g (d + 1) mL_law 1536 [some (.ref 1000), some (.ref 0), some (.ref 57), some (.int x3)] [] t3 Q) ∧ (¬ v2 = v4 → Q (some (.int 0)) t3)))))) : Rt g (d + 1) mL_law 377 [some (.ref 1000), some (.ref 0), some (.ref 57), some (.int x3)] [] t Q := by
  refine s_aload_n dL_law_377 rfl rfl ?_
  refine t_callV (M' := mX7_law) (k := 1) (As := []) (rest := []) dL_law_378 ml_L_36 miX7_law msX7_law rfl (by decide) rfl rfl (Nat.le_of_ble_eq_true rfl) (Nat.le_of_ble_eq_true rfl) rfl h (fun rv t1 q => ?_)
  obtain ⟨v2, rfl, h⟩ := q
  show Rt g (d + 1) mL_law 381 [some (.ref 1000), some (.ref 0), some (.ref 57), some (.int x3)] [.int v2] t1 Q
  refine s_aload_n dL_law_381 rfl rfl ?_
  refine t_callV (M' := mX8_law) (k := 1) (As := []) (rest := [.int v2]) dL_law_382 ml_L_40 miX8_law msX8_law rfl (by decide) rfl rfl (Nat.le_of_ble_eq_true rfl) (Nat.le_of_ble_eq_true rfl) rfl h (fun rv t3 q => ?_)
  obtain ⟨v4, rfl, h⟩ := q
  show Rt g (d + 1) mL_law 385 [some (.ref 1000), some (.ref 0), some (.ref 57), some (.int x3)] [.int v4, .int v2] t3 Q
  refine s_icmp_eq (tgt := 1536) dL_law_385 (by decide) (fun c5 => ?_) (fun c5 => ?_)
  · replace h := h.1 c5
    exact h
  · replace h := h.2 c5
    refine s_iconst (v := 0) dL_law_388 (by decide) ?_
    exact t_iret dL_law_389 (NR_z rfl (Or.inl rfl)) h
set_option maxRecDepth 20000 in
theorem bL_law_390 {g : Gt} {d : Nat} {t : Tt} {Q : Option Value → Tt → Prop} {x3 : Int32} (h : vp_in (x3 + 1) (gL g) ∧ (vp_in (x3 + 2) (gL g) ∧ (Rt g d mX7_takes 0 [some (.ref 0), some (.int (gX g (x3 + 1).toNatClampNeg)), some (.int (gX g (x3 + 2).toNatClampNeg))] [] t (QI (fun v4 t3 => vp_in (x3 + 1) (gL g) ∧ (vp_in (x3 + 2) (gL g) ∧ (Rt g d mX8_takes 0 [some (.ref 57), some (.int (gX g (x3 + 1).toNatClampNeg)), some (.int (gX g (x3 + 2).toNatClampNeg))] [] t3 (QI (fun v8 t7 => (v4 = v8 → Rt g (d + 1) mL_law 1536 [some (.ref 1000), some (.ref 0), some (.ref 57), some (.int x3)] [] t7 Q) ∧ (¬ v4 = v8 → Q (some (.int 0)) t7)))))))))) : Rt g (d + 1) mL_law 390 [some (.ref 1000), some (.ref 0), some (.ref 57), some (.int x3)] [] t Q := by
  refine s_aload_n dL_law_390 rfl rfl ?_
  refine s_aload_n dL_law_391 rfl rfl ?_
  refine s_iload_n dL_law_392 rfl rfl ?_
  refine s_iconst (v := 1) dL_law_393 (by decide) ?_
  refine s_iadd dL_law_394 ?_
  obtain ⟨g1, h⟩ := h
  refine s_scr dL_law_395 g1 ?_
  refine s_aload_n dL_law_396 rfl rfl ?_
  refine s_iload_n dL_law_397 rfl rfl ?_
  refine s_iconst (v := 2) dL_law_398 (by decide) ?_
  refine s_iadd dL_law_399 ?_
  obtain ⟨g2, h⟩ := h
  refine s_scr dL_law_400 g2 ?_
  refine t_callV (M' := mX7_takes) (k := 0) (As := [.int (gX g (x3 + 1).toNatClampNeg), .int (gX g (x3 + 2).toNatClampNeg)]) (rest := []) dL_law_401 ml_L_41 miX7_takes msX7_takes rfl (by decide) rfl rfl (Nat.le_of_ble_eq_true rfl) (Nat.le_of_ble_eq_true rfl) rfl h (fun rv t3 q => ?_)
  obtain ⟨v4, rfl, h⟩ := q
  show Rt g (d + 1) mL_law 404 [some (.ref 1000), some (.ref 0), some (.ref 57), some (.int x3)] [.int v4] t3 Q
  refine s_aload_n dL_law_404 rfl rfl ?_
  refine s_aload_n dL_law_405 rfl rfl ?_
  refine s_iload_n dL_law_406 rfl rfl ?_
  refine s_iconst (v := 1) dL_law_407 (by decide) ?_
  refine s_iadd dL_law_408 ?_
  obtain ⟨g5, h⟩ := h
  refine s_scr dL_law_409 g5 ?_
  refine s_aload_n dL_law_410 rfl rfl ?_
  refine s_iload_n dL_law_411 rfl rfl ?_
  refine s_iconst (v := 2) dL_law_412 (by decide) ?_
  refine s_iadd dL_law_413 ?_
  obtain ⟨g6, h⟩ := h
  refine s_scr dL_law_414 g6 ?_
  refine t_callV (M' := mX8_takes) (k := 0) (As := [.int (gX g (x3 + 1).toNatClampNeg), .int (gX g (x3 + 2).toNatClampNeg)]) (rest := [.int v4]) dL_law_415 ml_L_44 miX8_takes msX8_takes rfl (by decide) rfl rfl (Nat.le_of_ble_eq_true rfl) (Nat.le_of_ble_eq_true rfl) rfl h (fun rv t7 q => ?_)
  obtain ⟨v8, rfl, h⟩ := q
  show Rt g (d + 1) mL_law 418 [some (.ref 1000), some (.ref 0), some (.ref 57), some (.int x3)] [.int v8, .int v4] t7 Q
  refine s_icmp_eq (tgt := 1536) dL_law_418 (by decide) (fun c9 => ?_) (fun c9 => ?_)
  · replace h := h.1 c9
    exact h
  · replace h := h.2 c9
    refine s_iconst (v := 0) dL_law_421 (by decide) ?_
    exact t_iret dL_law_422 (NR_z rfl (Or.inl rfl)) h
set_option maxRecDepth 20000 in
theorem bL_law_423 {g : Gt} {d : Nat} {t : Tt} {Q : Option Value → Tt → Prop} {x3 : Int32} (h : vp_in (x3 + 1) (gL g) ∧ (vp_in (x3 + 2) (gL g) ∧ (vp_in (x3 + 3) (gL g) ∧ (Rt g d mX7_trial 0 [some (.ref 0), some (.int (gX g (x3 + 1).toNatClampNeg)), some (.int (gX g (x3 + 2).toNatClampNeg)), some (.int (gX g (x3 + 3).toNatClampNeg)), none] [] t (QI (fun v5 t4 => vp_in (x3 + 1) (gL g) ∧ (vp_in (x3 + 2) (gL g) ∧ (vp_in (x3 + 3) (gL g) ∧ (Rt g d mX8_trial 0 [some (.ref 57), some (.int (gX g (x3 + 1).toNatClampNeg)), some (.int (gX g (x3 + 2).toNatClampNeg)), some (.int (gX g (x3 + 3).toNatClampNeg)), none] [] t4 (QI (fun v10 t9 => (v5 = v10 → Rt g (d + 1) mL_law 1536 [some (.ref 1000), some (.ref 0), some (.ref 57), some (.int x3)] [] t9 Q) ∧ (¬ v5 = v10 → Q (some (.int 0)) t9)))))))))))) : Rt g (d + 1) mL_law 423 [some (.ref 1000), some (.ref 0), some (.ref 57), some (.int x3)] [] t Q := by
  refine s_aload_n dL_law_423 rfl rfl ?_
  refine s_aload_n dL_law_424 rfl rfl ?_
  refine s_iload_n dL_law_425 rfl rfl ?_
  refine s_iconst (v := 1) dL_law_426 (by decide) ?_
  refine s_iadd dL_law_427 ?_
  obtain ⟨g1, h⟩ := h
  refine s_scr dL_law_428 g1 ?_
  refine s_aload_n dL_law_429 rfl rfl ?_
  refine s_iload_n dL_law_430 rfl rfl ?_
  refine s_iconst (v := 2) dL_law_431 (by decide) ?_
  refine s_iadd dL_law_432 ?_
  obtain ⟨g2, h⟩ := h
  refine s_scr dL_law_433 g2 ?_
  refine s_aload_n dL_law_434 rfl rfl ?_
  refine s_iload_n dL_law_435 rfl rfl ?_
  refine s_iconst (v := 3) dL_law_436 (by decide) ?_
  refine s_iadd dL_law_437 ?_
  obtain ⟨g3, h⟩ := h
  refine s_scr dL_law_438 g3 ?_
  refine t_callV (M' := mX7_trial) (k := 1) (As := [.int (gX g (x3 + 1).toNatClampNeg), .int (gX g (x3 + 2).toNatClampNeg), .int (gX g (x3 + 3).toNatClampNeg)]) (rest := []) dL_law_439 ml_L_45 miX7_trial msX7_trial rfl (by decide) rfl rfl (Nat.le_of_ble_eq_true rfl) (Nat.le_of_ble_eq_true rfl) rfl h (fun rv t4 q => ?_)
  obtain ⟨v5, rfl, h⟩ := q
  show Rt g (d + 1) mL_law 442 [some (.ref 1000), some (.ref 0), some (.ref 57), some (.int x3)] [.int v5] t4 Q
  refine s_aload_n dL_law_442 rfl rfl ?_
  refine s_aload_n dL_law_443 rfl rfl ?_
  refine s_iload_n dL_law_444 rfl rfl ?_
  refine s_iconst (v := 1) dL_law_445 (by decide) ?_
  refine s_iadd dL_law_446 ?_
  obtain ⟨g6, h⟩ := h
  refine s_scr dL_law_447 g6 ?_
  refine s_aload_n dL_law_448 rfl rfl ?_
  refine s_iload_n dL_law_449 rfl rfl ?_
  refine s_iconst (v := 2) dL_law_450 (by decide) ?_
  refine s_iadd dL_law_451 ?_
  obtain ⟨g7, h⟩ := h
  refine s_scr dL_law_452 g7 ?_
  refine s_aload_n dL_law_453 rfl rfl ?_
  refine s_iload_n dL_law_454 rfl rfl ?_
  refine s_iconst (v := 3) dL_law_455 (by decide) ?_
  refine s_iadd dL_law_456 ?_
  obtain ⟨g8, h⟩ := h
  refine s_scr dL_law_457 g8 ?_
  refine t_callV (M' := mX8_trial) (k := 1) (As := [.int (gX g (x3 + 1).toNatClampNeg), .int (gX g (x3 + 2).toNatClampNeg), .int (gX g (x3 + 3).toNatClampNeg)]) (rest := [.int v5]) dL_law_458 ml_L_48 miX8_trial msX8_trial rfl (by decide) rfl rfl (Nat.le_of_ble_eq_true rfl) (Nat.le_of_ble_eq_true rfl) rfl h (fun rv t9 q => ?_)
  obtain ⟨v10, rfl, h⟩ := q
  show Rt g (d + 1) mL_law 461 [some (.ref 1000), some (.ref 0), some (.ref 57), some (.int x3)] [.int v10, .int v5] t9 Q
  refine s_icmp_eq (tgt := 1536) dL_law_461 (by decide) (fun c11 => ?_) (fun c11 => ?_)
  · replace h := h.1 c11
    exact h
  · replace h := h.2 c11
    refine s_iconst (v := 0) dL_law_464 (by decide) ?_
    exact t_iret dL_law_465 (NR_z rfl (Or.inl rfl)) h
set_option maxRecDepth 20000 in
theorem bL_law_466 {g : Gt} {d : Nat} {t : Tt} {Q : Option Value → Tt → Prop} {x3 : Int32} (h : vp_in (x3 + 1) (gL g) ∧ (vp_in (x3 + 2) (gL g) ∧ (Rt g d mX7_tooth 0 [some (.ref 0), some (.int (gX g (x3 + 1).toNatClampNeg)), some (.int (gX g (x3 + 2).toNatClampNeg)), none] [] t (QI (fun v4 t3 => vp_in (x3 + 1) (gL g) ∧ (vp_in (x3 + 2) (gL g) ∧ (Rt g d mX8_tooth 0 [some (.ref 57), some (.int (gX g (x3 + 1).toNatClampNeg)), some (.int (gX g (x3 + 2).toNatClampNeg)), none] [] t3 (QI (fun v8 t7 => (v4 = v8 → Rt g (d + 1) mL_law 1536 [some (.ref 1000), some (.ref 0), some (.ref 57), some (.int x3)] [] t7 Q) ∧ (¬ v4 = v8 → Q (some (.int 0)) t7)))))))))) : Rt g (d + 1) mL_law 466 [some (.ref 1000), some (.ref 0), some (.ref 57), some (.int x3)] [] t Q := by
  refine s_aload_n dL_law_466 rfl rfl ?_
  refine s_aload_n dL_law_467 rfl rfl ?_
  refine s_iload_n dL_law_468 rfl rfl ?_
  refine s_iconst (v := 1) dL_law_469 (by decide) ?_
  refine s_iadd dL_law_470 ?_
  obtain ⟨g1, h⟩ := h
  refine s_scr dL_law_471 g1 ?_
  refine s_aload_n dL_law_472 rfl rfl ?_
  refine s_iload_n dL_law_473 rfl rfl ?_
  refine s_iconst (v := 2) dL_law_474 (by decide) ?_
  refine s_iadd dL_law_475 ?_
  obtain ⟨g2, h⟩ := h
  refine s_scr dL_law_476 g2 ?_
  refine t_callV (M' := mX7_tooth) (k := 1) (As := [.int (gX g (x3 + 1).toNatClampNeg), .int (gX g (x3 + 2).toNatClampNeg)]) (rest := []) dL_law_477 ml_L_49 miX7_tooth msX7_tooth rfl (by decide) rfl rfl (Nat.le_of_ble_eq_true rfl) (Nat.le_of_ble_eq_true rfl) rfl h (fun rv t3 q => ?_)
  obtain ⟨v4, rfl, h⟩ := q
  show Rt g (d + 1) mL_law 480 [some (.ref 1000), some (.ref 0), some (.ref 57), some (.int x3)] [.int v4] t3 Q
  refine s_aload_n dL_law_480 rfl rfl ?_
  refine s_aload_n dL_law_481 rfl rfl ?_
  refine s_iload_n dL_law_482 rfl rfl ?_
  refine s_iconst (v := 1) dL_law_483 (by decide) ?_
  refine s_iadd dL_law_484 ?_
  obtain ⟨g5, h⟩ := h
  refine s_scr dL_law_485 g5 ?_
  refine s_aload_n dL_law_486 rfl rfl ?_
  refine s_iload_n dL_law_487 rfl rfl ?_
  refine s_iconst (v := 2) dL_law_488 (by decide) ?_
  refine s_iadd dL_law_489 ?_
  obtain ⟨g6, h⟩ := h
  refine s_scr dL_law_490 g6 ?_
  refine t_callV (M' := mX8_tooth) (k := 1) (As := [.int (gX g (x3 + 1).toNatClampNeg), .int (gX g (x3 + 2).toNatClampNeg)]) (rest := [.int v4]) dL_law_491 ml_L_52 miX8_tooth msX8_tooth rfl (by decide) rfl rfl (Nat.le_of_ble_eq_true rfl) (Nat.le_of_ble_eq_true rfl) rfl h (fun rv t7 q => ?_)
  obtain ⟨v8, rfl, h⟩ := q
  show Rt g (d + 1) mL_law 494 [some (.ref 1000), some (.ref 0), some (.ref 57), some (.int x3)] [.int v8, .int v4] t7 Q
  refine s_icmp_eq (tgt := 1536) dL_law_494 (by decide) (fun c9 => ?_) (fun c9 => ?_)
  · replace h := h.1 c9
    exact h
  · replace h := h.2 c9
    refine s_iconst (v := 0) dL_law_497 (by decide) ?_
    exact t_iret dL_law_498 (NR_z rfl (Or.inl rfl)) h
set_option maxRecDepth 20000 in
theorem bL_law_499 {g : Gt} {d : Nat} {t : Tt} {Q : Option Value → Tt → Prop} {x3 : Int32} (h : vp_in (x3 + 1) (gL g) ∧ (Rt g d mX7_gone 0 [some (.ref 0), some (.int (gX g (x3 + 1).toNatClampNeg)), none] [] t (QI (fun v3 t2 => vp_in (x3 + 1) (gL g) ∧ (Rt g d mX8_gone 0 [some (.ref 57), some (.int (gX g (x3 + 1).toNatClampNeg)), none] [] t2 (QI (fun v6 t5 => (v3 = v6 → Rt g (d + 1) mL_law 1536 [some (.ref 1000), some (.ref 0), some (.ref 57), some (.int x3)] [] t5 Q) ∧ (¬ v3 = v6 → Q (some (.int 0)) t5)))))))) : Rt g (d + 1) mL_law 499 [some (.ref 1000), some (.ref 0), some (.ref 57), some (.int x3)] [] t Q := by
  refine s_aload_n dL_law_499 rfl rfl ?_
  refine s_aload_n dL_law_500 rfl rfl ?_
  refine s_iload_n dL_law_501 rfl rfl ?_
  refine s_iconst (v := 1) dL_law_502 (by decide) ?_
  refine s_iadd dL_law_503 ?_
  obtain ⟨g1, h⟩ := h
  refine s_scr dL_law_504 g1 ?_
  refine t_callV (M' := mX7_gone) (k := 1) (As := [.int (gX g (x3 + 1).toNatClampNeg)]) (rest := []) dL_law_505 ml_L_53 miX7_gone msX7_gone rfl (by decide) rfl rfl (Nat.le_of_ble_eq_true rfl) (Nat.le_of_ble_eq_true rfl) rfl h (fun rv t2 q => ?_)
  obtain ⟨v3, rfl, h⟩ := q
  show Rt g (d + 1) mL_law 508 [some (.ref 1000), some (.ref 0), some (.ref 57), some (.int x3)] [.int v3] t2 Q
  refine s_aload_n dL_law_508 rfl rfl ?_
  refine s_aload_n dL_law_509 rfl rfl ?_
  refine s_iload_n dL_law_510 rfl rfl ?_
  refine s_iconst (v := 1) dL_law_511 (by decide) ?_
  refine s_iadd dL_law_512 ?_
  obtain ⟨g4, h⟩ := h
  refine s_scr dL_law_513 g4 ?_
  refine t_callV (M' := mX8_gone) (k := 1) (As := [.int (gX g (x3 + 1).toNatClampNeg)]) (rest := [.int v3]) dL_law_514 ml_L_56 miX8_gone msX8_gone rfl (by decide) rfl rfl (Nat.le_of_ble_eq_true rfl) (Nat.le_of_ble_eq_true rfl) rfl h (fun rv t5 q => ?_)
  obtain ⟨v6, rfl, h⟩ := q
  show Rt g (d + 1) mL_law 517 [some (.ref 1000), some (.ref 0), some (.ref 57), some (.int x3)] [.int v6, .int v3] t5 Q
  refine s_icmp_eq (tgt := 1536) dL_law_517 (by decide) (fun c7 => ?_) (fun c7 => ?_)
  · replace h := h.1 c7
    exact h
  · replace h := h.2 c7
    refine s_iconst (v := 0) dL_law_520 (by decide) ?_
    exact t_iret dL_law_521 (NR_z rfl (Or.inl rfl)) h
set_option maxRecDepth 20000 in
theorem bL_law_522 {g : Gt} {d : Nat} {t : Tt} {Q : Option Value → Tt → Prop} {x3 : Int32} (h : vp_in (x3 + 1) (gL g) ∧ (vp_in (x3 + 2) (gL g) ∧ (Rt g d mX7_believed 0 [some (.ref 0), some (.int (gX g (x3 + 1).toNatClampNeg)), some (.int (gX g (x3 + 2).toNatClampNeg)), none] [] t (QI (fun v4 t3 => vp_in (x3 + 1) (gL g) ∧ (vp_in (x3 + 2) (gL g) ∧ (Rt g d mX8_believed 0 [some (.ref 57), some (.int (gX g (x3 + 1).toNatClampNeg)), some (.int (gX g (x3 + 2).toNatClampNeg)), none] [] t3 (QI (fun v8 t7 => (v4 = v8 → Rt g (d + 1) mL_law 1536 [some (.ref 1000), some (.ref 0), some (.ref 57), some (.int x3)] [] t7 Q) ∧ (¬ v4 = v8 → Q (some (.int 0)) t7)))))))))) : Rt g (d + 1) mL_law 522 [some (.ref 1000), some (.ref 0), some (.ref 57), some (.int x3)] [] t Q := by
  refine s_aload_n dL_law_522 rfl rfl ?_
  refine s_aload_n dL_law_523 rfl rfl ?_
  refine s_iload_n dL_law_524 rfl rfl ?_
  refine s_iconst (v := 1) dL_law_525 (by decide) ?_
  refine s_iadd dL_law_526 ?_
  obtain ⟨g1, h⟩ := h
  refine s_scr dL_law_527 g1 ?_
  refine s_aload_n dL_law_528 rfl rfl ?_
  refine s_iload_n dL_law_529 rfl rfl ?_
  refine s_iconst (v := 2) dL_law_530 (by decide) ?_
  refine s_iadd dL_law_531 ?_
  obtain ⟨g2, h⟩ := h
  refine s_scr dL_law_532 g2 ?_
  refine t_callV (M' := mX7_believed) (k := 1) (As := [.int (gX g (x3 + 1).toNatClampNeg), .int (gX g (x3 + 2).toNatClampNeg)]) (rest := []) dL_law_533 ml_L_57 miX7_believed msX7_believed rfl (by decide) rfl rfl (Nat.le_of_ble_eq_true rfl) (Nat.le_of_ble_eq_true rfl) rfl h (fun rv t3 q => ?_)
  obtain ⟨v4, rfl, h⟩ := q
  show Rt g (d + 1) mL_law 536 [some (.ref 1000), some (.ref 0), some (.ref 57), some (.int x3)] [.int v4] t3 Q
  refine s_aload_n dL_law_536 rfl rfl ?_
  refine s_aload_n dL_law_537 rfl rfl ?_
  refine s_iload_n dL_law_538 rfl rfl ?_
  refine s_iconst (v := 1) dL_law_539 (by decide) ?_
  refine s_iadd dL_law_540 ?_
  obtain ⟨g5, h⟩ := h
  refine s_scr dL_law_541 g5 ?_
  refine s_aload_n dL_law_542 rfl rfl ?_
  refine s_iload_n dL_law_543 rfl rfl ?_
  refine s_iconst (v := 2) dL_law_544 (by decide) ?_
  refine s_iadd dL_law_545 ?_
  obtain ⟨g6, h⟩ := h
  refine s_scr dL_law_546 g6 ?_
  refine t_callV (M' := mX8_believed) (k := 1) (As := [.int (gX g (x3 + 1).toNatClampNeg), .int (gX g (x3 + 2).toNatClampNeg)]) (rest := [.int v4]) dL_law_547 ml_L_60 miX8_believed msX8_believed rfl (by decide) rfl rfl (Nat.le_of_ble_eq_true rfl) (Nat.le_of_ble_eq_true rfl) rfl h (fun rv t7 q => ?_)
  obtain ⟨v8, rfl, h⟩ := q
  show Rt g (d + 1) mL_law 550 [some (.ref 1000), some (.ref 0), some (.ref 57), some (.int x3)] [.int v8, .int v4] t7 Q
  refine s_icmp_eq (tgt := 1536) dL_law_550 (by decide) (fun c9 => ?_) (fun c9 => ?_)
  · replace h := h.1 c9
    exact h
  · replace h := h.2 c9
    refine s_iconst (v := 0) dL_law_553 (by decide) ?_
    exact t_iret dL_law_554 (NR_z rfl (Or.inl rfl)) h
set_option maxRecDepth 20000 in
theorem bL_law_555 {g : Gt} {d : Nat} {t : Tt} {Q : Option Value → Tt → Prop} {x3 : Int32} (h : vp_in (x3 + 1) (gL g) ∧ (vp_in (x3 + 2) (gL g) ∧ (Rt g d mX7_told 0 [some (.ref 0), some (.int (gX g (x3 + 1).toNatClampNeg)), some (.int (gX g (x3 + 2).toNatClampNeg)), none] [] t (QI (fun v4 t3 => vp_in (x3 + 1) (gL g) ∧ (vp_in (x3 + 2) (gL g) ∧ (Rt g d mX8_told 0 [some (.ref 57), some (.int (gX g (x3 + 1).toNatClampNeg)), some (.int (gX g (x3 + 2).toNatClampNeg)), none] [] t3 (QI (fun v8 t7 => (v4 = v8 → Rt g (d + 1) mL_law 1536 [some (.ref 1000), some (.ref 0), some (.ref 57), some (.int x3)] [] t7 Q) ∧ (¬ v4 = v8 → Q (some (.int 0)) t7)))))))))) : Rt g (d + 1) mL_law 555 [some (.ref 1000), some (.ref 0), some (.ref 57), some (.int x3)] [] t Q := by
  refine s_aload_n dL_law_555 rfl rfl ?_
  refine s_aload_n dL_law_556 rfl rfl ?_
  refine s_iload_n dL_law_557 rfl rfl ?_
  refine s_iconst (v := 1) dL_law_558 (by decide) ?_
  refine s_iadd dL_law_559 ?_
  obtain ⟨g1, h⟩ := h
  refine s_scr dL_law_560 g1 ?_
  refine s_aload_n dL_law_561 rfl rfl ?_
  refine s_iload_n dL_law_562 rfl rfl ?_
  refine s_iconst (v := 2) dL_law_563 (by decide) ?_
  refine s_iadd dL_law_564 ?_
  obtain ⟨g2, h⟩ := h
  refine s_scr dL_law_565 g2 ?_
  refine t_callV (M' := mX7_told) (k := 1) (As := [.int (gX g (x3 + 1).toNatClampNeg), .int (gX g (x3 + 2).toNatClampNeg)]) (rest := []) dL_law_566 ml_L_61 miX7_told msX7_told rfl (by decide) rfl rfl (Nat.le_of_ble_eq_true rfl) (Nat.le_of_ble_eq_true rfl) rfl h (fun rv t3 q => ?_)
  obtain ⟨v4, rfl, h⟩ := q
  show Rt g (d + 1) mL_law 569 [some (.ref 1000), some (.ref 0), some (.ref 57), some (.int x3)] [.int v4] t3 Q
  refine s_aload_n dL_law_569 rfl rfl ?_
  refine s_aload_n dL_law_570 rfl rfl ?_
  refine s_iload_n dL_law_571 rfl rfl ?_
  refine s_iconst (v := 1) dL_law_572 (by decide) ?_
  refine s_iadd dL_law_573 ?_
  obtain ⟨g5, h⟩ := h
  refine s_scr dL_law_574 g5 ?_
  refine s_aload_n dL_law_575 rfl rfl ?_
  refine s_iload_n dL_law_576 rfl rfl ?_
  refine s_iconst (v := 2) dL_law_577 (by decide) ?_
  refine s_iadd dL_law_578 ?_
  obtain ⟨g6, h⟩ := h
  refine s_scr dL_law_579 g6 ?_
  refine t_callV (M' := mX8_told) (k := 1) (As := [.int (gX g (x3 + 1).toNatClampNeg), .int (gX g (x3 + 2).toNatClampNeg)]) (rest := [.int v4]) dL_law_580 ml_L_64 miX8_told msX8_told rfl (by decide) rfl rfl (Nat.le_of_ble_eq_true rfl) (Nat.le_of_ble_eq_true rfl) rfl h (fun rv t7 q => ?_)
  obtain ⟨v8, rfl, h⟩ := q
  show Rt g (d + 1) mL_law 583 [some (.ref 1000), some (.ref 0), some (.ref 57), some (.int x3)] [.int v8, .int v4] t7 Q
  refine s_icmp_eq (tgt := 1536) dL_law_583 (by decide) (fun c9 => ?_) (fun c9 => ?_)
  · replace h := h.1 c9
    exact h
  · replace h := h.2 c9
    refine s_iconst (v := 0) dL_law_586 (by decide) ?_
    exact t_iret dL_law_587 (NR_z rfl (Or.inl rfl)) h
set_option maxRecDepth 20000 in
theorem bL_law_588 {g : Gt} {d : Nat} {t : Tt} {Q : Option Value → Tt → Prop} {x3 : Int32} (h : vp_in (x3 + 1) (gL g) ∧ (vp_in (x3 + 2) (gL g) ∧ (vp_in (x3 + 3) (gL g) ∧ (Rt g d mX7_have 0 [some (.ref 0), some (.int (gX g (x3 + 1).toNatClampNeg)), some (.int (gX g (x3 + 2).toNatClampNeg)), some (.int (gX g (x3 + 3).toNatClampNeg)), none, none] [] t (QI (fun v5 t4 => vp_in (x3 + 1) (gL g) ∧ (vp_in (x3 + 2) (gL g) ∧ (vp_in (x3 + 3) (gL g) ∧ (Rt g d mX8_have 0 [some (.ref 57), some (.int (gX g (x3 + 1).toNatClampNeg)), some (.int (gX g (x3 + 2).toNatClampNeg)), some (.int (gX g (x3 + 3).toNatClampNeg)), none, none, none, none, none, none, none, none, none] [] t4 (QI (fun v10 t9 => (v5 = v10 → Rt g (d + 1) mL_law 1536 [some (.ref 1000), some (.ref 0), some (.ref 57), some (.int x3)] [] t9 Q) ∧ (¬ v5 = v10 → Q (some (.int 0)) t9)))))))))))) : Rt g (d + 1) mL_law 588 [some (.ref 1000), some (.ref 0), some (.ref 57), some (.int x3)] [] t Q := by
  refine s_aload_n dL_law_588 rfl rfl ?_
  refine s_aload_n dL_law_589 rfl rfl ?_
  refine s_iload_n dL_law_590 rfl rfl ?_
  refine s_iconst (v := 1) dL_law_591 (by decide) ?_
  refine s_iadd dL_law_592 ?_
  obtain ⟨g1, h⟩ := h
  refine s_scr dL_law_593 g1 ?_
  refine s_aload_n dL_law_594 rfl rfl ?_
  refine s_iload_n dL_law_595 rfl rfl ?_
  refine s_iconst (v := 2) dL_law_596 (by decide) ?_
  refine s_iadd dL_law_597 ?_
  obtain ⟨g2, h⟩ := h
  refine s_scr dL_law_598 g2 ?_
  refine s_aload_n dL_law_599 rfl rfl ?_
  refine s_iload_n dL_law_600 rfl rfl ?_
  refine s_iconst (v := 3) dL_law_601 (by decide) ?_
  refine s_iadd dL_law_602 ?_
  obtain ⟨g3, h⟩ := h
  refine s_scr dL_law_603 g3 ?_
  refine t_callV (M' := mX7_have) (k := 2) (As := [.int (gX g (x3 + 1).toNatClampNeg), .int (gX g (x3 + 2).toNatClampNeg), .int (gX g (x3 + 3).toNatClampNeg)]) (rest := []) dL_law_604 ml_L_65 miX7_have msX7_have rfl (by decide) rfl rfl (Nat.le_of_ble_eq_true rfl) (Nat.le_of_ble_eq_true rfl) rfl h (fun rv t4 q => ?_)
  obtain ⟨v5, rfl, h⟩ := q
  show Rt g (d + 1) mL_law 607 [some (.ref 1000), some (.ref 0), some (.ref 57), some (.int x3)] [.int v5] t4 Q
  refine s_aload_n dL_law_607 rfl rfl ?_
  refine s_aload_n dL_law_608 rfl rfl ?_
  refine s_iload_n dL_law_609 rfl rfl ?_
  refine s_iconst (v := 1) dL_law_610 (by decide) ?_
  refine s_iadd dL_law_611 ?_
  obtain ⟨g6, h⟩ := h
  refine s_scr dL_law_612 g6 ?_
  refine s_aload_n dL_law_613 rfl rfl ?_
  refine s_iload_n dL_law_614 rfl rfl ?_
  refine s_iconst (v := 2) dL_law_615 (by decide) ?_
  refine s_iadd dL_law_616 ?_
  obtain ⟨g7, h⟩ := h
  refine s_scr dL_law_617 g7 ?_
  refine s_aload_n dL_law_618 rfl rfl ?_
  refine s_iload_n dL_law_619 rfl rfl ?_
  refine s_iconst (v := 3) dL_law_620 (by decide) ?_
  refine s_iadd dL_law_621 ?_
  obtain ⟨g8, h⟩ := h
  refine s_scr dL_law_622 g8 ?_
  refine t_callV (M' := mX8_have) (k := 9) (As := [.int (gX g (x3 + 1).toNatClampNeg), .int (gX g (x3 + 2).toNatClampNeg), .int (gX g (x3 + 3).toNatClampNeg)]) (rest := [.int v5]) dL_law_623 ml_L_68 miX8_have msX8_have rfl (by decide) rfl rfl (Nat.le_of_ble_eq_true rfl) (Nat.le_of_ble_eq_true rfl) rfl h (fun rv t9 q => ?_)
  obtain ⟨v10, rfl, h⟩ := q
  show Rt g (d + 1) mL_law 626 [some (.ref 1000), some (.ref 0), some (.ref 57), some (.int x3)] [.int v10, .int v5] t9 Q
  refine s_icmp_eq (tgt := 1536) dL_law_626 (by decide) (fun c11 => ?_) (fun c11 => ?_)
  · replace h := h.1 c11
    exact h
  · replace h := h.2 c11
    refine s_iconst (v := 0) dL_law_629 (by decide) ?_
    exact t_iret dL_law_630 (NR_z rfl (Or.inl rfl)) h
set_option maxRecDepth 20000 in
theorem bL_law_631 {g : Gt} {d : Nat} {t : Tt} {Q : Option Value → Tt → Prop} {x3 : Int32} (h : vp_in (x3 + 1) (gL g) ∧ (vp_in (x3 + 2) (gL g) ∧ (Rt g d mX7_left 0 [some (.ref 0), some (.int (gX g (x3 + 1).toNatClampNeg)), some (.int (gX g (x3 + 2).toNatClampNeg)), none] [] t (QI (fun v4 t3 => vp_in (x3 + 1) (gL g) ∧ (vp_in (x3 + 2) (gL g) ∧ (Rt g d mX8_left 0 [some (.ref 57), some (.int (gX g (x3 + 1).toNatClampNeg)), some (.int (gX g (x3 + 2).toNatClampNeg)), none] [] t3 (QI (fun v8 t7 => (v4 = v8 → Rt g (d + 1) mL_law 1536 [some (.ref 1000), some (.ref 0), some (.ref 57), some (.int x3)] [] t7 Q) ∧ (¬ v4 = v8 → Q (some (.int 0)) t7)))))))))) : Rt g (d + 1) mL_law 631 [some (.ref 1000), some (.ref 0), some (.ref 57), some (.int x3)] [] t Q := by
  refine s_aload_n dL_law_631 rfl rfl ?_
  refine s_aload_n dL_law_632 rfl rfl ?_
  refine s_iload_n dL_law_633 rfl rfl ?_
  refine s_iconst (v := 1) dL_law_634 (by decide) ?_
  refine s_iadd dL_law_635 ?_
  obtain ⟨g1, h⟩ := h
  refine s_scr dL_law_636 g1 ?_
  refine s_aload_n dL_law_637 rfl rfl ?_
  refine s_iload_n dL_law_638 rfl rfl ?_
  refine s_iconst (v := 2) dL_law_639 (by decide) ?_
  refine s_iadd dL_law_640 ?_
  obtain ⟨g2, h⟩ := h
  refine s_scr dL_law_641 g2 ?_
  refine t_callV (M' := mX7_left) (k := 1) (As := [.int (gX g (x3 + 1).toNatClampNeg), .int (gX g (x3 + 2).toNatClampNeg)]) (rest := []) dL_law_642 ml_L_69 miX7_left msX7_left rfl (by decide) rfl rfl (Nat.le_of_ble_eq_true rfl) (Nat.le_of_ble_eq_true rfl) rfl h (fun rv t3 q => ?_)
  obtain ⟨v4, rfl, h⟩ := q
  show Rt g (d + 1) mL_law 645 [some (.ref 1000), some (.ref 0), some (.ref 57), some (.int x3)] [.int v4] t3 Q
  refine s_aload_n dL_law_645 rfl rfl ?_
  refine s_aload_n dL_law_646 rfl rfl ?_
  refine s_iload_n dL_law_647 rfl rfl ?_
  refine s_iconst (v := 1) dL_law_648 (by decide) ?_
  refine s_iadd dL_law_649 ?_
  obtain ⟨g5, h⟩ := h
  refine s_scr dL_law_650 g5 ?_
  refine s_aload_n dL_law_651 rfl rfl ?_
  refine s_iload_n dL_law_652 rfl rfl ?_
  refine s_iconst (v := 2) dL_law_653 (by decide) ?_
  refine s_iadd dL_law_654 ?_
  obtain ⟨g6, h⟩ := h
  refine s_scr dL_law_655 g6 ?_
  refine t_callV (M' := mX8_left) (k := 1) (As := [.int (gX g (x3 + 1).toNatClampNeg), .int (gX g (x3 + 2).toNatClampNeg)]) (rest := [.int v4]) dL_law_656 ml_L_72 miX8_left msX8_left rfl (by decide) rfl rfl (Nat.le_of_ble_eq_true rfl) (Nat.le_of_ble_eq_true rfl) rfl h (fun rv t7 q => ?_)
  obtain ⟨v8, rfl, h⟩ := q
  show Rt g (d + 1) mL_law 659 [some (.ref 1000), some (.ref 0), some (.ref 57), some (.int x3)] [.int v8, .int v4] t7 Q
  refine s_icmp_eq (tgt := 1536) dL_law_659 (by decide) (fun c9 => ?_) (fun c9 => ?_)
  · replace h := h.1 c9
    exact h
  · replace h := h.2 c9
    refine s_iconst (v := 0) dL_law_662 (by decide) ?_
    exact t_iret dL_law_663 (NR_z rfl (Or.inl rfl)) h
set_option maxRecDepth 20000 in
theorem bL_law_664 {g : Gt} {d : Nat} {t : Tt} {Q : Option Value → Tt → Prop} {x3 : Int32} (h : vp_in (x3 + 1) (gL g) ∧ (vp_in (x3 + 2) (gL g) ∧ (Rt g d mX7_enough 0 [some (.ref 0), some (.int (gX g (x3 + 1).toNatClampNeg)), some (.int (gX g (x3 + 2).toNatClampNeg)), none, none, none] [] t (QI (fun v4 t3 => vp_in (x3 + 1) (gL g) ∧ (vp_in (x3 + 2) (gL g) ∧ (Rt g d mX8_enough 0 [some (.ref 57), some (.int (gX g (x3 + 1).toNatClampNeg)), some (.int (gX g (x3 + 2).toNatClampNeg)), none, none, none, none] [] t3 (QI (fun v8 t7 => (v4 = v8 → Rt g (d + 1) mL_law 1536 [some (.ref 1000), some (.ref 0), some (.ref 57), some (.int x3)] [] t7 Q) ∧ (¬ v4 = v8 → Q (some (.int 0)) t7)))))))))) : Rt g (d + 1) mL_law 664 [some (.ref 1000), some (.ref 0), some (.ref 57), some (.int x3)] [] t Q := by
  refine s_aload_n dL_law_664 rfl rfl ?_
  refine s_aload_n dL_law_665 rfl rfl ?_
  refine s_iload_n dL_law_666 rfl rfl ?_
  refine s_iconst (v := 1) dL_law_667 (by decide) ?_
  refine s_iadd dL_law_668 ?_
  obtain ⟨g1, h⟩ := h
  refine s_scr dL_law_669 g1 ?_
  refine s_aload_n dL_law_670 rfl rfl ?_
  refine s_iload_n dL_law_671 rfl rfl ?_
  refine s_iconst (v := 2) dL_law_672 (by decide) ?_
  refine s_iadd dL_law_673 ?_
  obtain ⟨g2, h⟩ := h
  refine s_scr dL_law_674 g2 ?_
  refine t_callV (M' := mX7_enough) (k := 3) (As := [.int (gX g (x3 + 1).toNatClampNeg), .int (gX g (x3 + 2).toNatClampNeg)]) (rest := []) dL_law_675 ml_L_73 miX7_enough msX7_enough rfl (by decide) rfl rfl (Nat.le_of_ble_eq_true rfl) (Nat.le_of_ble_eq_true rfl) rfl h (fun rv t3 q => ?_)
  obtain ⟨v4, rfl, h⟩ := q
  show Rt g (d + 1) mL_law 678 [some (.ref 1000), some (.ref 0), some (.ref 57), some (.int x3)] [.int v4] t3 Q
  refine s_aload_n dL_law_678 rfl rfl ?_
  refine s_aload_n dL_law_679 rfl rfl ?_
  refine s_iload_n dL_law_680 rfl rfl ?_
  refine s_iconst (v := 1) dL_law_681 (by decide) ?_
  refine s_iadd dL_law_682 ?_
  obtain ⟨g5, h⟩ := h
  refine s_scr dL_law_683 g5 ?_
  refine s_aload_n dL_law_684 rfl rfl ?_
  refine s_iload_n dL_law_685 rfl rfl ?_
  refine s_iconst (v := 2) dL_law_686 (by decide) ?_
  refine s_iadd dL_law_687 ?_
  obtain ⟨g6, h⟩ := h
  refine s_scr dL_law_688 g6 ?_
  refine t_callV (M' := mX8_enough) (k := 4) (As := [.int (gX g (x3 + 1).toNatClampNeg), .int (gX g (x3 + 2).toNatClampNeg)]) (rest := [.int v4]) dL_law_689 ml_L_76 miX8_enough msX8_enough rfl (by decide) rfl rfl (Nat.le_of_ble_eq_true rfl) (Nat.le_of_ble_eq_true rfl) rfl h (fun rv t7 q => ?_)
  obtain ⟨v8, rfl, h⟩ := q
  show Rt g (d + 1) mL_law 692 [some (.ref 1000), some (.ref 0), some (.ref 57), some (.int x3)] [.int v8, .int v4] t7 Q
  refine s_icmp_eq (tgt := 1536) dL_law_692 (by decide) (fun c9 => ?_) (fun c9 => ?_)
  · replace h := h.1 c9
    exact h
  · replace h := h.2 c9
    refine s_iconst (v := 0) dL_law_695 (by decide) ?_
    exact t_iret dL_law_696 (NR_z rfl (Or.inl rfl)) h
set_option maxRecDepth 20000 in
theorem bL_law_697 {g : Gt} {d : Nat} {t : Tt} {Q : Option Value → Tt → Prop} {x3 : Int32} (h : vp_in (x3 + 1) (gL g) ∧ (Rt g d mX7_jury 0 [some (.ref 0), some (.int (gX g (x3 + 1).toNatClampNeg)), none, none, none] [] t (QI (fun v3 t2 => vp_in (x3 + 1) (gL g) ∧ (Rt g d mX8_jury 0 [some (.ref 57), some (.int (gX g (x3 + 1).toNatClampNeg)), none, none, none] [] t2 (QI (fun v6 t5 => (v3 = v6 → Rt g (d + 1) mL_law 1536 [some (.ref 1000), some (.ref 0), some (.ref 57), some (.int x3)] [] t5 Q) ∧ (¬ v3 = v6 → Q (some (.int 0)) t5)))))))) : Rt g (d + 1) mL_law 697 [some (.ref 1000), some (.ref 0), some (.ref 57), some (.int x3)] [] t Q := by
  refine s_aload_n dL_law_697 rfl rfl ?_
  refine s_aload_n dL_law_698 rfl rfl ?_
  refine s_iload_n dL_law_699 rfl rfl ?_
  refine s_iconst (v := 1) dL_law_700 (by decide) ?_
  refine s_iadd dL_law_701 ?_
  obtain ⟨g1, h⟩ := h
  refine s_scr dL_law_702 g1 ?_
  refine t_callV (M' := mX7_jury) (k := 3) (As := [.int (gX g (x3 + 1).toNatClampNeg)]) (rest := []) dL_law_703 ml_L_77 miX7_jury msX7_jury rfl (by decide) rfl rfl (Nat.le_of_ble_eq_true rfl) (Nat.le_of_ble_eq_true rfl) rfl h (fun rv t2 q => ?_)
  obtain ⟨v3, rfl, h⟩ := q
  show Rt g (d + 1) mL_law 706 [some (.ref 1000), some (.ref 0), some (.ref 57), some (.int x3)] [.int v3] t2 Q
  refine s_aload_n dL_law_706 rfl rfl ?_
  refine s_aload_n dL_law_707 rfl rfl ?_
  refine s_iload_n dL_law_708 rfl rfl ?_
  refine s_iconst (v := 1) dL_law_709 (by decide) ?_
  refine s_iadd dL_law_710 ?_
  obtain ⟨g4, h⟩ := h
  refine s_scr dL_law_711 g4 ?_
  refine t_callV (M' := mX8_jury) (k := 3) (As := [.int (gX g (x3 + 1).toNatClampNeg)]) (rest := [.int v3]) dL_law_712 ml_L_80 miX8_jury msX8_jury rfl (by decide) rfl rfl (Nat.le_of_ble_eq_true rfl) (Nat.le_of_ble_eq_true rfl) rfl h (fun rv t5 q => ?_)
  obtain ⟨v6, rfl, h⟩ := q
  show Rt g (d + 1) mL_law 715 [some (.ref 1000), some (.ref 0), some (.ref 57), some (.int x3)] [.int v6, .int v3] t5 Q
  refine s_icmp_eq (tgt := 1536) dL_law_715 (by decide) (fun c7 => ?_) (fun c7 => ?_)
  · replace h := h.1 c7
    exact h
  · replace h := h.2 c7
    refine s_iconst (v := 0) dL_law_718 (by decide) ?_
    exact t_iret dL_law_719 (NR_z rfl (Or.inl rfl)) h
set_option maxRecDepth 20000 in
theorem bL_law_720 {g : Gt} {d : Nat} {t : Tt} {Q : Option Value → Tt → Prop} {x3 : Int32} (h : vp_in (x3 + 1) (gL g) ∧ (vp_in (x3 + 2) (gL g) ∧ (vp_in (x3 + 3) (gL g) ∧ (Rt g d mX7_bribe 0 [some (.ref 0), some (.int (gX g (x3 + 1).toNatClampNeg)), some (.int (gX g (x3 + 2).toNatClampNeg)), some (.int (gX g (x3 + 3).toNatClampNeg)), none, none] [] t (QI (fun v5 t4 => vp_in (x3 + 1) (gL g) ∧ (vp_in (x3 + 2) (gL g) ∧ (vp_in (x3 + 3) (gL g) ∧ (Rt g d mX8_bribe 0 [some (.ref 57), some (.int (gX g (x3 + 1).toNatClampNeg)), some (.int (gX g (x3 + 2).toNatClampNeg)), some (.int (gX g (x3 + 3).toNatClampNeg)), none, none, none] [] t4 (QI (fun v10 t9 => (v5 = v10 → Rt g (d + 1) mL_law 1536 [some (.ref 1000), some (.ref 0), some (.ref 57), some (.int x3)] [] t9 Q) ∧ (¬ v5 = v10 → Q (some (.int 0)) t9)))))))))))) : Rt g (d + 1) mL_law 720 [some (.ref 1000), some (.ref 0), some (.ref 57), some (.int x3)] [] t Q := by
  refine s_aload_n dL_law_720 rfl rfl ?_
  refine s_aload_n dL_law_721 rfl rfl ?_
  refine s_iload_n dL_law_722 rfl rfl ?_
  refine s_iconst (v := 1) dL_law_723 (by decide) ?_
  refine s_iadd dL_law_724 ?_
  obtain ⟨g1, h⟩ := h
  refine s_scr dL_law_725 g1 ?_
  refine s_aload_n dL_law_726 rfl rfl ?_
  refine s_iload_n dL_law_727 rfl rfl ?_
  refine s_iconst (v := 2) dL_law_728 (by decide) ?_
  refine s_iadd dL_law_729 ?_
  obtain ⟨g2, h⟩ := h
  refine s_scr dL_law_730 g2 ?_
  refine s_aload_n dL_law_731 rfl rfl ?_
  refine s_iload_n dL_law_732 rfl rfl ?_
  refine s_iconst (v := 3) dL_law_733 (by decide) ?_
  refine s_iadd dL_law_734 ?_
  obtain ⟨g3, h⟩ := h
  refine s_scr dL_law_735 g3 ?_
  refine t_callV (M' := mX7_bribe) (k := 2) (As := [.int (gX g (x3 + 1).toNatClampNeg), .int (gX g (x3 + 2).toNatClampNeg), .int (gX g (x3 + 3).toNatClampNeg)]) (rest := []) dL_law_736 ml_L_81 miX7_bribe msX7_bribe rfl (by decide) rfl rfl (Nat.le_of_ble_eq_true rfl) (Nat.le_of_ble_eq_true rfl) rfl h (fun rv t4 q => ?_)
  obtain ⟨v5, rfl, h⟩ := q
  show Rt g (d + 1) mL_law 739 [some (.ref 1000), some (.ref 0), some (.ref 57), some (.int x3)] [.int v5] t4 Q
  refine s_aload_n dL_law_739 rfl rfl ?_
  refine s_aload_n dL_law_740 rfl rfl ?_
  refine s_iload_n dL_law_741 rfl rfl ?_
  refine s_iconst (v := 1) dL_law_742 (by decide) ?_
  refine s_iadd dL_law_743 ?_
  obtain ⟨g6, h⟩ := h
  refine s_scr dL_law_744 g6 ?_
  refine s_aload_n dL_law_745 rfl rfl ?_
  refine s_iload_n dL_law_746 rfl rfl ?_
  refine s_iconst (v := 2) dL_law_747 (by decide) ?_
  refine s_iadd dL_law_748 ?_
  obtain ⟨g7, h⟩ := h
  refine s_scr dL_law_749 g7 ?_
  refine s_aload_n dL_law_750 rfl rfl ?_
  refine s_iload_n dL_law_751 rfl rfl ?_
  refine s_iconst (v := 3) dL_law_752 (by decide) ?_
  refine s_iadd dL_law_753 ?_
  obtain ⟨g8, h⟩ := h
  refine s_scr dL_law_754 g8 ?_
  refine t_callV (M' := mX8_bribe) (k := 3) (As := [.int (gX g (x3 + 1).toNatClampNeg), .int (gX g (x3 + 2).toNatClampNeg), .int (gX g (x3 + 3).toNatClampNeg)]) (rest := [.int v5]) dL_law_755 ml_L_84 miX8_bribe msX8_bribe rfl (by decide) rfl rfl (Nat.le_of_ble_eq_true rfl) (Nat.le_of_ble_eq_true rfl) rfl h (fun rv t9 q => ?_)
  obtain ⟨v10, rfl, h⟩ := q
  show Rt g (d + 1) mL_law 758 [some (.ref 1000), some (.ref 0), some (.ref 57), some (.int x3)] [.int v10, .int v5] t9 Q
  refine s_icmp_eq (tgt := 1536) dL_law_758 (by decide) (fun c11 => ?_) (fun c11 => ?_)
  · replace h := h.1 c11
    exact h
  · replace h := h.2 c11
    refine s_iconst (v := 0) dL_law_761 (by decide) ?_
    exact t_iret dL_law_762 (NR_z rfl (Or.inl rfl)) h
set_option maxRecDepth 20000 in
theorem bL_law_763 {g : Gt} {d : Nat} {t : Tt} {Q : Option Value → Tt → Prop} {x3 : Int32} (h : vp_in (x3 + 1) (gL g) ∧ (vp_in (x3 + 2) (gL g) ∧ (vp_in (x3 + 3) (gL g) ∧ (Rt g d mX7_liesFor 0 [some (.ref 0), some (.int (gX g (x3 + 1).toNatClampNeg)), some (.int (gX g (x3 + 2).toNatClampNeg)), some (.int (gX g (x3 + 3).toNatClampNeg)), none, none] [] t (QI (fun v5 t4 => vp_in (x3 + 1) (gL g) ∧ (vp_in (x3 + 2) (gL g) ∧ (vp_in (x3 + 3) (gL g) ∧ (Rt g d mX8_liesFor 0 [some (.ref 57), some (.int (gX g (x3 + 1).toNatClampNeg)), some (.int (gX g (x3 + 2).toNatClampNeg)), some (.int (gX g (x3 + 3).toNatClampNeg)), none] [] t4 (QI (fun v10 t9 => (v5 = v10 → Rt g (d + 1) mL_law 1536 [some (.ref 1000), some (.ref 0), some (.ref 57), some (.int x3)] [] t9 Q) ∧ (¬ v5 = v10 → Q (some (.int 0)) t9)))))))))))) : Rt g (d + 1) mL_law 763 [some (.ref 1000), some (.ref 0), some (.ref 57), some (.int x3)] [] t Q := by
  refine s_aload_n dL_law_763 rfl rfl ?_
  refine s_aload_n dL_law_764 rfl rfl ?_
  refine s_iload_n dL_law_765 rfl rfl ?_
  refine s_iconst (v := 1) dL_law_766 (by decide) ?_
  refine s_iadd dL_law_767 ?_
  obtain ⟨g1, h⟩ := h
  refine s_scr dL_law_768 g1 ?_
  refine s_aload_n dL_law_769 rfl rfl ?_
  refine s_iload_n dL_law_770 rfl rfl ?_
  refine s_iconst (v := 2) dL_law_771 (by decide) ?_
  refine s_iadd dL_law_772 ?_
  obtain ⟨g2, h⟩ := h
  refine s_scr dL_law_773 g2 ?_
  refine s_aload_n dL_law_774 rfl rfl ?_
  refine s_iload_n dL_law_775 rfl rfl ?_
  refine s_iconst (v := 3) dL_law_776 (by decide) ?_
  refine s_iadd dL_law_777 ?_
  obtain ⟨g3, h⟩ := h
  refine s_scr dL_law_778 g3 ?_
  refine t_callV (M' := mX7_liesFor) (k := 2) (As := [.int (gX g (x3 + 1).toNatClampNeg), .int (gX g (x3 + 2).toNatClampNeg), .int (gX g (x3 + 3).toNatClampNeg)]) (rest := []) dL_law_779 ml_L_85 miX7_liesFor msX7_liesFor rfl (by decide) rfl rfl (Nat.le_of_ble_eq_true rfl) (Nat.le_of_ble_eq_true rfl) rfl h (fun rv t4 q => ?_)
  obtain ⟨v5, rfl, h⟩ := q
  show Rt g (d + 1) mL_law 782 [some (.ref 1000), some (.ref 0), some (.ref 57), some (.int x3)] [.int v5] t4 Q
  refine s_aload_n dL_law_782 rfl rfl ?_
  refine s_aload_n dL_law_783 rfl rfl ?_
  refine s_iload_n dL_law_784 rfl rfl ?_
  refine s_iconst (v := 1) dL_law_785 (by decide) ?_
  refine s_iadd dL_law_786 ?_
  obtain ⟨g6, h⟩ := h
  refine s_scr dL_law_787 g6 ?_
  refine s_aload_n dL_law_788 rfl rfl ?_
  refine s_iload_n dL_law_789 rfl rfl ?_
  refine s_iconst (v := 2) dL_law_790 (by decide) ?_
  refine s_iadd dL_law_791 ?_
  obtain ⟨g7, h⟩ := h
  refine s_scr dL_law_792 g7 ?_
  refine s_aload_n dL_law_793 rfl rfl ?_
  refine s_iload_n dL_law_794 rfl rfl ?_
  refine s_iconst (v := 3) dL_law_795 (by decide) ?_
  refine s_iadd dL_law_796 ?_
  obtain ⟨g8, h⟩ := h
  refine s_scr dL_law_797 g8 ?_
  refine t_callV (M' := mX8_liesFor) (k := 1) (As := [.int (gX g (x3 + 1).toNatClampNeg), .int (gX g (x3 + 2).toNatClampNeg), .int (gX g (x3 + 3).toNatClampNeg)]) (rest := [.int v5]) dL_law_798 ml_L_88 miX8_liesFor msX8_liesFor rfl (by decide) rfl rfl (Nat.le_of_ble_eq_true rfl) (Nat.le_of_ble_eq_true rfl) rfl h (fun rv t9 q => ?_)
  obtain ⟨v10, rfl, h⟩ := q
  show Rt g (d + 1) mL_law 801 [some (.ref 1000), some (.ref 0), some (.ref 57), some (.int x3)] [.int v10, .int v5] t9 Q
  refine s_icmp_eq (tgt := 1536) dL_law_801 (by decide) (fun c11 => ?_) (fun c11 => ?_)
  · replace h := h.1 c11
    exact h
  · replace h := h.2 c11
    refine s_iconst (v := 0) dL_law_804 (by decide) ?_
    exact t_iret dL_law_805 (NR_z rfl (Or.inl rfl)) h
set_option maxRecDepth 20000 in
theorem bL_law_806 {g : Gt} {d : Nat} {t : Tt} {Q : Option Value → Tt → Prop} {x3 : Int32} (h : vp_in (x3 + 1) (gL g) ∧ (vp_in (x3 + 2) (gL g) ∧ (vp_in (x3 + 3) (gL g) ∧ (Rt g d mX7_two 0 [some (.ref 0), some (.int (gX g (x3 + 1).toNatClampNeg)), some (.int (gX g (x3 + 2).toNatClampNeg)), some (.int (gX g (x3 + 3).toNatClampNeg)), none, none, none, none] [] t (QI (fun v5 t4 => vp_in (x3 + 1) (gL g) ∧ (vp_in (x3 + 2) (gL g) ∧ (vp_in (x3 + 3) (gL g) ∧ (Rt g d mX8_two 0 [some (.ref 57), some (.int (gX g (x3 + 1).toNatClampNeg)), some (.int (gX g (x3 + 2).toNatClampNeg)), some (.int (gX g (x3 + 3).toNatClampNeg)), none, none, none] [] t4 (QI (fun v10 t9 => (v5 = v10 → Rt g (d + 1) mL_law 1536 [some (.ref 1000), some (.ref 0), some (.ref 57), some (.int x3)] [] t9 Q) ∧ (¬ v5 = v10 → Q (some (.int 0)) t9)))))))))))) : Rt g (d + 1) mL_law 806 [some (.ref 1000), some (.ref 0), some (.ref 57), some (.int x3)] [] t Q := by
  refine s_aload_n dL_law_806 rfl rfl ?_
  refine s_aload_n dL_law_807 rfl rfl ?_
  refine s_iload_n dL_law_808 rfl rfl ?_
  refine s_iconst (v := 1) dL_law_809 (by decide) ?_
  refine s_iadd dL_law_810 ?_
  obtain ⟨g1, h⟩ := h
  refine s_scr dL_law_811 g1 ?_
  refine s_aload_n dL_law_812 rfl rfl ?_
  refine s_iload_n dL_law_813 rfl rfl ?_
  refine s_iconst (v := 2) dL_law_814 (by decide) ?_
  refine s_iadd dL_law_815 ?_
  obtain ⟨g2, h⟩ := h
  refine s_scr dL_law_816 g2 ?_
  refine s_aload_n dL_law_817 rfl rfl ?_
  refine s_iload_n dL_law_818 rfl rfl ?_
  refine s_iconst (v := 3) dL_law_819 (by decide) ?_
  refine s_iadd dL_law_820 ?_
  obtain ⟨g3, h⟩ := h
  refine s_scr dL_law_821 g3 ?_
  refine t_callV (M' := mX7_two) (k := 4) (As := [.int (gX g (x3 + 1).toNatClampNeg), .int (gX g (x3 + 2).toNatClampNeg), .int (gX g (x3 + 3).toNatClampNeg)]) (rest := []) dL_law_822 ml_L_89 miX7_two msX7_two rfl (by decide) rfl rfl (Nat.le_of_ble_eq_true rfl) (Nat.le_of_ble_eq_true rfl) rfl h (fun rv t4 q => ?_)
  obtain ⟨v5, rfl, h⟩ := q
  show Rt g (d + 1) mL_law 825 [some (.ref 1000), some (.ref 0), some (.ref 57), some (.int x3)] [.int v5] t4 Q
  refine s_aload_n dL_law_825 rfl rfl ?_
  refine s_aload_n dL_law_826 rfl rfl ?_
  refine s_iload_n dL_law_827 rfl rfl ?_
  refine s_iconst (v := 1) dL_law_828 (by decide) ?_
  refine s_iadd dL_law_829 ?_
  obtain ⟨g6, h⟩ := h
  refine s_scr dL_law_830 g6 ?_
  refine s_aload_n dL_law_831 rfl rfl ?_
  refine s_iload_n dL_law_832 rfl rfl ?_
  refine s_iconst (v := 2) dL_law_833 (by decide) ?_
  refine s_iadd dL_law_834 ?_
  obtain ⟨g7, h⟩ := h
  refine s_scr dL_law_835 g7 ?_
  refine s_aload_n dL_law_836 rfl rfl ?_
  refine s_iload_n dL_law_837 rfl rfl ?_
  refine s_iconst (v := 3) dL_law_838 (by decide) ?_
  refine s_iadd dL_law_839 ?_
  obtain ⟨g8, h⟩ := h
  refine s_scr dL_law_840 g8 ?_
  refine t_callV (M' := mX8_two) (k := 3) (As := [.int (gX g (x3 + 1).toNatClampNeg), .int (gX g (x3 + 2).toNatClampNeg), .int (gX g (x3 + 3).toNatClampNeg)]) (rest := [.int v5]) dL_law_841 ml_L_92 miX8_two msX8_two rfl (by decide) rfl rfl (Nat.le_of_ble_eq_true rfl) (Nat.le_of_ble_eq_true rfl) rfl h (fun rv t9 q => ?_)
  obtain ⟨v10, rfl, h⟩ := q
  show Rt g (d + 1) mL_law 844 [some (.ref 1000), some (.ref 0), some (.ref 57), some (.int x3)] [.int v10, .int v5] t9 Q
  refine s_icmp_eq (tgt := 1536) dL_law_844 (by decide) (fun c11 => ?_) (fun c11 => ?_)
  · replace h := h.1 c11
    exact h
  · replace h := h.2 c11
    refine s_iconst (v := 0) dL_law_847 (by decide) ?_
    exact t_iret dL_law_848 (NR_z rfl (Or.inl rfl)) h
set_option maxRecDepth 20000 in
theorem bL_law_849 {g : Gt} {d : Nat} {t : Tt} {Q : Option Value → Tt → Prop} {x3 : Int32} (h : vp_in (x3 + 1) (gL g) ∧ (Rt g d mX7_others 0 [some (.ref 0), some (.int (gX g (x3 + 1).toNatClampNeg)), none, none, none] [] t (QI (fun v3 t2 => vp_in (x3 + 1) (gL g) ∧ (Rt g d mX8_others 0 [some (.ref 57), some (.int (gX g (x3 + 1).toNatClampNeg)), none, none] [] t2 (QI (fun v6 t5 => (v3 = v6 → Rt g (d + 1) mL_law 1536 [some (.ref 1000), some (.ref 0), some (.ref 57), some (.int x3)] [] t5 Q) ∧ (¬ v3 = v6 → Q (some (.int 0)) t5)))))))) : Rt g (d + 1) mL_law 849 [some (.ref 1000), some (.ref 0), some (.ref 57), some (.int x3)] [] t Q := by
  refine s_aload_n dL_law_849 rfl rfl ?_
  refine s_aload_n dL_law_850 rfl rfl ?_
  refine s_iload_n dL_law_851 rfl rfl ?_
  refine s_iconst (v := 1) dL_law_852 (by decide) ?_
  refine s_iadd dL_law_853 ?_
  obtain ⟨g1, h⟩ := h
  refine s_scr dL_law_854 g1 ?_
  refine t_callV (M' := mX7_others) (k := 3) (As := [.int (gX g (x3 + 1).toNatClampNeg)]) (rest := []) dL_law_855 ml_L_93 miX7_others msX7_others rfl (by decide) rfl rfl (Nat.le_of_ble_eq_true rfl) (Nat.le_of_ble_eq_true rfl) rfl h (fun rv t2 q => ?_)
  obtain ⟨v3, rfl, h⟩ := q
  show Rt g (d + 1) mL_law 858 [some (.ref 1000), some (.ref 0), some (.ref 57), some (.int x3)] [.int v3] t2 Q
  refine s_aload_n dL_law_858 rfl rfl ?_
  refine s_aload_n dL_law_859 rfl rfl ?_
  refine s_iload_n dL_law_860 rfl rfl ?_
  refine s_iconst (v := 1) dL_law_861 (by decide) ?_
  refine s_iadd dL_law_862 ?_
  obtain ⟨g4, h⟩ := h
  refine s_scr dL_law_863 g4 ?_
  refine t_callV (M' := mX8_others) (k := 2) (As := [.int (gX g (x3 + 1).toNatClampNeg)]) (rest := [.int v3]) dL_law_864 ml_L_96 miX8_others msX8_others rfl (by decide) rfl rfl (Nat.le_of_ble_eq_true rfl) (Nat.le_of_ble_eq_true rfl) rfl h (fun rv t5 q => ?_)
  obtain ⟨v6, rfl, h⟩ := q
  show Rt g (d + 1) mL_law 867 [some (.ref 1000), some (.ref 0), some (.ref 57), some (.int x3)] [.int v6, .int v3] t5 Q
  refine s_icmp_eq (tgt := 1536) dL_law_867 (by decide) (fun c7 => ?_) (fun c7 => ?_)
  · replace h := h.1 c7
    exact h
  · replace h := h.2 c7
    refine s_iconst (v := 0) dL_law_870 (by decide) ?_
    exact t_iret dL_law_871 (NR_z rfl (Or.inl rfl)) h
set_option maxRecDepth 20000 in
theorem bL_law_872 {g : Gt} {d : Nat} {t : Tt} {Q : Option Value → Tt → Prop} {x3 : Int32} (h : vp_in (x3 + 1) (gL g) ∧ (vp_in (x3 + 2) (gL g) ∧ (vp_in (x3 + 3) (gL g) ∧ (Rt g d mX7_isSo 0 [some (.ref 0), some (.int (gX g (x3 + 1).toNatClampNeg)), some (.int (gX g (x3 + 2).toNatClampNeg)), some (.int (gX g (x3 + 3).toNatClampNeg)), none, none, none] [] t (QI (fun v5 t4 => vp_in (x3 + 1) (gL g) ∧ (vp_in (x3 + 2) (gL g) ∧ (vp_in (x3 + 3) (gL g) ∧ (Rt g d mX8_isSo 0 [some (.ref 57), some (.int (gX g (x3 + 1).toNatClampNeg)), some (.int (gX g (x3 + 2).toNatClampNeg)), some (.int (gX g (x3 + 3).toNatClampNeg)), none, none, none, none, none, none] [] t4 (QI (fun v10 t9 => (v5 = v10 → Rt g (d + 1) mL_law 1536 [some (.ref 1000), some (.ref 0), some (.ref 57), some (.int x3)] [] t9 Q) ∧ (¬ v5 = v10 → Q (some (.int 0)) t9)))))))))))) : Rt g (d + 1) mL_law 872 [some (.ref 1000), some (.ref 0), some (.ref 57), some (.int x3)] [] t Q := by
  refine s_aload_n dL_law_872 rfl rfl ?_
  refine s_aload_n dL_law_873 rfl rfl ?_
  refine s_iload_n dL_law_874 rfl rfl ?_
  refine s_iconst (v := 1) dL_law_875 (by decide) ?_
  refine s_iadd dL_law_876 ?_
  obtain ⟨g1, h⟩ := h
  refine s_scr dL_law_877 g1 ?_
  refine s_aload_n dL_law_878 rfl rfl ?_
  refine s_iload_n dL_law_879 rfl rfl ?_
  refine s_iconst (v := 2) dL_law_880 (by decide) ?_
  refine s_iadd dL_law_881 ?_
  obtain ⟨g2, h⟩ := h
  refine s_scr dL_law_882 g2 ?_
  refine s_aload_n dL_law_883 rfl rfl ?_
  refine s_iload_n dL_law_884 rfl rfl ?_
  refine s_iconst (v := 3) dL_law_885 (by decide) ?_
  refine s_iadd dL_law_886 ?_
  obtain ⟨g3, h⟩ := h
  refine s_scr dL_law_887 g3 ?_
  refine t_callV (M' := mX7_isSo) (k := 3) (As := [.int (gX g (x3 + 1).toNatClampNeg), .int (gX g (x3 + 2).toNatClampNeg), .int (gX g (x3 + 3).toNatClampNeg)]) (rest := []) dL_law_888 ml_L_97 miX7_isSo msX7_isSo rfl (by decide) rfl rfl (Nat.le_of_ble_eq_true rfl) (Nat.le_of_ble_eq_true rfl) rfl h (fun rv t4 q => ?_)
  obtain ⟨v5, rfl, h⟩ := q
  show Rt g (d + 1) mL_law 891 [some (.ref 1000), some (.ref 0), some (.ref 57), some (.int x3)] [.int v5] t4 Q
  refine s_aload_n dL_law_891 rfl rfl ?_
  refine s_aload_n dL_law_892 rfl rfl ?_
  refine s_iload_n dL_law_893 rfl rfl ?_
  refine s_iconst (v := 1) dL_law_894 (by decide) ?_
  refine s_iadd dL_law_895 ?_
  obtain ⟨g6, h⟩ := h
  refine s_scr dL_law_896 g6 ?_
  refine s_aload_n dL_law_897 rfl rfl ?_
  refine s_iload_n dL_law_898 rfl rfl ?_
  refine s_iconst (v := 2) dL_law_899 (by decide) ?_
  refine s_iadd dL_law_900 ?_
  obtain ⟨g7, h⟩ := h
  refine s_scr dL_law_901 g7 ?_
  refine s_aload_n dL_law_902 rfl rfl ?_
  refine s_iload_n dL_law_903 rfl rfl ?_
  refine s_iconst (v := 3) dL_law_904 (by decide) ?_
  refine s_iadd dL_law_905 ?_
  obtain ⟨g8, h⟩ := h
  refine s_scr dL_law_906 g8 ?_
  refine t_callV (M' := mX8_isSo) (k := 6) (As := [.int (gX g (x3 + 1).toNatClampNeg), .int (gX g (x3 + 2).toNatClampNeg), .int (gX g (x3 + 3).toNatClampNeg)]) (rest := [.int v5]) dL_law_907 ml_L_100 miX8_isSo msX8_isSo rfl (by decide) rfl rfl (Nat.le_of_ble_eq_true rfl) (Nat.le_of_ble_eq_true rfl) rfl h (fun rv t9 q => ?_)
  obtain ⟨v10, rfl, h⟩ := q
  show Rt g (d + 1) mL_law 910 [some (.ref 1000), some (.ref 0), some (.ref 57), some (.int x3)] [.int v10, .int v5] t9 Q
  refine s_icmp_eq (tgt := 1536) dL_law_910 (by decide) (fun c11 => ?_) (fun c11 => ?_)
  · replace h := h.1 c11
    exact h
  · replace h := h.2 c11
    refine s_iconst (v := 0) dL_law_913 (by decide) ?_
    exact t_iret dL_law_914 (NR_z rfl (Or.inl rfl)) h
set_option maxRecDepth 20000 in
theorem bL_law_915 {g : Gt} {d : Nat} {t : Tt} {Q : Option Value → Tt → Prop} {x3 : Int32} (h : vp_in (x3 + 1) (gL g) ∧ (vp_in (x3 + 2) (gL g) ∧ (vp_in (x3 + 3) (gL g) ∧ (Rt g d mX7_drawn 0 [some (.ref 0), some (.int (gX g (x3 + 1).toNatClampNeg)), some (.int (gX g (x3 + 2).toNatClampNeg)), some (.int (gX g (x3 + 3).toNatClampNeg)), none, none, none, none, none, none, none, none] [] t (QI (fun v5 t4 => vp_in (x3 + 1) (gL g) ∧ (vp_in (x3 + 2) (gL g) ∧ (vp_in (x3 + 3) (gL g) ∧ (Rt g d mX8_drawn 0 [some (.ref 57), some (.int (gX g (x3 + 1).toNatClampNeg)), some (.int (gX g (x3 + 2).toNatClampNeg)), some (.int (gX g (x3 + 3).toNatClampNeg)), none, none, none, none, none, none, none] [] t4 (QI (fun v10 t9 => (v5 = v10 → Rt g (d + 1) mL_law 1536 [some (.ref 1000), some (.ref 0), some (.ref 57), some (.int x3)] [] t9 Q) ∧ (¬ v5 = v10 → Q (some (.int 0)) t9)))))))))))) : Rt g (d + 1) mL_law 915 [some (.ref 1000), some (.ref 0), some (.ref 57), some (.int x3)] [] t Q := by
  refine s_aload_n dL_law_915 rfl rfl ?_
  refine s_aload_n dL_law_916 rfl rfl ?_
  refine s_iload_n dL_law_917 rfl rfl ?_
  refine s_iconst (v := 1) dL_law_918 (by decide) ?_
  refine s_iadd dL_law_919 ?_
  obtain ⟨g1, h⟩ := h
  refine s_scr dL_law_920 g1 ?_
  refine s_aload_n dL_law_921 rfl rfl ?_
  refine s_iload_n dL_law_922 rfl rfl ?_
  refine s_iconst (v := 2) dL_law_923 (by decide) ?_
  refine s_iadd dL_law_924 ?_
  obtain ⟨g2, h⟩ := h
  refine s_scr dL_law_925 g2 ?_
  refine s_aload_n dL_law_926 rfl rfl ?_
  refine s_iload_n dL_law_927 rfl rfl ?_
  refine s_iconst (v := 3) dL_law_928 (by decide) ?_
  refine s_iadd dL_law_929 ?_
  obtain ⟨g3, h⟩ := h
  refine s_scr dL_law_930 g3 ?_
  refine t_callV (M' := mX7_drawn) (k := 8) (As := [.int (gX g (x3 + 1).toNatClampNeg), .int (gX g (x3 + 2).toNatClampNeg), .int (gX g (x3 + 3).toNatClampNeg)]) (rest := []) dL_law_931 ml_L_101 miX7_drawn msX7_drawn rfl (by decide) rfl rfl (Nat.le_of_ble_eq_true rfl) (Nat.le_of_ble_eq_true rfl) rfl h (fun rv t4 q => ?_)
  obtain ⟨v5, rfl, h⟩ := q
  show Rt g (d + 1) mL_law 934 [some (.ref 1000), some (.ref 0), some (.ref 57), some (.int x3)] [.int v5] t4 Q
  refine s_aload_n dL_law_934 rfl rfl ?_
  refine s_aload_n dL_law_935 rfl rfl ?_
  refine s_iload_n dL_law_936 rfl rfl ?_
  refine s_iconst (v := 1) dL_law_937 (by decide) ?_
  refine s_iadd dL_law_938 ?_
  obtain ⟨g6, h⟩ := h
  refine s_scr dL_law_939 g6 ?_
  refine s_aload_n dL_law_940 rfl rfl ?_
  refine s_iload_n dL_law_941 rfl rfl ?_
  refine s_iconst (v := 2) dL_law_942 (by decide) ?_
  refine s_iadd dL_law_943 ?_
  obtain ⟨g7, h⟩ := h
  refine s_scr dL_law_944 g7 ?_
  refine s_aload_n dL_law_945 rfl rfl ?_
  refine s_iload_n dL_law_946 rfl rfl ?_
  refine s_iconst (v := 3) dL_law_947 (by decide) ?_
  refine s_iadd dL_law_948 ?_
  obtain ⟨g8, h⟩ := h
  refine s_scr dL_law_949 g8 ?_
  refine t_callV (M' := mX8_drawn) (k := 7) (As := [.int (gX g (x3 + 1).toNatClampNeg), .int (gX g (x3 + 2).toNatClampNeg), .int (gX g (x3 + 3).toNatClampNeg)]) (rest := [.int v5]) dL_law_950 ml_L_104 miX8_drawn msX8_drawn rfl (by decide) rfl rfl (Nat.le_of_ble_eq_true rfl) (Nat.le_of_ble_eq_true rfl) rfl h (fun rv t9 q => ?_)
  obtain ⟨v10, rfl, h⟩ := q
  show Rt g (d + 1) mL_law 953 [some (.ref 1000), some (.ref 0), some (.ref 57), some (.int x3)] [.int v10, .int v5] t9 Q
  refine s_icmp_eq (tgt := 1536) dL_law_953 (by decide) (fun c11 => ?_) (fun c11 => ?_)
  · replace h := h.1 c11
    exact h
  · replace h := h.2 c11
    refine s_iconst (v := 0) dL_law_956 (by decide) ?_
    exact t_iret dL_law_957 (NR_z rfl (Or.inl rfl)) h
set_option maxRecDepth 20000 in
theorem bL_law_958 {g : Gt} {d : Nat} {t : Tt} {Q : Option Value → Tt → Prop} {x3 : Int32} (h : vp_in (x3 + 1) (gL g) ∧ (vp_in (x3 + 2) (gL g) ∧ (Rt g d mX7_say 0 [some (.ref 0), some (.int (gX g (x3 + 1).toNatClampNeg)), some (.int (gX g (x3 + 2).toNatClampNeg)), none, none] [] t (QI (fun v4 t3 => vp_in (x3 + 1) (gL g) ∧ (vp_in (x3 + 2) (gL g) ∧ (Rt g d mX8_say 0 [some (.ref 57), some (.int (gX g (x3 + 1).toNatClampNeg)), some (.int (gX g (x3 + 2).toNatClampNeg)), none, none, none, none] [] t3 (QI (fun v8 t7 => (v4 = v8 → Rt g (d + 1) mL_law 1536 [some (.ref 1000), some (.ref 0), some (.ref 57), some (.int x3)] [] t7 Q) ∧ (¬ v4 = v8 → Q (some (.int 0)) t7)))))))))) : Rt g (d + 1) mL_law 958 [some (.ref 1000), some (.ref 0), some (.ref 57), some (.int x3)] [] t Q := by
  refine s_aload_n dL_law_958 rfl rfl ?_
  refine s_aload_n dL_law_959 rfl rfl ?_
  refine s_iload_n dL_law_960 rfl rfl ?_
  refine s_iconst (v := 1) dL_law_961 (by decide) ?_
  refine s_iadd dL_law_962 ?_
  obtain ⟨g1, h⟩ := h
  refine s_scr dL_law_963 g1 ?_
  refine s_aload_n dL_law_964 rfl rfl ?_
  refine s_iload_n dL_law_965 rfl rfl ?_
  refine s_iconst (v := 2) dL_law_966 (by decide) ?_
  refine s_iadd dL_law_967 ?_
  obtain ⟨g2, h⟩ := h
  refine s_scr dL_law_968 g2 ?_
  refine t_callV (M' := mX7_say) (k := 2) (As := [.int (gX g (x3 + 1).toNatClampNeg), .int (gX g (x3 + 2).toNatClampNeg)]) (rest := []) dL_law_969 ml_L_105 miX7_say msX7_say rfl (by decide) rfl rfl (Nat.le_of_ble_eq_true rfl) (Nat.le_of_ble_eq_true rfl) rfl h (fun rv t3 q => ?_)
  obtain ⟨v4, rfl, h⟩ := q
  show Rt g (d + 1) mL_law 972 [some (.ref 1000), some (.ref 0), some (.ref 57), some (.int x3)] [.int v4] t3 Q
  refine s_aload_n dL_law_972 rfl rfl ?_
  refine s_aload_n dL_law_973 rfl rfl ?_
  refine s_iload_n dL_law_974 rfl rfl ?_
  refine s_iconst (v := 1) dL_law_975 (by decide) ?_
  refine s_iadd dL_law_976 ?_
  obtain ⟨g5, h⟩ := h
  refine s_scr dL_law_977 g5 ?_
  refine s_aload_n dL_law_978 rfl rfl ?_
  refine s_iload_n dL_law_979 rfl rfl ?_
  refine s_iconst (v := 2) dL_law_980 (by decide) ?_
  refine s_iadd dL_law_981 ?_
  obtain ⟨g6, h⟩ := h
  refine s_scr dL_law_982 g6 ?_
  refine t_callV (M' := mX8_say) (k := 4) (As := [.int (gX g (x3 + 1).toNatClampNeg), .int (gX g (x3 + 2).toNatClampNeg)]) (rest := [.int v4]) dL_law_983 ml_L_108 miX8_say msX8_say rfl (by decide) rfl rfl (Nat.le_of_ble_eq_true rfl) (Nat.le_of_ble_eq_true rfl) rfl h (fun rv t7 q => ?_)
  obtain ⟨v8, rfl, h⟩ := q
  show Rt g (d + 1) mL_law 986 [some (.ref 1000), some (.ref 0), some (.ref 57), some (.int x3)] [.int v8, .int v4] t7 Q
  refine s_icmp_eq (tgt := 1536) dL_law_986 (by decide) (fun c9 => ?_) (fun c9 => ?_)
  · replace h := h.1 c9
    exact h
  · replace h := h.2 c9
    refine s_iconst (v := 0) dL_law_989 (by decide) ?_
    exact t_iret dL_law_990 (NR_z rfl (Or.inl rfl)) h
set_option maxRecDepth 20000 in
theorem bL_law_991 {g : Gt} {d : Nat} {t : Tt} {Q : Option Value → Tt → Prop} {x3 : Int32} (h : vp_in (x3 + 1) (gL g) ∧ (vp_in (x3 + 2) (gL g) ∧ (Rt g d mX7_lend 0 [some (.ref 0), some (.int (gX g (x3 + 1).toNatClampNeg)), some (.int (gX g (x3 + 2).toNatClampNeg))] [] t (QI (fun v4 t3 => vp_in (x3 + 1) (gL g) ∧ (vp_in (x3 + 2) (gL g) ∧ (Rt g d mX8_lend 0 [some (.ref 57), some (.int (gX g (x3 + 1).toNatClampNeg)), some (.int (gX g (x3 + 2).toNatClampNeg)), none, none, none, none] [] t3 (QI (fun v8 t7 => (v4 = v8 → Rt g (d + 1) mL_law 1536 [some (.ref 1000), some (.ref 0), some (.ref 57), some (.int x3)] [] t7 Q) ∧ (¬ v4 = v8 → Q (some (.int 0)) t7)))))))))) : Rt g (d + 1) mL_law 991 [some (.ref 1000), some (.ref 0), some (.ref 57), some (.int x3)] [] t Q := by
  refine s_aload_n dL_law_991 rfl rfl ?_
  refine s_aload_n dL_law_992 rfl rfl ?_
  refine s_iload_n dL_law_993 rfl rfl ?_
  refine s_iconst (v := 1) dL_law_994 (by decide) ?_
  refine s_iadd dL_law_995 ?_
  obtain ⟨g1, h⟩ := h
  refine s_scr dL_law_996 g1 ?_
  refine s_aload_n dL_law_997 rfl rfl ?_
  refine s_iload_n dL_law_998 rfl rfl ?_
  refine s_iconst (v := 2) dL_law_999 (by decide) ?_
  refine s_iadd dL_law_1000 ?_
  obtain ⟨g2, h⟩ := h
  refine s_scr dL_law_1001 g2 ?_
  refine t_callV (M' := mX7_lend) (k := 0) (As := [.int (gX g (x3 + 1).toNatClampNeg), .int (gX g (x3 + 2).toNatClampNeg)]) (rest := []) dL_law_1002 ml_L_109 miX7_lend msX7_lend rfl (by decide) rfl rfl (Nat.le_of_ble_eq_true rfl) (Nat.le_of_ble_eq_true rfl) rfl h (fun rv t3 q => ?_)
  obtain ⟨v4, rfl, h⟩ := q
  show Rt g (d + 1) mL_law 1005 [some (.ref 1000), some (.ref 0), some (.ref 57), some (.int x3)] [.int v4] t3 Q
  refine s_aload_n dL_law_1005 rfl rfl ?_
  refine s_aload_n dL_law_1006 rfl rfl ?_
  refine s_iload_n dL_law_1007 rfl rfl ?_
  refine s_iconst (v := 1) dL_law_1008 (by decide) ?_
  refine s_iadd dL_law_1009 ?_
  obtain ⟨g5, h⟩ := h
  refine s_scr dL_law_1010 g5 ?_
  refine s_aload_n dL_law_1011 rfl rfl ?_
  refine s_iload_n dL_law_1012 rfl rfl ?_
  refine s_iconst (v := 2) dL_law_1013 (by decide) ?_
  refine s_iadd dL_law_1014 ?_
  obtain ⟨g6, h⟩ := h
  refine s_scr dL_law_1015 g6 ?_
  refine t_callV (M' := mX8_lend) (k := 4) (As := [.int (gX g (x3 + 1).toNatClampNeg), .int (gX g (x3 + 2).toNatClampNeg)]) (rest := [.int v4]) dL_law_1016 ml_L_112 miX8_lend msX8_lend rfl (by decide) rfl rfl (Nat.le_of_ble_eq_true rfl) (Nat.le_of_ble_eq_true rfl) rfl h (fun rv t7 q => ?_)
  obtain ⟨v8, rfl, h⟩ := q
  show Rt g (d + 1) mL_law 1019 [some (.ref 1000), some (.ref 0), some (.ref 57), some (.int x3)] [.int v8, .int v4] t7 Q
  refine s_icmp_eq (tgt := 1536) dL_law_1019 (by decide) (fun c9 => ?_) (fun c9 => ?_)
  · replace h := h.1 c9
    exact h
  · replace h := h.2 c9
    refine s_iconst (v := 0) dL_law_1022 (by decide) ?_
    exact t_iret dL_law_1023 (NR_z rfl (Or.inl rfl)) h
set_option maxRecDepth 20000 in
theorem bL_law_1024 {g : Gt} {d : Nat} {t : Tt} {Q : Option Value → Tt → Prop} {x3 : Int32} (h : vp_in (x3 + 1) (gL g) ∧ (vp_in (x3 + 2) (gL g) ∧ (Rt g d mX7_cap 0 [some (.ref 0), some (.int (gX g (x3 + 1).toNatClampNeg)), some (.int (gX g (x3 + 2).toNatClampNeg))] [] t (QI (fun v4 t3 => vp_in (x3 + 1) (gL g) ∧ (vp_in (x3 + 2) (gL g) ∧ (Rt g d mX8_cap 0 [some (.ref 57), some (.int (gX g (x3 + 1).toNatClampNeg)), some (.int (gX g (x3 + 2).toNatClampNeg))] [] t3 (QI (fun v8 t7 => (v4 = v8 → Rt g (d + 1) mL_law 1536 [some (.ref 1000), some (.ref 0), some (.ref 57), some (.int x3)] [] t7 Q) ∧ (¬ v4 = v8 → Q (some (.int 0)) t7)))))))))) : Rt g (d + 1) mL_law 1024 [some (.ref 1000), some (.ref 0), some (.ref 57), some (.int x3)] [] t Q := by
  refine s_aload_n dL_law_1024 rfl rfl ?_
  refine s_aload_n dL_law_1025 rfl rfl ?_
  refine s_iload_n dL_law_1026 rfl rfl ?_
  refine s_iconst (v := 1) dL_law_1027 (by decide) ?_
  refine s_iadd dL_law_1028 ?_
  obtain ⟨g1, h⟩ := h
  refine s_scr dL_law_1029 g1 ?_
  refine s_aload_n dL_law_1030 rfl rfl ?_
  refine s_iload_n dL_law_1031 rfl rfl ?_
  refine s_iconst (v := 2) dL_law_1032 (by decide) ?_
  refine s_iadd dL_law_1033 ?_
  obtain ⟨g2, h⟩ := h
  refine s_scr dL_law_1034 g2 ?_
  refine t_callV (M' := mX7_cap) (k := 0) (As := [.int (gX g (x3 + 1).toNatClampNeg), .int (gX g (x3 + 2).toNatClampNeg)]) (rest := []) dL_law_1035 ml_L_113 miX7_cap msX7_cap rfl (by decide) rfl rfl (Nat.le_of_ble_eq_true rfl) (Nat.le_of_ble_eq_true rfl) rfl h (fun rv t3 q => ?_)
  obtain ⟨v4, rfl, h⟩ := q
  show Rt g (d + 1) mL_law 1038 [some (.ref 1000), some (.ref 0), some (.ref 57), some (.int x3)] [.int v4] t3 Q
  refine s_aload_n dL_law_1038 rfl rfl ?_
  refine s_aload_n dL_law_1039 rfl rfl ?_
  refine s_iload_n dL_law_1040 rfl rfl ?_
  refine s_iconst (v := 1) dL_law_1041 (by decide) ?_
  refine s_iadd dL_law_1042 ?_
  obtain ⟨g5, h⟩ := h
  refine s_scr dL_law_1043 g5 ?_
  refine s_aload_n dL_law_1044 rfl rfl ?_
  refine s_iload_n dL_law_1045 rfl rfl ?_
  refine s_iconst (v := 2) dL_law_1046 (by decide) ?_
  refine s_iadd dL_law_1047 ?_
  obtain ⟨g6, h⟩ := h
  refine s_scr dL_law_1048 g6 ?_
  refine t_callV (M' := mX8_cap) (k := 0) (As := [.int (gX g (x3 + 1).toNatClampNeg), .int (gX g (x3 + 2).toNatClampNeg)]) (rest := [.int v4]) dL_law_1049 ml_L_116 miX8_cap msX8_cap rfl (by decide) rfl rfl (Nat.le_of_ble_eq_true rfl) (Nat.le_of_ble_eq_true rfl) rfl h (fun rv t7 q => ?_)
  obtain ⟨v8, rfl, h⟩ := q
  show Rt g (d + 1) mL_law 1052 [some (.ref 1000), some (.ref 0), some (.ref 57), some (.int x3)] [.int v8, .int v4] t7 Q
  refine s_icmp_eq (tgt := 1536) dL_law_1052 (by decide) (fun c9 => ?_) (fun c9 => ?_)
  · replace h := h.1 c9
    exact h
  · replace h := h.2 c9
    refine s_iconst (v := 0) dL_law_1055 (by decide) ?_
    exact t_iret dL_law_1056 (NR_z rfl (Or.inl rfl)) h
set_option maxRecDepth 20000 in
theorem bL_law_1057 {g : Gt} {d : Nat} {t : Tt} {Q : Option Value → Tt → Prop} {x3 : Int32} (h : Rt g d mX7_year 0 [some (.ref 0), none, none] [] t (QI (fun v2 t1 => Rt g d mX8_year 0 [some (.ref 57), none, none] [] t1 (QI (fun v4 t3 => (v2 = v4 → Rt g (d + 1) mL_law 1536 [some (.ref 1000), some (.ref 0), some (.ref 57), some (.int x3)] [] t3 Q) ∧ (¬ v2 = v4 → Q (some (.int 0)) t3)))))) : Rt g (d + 1) mL_law 1057 [some (.ref 1000), some (.ref 0), some (.ref 57), some (.int x3)] [] t Q := by
  refine s_aload_n dL_law_1057 rfl rfl ?_
  refine t_callV (M' := mX7_year) (k := 2) (As := []) (rest := []) dL_law_1058 ml_L_117 miX7_year msX7_year rfl (by decide) rfl rfl (Nat.le_of_ble_eq_true rfl) (Nat.le_of_ble_eq_true rfl) rfl h (fun rv t1 q => ?_)
  obtain ⟨v2, rfl, h⟩ := q
  show Rt g (d + 1) mL_law 1061 [some (.ref 1000), some (.ref 0), some (.ref 57), some (.int x3)] [.int v2] t1 Q
  refine s_aload_n dL_law_1061 rfl rfl ?_
  refine t_callV (M' := mX8_year) (k := 2) (As := []) (rest := [.int v2]) dL_law_1062 ml_L_120 miX8_year msX8_year rfl (by decide) rfl rfl (Nat.le_of_ble_eq_true rfl) (Nat.le_of_ble_eq_true rfl) rfl h (fun rv t3 q => ?_)
  obtain ⟨v4, rfl, h⟩ := q
  show Rt g (d + 1) mL_law 1065 [some (.ref 1000), some (.ref 0), some (.ref 57), some (.int x3)] [.int v4, .int v2] t3 Q
  refine s_icmp_eq (tgt := 1536) dL_law_1065 (by decide) (fun c5 => ?_) (fun c5 => ?_)
  · replace h := h.1 c5
    exact h
  · replace h := h.2 c5
    refine s_iconst (v := 0) dL_law_1068 (by decide) ?_
    exact t_iret dL_law_1069 (NR_z rfl (Or.inl rfl)) h
set_option maxRecDepth 20000 in
theorem bL_law_1070 {g : Gt} {d : Nat} {t : Tt} {Q : Option Value → Tt → Prop} {x3 : Int32} (h : vp_in (x3 + 1) (gL g) ∧ (Rt g d mX7_led 0 [some (.ref 0), some (.int (gX g (x3 + 1).toNatClampNeg))] [] t (QI (fun v3 t2 => vp_in (x3 + 1) (gL g) ∧ (Rt g d mX8_led 0 [some (.ref 57), some (.int (gX g (x3 + 1).toNatClampNeg))] [] t2 (QI (fun v6 t5 => (v3 = v6 → Rt g (d + 1) mL_law 1536 [some (.ref 1000), some (.ref 0), some (.ref 57), some (.int x3)] [] t5 Q) ∧ (¬ v3 = v6 → Q (some (.int 0)) t5)))))))) : Rt g (d + 1) mL_law 1070 [some (.ref 1000), some (.ref 0), some (.ref 57), some (.int x3)] [] t Q := by
  refine s_aload_n dL_law_1070 rfl rfl ?_
  refine s_aload_n dL_law_1071 rfl rfl ?_
  refine s_iload_n dL_law_1072 rfl rfl ?_
  refine s_iconst (v := 1) dL_law_1073 (by decide) ?_
  refine s_iadd dL_law_1074 ?_
  obtain ⟨g1, h⟩ := h
  refine s_scr dL_law_1075 g1 ?_
  refine t_callV (M' := mX7_led) (k := 0) (As := [.int (gX g (x3 + 1).toNatClampNeg)]) (rest := []) dL_law_1076 ml_L_121 miX7_led msX7_led rfl (by decide) rfl rfl (Nat.le_of_ble_eq_true rfl) (Nat.le_of_ble_eq_true rfl) rfl h (fun rv t2 q => ?_)
  obtain ⟨v3, rfl, h⟩ := q
  show Rt g (d + 1) mL_law 1079 [some (.ref 1000), some (.ref 0), some (.ref 57), some (.int x3)] [.int v3] t2 Q
  refine s_aload_n dL_law_1079 rfl rfl ?_
  refine s_aload_n dL_law_1080 rfl rfl ?_
  refine s_iload_n dL_law_1081 rfl rfl ?_
  refine s_iconst (v := 1) dL_law_1082 (by decide) ?_
  refine s_iadd dL_law_1083 ?_
  obtain ⟨g4, h⟩ := h
  refine s_scr dL_law_1084 g4 ?_
  refine t_callV (M' := mX8_led) (k := 0) (As := [.int (gX g (x3 + 1).toNatClampNeg)]) (rest := [.int v3]) dL_law_1085 ml_L_124 miX8_led msX8_led rfl (by decide) rfl rfl (Nat.le_of_ble_eq_true rfl) (Nat.le_of_ble_eq_true rfl) rfl h (fun rv t5 q => ?_)
  obtain ⟨v6, rfl, h⟩ := q
  show Rt g (d + 1) mL_law 1088 [some (.ref 1000), some (.ref 0), some (.ref 57), some (.int x3)] [.int v6, .int v3] t5 Q
  refine s_icmp_eq (tgt := 1536) dL_law_1088 (by decide) (fun c7 => ?_) (fun c7 => ?_)
  · replace h := h.1 c7
    exact h
  · replace h := h.2 c7
    refine s_iconst (v := 0) dL_law_1091 (by decide) ?_
    exact t_iret dL_law_1092 (NR_z rfl (Or.inl rfl)) h
set_option maxRecDepth 20000 in
theorem bL_law_1093 {g : Gt} {d : Nat} {t : Tt} {Q : Option Value → Tt → Prop} {x3 : Int32} (h : Rt g d mX7_image 0 [some (.ref 0)] [] t (QI (fun v2 t1 => Rt g d mX8_image 0 [some (.ref 57), none] [] t1 (QI (fun v4 t3 => (v2 = v4 → Rt g (d + 1) mL_law 1536 [some (.ref 1000), some (.ref 0), some (.ref 57), some (.int x3)] [] t3 Q) ∧ (¬ v2 = v4 → Q (some (.int 0)) t3)))))) : Rt g (d + 1) mL_law 1093 [some (.ref 1000), some (.ref 0), some (.ref 57), some (.int x3)] [] t Q := by
  refine s_aload_n dL_law_1093 rfl rfl ?_
  refine t_callV (M' := mX7_image) (k := 0) (As := []) (rest := []) dL_law_1094 ml_L_125 miX7_image msX7_image rfl (by decide) rfl rfl (Nat.le_of_ble_eq_true rfl) (Nat.le_of_ble_eq_true rfl) rfl h (fun rv t1 q => ?_)
  obtain ⟨v2, rfl, h⟩ := q
  show Rt g (d + 1) mL_law 1097 [some (.ref 1000), some (.ref 0), some (.ref 57), some (.int x3)] [.int v2] t1 Q
  refine s_aload_n dL_law_1097 rfl rfl ?_
  refine t_callV (M' := mX8_image) (k := 1) (As := []) (rest := [.int v2]) dL_law_1098 ml_L_128 miX8_image msX8_image rfl (by decide) rfl rfl (Nat.le_of_ble_eq_true rfl) (Nat.le_of_ble_eq_true rfl) rfl h (fun rv t3 q => ?_)
  obtain ⟨v4, rfl, h⟩ := q
  show Rt g (d + 1) mL_law 1101 [some (.ref 1000), some (.ref 0), some (.ref 57), some (.int x3)] [.int v4, .int v2] t3 Q
  refine s_icmp_eq (tgt := 1536) dL_law_1101 (by decide) (fun c5 => ?_) (fun c5 => ?_)
  · replace h := h.1 c5
    exact h
  · replace h := h.2 c5
    refine s_iconst (v := 0) dL_law_1104 (by decide) ?_
    exact t_iret dL_law_1105 (NR_z rfl (Or.inl rfl)) h
set_option maxRecDepth 20000 in
theorem bL_law_1106 {g : Gt} {d : Nat} {t : Tt} {Q : Option Value → Tt → Prop} {x3 : Int32} (h : Rt g d mX7_back 0 [some (.ref 0)] [] t (QI (fun v2 t1 => Rt g d mX8_back 0 [some (.ref 57), none] [] t1 (QI (fun v4 t3 => (v2 = v4 → Rt g (d + 1) mL_law 1536 [some (.ref 1000), some (.ref 0), some (.ref 57), some (.int x3)] [] t3 Q) ∧ (¬ v2 = v4 → Q (some (.int 0)) t3)))))) : Rt g (d + 1) mL_law 1106 [some (.ref 1000), some (.ref 0), some (.ref 57), some (.int x3)] [] t Q := by
  refine s_aload_n dL_law_1106 rfl rfl ?_
  refine t_callV (M' := mX7_back) (k := 0) (As := []) (rest := []) dL_law_1107 ml_L_129 miX7_back msX7_back rfl (by decide) rfl rfl (Nat.le_of_ble_eq_true rfl) (Nat.le_of_ble_eq_true rfl) rfl h (fun rv t1 q => ?_)
  obtain ⟨v2, rfl, h⟩ := q
  show Rt g (d + 1) mL_law 1110 [some (.ref 1000), some (.ref 0), some (.ref 57), some (.int x3)] [.int v2] t1 Q
  refine s_aload_n dL_law_1110 rfl rfl ?_
  refine t_callV (M' := mX8_back) (k := 1) (As := []) (rest := [.int v2]) dL_law_1111 ml_L_132 miX8_back msX8_back rfl (by decide) rfl rfl (Nat.le_of_ble_eq_true rfl) (Nat.le_of_ble_eq_true rfl) rfl h (fun rv t3 q => ?_)
  obtain ⟨v4, rfl, h⟩ := q
  show Rt g (d + 1) mL_law 1114 [some (.ref 1000), some (.ref 0), some (.ref 57), some (.int x3)] [.int v4, .int v2] t3 Q
  refine s_icmp_eq (tgt := 1536) dL_law_1114 (by decide) (fun c5 => ?_) (fun c5 => ?_)
  · replace h := h.1 c5
    exact h
  · replace h := h.2 c5
    refine s_iconst (v := 0) dL_law_1117 (by decide) ?_
    exact t_iret dL_law_1118 (NR_z rfl (Or.inl rfl)) h
set_option maxRecDepth 20000 in
theorem bL_law_1119 {g : Gt} {d : Nat} {t : Tt} {Q : Option Value → Tt → Prop} {x3 : Int32} (h : Rt g d mX7_undo 0 [some (.ref 0), none] [] t (QI (fun v2 t1 => Rt g d mX8_undo 0 [some (.ref 57)] [] t1 (QI (fun v4 t3 => (v2 = v4 → Rt g (d + 1) mL_law 1536 [some (.ref 1000), some (.ref 0), some (.ref 57), some (.int x3)] [] t3 Q) ∧ (¬ v2 = v4 → Q (some (.int 0)) t3)))))) : Rt g (d + 1) mL_law 1119 [some (.ref 1000), some (.ref 0), some (.ref 57), some (.int x3)] [] t Q := by
  refine s_aload_n dL_law_1119 rfl rfl ?_
  refine t_callV (M' := mX7_undo) (k := 1) (As := []) (rest := []) dL_law_1120 ml_L_133 miX7_undo msX7_undo rfl (by decide) rfl rfl (Nat.le_of_ble_eq_true rfl) (Nat.le_of_ble_eq_true rfl) rfl h (fun rv t1 q => ?_)
  obtain ⟨v2, rfl, h⟩ := q
  show Rt g (d + 1) mL_law 1123 [some (.ref 1000), some (.ref 0), some (.ref 57), some (.int x3)] [.int v2] t1 Q
  refine s_aload_n dL_law_1123 rfl rfl ?_
  refine t_callV (M' := mX8_undo) (k := 0) (As := []) (rest := [.int v2]) dL_law_1124 ml_L_136 miX8_undo msX8_undo rfl (by decide) rfl rfl (Nat.le_of_ble_eq_true rfl) (Nat.le_of_ble_eq_true rfl) rfl h (fun rv t3 q => ?_)
  obtain ⟨v4, rfl, h⟩ := q
  show Rt g (d + 1) mL_law 1127 [some (.ref 1000), some (.ref 0), some (.ref 57), some (.int x3)] [.int v4, .int v2] t3 Q
  refine s_icmp_eq (tgt := 1536) dL_law_1127 (by decide) (fun c5 => ?_) (fun c5 => ?_)
  · replace h := h.1 c5
    exact h
  · replace h := h.2 c5
    refine s_iconst (v := 0) dL_law_1130 (by decide) ?_
    exact t_iret dL_law_1131 (NR_z rfl (Or.inl rfl)) h
set_option maxRecDepth 20000 in
theorem bL_law_1132 {g : Gt} {d : Nat} {t : Tt} {Q : Option Value → Tt → Prop} {x3 : Int32} (h : Rt g d mX7_redo 0 [some (.ref 0), none] [] t (QI (fun v2 t1 => Rt g d mX8_redo 0 [some (.ref 57)] [] t1 (QI (fun v4 t3 => (v2 = v4 → Rt g (d + 1) mL_law 1536 [some (.ref 1000), some (.ref 0), some (.ref 57), some (.int x3)] [] t3 Q) ∧ (¬ v2 = v4 → Q (some (.int 0)) t3)))))) : Rt g (d + 1) mL_law 1132 [some (.ref 1000), some (.ref 0), some (.ref 57), some (.int x3)] [] t Q := by
  refine s_aload_n dL_law_1132 rfl rfl ?_
  refine t_callV (M' := mX7_redo) (k := 1) (As := []) (rest := []) dL_law_1133 ml_L_137 miX7_redo msX7_redo rfl (by decide) rfl rfl (Nat.le_of_ble_eq_true rfl) (Nat.le_of_ble_eq_true rfl) rfl h (fun rv t1 q => ?_)
  obtain ⟨v2, rfl, h⟩ := q
  show Rt g (d + 1) mL_law 1136 [some (.ref 1000), some (.ref 0), some (.ref 57), some (.int x3)] [.int v2] t1 Q
  refine s_aload_n dL_law_1136 rfl rfl ?_
  refine t_callV (M' := mX8_redo) (k := 0) (As := []) (rest := [.int v2]) dL_law_1137 ml_L_140 miX8_redo msX8_redo rfl (by decide) rfl rfl (Nat.le_of_ble_eq_true rfl) (Nat.le_of_ble_eq_true rfl) rfl h (fun rv t3 q => ?_)
  obtain ⟨v4, rfl, h⟩ := q
  show Rt g (d + 1) mL_law 1140 [some (.ref 1000), some (.ref 0), some (.ref 57), some (.int x3)] [.int v4, .int v2] t3 Q
  refine s_icmp_eq (tgt := 1536) dL_law_1140 (by decide) (fun c5 => ?_) (fun c5 => ?_)
  · replace h := h.1 c5
    exact h
  · replace h := h.2 c5
    refine s_iconst (v := 0) dL_law_1143 (by decide) ?_
    exact t_iret dL_law_1144 (NR_z rfl (Or.inl rfl)) h
set_option maxRecDepth 20000 in
theorem bL_law_1145 {g : Gt} {d : Nat} {t : Tt} {Q : Option Value → Tt → Prop} {x3 : Int32} (h : vp_in (x3 + 1) (gL g) ∧ (Rt g d mX7_body 0 [some (.ref 0), some (.int (gX g (x3 + 1).toNatClampNeg))] [] t (QI (fun v3 t2 => vp_in (x3 + 1) (gL g) ∧ (Rt g d mX8_body 0 [some (.ref 57), some (.int (gX g (x3 + 1).toNatClampNeg))] [] t2 (QI (fun v6 t5 => (v3 = v6 → Rt g (d + 1) mL_law 1536 [some (.ref 1000), some (.ref 0), some (.ref 57), some (.int x3)] [] t5 Q) ∧ (¬ v3 = v6 → Q (some (.int 0)) t5)))))))) : Rt g (d + 1) mL_law 1145 [some (.ref 1000), some (.ref 0), some (.ref 57), some (.int x3)] [] t Q := by
  refine s_aload_n dL_law_1145 rfl rfl ?_
  refine s_aload_n dL_law_1146 rfl rfl ?_
  refine s_iload_n dL_law_1147 rfl rfl ?_
  refine s_iconst (v := 1) dL_law_1148 (by decide) ?_
  refine s_iadd dL_law_1149 ?_
  obtain ⟨g1, h⟩ := h
  refine s_scr dL_law_1150 g1 ?_
  refine t_callV (M' := mX7_body) (k := 0) (As := [.int (gX g (x3 + 1).toNatClampNeg)]) (rest := []) dL_law_1151 ml_L_141 miX7_body msX7_body rfl (by decide) rfl rfl (Nat.le_of_ble_eq_true rfl) (Nat.le_of_ble_eq_true rfl) rfl h (fun rv t2 q => ?_)
  obtain ⟨v3, rfl, h⟩ := q
  show Rt g (d + 1) mL_law 1154 [some (.ref 1000), some (.ref 0), some (.ref 57), some (.int x3)] [.int v3] t2 Q
  refine s_aload_n dL_law_1154 rfl rfl ?_
  refine s_aload_n dL_law_1155 rfl rfl ?_
  refine s_iload_n dL_law_1156 rfl rfl ?_
  refine s_iconst (v := 1) dL_law_1157 (by decide) ?_
  refine s_iadd dL_law_1158 ?_
  obtain ⟨g4, h⟩ := h
  refine s_scr dL_law_1159 g4 ?_
  refine t_callV (M' := mX8_body) (k := 0) (As := [.int (gX g (x3 + 1).toNatClampNeg)]) (rest := [.int v3]) dL_law_1160 ml_L_144 miX8_body msX8_body rfl (by decide) rfl rfl (Nat.le_of_ble_eq_true rfl) (Nat.le_of_ble_eq_true rfl) rfl h (fun rv t5 q => ?_)
  obtain ⟨v6, rfl, h⟩ := q
  show Rt g (d + 1) mL_law 1163 [some (.ref 1000), some (.ref 0), some (.ref 57), some (.int x3)] [.int v6, .int v3] t5 Q
  refine s_icmp_eq (tgt := 1536) dL_law_1163 (by decide) (fun c7 => ?_) (fun c7 => ?_)
  · replace h := h.1 c7
    exact h
  · replace h := h.2 c7
    refine s_iconst (v := 0) dL_law_1166 (by decide) ?_
    exact t_iret dL_law_1167 (NR_z rfl (Or.inl rfl)) h
set_option maxRecDepth 20000 in
theorem bL_law_1168 {g : Gt} {d : Nat} {t : Tt} {Q : Option Value → Tt → Prop} {x3 : Int32} (h : vp_in (x3 + 1) (gL g) ∧ (vp_in (x3 + 2) (gL g) ∧ (vp_in (x3 + 3) (gL g) ∧ (Rt g d mX7_act 0 [some (.ref 0), some (.int (gX g (x3 + 1).toNatClampNeg)), some (.int (gX g (x3 + 2).toNatClampNeg)), some (.int (gX g (x3 + 3).toNatClampNeg))] [] t (QI (fun v5 t4 => vp_in (x3 + 1) (gL g) ∧ (vp_in (x3 + 2) (gL g) ∧ (vp_in (x3 + 3) (gL g) ∧ (Rt g d mX8_act 0 [some (.ref 57), some (.int (gX g (x3 + 1).toNatClampNeg)), some (.int (gX g (x3 + 2).toNatClampNeg)), some (.int (gX g (x3 + 3).toNatClampNeg))] [] t4 (QI (fun v10 t9 => (v5 = v10 → Rt g (d + 1) mL_law 1536 [some (.ref 1000), some (.ref 0), some (.ref 57), some (.int x3)] [] t9 Q) ∧ (¬ v5 = v10 → Q (some (.int 0)) t9)))))))))))) : Rt g (d + 1) mL_law 1168 [some (.ref 1000), some (.ref 0), some (.ref 57), some (.int x3)] [] t Q := by
  refine s_aload_n dL_law_1168 rfl rfl ?_
  refine s_aload_n dL_law_1169 rfl rfl ?_
  refine s_iload_n dL_law_1170 rfl rfl ?_
  refine s_iconst (v := 1) dL_law_1171 (by decide) ?_
  refine s_iadd dL_law_1172 ?_
  obtain ⟨g1, h⟩ := h
  refine s_scr dL_law_1173 g1 ?_
  refine s_aload_n dL_law_1174 rfl rfl ?_
  refine s_iload_n dL_law_1175 rfl rfl ?_
  refine s_iconst (v := 2) dL_law_1176 (by decide) ?_
  refine s_iadd dL_law_1177 ?_
  obtain ⟨g2, h⟩ := h
  refine s_scr dL_law_1178 g2 ?_
  refine s_aload_n dL_law_1179 rfl rfl ?_
  refine s_iload_n dL_law_1180 rfl rfl ?_
  refine s_iconst (v := 3) dL_law_1181 (by decide) ?_
  refine s_iadd dL_law_1182 ?_
  obtain ⟨g3, h⟩ := h
  refine s_scr dL_law_1183 g3 ?_
  refine t_callV (M' := mX7_act) (k := 0) (As := [.int (gX g (x3 + 1).toNatClampNeg), .int (gX g (x3 + 2).toNatClampNeg), .int (gX g (x3 + 3).toNatClampNeg)]) (rest := []) dL_law_1184 ml_L_145 miX7_act msX7_act rfl (by decide) rfl rfl (Nat.le_of_ble_eq_true rfl) (Nat.le_of_ble_eq_true rfl) rfl h (fun rv t4 q => ?_)
  obtain ⟨v5, rfl, h⟩ := q
  show Rt g (d + 1) mL_law 1187 [some (.ref 1000), some (.ref 0), some (.ref 57), some (.int x3)] [.int v5] t4 Q
  refine s_aload_n dL_law_1187 rfl rfl ?_
  refine s_aload_n dL_law_1188 rfl rfl ?_
  refine s_iload_n dL_law_1189 rfl rfl ?_
  refine s_iconst (v := 1) dL_law_1190 (by decide) ?_
  refine s_iadd dL_law_1191 ?_
  obtain ⟨g6, h⟩ := h
  refine s_scr dL_law_1192 g6 ?_
  refine s_aload_n dL_law_1193 rfl rfl ?_
  refine s_iload_n dL_law_1194 rfl rfl ?_
  refine s_iconst (v := 2) dL_law_1195 (by decide) ?_
  refine s_iadd dL_law_1196 ?_
  obtain ⟨g7, h⟩ := h
  refine s_scr dL_law_1197 g7 ?_
  refine s_aload_n dL_law_1198 rfl rfl ?_
  refine s_iload_n dL_law_1199 rfl rfl ?_
  refine s_iconst (v := 3) dL_law_1200 (by decide) ?_
  refine s_iadd dL_law_1201 ?_
  obtain ⟨g8, h⟩ := h
  refine s_scr dL_law_1202 g8 ?_
  refine t_callV (M' := mX8_act) (k := 0) (As := [.int (gX g (x3 + 1).toNatClampNeg), .int (gX g (x3 + 2).toNatClampNeg), .int (gX g (x3 + 3).toNatClampNeg)]) (rest := [.int v5]) dL_law_1203 ml_L_148 miX8_act msX8_act rfl (by decide) rfl rfl (Nat.le_of_ble_eq_true rfl) (Nat.le_of_ble_eq_true rfl) rfl h (fun rv t9 q => ?_)
  obtain ⟨v10, rfl, h⟩ := q
  show Rt g (d + 1) mL_law 1206 [some (.ref 1000), some (.ref 0), some (.ref 57), some (.int x3)] [.int v10, .int v5] t9 Q
  refine s_icmp_eq (tgt := 1536) dL_law_1206 (by decide) (fun c11 => ?_) (fun c11 => ?_)
  · replace h := h.1 c11
    exact h
  · replace h := h.2 c11
    refine s_iconst (v := 0) dL_law_1209 (by decide) ?_
    exact t_iret dL_law_1210 (NR_z rfl (Or.inl rfl)) h
set_option maxRecDepth 20000 in
theorem bL_law_1211 {g : Gt} {d : Nat} {t : Tt} {Q : Option Value → Tt → Prop} {x3 : Int32} (h : vp_in (x3 + 1) (gL g) ∧ (Rt g d mX7_trace 0 [some (.ref 0), some (.int (gX g (x3 + 1).toNatClampNeg))] [] t (QI (fun v3 t2 => vp_in (x3 + 1) (gL g) ∧ (Rt g d mX8_trace 0 [some (.ref 57), some (.int (gX g (x3 + 1).toNatClampNeg))] [] t2 (QI (fun v6 t5 => (v3 = v6 → Rt g (d + 1) mL_law 1536 [some (.ref 1000), some (.ref 0), some (.ref 57), some (.int x3)] [] t5 Q) ∧ (¬ v3 = v6 → Q (some (.int 0)) t5)))))))) : Rt g (d + 1) mL_law 1211 [some (.ref 1000), some (.ref 0), some (.ref 57), some (.int x3)] [] t Q := by
  refine s_aload_n dL_law_1211 rfl rfl ?_
  refine s_aload_n dL_law_1212 rfl rfl ?_
  refine s_iload_n dL_law_1213 rfl rfl ?_
  refine s_iconst (v := 1) dL_law_1214 (by decide) ?_
  refine s_iadd dL_law_1215 ?_
  obtain ⟨g1, h⟩ := h
  refine s_scr dL_law_1216 g1 ?_
  refine t_callV (M' := mX7_trace) (k := 0) (As := [.int (gX g (x3 + 1).toNatClampNeg)]) (rest := []) dL_law_1217 ml_L_149 miX7_trace msX7_trace rfl (by decide) rfl rfl (Nat.le_of_ble_eq_true rfl) (Nat.le_of_ble_eq_true rfl) rfl h (fun rv t2 q => ?_)
  obtain ⟨v3, rfl, h⟩ := q
  show Rt g (d + 1) mL_law 1220 [some (.ref 1000), some (.ref 0), some (.ref 57), some (.int x3)] [.int v3] t2 Q
  refine s_aload_n dL_law_1220 rfl rfl ?_
  refine s_aload_n dL_law_1221 rfl rfl ?_
  refine s_iload_n dL_law_1222 rfl rfl ?_
  refine s_iconst (v := 1) dL_law_1223 (by decide) ?_
  refine s_iadd dL_law_1224 ?_
  obtain ⟨g4, h⟩ := h
  refine s_scr dL_law_1225 g4 ?_
  refine t_callV (M' := mX8_trace) (k := 0) (As := [.int (gX g (x3 + 1).toNatClampNeg)]) (rest := [.int v3]) dL_law_1226 ml_L_152 miX8_trace msX8_trace rfl (by decide) rfl rfl (Nat.le_of_ble_eq_true rfl) (Nat.le_of_ble_eq_true rfl) rfl h (fun rv t5 q => ?_)
  obtain ⟨v6, rfl, h⟩ := q
  show Rt g (d + 1) mL_law 1229 [some (.ref 1000), some (.ref 0), some (.ref 57), some (.int x3)] [.int v6, .int v3] t5 Q
  refine s_icmp_eq (tgt := 1536) dL_law_1229 (by decide) (fun c7 => ?_) (fun c7 => ?_)
  · replace h := h.1 c7
    exact h
  · replace h := h.2 c7
    refine s_iconst (v := 0) dL_law_1232 (by decide) ?_
    exact t_iret dL_law_1233 (NR_z rfl (Or.inl rfl)) h
set_option maxRecDepth 20000 in
theorem bL_law_1234 {g : Gt} {d : Nat} {t : Tt} {Q : Option Value → Tt → Prop} {x3 : Int32} (h : vp_in (x3 + 1) (gL g) ∧ (vp_in (x3 + 2) (gL g) ∧ (Rt g d mX7_keep 0 [some (.ref 0), some (.int (gX g (x3 + 1).toNatClampNeg)), some (.int (gX g (x3 + 2).toNatClampNeg))] [] t (QI (fun v4 t3 => vp_in (x3 + 1) (gL g) ∧ (vp_in (x3 + 2) (gL g) ∧ (Rt g d mX8_keep 0 [some (.ref 57), some (.int (gX g (x3 + 1).toNatClampNeg)), some (.int (gX g (x3 + 2).toNatClampNeg))] [] t3 (QI (fun v8 t7 => (v4 = v8 → Rt g (d + 1) mL_law 1536 [some (.ref 1000), some (.ref 0), some (.ref 57), some (.int x3)] [] t7 Q) ∧ (¬ v4 = v8 → Q (some (.int 0)) t7)))))))))) : Rt g (d + 1) mL_law 1234 [some (.ref 1000), some (.ref 0), some (.ref 57), some (.int x3)] [] t Q := by
  refine s_aload_n dL_law_1234 rfl rfl ?_
  refine s_aload_n dL_law_1235 rfl rfl ?_
  refine s_iload_n dL_law_1236 rfl rfl ?_
  refine s_iconst (v := 1) dL_law_1237 (by decide) ?_
  refine s_iadd dL_law_1238 ?_
  obtain ⟨g1, h⟩ := h
  refine s_scr dL_law_1239 g1 ?_
  refine s_aload_n dL_law_1240 rfl rfl ?_
  refine s_iload_n dL_law_1241 rfl rfl ?_
  refine s_iconst (v := 2) dL_law_1242 (by decide) ?_
  refine s_iadd dL_law_1243 ?_
  obtain ⟨g2, h⟩ := h
  refine s_scr dL_law_1244 g2 ?_
  refine t_callV (M' := mX7_keep) (k := 0) (As := [.int (gX g (x3 + 1).toNatClampNeg), .int (gX g (x3 + 2).toNatClampNeg)]) (rest := []) dL_law_1245 ml_L_153 miX7_keep msX7_keep rfl (by decide) rfl rfl (Nat.le_of_ble_eq_true rfl) (Nat.le_of_ble_eq_true rfl) rfl h (fun rv t3 q => ?_)
  obtain ⟨v4, rfl, h⟩ := q
  show Rt g (d + 1) mL_law 1248 [some (.ref 1000), some (.ref 0), some (.ref 57), some (.int x3)] [.int v4] t3 Q
  refine s_aload_n dL_law_1248 rfl rfl ?_
  refine s_aload_n dL_law_1249 rfl rfl ?_
  refine s_iload_n dL_law_1250 rfl rfl ?_
  refine s_iconst (v := 1) dL_law_1251 (by decide) ?_
  refine s_iadd dL_law_1252 ?_
  obtain ⟨g5, h⟩ := h
  refine s_scr dL_law_1253 g5 ?_
  refine s_aload_n dL_law_1254 rfl rfl ?_
  refine s_iload_n dL_law_1255 rfl rfl ?_
  refine s_iconst (v := 2) dL_law_1256 (by decide) ?_
  refine s_iadd dL_law_1257 ?_
  obtain ⟨g6, h⟩ := h
  refine s_scr dL_law_1258 g6 ?_
  refine t_callV (M' := mX8_keep) (k := 0) (As := [.int (gX g (x3 + 1).toNatClampNeg), .int (gX g (x3 + 2).toNatClampNeg)]) (rest := [.int v4]) dL_law_1259 ml_L_156 miX8_keep msX8_keep rfl (by decide) rfl rfl (Nat.le_of_ble_eq_true rfl) (Nat.le_of_ble_eq_true rfl) rfl h (fun rv t7 q => ?_)
  obtain ⟨v8, rfl, h⟩ := q
  show Rt g (d + 1) mL_law 1262 [some (.ref 1000), some (.ref 0), some (.ref 57), some (.int x3)] [.int v8, .int v4] t7 Q
  refine s_icmp_eq (tgt := 1536) dL_law_1262 (by decide) (fun c9 => ?_) (fun c9 => ?_)
  · replace h := h.1 c9
    exact h
  · replace h := h.2 c9
    refine s_iconst (v := 0) dL_law_1265 (by decide) ?_
    exact t_iret dL_law_1266 (NR_z rfl (Or.inl rfl)) h
set_option maxRecDepth 20000 in
theorem bL_law_1267 {g : Gt} {d : Nat} {t : Tt} {Q : Option Value → Tt → Prop} {x3 : Int32} (h : vp_in (x3 + 1) (gL g) ∧ (vp_in (x3 + 2) (gL g) ∧ (vp_in (x3 + 3) (gL g) ∧ (Rt g d mX7_row 0 [some (.ref 0), some (.int (gX g (x3 + 1).toNatClampNeg)), some (.int (gX g (x3 + 2).toNatClampNeg)), some (.int (gX g (x3 + 3).toNatClampNeg))] [] t (QI (fun v5 t4 => vp_in (x3 + 1) (gL g) ∧ (vp_in (x3 + 2) (gL g) ∧ (vp_in (x3 + 3) (gL g) ∧ (Rt g d mX8_row 0 [some (.ref 57), some (.int (gX g (x3 + 1).toNatClampNeg)), some (.int (gX g (x3 + 2).toNatClampNeg)), some (.int (gX g (x3 + 3).toNatClampNeg)), none] [] t4 (QI (fun v10 t9 => (v5 = v10 → Rt g (d + 1) mL_law 1536 [some (.ref 1000), some (.ref 0), some (.ref 57), some (.int x3)] [] t9 Q) ∧ (¬ v5 = v10 → Q (some (.int 0)) t9)))))))))))) : Rt g (d + 1) mL_law 1267 [some (.ref 1000), some (.ref 0), some (.ref 57), some (.int x3)] [] t Q := by
  refine s_aload_n dL_law_1267 rfl rfl ?_
  refine s_aload_n dL_law_1268 rfl rfl ?_
  refine s_iload_n dL_law_1269 rfl rfl ?_
  refine s_iconst (v := 1) dL_law_1270 (by decide) ?_
  refine s_iadd dL_law_1271 ?_
  obtain ⟨g1, h⟩ := h
  refine s_scr dL_law_1272 g1 ?_
  refine s_aload_n dL_law_1273 rfl rfl ?_
  refine s_iload_n dL_law_1274 rfl rfl ?_
  refine s_iconst (v := 2) dL_law_1275 (by decide) ?_
  refine s_iadd dL_law_1276 ?_
  obtain ⟨g2, h⟩ := h
  refine s_scr dL_law_1277 g2 ?_
  refine s_aload_n dL_law_1278 rfl rfl ?_
  refine s_iload_n dL_law_1279 rfl rfl ?_
  refine s_iconst (v := 3) dL_law_1280 (by decide) ?_
  refine s_iadd dL_law_1281 ?_
  obtain ⟨g3, h⟩ := h
  refine s_scr dL_law_1282 g3 ?_
  refine t_callV (M' := mX7_row) (k := 0) (As := [.int (gX g (x3 + 1).toNatClampNeg), .int (gX g (x3 + 2).toNatClampNeg), .int (gX g (x3 + 3).toNatClampNeg)]) (rest := []) dL_law_1283 ml_L_157 miX7_row msX7_row rfl (by decide) rfl rfl (Nat.le_of_ble_eq_true rfl) (Nat.le_of_ble_eq_true rfl) rfl h (fun rv t4 q => ?_)
  obtain ⟨v5, rfl, h⟩ := q
  show Rt g (d + 1) mL_law 1286 [some (.ref 1000), some (.ref 0), some (.ref 57), some (.int x3)] [.int v5] t4 Q
  refine s_aload_n dL_law_1286 rfl rfl ?_
  refine s_aload_n dL_law_1287 rfl rfl ?_
  refine s_iload_n dL_law_1288 rfl rfl ?_
  refine s_iconst (v := 1) dL_law_1289 (by decide) ?_
  refine s_iadd dL_law_1290 ?_
  obtain ⟨g6, h⟩ := h
  refine s_scr dL_law_1291 g6 ?_
  refine s_aload_n dL_law_1292 rfl rfl ?_
  refine s_iload_n dL_law_1293 rfl rfl ?_
  refine s_iconst (v := 2) dL_law_1294 (by decide) ?_
  refine s_iadd dL_law_1295 ?_
  obtain ⟨g7, h⟩ := h
  refine s_scr dL_law_1296 g7 ?_
  refine s_aload_n dL_law_1297 rfl rfl ?_
  refine s_iload_n dL_law_1298 rfl rfl ?_
  refine s_iconst (v := 3) dL_law_1299 (by decide) ?_
  refine s_iadd dL_law_1300 ?_
  obtain ⟨g8, h⟩ := h
  refine s_scr dL_law_1301 g8 ?_
  refine t_callV (M' := mX8_row) (k := 1) (As := [.int (gX g (x3 + 1).toNatClampNeg), .int (gX g (x3 + 2).toNatClampNeg), .int (gX g (x3 + 3).toNatClampNeg)]) (rest := [.int v5]) dL_law_1302 ml_L_160 miX8_row msX8_row rfl (by decide) rfl rfl (Nat.le_of_ble_eq_true rfl) (Nat.le_of_ble_eq_true rfl) rfl h (fun rv t9 q => ?_)
  obtain ⟨v10, rfl, h⟩ := q
  show Rt g (d + 1) mL_law 1305 [some (.ref 1000), some (.ref 0), some (.ref 57), some (.int x3)] [.int v10, .int v5] t9 Q
  refine s_icmp_eq (tgt := 1536) dL_law_1305 (by decide) (fun c11 => ?_) (fun c11 => ?_)
  · replace h := h.1 c11
    exact h
  · replace h := h.2 c11
    refine s_iconst (v := 0) dL_law_1308 (by decide) ?_
    exact t_iret dL_law_1309 (NR_z rfl (Or.inl rfl)) h
set_option maxRecDepth 20000 in
theorem bL_law_1310 {g : Gt} {d : Nat} {t : Tt} {Q : Option Value → Tt → Prop} {x3 : Int32} (h : vp_in (x3 + 1) (gL g) ∧ (vp_in (x3 + 2) (gL g) ∧ (vp_in (x3 + 3) (gL g) ∧ (vp_in (x3 + 4) (gL g) ∧ (Rt g d mX7_put 0 [some (.ref 0), some (.int (gX g (x3 + 1).toNatClampNeg)), some (.int (gX g (x3 + 2).toNatClampNeg)), some (.long ((((gX g (x3 + 3).toNatClampNeg).toInt64) <<< ((32 : Int32).toInt64 &&& 63)) ||| (((gX g (x3 + 4).toNatClampNeg).toInt64) &&& 4294967295))), none, none] [] t (QI (fun v6 t5 => vp_in (x3 + 1) (gL g) ∧ (vp_in (x3 + 2) (gL g) ∧ (vp_in (x3 + 3) (gL g) ∧ (vp_in (x3 + 4) (gL g) ∧ (Rt g d mX8_put 0 [some (.ref 57), some (.int (gX g (x3 + 1).toNatClampNeg)), some (.int (gX g (x3 + 2).toNatClampNeg)), some (.long ((((gX g (x3 + 3).toNatClampNeg).toInt64) <<< ((32 : Int32).toInt64 &&& 63)) ||| (((gX g (x3 + 4).toNatClampNeg).toInt64) &&& 4294967295))), none, none, none] [] t5 (QI (fun v12 t11 => (v6 = v12 → Rt g (d + 1) mL_law 1536 [some (.ref 1000), some (.ref 0), some (.ref 57), some (.int x3)] [] t11 Q) ∧ (¬ v6 = v12 → Q (some (.int 0)) t11)))))))))))))) : Rt g (d + 1) mL_law 1310 [some (.ref 1000), some (.ref 0), some (.ref 57), some (.int x3)] [] t Q := by
  refine s_aload_n dL_law_1310 rfl rfl ?_
  refine s_aload_n dL_law_1311 rfl rfl ?_
  refine s_iload_n dL_law_1312 rfl rfl ?_
  refine s_iconst (v := 1) dL_law_1313 (by decide) ?_
  refine s_iadd dL_law_1314 ?_
  obtain ⟨g1, h⟩ := h
  refine s_scr dL_law_1315 g1 ?_
  refine s_aload_n dL_law_1316 rfl rfl ?_
  refine s_iload_n dL_law_1317 rfl rfl ?_
  refine s_iconst (v := 2) dL_law_1318 (by decide) ?_
  refine s_iadd dL_law_1319 ?_
  obtain ⟨g2, h⟩ := h
  refine s_scr dL_law_1320 g2 ?_
  refine s_aload_n dL_law_1321 rfl rfl ?_
  refine s_iload_n dL_law_1322 rfl rfl ?_
  refine s_iconst (v := 3) dL_law_1323 (by decide) ?_
  refine s_iadd dL_law_1324 ?_
  obtain ⟨g3, h⟩ := h
  refine s_scr dL_law_1325 g3 ?_
  refine s_i2l dL_law_1326 ?_
  refine s_bipush (v := 32) dL_law_1327 (by decide) ?_
  refine s_lshl dL_law_1329 ?_
  refine s_aload_n dL_law_1330 rfl rfl ?_
  refine s_iload_n dL_law_1331 rfl rfl ?_
  refine s_iconst (v := 4) dL_law_1332 (by decide) ?_
  refine s_iadd dL_law_1333 ?_
  obtain ⟨g4, h⟩ := h
  refine s_scr dL_law_1334 g4 ?_
  refine s_i2l dL_law_1335 ?_
  refine s_ldc2 (v := 4294967295) dL_law_1336 cl_L_161 ?_
  refine s_land dL_law_1339 ?_
  refine s_lor dL_law_1340 ?_
  refine t_callV (M' := mX7_put) (k := 1) (As := [.int (gX g (x3 + 1).toNatClampNeg), .int (gX g (x3 + 2).toNatClampNeg), .long ((((gX g (x3 + 3).toNatClampNeg).toInt64) <<< ((32 : Int32).toInt64 &&& 63)) ||| (((gX g (x3 + 4).toNatClampNeg).toInt64) &&& 4294967295))]) (rest := []) dL_law_1341 ml_L_163 miX7_put msX7_put rfl (by decide) rfl rfl (Nat.le_of_ble_eq_true rfl) (Nat.le_of_ble_eq_true rfl) rfl h (fun rv t5 q => ?_)
  obtain ⟨v6, rfl, h⟩ := q
  show Rt g (d + 1) mL_law 1344 [some (.ref 1000), some (.ref 0), some (.ref 57), some (.int x3)] [.int v6] t5 Q
  refine s_aload_n dL_law_1344 rfl rfl ?_
  refine s_aload_n dL_law_1345 rfl rfl ?_
  refine s_iload_n dL_law_1346 rfl rfl ?_
  refine s_iconst (v := 1) dL_law_1347 (by decide) ?_
  refine s_iadd dL_law_1348 ?_
  obtain ⟨g7, h⟩ := h
  refine s_scr dL_law_1349 g7 ?_
  refine s_aload_n dL_law_1350 rfl rfl ?_
  refine s_iload_n dL_law_1351 rfl rfl ?_
  refine s_iconst (v := 2) dL_law_1352 (by decide) ?_
  refine s_iadd dL_law_1353 ?_
  obtain ⟨g8, h⟩ := h
  refine s_scr dL_law_1354 g8 ?_
  refine s_aload_n dL_law_1355 rfl rfl ?_
  refine s_iload_n dL_law_1356 rfl rfl ?_
  refine s_iconst (v := 3) dL_law_1357 (by decide) ?_
  refine s_iadd dL_law_1358 ?_
  obtain ⟨g9, h⟩ := h
  refine s_scr dL_law_1359 g9 ?_
  refine s_i2l dL_law_1360 ?_
  refine s_bipush (v := 32) dL_law_1361 (by decide) ?_
  refine s_lshl dL_law_1363 ?_
  refine s_aload_n dL_law_1364 rfl rfl ?_
  refine s_iload_n dL_law_1365 rfl rfl ?_
  refine s_iconst (v := 4) dL_law_1366 (by decide) ?_
  refine s_iadd dL_law_1367 ?_
  obtain ⟨g10, h⟩ := h
  refine s_scr dL_law_1368 g10 ?_
  refine s_i2l dL_law_1369 ?_
  refine s_ldc2 (v := 4294967295) dL_law_1370 cl_L_161 ?_
  refine s_land dL_law_1373 ?_
  refine s_lor dL_law_1374 ?_
  refine t_callV (M' := mX8_put) (k := 2) (As := [.int (gX g (x3 + 1).toNatClampNeg), .int (gX g (x3 + 2).toNatClampNeg), .long ((((gX g (x3 + 3).toNatClampNeg).toInt64) <<< ((32 : Int32).toInt64 &&& 63)) ||| (((gX g (x3 + 4).toNatClampNeg).toInt64) &&& 4294967295))]) (rest := [.int v6]) dL_law_1375 ml_L_167 miX8_put msX8_put rfl (by decide) rfl rfl (Nat.le_of_ble_eq_true rfl) (Nat.le_of_ble_eq_true rfl) rfl h (fun rv t11 q => ?_)
  obtain ⟨v12, rfl, h⟩ := q
  show Rt g (d + 1) mL_law 1378 [some (.ref 1000), some (.ref 0), some (.ref 57), some (.int x3)] [.int v12, .int v6] t11 Q
  refine s_icmp_eq (tgt := 1536) dL_law_1378 (by decide) (fun c13 => ?_) (fun c13 => ?_)
  · replace h := h.1 c13
    exact h
  · replace h := h.2 c13
    refine s_iconst (v := 0) dL_law_1381 (by decide) ?_
    exact t_iret dL_law_1382 (NR_z rfl (Or.inl rfl)) h
set_option maxRecDepth 20000 in
theorem bL_law_1383 {g : Gt} {d : Nat} {t : Tt} {Q : Option Value → Tt → Prop} {x3 : Int32} (h : vp_in (x3 + 1) (gL g) ∧ (vp_in (x3 + 2) (gL g) ∧ (Rt g d mX7_element 0 [some (.ref 0), some (.int (gX g (x3 + 1).toNatClampNeg)), some (.int (gX g (x3 + 2).toNatClampNeg))] [] t (QL (fun v4 t3 => vp_in (x3 + 1) (gL g) ∧ (vp_in (x3 + 2) (gL g) ∧ (Rt g d mX8_element 0 [some (.ref 57), some (.int (gX g (x3 + 1).toNatClampNeg)), some (.int (gX g (x3 + 2).toNatClampNeg))] [] t3 (QL (fun v8 t7 => (v4 = v8 → Rt g (d + 1) mL_law 1536 [some (.ref 1000), some (.ref 0), some (.ref 57), some (.int x3)] [] t7 Q) ∧ (¬ v4 = v8 → Q (some (.int 0)) t7)))))))))) : Rt g (d + 1) mL_law 1383 [some (.ref 1000), some (.ref 0), some (.ref 57), some (.int x3)] [] t Q := by
  refine s_aload_n dL_law_1383 rfl rfl ?_
  refine s_aload_n dL_law_1384 rfl rfl ?_
  refine s_iload_n dL_law_1385 rfl rfl ?_
  refine s_iconst (v := 1) dL_law_1386 (by decide) ?_
  refine s_iadd dL_law_1387 ?_
  obtain ⟨g1, h⟩ := h
  refine s_scr dL_law_1388 g1 ?_
  refine s_aload_n dL_law_1389 rfl rfl ?_
  refine s_iload_n dL_law_1390 rfl rfl ?_
  refine s_iconst (v := 2) dL_law_1391 (by decide) ?_
  refine s_iadd dL_law_1392 ?_
  obtain ⟨g2, h⟩ := h
  refine s_scr dL_law_1393 g2 ?_
  refine t_callV (M' := mX7_element) (k := 0) (As := [.int (gX g (x3 + 1).toNatClampNeg), .int (gX g (x3 + 2).toNatClampNeg)]) (rest := []) dL_law_1394 ml_L_168 miX7_element msX7_element rfl (by decide) rfl rfl (Nat.le_of_ble_eq_true rfl) (Nat.le_of_ble_eq_true rfl) rfl h (fun rv t3 q => ?_)
  obtain ⟨v4, rfl, h⟩ := q
  show Rt g (d + 1) mL_law 1397 [some (.ref 1000), some (.ref 0), some (.ref 57), some (.int x3)] [.long v4] t3 Q
  refine s_aload_n dL_law_1397 rfl rfl ?_
  refine s_aload_n dL_law_1398 rfl rfl ?_
  refine s_iload_n dL_law_1399 rfl rfl ?_
  refine s_iconst (v := 1) dL_law_1400 (by decide) ?_
  refine s_iadd dL_law_1401 ?_
  obtain ⟨g5, h⟩ := h
  refine s_scr dL_law_1402 g5 ?_
  refine s_aload_n dL_law_1403 rfl rfl ?_
  refine s_iload_n dL_law_1404 rfl rfl ?_
  refine s_iconst (v := 2) dL_law_1405 (by decide) ?_
  refine s_iadd dL_law_1406 ?_
  obtain ⟨g6, h⟩ := h
  refine s_scr dL_law_1407 g6 ?_
  refine t_callV (M' := mX8_element) (k := 0) (As := [.int (gX g (x3 + 1).toNatClampNeg), .int (gX g (x3 + 2).toNatClampNeg)]) (rest := [.long v4]) dL_law_1408 ml_L_172 miX8_element msX8_element rfl (by decide) rfl rfl (Nat.le_of_ble_eq_true rfl) (Nat.le_of_ble_eq_true rfl) rfl h (fun rv t7 q => ?_)
  obtain ⟨v8, rfl, h⟩ := q
  show Rt g (d + 1) mL_law 1411 [some (.ref 1000), some (.ref 0), some (.ref 57), some (.int x3)] [.long v8, .long v4] t7 Q
  refine t_cmp_eq (tgt := 1536) dL_law_1411 dL_law_1412 (by decide) (fun c9 => ?_) (fun c9 => ?_)
  · replace h := h.1 c9
    exact h
  · replace h := h.2 c9
    refine s_iconst (v := 0) dL_law_1415 (by decide) ?_
    exact t_iret dL_law_1416 (NR_z rfl (Or.inl rfl)) h
set_option maxRecDepth 20000 in
theorem bL_law_1417 {g : Gt} {d : Nat} {t : Tt} {Q : Option Value → Tt → Prop} {x3 : Int32} (h : vp_in (x3 + 1) (gL g) ∧ (vp_in (x3 + 2) (gL g) ∧ (vp_in (x3 + 3) (gL g) ∧ (vp_in (x3 + 4) (gL g) ∧ (vp_in (x3 + 5) (gL g) ∧ (Rt g d mX7_shift 0 [some (.ref 0), some (.int (gX g (x3 + 1).toNatClampNeg)), some (.int (gX g (x3 + 2).toNatClampNeg)), some (.int (gX g (x3 + 3).toNatClampNeg)), some (.int (gX g (x3 + 4).toNatClampNeg)), some (.int (gX g (x3 + 5).toNatClampNeg)), none, none] [] t (QI (fun v7 t6 => vp_in (x3 + 1) (gL g) ∧ (vp_in (x3 + 2) (gL g) ∧ (vp_in (x3 + 3) (gL g) ∧ (vp_in (x3 + 4) (gL g) ∧ (vp_in (x3 + 5) (gL g) ∧ (Rt g d mX8_shift 0 [some (.ref 57), some (.int (gX g (x3 + 1).toNatClampNeg)), some (.int (gX g (x3 + 2).toNatClampNeg)), some (.int (gX g (x3 + 3).toNatClampNeg)), some (.int (gX g (x3 + 4).toNatClampNeg)), some (.int (gX g (x3 + 5).toNatClampNeg)), none] [] t6 (QI (fun v14 t13 => (v7 = v14 → Rt g (d + 1) mL_law 1536 [some (.ref 1000), some (.ref 0), some (.ref 57), some (.int x3)] [] t13 Q) ∧ (¬ v7 = v14 → Q (some (.int 0)) t13)))))))))))))))) : Rt g (d + 1) mL_law 1417 [some (.ref 1000), some (.ref 0), some (.ref 57), some (.int x3)] [] t Q := by
  refine s_aload_n dL_law_1417 rfl rfl ?_
  refine s_aload_n dL_law_1418 rfl rfl ?_
  refine s_iload_n dL_law_1419 rfl rfl ?_
  refine s_iconst (v := 1) dL_law_1420 (by decide) ?_
  refine s_iadd dL_law_1421 ?_
  obtain ⟨g1, h⟩ := h
  refine s_scr dL_law_1422 g1 ?_
  refine s_aload_n dL_law_1423 rfl rfl ?_
  refine s_iload_n dL_law_1424 rfl rfl ?_
  refine s_iconst (v := 2) dL_law_1425 (by decide) ?_
  refine s_iadd dL_law_1426 ?_
  obtain ⟨g2, h⟩ := h
  refine s_scr dL_law_1427 g2 ?_
  refine s_aload_n dL_law_1428 rfl rfl ?_
  refine s_iload_n dL_law_1429 rfl rfl ?_
  refine s_iconst (v := 3) dL_law_1430 (by decide) ?_
  refine s_iadd dL_law_1431 ?_
  obtain ⟨g3, h⟩ := h
  refine s_scr dL_law_1432 g3 ?_
  refine s_aload_n dL_law_1433 rfl rfl ?_
  refine s_iload_n dL_law_1434 rfl rfl ?_
  refine s_iconst (v := 4) dL_law_1435 (by decide) ?_
  refine s_iadd dL_law_1436 ?_
  obtain ⟨g4, h⟩ := h
  refine s_scr dL_law_1437 g4 ?_
  refine s_aload_n dL_law_1438 rfl rfl ?_
  refine s_iload_n dL_law_1439 rfl rfl ?_
  refine s_iconst (v := 5) dL_law_1440 (by decide) ?_
  refine s_iadd dL_law_1441 ?_
  obtain ⟨g5, h⟩ := h
  refine s_scr dL_law_1442 g5 ?_
  refine t_callV (M' := mX7_shift) (k := 2) (As := [.int (gX g (x3 + 1).toNatClampNeg), .int (gX g (x3 + 2).toNatClampNeg), .int (gX g (x3 + 3).toNatClampNeg), .int (gX g (x3 + 4).toNatClampNeg), .int (gX g (x3 + 5).toNatClampNeg)]) (rest := []) dL_law_1443 ml_L_173 miX7_shift msX7_shift rfl (by decide) rfl rfl (Nat.le_of_ble_eq_true rfl) (Nat.le_of_ble_eq_true rfl) rfl h (fun rv t6 q => ?_)
  obtain ⟨v7, rfl, h⟩ := q
  show Rt g (d + 1) mL_law 1446 [some (.ref 1000), some (.ref 0), some (.ref 57), some (.int x3)] [.int v7] t6 Q
  refine s_aload_n dL_law_1446 rfl rfl ?_
  refine s_aload_n dL_law_1447 rfl rfl ?_
  refine s_iload_n dL_law_1448 rfl rfl ?_
  refine s_iconst (v := 1) dL_law_1449 (by decide) ?_
  refine s_iadd dL_law_1450 ?_
  obtain ⟨g8, h⟩ := h
  refine s_scr dL_law_1451 g8 ?_
  refine s_aload_n dL_law_1452 rfl rfl ?_
  refine s_iload_n dL_law_1453 rfl rfl ?_
  refine s_iconst (v := 2) dL_law_1454 (by decide) ?_
  refine s_iadd dL_law_1455 ?_
  obtain ⟨g9, h⟩ := h
  refine s_scr dL_law_1456 g9 ?_
  refine s_aload_n dL_law_1457 rfl rfl ?_
  refine s_iload_n dL_law_1458 rfl rfl ?_
  refine s_iconst (v := 3) dL_law_1459 (by decide) ?_
  refine s_iadd dL_law_1460 ?_
  obtain ⟨g10, h⟩ := h
  refine s_scr dL_law_1461 g10 ?_
  refine s_aload_n dL_law_1462 rfl rfl ?_
  refine s_iload_n dL_law_1463 rfl rfl ?_
  refine s_iconst (v := 4) dL_law_1464 (by decide) ?_
  refine s_iadd dL_law_1465 ?_
  obtain ⟨g11, h⟩ := h
  refine s_scr dL_law_1466 g11 ?_
  refine s_aload_n dL_law_1467 rfl rfl ?_
  refine s_iload_n dL_law_1468 rfl rfl ?_
  refine s_iconst (v := 5) dL_law_1469 (by decide) ?_
  refine s_iadd dL_law_1470 ?_
  obtain ⟨g12, h⟩ := h
  refine s_scr dL_law_1471 g12 ?_
  refine t_callV (M' := mX8_shift) (k := 1) (As := [.int (gX g (x3 + 1).toNatClampNeg), .int (gX g (x3 + 2).toNatClampNeg), .int (gX g (x3 + 3).toNatClampNeg), .int (gX g (x3 + 4).toNatClampNeg), .int (gX g (x3 + 5).toNatClampNeg)]) (rest := [.int v7]) dL_law_1472 ml_L_177 miX8_shift msX8_shift rfl (by decide) rfl rfl (Nat.le_of_ble_eq_true rfl) (Nat.le_of_ble_eq_true rfl) rfl h (fun rv t13 q => ?_)
  obtain ⟨v14, rfl, h⟩ := q
  show Rt g (d + 1) mL_law 1475 [some (.ref 1000), some (.ref 0), some (.ref 57), some (.int x3)] [.int v14, .int v7] t13 Q
  refine s_icmp_eq (tgt := 1536) dL_law_1475 (by decide) (fun c15 => ?_) (fun c15 => ?_)
  · replace h := h.1 c15
    exact h
  · replace h := h.2 c15
    refine s_iconst (v := 0) dL_law_1478 (by decide) ?_
    exact t_iret dL_law_1479 (NR_z rfl (Or.inl rfl)) h
set_option maxRecDepth 20000 in
theorem bL_law_1480 {g : Gt} {d : Nat} {t : Tt} {Q : Option Value → Tt → Prop} {x3 : Int32} (h : vp_in (x3 + 1) (gL g) ∧ (vp_in (x3 + 2) (gL g) ∧ (Rt g d mX7_taken 0 [some (.ref 0), some (.int (gX g (x3 + 1).toNatClampNeg)), some (.int (gX g (x3 + 2).toNatClampNeg)), none, none] [] t (QI (fun v4 t3 => vp_in (x3 + 1) (gL g) ∧ (vp_in (x3 + 2) (gL g) ∧ (Rt g d mX8_taken 0 [some (.ref 57), some (.int (gX g (x3 + 1).toNatClampNeg)), some (.int (gX g (x3 + 2).toNatClampNeg))] [] t3 (QI (fun v8 t7 => (v4 = v8 → Rt g (d + 1) mL_law 1536 [some (.ref 1000), some (.ref 0), some (.ref 57), some (.int x3)] [] t7 Q) ∧ (¬ v4 = v8 → Q (some (.int 0)) t7)))))))))) : Rt g (d + 1) mL_law 1480 [some (.ref 1000), some (.ref 0), some (.ref 57), some (.int x3)] [] t Q := by
  refine s_aload_n dL_law_1480 rfl rfl ?_
  refine s_aload_n dL_law_1481 rfl rfl ?_
  refine s_iload_n dL_law_1482 rfl rfl ?_
  refine s_iconst (v := 1) dL_law_1483 (by decide) ?_
  refine s_iadd dL_law_1484 ?_
  obtain ⟨g1, h⟩ := h
  refine s_scr dL_law_1485 g1 ?_
  refine s_aload_n dL_law_1486 rfl rfl ?_
  refine s_iload_n dL_law_1487 rfl rfl ?_
  refine s_iconst (v := 2) dL_law_1488 (by decide) ?_
  refine s_iadd dL_law_1489 ?_
  obtain ⟨g2, h⟩ := h
  refine s_scr dL_law_1490 g2 ?_
  refine t_callV (M' := mX7_taken) (k := 2) (As := [.int (gX g (x3 + 1).toNatClampNeg), .int (gX g (x3 + 2).toNatClampNeg)]) (rest := []) dL_law_1491 ml_L_178 miX7_taken msX7_taken rfl (by decide) rfl rfl (Nat.le_of_ble_eq_true rfl) (Nat.le_of_ble_eq_true rfl) rfl h (fun rv t3 q => ?_)
  obtain ⟨v4, rfl, h⟩ := q
  show Rt g (d + 1) mL_law 1494 [some (.ref 1000), some (.ref 0), some (.ref 57), some (.int x3)] [.int v4] t3 Q
  refine s_aload_n dL_law_1494 rfl rfl ?_
  refine s_aload_n dL_law_1495 rfl rfl ?_
  refine s_iload_n dL_law_1496 rfl rfl ?_
  refine s_iconst (v := 1) dL_law_1497 (by decide) ?_
  refine s_iadd dL_law_1498 ?_
  obtain ⟨g5, h⟩ := h
  refine s_scr dL_law_1499 g5 ?_
  refine s_aload_n dL_law_1500 rfl rfl ?_
  refine s_iload_n dL_law_1501 rfl rfl ?_
  refine s_iconst (v := 2) dL_law_1502 (by decide) ?_
  refine s_iadd dL_law_1503 ?_
  obtain ⟨g6, h⟩ := h
  refine s_scr dL_law_1504 g6 ?_
  refine t_callV (M' := mX8_taken) (k := 0) (As := [.int (gX g (x3 + 1).toNatClampNeg), .int (gX g (x3 + 2).toNatClampNeg)]) (rest := [.int v4]) dL_law_1505 ml_L_181 miX8_taken msX8_taken rfl (by decide) rfl rfl (Nat.le_of_ble_eq_true rfl) (Nat.le_of_ble_eq_true rfl) rfl h (fun rv t7 q => ?_)
  obtain ⟨v8, rfl, h⟩ := q
  show Rt g (d + 1) mL_law 1508 [some (.ref 1000), some (.ref 0), some (.ref 57), some (.int x3)] [.int v8, .int v4] t7 Q
  refine s_icmp_eq (tgt := 1536) dL_law_1508 (by decide) (fun c9 => ?_) (fun c9 => ?_)
  · replace h := h.1 c9
    exact h
  · replace h := h.2 c9
    refine s_iconst (v := 0) dL_law_1511 (by decide) ?_
    exact t_iret dL_law_1512 (NR_z rfl (Or.inl rfl)) h
set_option maxRecDepth 20000 in
theorem bL_law_1513 {g : Gt} {d : Nat} {t : Tt} {Q : Option Value → Tt → Prop} {x3 : Int32} (h : vp_in (x3 + 1) (gL g) ∧ (Rt g d mX7_count 0 [some (.ref 0), some (.int (gX g (x3 + 1).toNatClampNeg))] [] t (QI (fun v3 t2 => vp_in (x3 + 1) (gL g) ∧ (Rt g d mX8_count 0 [some (.ref 57), some (.int (gX g (x3 + 1).toNatClampNeg)), none, none] [] t2 (QI (fun v6 t5 => (v3 = v6 → Rt g (d + 1) mL_law 1536 [some (.ref 1000), some (.ref 0), some (.ref 57), some (.int x3)] [] t5 Q) ∧ (¬ v3 = v6 → Q (some (.int 0)) t5)))))))) : Rt g (d + 1) mL_law 1513 [some (.ref 1000), some (.ref 0), some (.ref 57), some (.int x3)] [] t Q := by
  refine s_aload_n dL_law_1513 rfl rfl ?_
  refine s_aload_n dL_law_1514 rfl rfl ?_
  refine s_iload_n dL_law_1515 rfl rfl ?_
  refine s_iconst (v := 1) dL_law_1516 (by decide) ?_
  refine s_iadd dL_law_1517 ?_
  obtain ⟨g1, h⟩ := h
  refine s_scr dL_law_1518 g1 ?_
  refine t_callV (M' := mX7_count) (k := 0) (As := [.int (gX g (x3 + 1).toNatClampNeg)]) (rest := []) dL_law_1519 ml_L_182 miX7_count msX7_count rfl (by decide) rfl rfl (Nat.le_of_ble_eq_true rfl) (Nat.le_of_ble_eq_true rfl) rfl h (fun rv t2 q => ?_)
  obtain ⟨v3, rfl, h⟩ := q
  show Rt g (d + 1) mL_law 1522 [some (.ref 1000), some (.ref 0), some (.ref 57), some (.int x3)] [.int v3] t2 Q
  refine s_aload_n dL_law_1522 rfl rfl ?_
  refine s_aload_n dL_law_1523 rfl rfl ?_
  refine s_iload_n dL_law_1524 rfl rfl ?_
  refine s_iconst (v := 1) dL_law_1525 (by decide) ?_
  refine s_iadd dL_law_1526 ?_
  obtain ⟨g4, h⟩ := h
  refine s_scr dL_law_1527 g4 ?_
  refine t_callV (M' := mX8_count) (k := 2) (As := [.int (gX g (x3 + 1).toNatClampNeg)]) (rest := [.int v3]) dL_law_1528 ml_L_185 miX8_count msX8_count rfl (by decide) rfl rfl (Nat.le_of_ble_eq_true rfl) (Nat.le_of_ble_eq_true rfl) rfl h (fun rv t5 q => ?_)
  obtain ⟨v6, rfl, h⟩ := q
  show Rt g (d + 1) mL_law 1531 [some (.ref 1000), some (.ref 0), some (.ref 57), some (.int x3)] [.int v6, .int v3] t5 Q
  refine s_icmp_eq (tgt := 1536) dL_law_1531 (by decide) (fun c7 => ?_) (fun c7 => ?_)
  · replace h := h.1 c7
    exact h
  · replace h := h.2 c7
    refine s_iconst (v := 0) dL_law_1534 (by decide) ?_
    exact t_iret dL_law_1535 (NR_z rfl (Or.inl rfl)) h
set_option maxRecDepth 20000 in
theorem bL_law_1536 {g : Gt} {d : Nat} {t : Tt} {Q : Option Value → Tt → Prop} {x3 : Int32} (h : Rt g (d + 1) mL_law 18 [some (.ref 1000), some (.ref 0), some (.ref 57), some (.int (x3 + 6))] [] t Q) : Rt g (d + 1) mL_law 1536 [some (.ref 1000), some (.ref 0), some (.ref 57), some (.int x3)] [] t Q := by
  refine s_iinc (w := x3 + 6) dL_law_1536 rfl (by rfl) (by decide) rfl (L9 := [some (.ref 1000), some (.ref 0), some (.ref 57), some (.int (x3 + 6))]) rfl ?_
  refine s_goto (tgt := 18) dL_law_1539 (by decide) ?_
  exact h
