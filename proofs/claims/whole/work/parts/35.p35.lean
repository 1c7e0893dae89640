/-! PURE LAYER: queries: takes, trial, tooth, gone, believed -/
section P35
variable {g : Gt} {d : Nat} {t : Tt} {a : Aa}
/-- both sides give one answer, and still show one state -/
abbrev KK (Q : Int32 → Int32 → Tt → Prop) : Prop := ∀ v t', (∃ a', Rel t' a') → Q v v t'
theorem sr_in1_g {x : Int32} {n : Nat} {P : Int32 → Tt → Prop} (hn : n ≤ 7) (hx : x = -1 ∨ gd x n) (h : P 1 t) : Rt g d mX8_in 0 [some (.int x), some (.int (-1)), some (.int (nI n - 1))] [] t (QI P) := by
  have e1 : (-1 : Int32).toInt = -1 := rfl
  have hm := m1_i (n := n) (by omega)
  have hx' : -1 ≤ x.toInt ∧ x.toInt ≤ (n : Int) - 1 := by
    rcases hx with rfl | hx
    · rw [e1]; omega
    · have := (gd_iff (by omega)).mp hx; omega
  apply bX8_in_0
  refine br_f (by rw [lt_i, e1]; omega) (br_f (by rw [lt_i]; omega) (qi h))
theorem sr_in1_b {x : Int32} {n : Nat} {P : Int32 → Tt → Prop} (hn : n ≤ 7) (hx : ¬ (x = -1 ∨ gd x n)) (h : P 0 t) : Rt g d mX8_in 0 [some (.int x), some (.int (-1)), some (.int (nI n - 1))] [] t (QI P) := by
  have e1 : (-1 : Int32).toInt = -1 := rfl
  have hm := m1_i (n := n) (by omega)
  apply bX8_in_0
  refine ⟨fun _ => qi h, fun c => ⟨fun _ => qi h, fun c2 => absurd ?_ hx⟩⟩
  rw [lt_i, e1] at c
  rw [lt_i] at c2
  by_cases h0 : x.toInt = -1
  · exact Or.inl (Int32.toInt_inj.mp (by rw [e1]; exact h0))
  · exact Or.inr ((gd_iff (by omega)).mpr ⟨by omega, by omega⟩)
theorem m1_n {k : Nat} (h : k < 2 ^ 31) : ¬ nI k = -1 := fun q => nI_pos h (by rw [q]; decide)
theorem both_trial {x y z : Int32} {Q : Int32 → Int32 → Tt → Prop} (h : Rel t a) (K : KK Q) : Rt g (d + 300) mX7_trial 0 [some (.ref 0), some (.int x), some (.int y), some (.int z), none] [] t (QI (fun v t1 => Rt g (d + 300) mX8_trial 0 [some (.ref 57), some (.int x), some (.int y), some (.int z), none] [] t1 (QI (fun w t2 => Q v w t2)))) := by
  have hn := h.n7
  apply bX7_trial_0
  by_cases h1 : gd x 6
  · refine sp_noShelf_g h1 (br_p rfl ?_)
    have c20 : (y = -1 ∨ gd y (pn (aP a))) → Rt g (d + 300) mX7_trial 20 [some (.ref 0), some (.int x), some (.int y), some (.int z), none] [] t (QI (fun v t1 => Rt g (d + 300) mX8_trial 0 [some (.ref 57), some (.int x), some (.int y), some (.int z), none] [] t1 (QI (fun w t2 => Q v w t2)))) := by
      intro h2
      have mod : ∀ (P : Int32 → Tt → Prop) t1, Rel t1 a → (Rt g (d + 299) mX8_in 0 [some (.int z), some (.int 0), some (.int 1)] [] t1 (QI (fun v8 t7 => (¬ v8 = 0 → Rt g (d + 299) mX8_layOr 0 [some (.ref 57), some (.int x), none] [] t7 (QI (fun v11 t10 => (0 ≤ v11 → (0 ≤ y → (¬ z = 0 → vp_in y 7 ∧ QI P (some (.int (t10.1 75 y.toNatClampNeg))) t10) ∧ (z = 0 → Rt g (d + 299) mX8_worthOf 0 [some (.ref 57), some (.int y)] [] t10 (QI (fun v17 t16 => QI P (some (.int v17)) t16)))) ∧ (¬ 0 ≤ y → QI P (some (.int (t10.1 57 33))) t10)) ∧ (¬ 0 ≤ v11 → QI P (some (.int v11)) t10)))) ∧ (v8 = 0 → QI P (some (.int (-1))) t7)))) → Rt g (d + 300) mX8_trial 0 [some (.ref 57), some (.int x), some (.int y), some (.int z), none] [] t1 (QI P) := by
        intro P t1 hr1 k
        apply bX8_trial_0
        refine sr_isShelf_g h1 (br_f (by decide) ?_)
        rw [hr1.pm]
        exact sr_in1_g hn h2 (br_f (by decide) k)
      apply bX7_trial_20
      obtain ⟨s, hs, rfl⟩ := h1
      by_cases h3 : gd z 2
      · refine sp_out_g (n := 2) rfl (by decide) h3 (br_t rfl ?_)
        refine sp_refusalOfBytes h hs ?_
        by_cases h4 : refB ((aH a).1 s) = 0
        · refine br_t h4 ?_
          refine sp_hear h hs h4 (fun t7 hf7 ht7 hs7 => ?_)
          have h7 := h.c hf7
          have hw := hdA_W h s
          obtain ⟨k, hk, rfl⟩ := h3
          refine ⟨fun c => ?_, fun c => ?_⟩
          · have h2' : gd y (pn (aP a)) := by rcases h2 with q | q; exact absurd q c; exact q
            obtain ⟨p, hp, rfl⟩ := h2'
            have hp' : p < pn (sP (hdA a s)) := by rw [hw.2.1]; exact hp
            have hy0 : (0 : Int32) ≤ nI p := nI_pos' (by omega)
            refine ⟨fun c2 => ⟨vpn (by omega), qi ?_⟩, fun c2 => ?_⟩
            · rw [ncl (by omega), hs7.1.2.2.2.2 p hp']
              refine mod _ t7 h7 (sr_in_g (n := 2) rfl (by decide) ⟨k, hk, rfl⟩ (br_n (by decide) (sr_layOr_g h7 hs h4 (fun t8 hf8 ht8 hs8 => br_t (by decide) (br_t hy0 (br_n c2 ⟨vpn (by omega), qi ?_⟩))))))
              rw [ncl (by omega), hs8.1.2.2.2.2 p hp']
              exact K _ _ ⟨a, h7.m hf8⟩
            · refine sp_worthOf mo17 hs7.1 hw.1 hp' (qi ?_)
              refine mod _ t7 h7 (sr_in_g (n := 2) rfl (by decide) ⟨k, hk, rfl⟩ (br_n (by decide) (sr_layOr_g h7 hs h4 (fun t8 hf8 ht8 hs8 => br_t (by decide) (br_t hy0 (br_p c2 ?_))))))
              exact sr_worthOf hs8.1 hw.1 hp' (qi (K _ _ ⟨a, h7.m hf8⟩))
          · subst c
            refine qi ?_
            rw [ht7.1]
            refine mod _ t7 h7 (sr_in_g (n := 2) rfl (by decide) ⟨k, hk, rfl⟩ (br_n (by decide) (sr_layOr_g h7 hs h4 (fun t8 hf8 ht8 hs8 => br_t (by decide) (br_f (by decide) (qi ?_))))))
            rw [ht8.1]
            exact K _ _ ⟨a, h7.m hf8⟩
        · refine br_f h4 (qi ?_)
          exact mod _ t h (sr_in_g (n := 2) rfl (by decide) h3 (br_n (by decide) (sr_layOr_b h hs h4 (br_f (refB_n h4).1 (qi (K _ _ ⟨a, h⟩))))))
      · refine sp_out_b (n := 2) rfl (by decide) h3 (br_f (by decide) (qi ?_))
        exact mod _ t h (sr_in_b (n := 2) rfl (by decide) h3 (br_p rfl (qi (K _ _ ⟨a, h⟩))))
    refine ⟨fun c => c20 (Or.inl c), fun c => ?_⟩
    by_cases h2 : gd y (pn (aP a))
    · exact sp_nobody_g h.pc hn h2 (br_p rfl (c20 (Or.inr h2)))
    · refine sp_nobody_b h.pc hn h2 (br_n (by decide) (qi ?_))
      apply bX8_trial_0
      refine sr_isShelf_g h1 (br_f (by decide) ?_)
      rw [h.pm]
      exact sr_in1_b hn (fun q => by rcases q with q | q; exact c q; exact h2 q) (br_t rfl (qi (K _ _ ⟨a, h⟩)))
  · refine sp_noShelf_b h1 (br_n (by decide) (qi ?_))
    apply bX8_trial_0
    exact sr_isShelf_b h1 (br_t rfl (qi (K _ _ ⟨a, h⟩)))
theorem both_takes {x y : Int32} {Q : Int32 → Int32 → Tt → Prop} (h : Rel t a) (K : KK Q) : Rt g (d + 300) mX7_takes 0 [some (.ref 0), some (.int x), some (.int y)] [] t (QI (fun v t1 => Rt g (d + 300) mX8_takes 0 [some (.ref 57), some (.int x), some (.int y)] [] t1 (QI (fun w t2 => Q v w t2)))) := by
  have hn := h.n7
  apply bX7_takes_0
  by_cases h1 : gd x (pn (aP a))
  · refine sp_nobody_g h.pc hn h1 (br_p rfl ?_)
    by_cases h2 : gd y 100
    · refine sp_out_g (n := 100) rfl (by decide) h2 (br_t rfl ⟨h.lw.1, ?_⟩)
      obtain ⟨p, hp, rfl⟩ := h1
      obtain ⟨k, hk, rfl⟩ := h2
      rw [l10, pk_div (by omega) (by decide) (by decide), jr_n (by omega) (by decide) (by decide)]
      refine sp_priceOf mo1 h.lw.1 h.2.1.1 h.pw hp (Nat.mod_lt _ (by decide)) h.lw.2.2.2 (fun t1 hf1 => qi ?_)
      have h1 := h.c (hf1.mo (fun o j q => Or.inr (Or.inr (Or.inl q))))
      apply bX8_takes_0
      refine sr_isPerson_g h1.pm hn ⟨p, hp, rfl⟩ (br_f (by decide) (br_f (nI_pos (by omega)) ?_))
      rw [l10, pk_div (by omega) (by decide) (by decide), jr_n (by omega) (by decide) (by decide)]
      refine sr_isFact_g ⟨k / 10, by omega, rfl⟩ (br_n (by decide) ?_)
      refine sr_beginMouths h1.2.2.1 h1.pw (fun t2 hf2 hm2 => ?_)
      have f2 : Fr MSc t1 t2 := hf2.mo (fun o j q => by unfold MSc; omega)
      refine sr_takesBy hm2 h1.pw hp (Nat.mod_lt _ (by decide)) (h1.m f2).lm (fun t3 hf3 => qi (K _ _ ⟨a, ?_⟩))
      exact (h1.m f2).m (hf3.mo (fun o j q => by unfold TkS at q; unfold MSc; omega))
    · refine sp_out_b (n := 100) rfl (by decide) h2 (br_f (by decide) (qi ?_))
      apply bX8_takes_0
      refine sr_isPerson_g h.pm hn h1 (br_f (by decide) ?_)
      refine ⟨fun _ => qi (K _ _ ⟨a, h⟩), fun c => ?_⟩
      obtain ⟨k, hk, e1, e2, e3⟩ := ten c
      rw [e2]
      refine sr_isFact_b (fun q => ?_) (br_p rfl (qi (K _ _ ⟨a, h⟩)))
      obtain ⟨j, hj, ej⟩ := q
      have := nI_inj (by omega) (by omega) ej
      exact h2 ⟨k, by omega, e1⟩
  · refine sp_nobody_b h.pc hn h1 (br_n (by decide) (qi ?_))
    apply bX8_takes_0
    exact sr_isPerson_b h.pm hn h1 (br_t rfl (qi (K _ _ ⟨a, h⟩)))
theorem both_gone {x : Int32} {Q : Int32 → Int32 → Tt → Prop} (h : Rel t a) (K : KK Q) : Rt g (d + 300) mX7_gone 0 [some (.ref 0), some (.int x), none] [] t (QI (fun v t1 => Rt g (d + 300) mX8_gone 0 [some (.ref 57), some (.int x), none] [] t1 (QI (fun w t2 => Q v w t2)))) := by
  apply bX7_gone_0
  by_cases h1 : gd x 6
  · refine sp_noShelf_g h1 (br_t rfl ?_)
    obtain ⟨s, hs, rfl⟩ := h1
    refine sp_refusalOfBytes h hs ?_
    apply bX7_gone_16
    by_cases h4 : refB ((aH a).1 s) = 0
    · refine br_t h4 ?_
      refine sp_hear h hs h4 (fun t7 hf7 ht7 hs7 => qi ?_)
      have h7 := h.c hf7
      rw [hs7.2.2.2.2]
      apply bX8_gone_0
      refine sr_isShelf_g ⟨s, hs, rfl⟩ (br_n (by decide) (sr_layOr_g h7 hs h4 (fun t8 hf8 ht8 hs8 => br_t (by decide) (qi ?_))))
      rw [hs8.2.2.2]
      exact K _ _ ⟨a, h7.m hf8⟩
    · refine br_f h4 (qi ?_)
      apply bX8_gone_0
      exact sr_isShelf_g ⟨s, hs, rfl⟩ (br_n (by decide) (sr_layOr_b h hs h4 (br_f (refB_n h4).1 (qi (K _ _ ⟨a, h⟩)))))
  · refine sp_noShelf_b h1 (br_f (by decide) ?_)
    apply bX7_gone_16
    refine br_f (by decide) (qi ?_)
    apply bX8_gone_0
    exact sr_isShelf_b h1 (br_p rfl (qi (K _ _ ⟨a, h⟩)))
theorem both_believed {x y : Int32} {Q : Int32 → Int32 → Tt → Prop} (h : Rel t a) (K : KK Q) : Rt g (d + 300) mX7_believed 0 [some (.ref 0), some (.int x), some (.int y), none] [] t (QI (fun v t1 => Rt g (d + 300) mX8_believed 0 [some (.ref 57), some (.int x), some (.int y), none] [] t1 (QI (fun w t2 => Q v w t2)))) := by
  apply bX7_believed_0
  by_cases h1 : gd x 6
  · refine sp_noShelf_g h1 (br_p rfl ?_)
    obtain ⟨s, hs, rfl⟩ := h1
    by_cases h2 : gd y 10
    · refine sp_out_g (n := 10) rfl (by decide) h2 (br_t rfl ?_)
      refine sp_refusalOfBytes h hs ?_
      have mod : ∀ (P : Int32 → Tt → Prop) t1, Rt g (d + 299) mX8_layOr 0 [some (.ref 57), some (.int (nI s)), none] [] t1 (QI (fun v8 t7 => (0 ≤ v8 → Rt g (d + 299) mX8_believedNow 0 [some (.ref 57), some (.int y), none, none, none] [] t7 (QI (fun v11 t10 => QI P (some (.int v11)) t10))) ∧ (¬ 0 ≤ v8 → QI P (some (.int v8)) t7))) → Rt g (d + 300) mX8_believed 0 [some (.ref 57), some (.int (nI s)), some (.int y), none] [] t1 (QI P) := by
        intro P t1 k
        apply bX8_believed_0
        exact sr_isShelf_g ⟨s, hs, rfl⟩ (br_f (by decide) (sr_isFact_g h2 (br_n (by decide) k)))
      by_cases h4 : refB ((aH a).1 s) = 0
      · refine br_t h4 ?_
        have hw := hdA_W h s
        obtain ⟨f, hf, rfl⟩ := h2
        refine sp_hear h hs h4 (fun t7 hf7 ht7 hs7 => ?_)
        have h7 := h.c hf7
        refine sp_beliefIn hs7 hw hf (qi ?_)
        refine mod _ _ (sr_layOr_g h7 hs h4 (fun t8 hf8 ht8 hs8 => br_t (by decide) ?_))
        exact sr_believedNow hs8 hw hf (qi (K _ _ ⟨a, h7.m hf8⟩))
      · refine br_f h4 (qi ?_)
        exact mod _ _ (sr_layOr_b h hs h4 (br_f (refB_n h4).1 (qi (K _ _ ⟨a, h⟩))))
    · refine sp_out_b (n := 10) rfl (by decide) h2 (br_f (by decide) (qi ?_))
      apply bX8_believed_0
      exact sr_isShelf_g ⟨s, hs, rfl⟩ (br_f (by decide) (sr_isFact_b h2 (br_p rfl (qi (K _ _ ⟨a, h⟩)))))
  · refine sp_noShelf_b h1 (br_n (by decide) (qi ?_))
    apply bX8_believed_0
    exact sr_isShelf_b h1 (br_t rfl (qi (K _ _ ⟨a, h⟩)))
/-- a tooth is 10 times one, and the tooth -/
def gto (x : Int32) (n : Nat) : Prop := ∃ p k, p < n ∧ k < 8 ∧ x = nI (10 * p + k)
theorem sp_noTooth_g {p k n : Nat} {P : Int32 → Tt → Prop} (hp : t.1 1 0 = nI n) (hn : n ≤ 7) (h1 : p < n) (h2 : k < 8) (h : P 0 t) : Rt g (d + 2) mX7_noTooth 0 [some (.ref 0), some (.int (nI (10 * p + k)))] [] t (QI P) := by
  apply bX7_noTooth_0
  refine br_f (nI_pos (by omega)) ?_
  rw [l10, pk_div (by omega) (by decide) (by decide), jr_n (by omega) (by decide) (by decide), show (10 * p + k) / 10 = p by omega, show (10 * p + k) % 10 = k by omega]
  exact sp_nobody_g hp hn ⟨p, h1, rfl⟩ (br_p rfl (br_t (nI_lt (b := 8) h2 (by decide)) (qi h)))
theorem sp_noTooth_b {x : Int32} {n : Nat} {P : Int32 → Tt → Prop} (hp : t.1 1 0 = nI n) (hn : n ≤ 7) (hx : ¬ gto x n) (h : P 1 t) : Rt g (d + 2) mX7_noTooth 0 [some (.ref 0), some (.int x)] [] t (QI P) := by
  apply bX7_noTooth_0
  refine ⟨fun _ => bX7_noTooth_24 (qi h), fun c => ?_⟩
  obtain ⟨k, hk, e1, e2, e3⟩ := ten c
  rw [e2, e3]
  by_cases h1 : gd (nI (k / 10)) n
  · refine sp_nobody_g hp hn h1 (br_p rfl ⟨fun c2 => absurd ?_ hx, fun _ => bX7_noTooth_24 (qi h)⟩)
    obtain ⟨j, hj, ej⟩ := h1
    have := nI_inj (by omega) (by omega) ej
    have h2 : k % 10 < 8 := (nI_ltI (b := 8) (by omega) (by decide)).mp c2
    exact ⟨k / 10, k % 10, by omega, h2, by rw [e1]; congr 1; omega⟩
  · exact sp_nobody_b hp hn h1 (br_n (by decide) (bX7_noTooth_24 (qi h)))
theorem both_tooth {x y : Int32} {Q : Int32 → Int32 → Tt → Prop} (h : Rel t a) (K : KK Q) : Rt g (d + 300) mX7_tooth 0 [some (.ref 0), some (.int x), some (.int y), none] [] t (QI (fun v t1 => Rt g (d + 300) mX8_tooth 0 [some (.ref 57), some (.int x), some (.int y), none] [] t1 (QI (fun w t2 => Q v w t2)))) := by
  have hn := h.n7
  apply bX7_tooth_0
  by_cases h1 : gd x 6
  · refine sp_noShelf_g h1 (br_p rfl ?_)
    obtain ⟨s, hs, rfl⟩ := h1
    by_cases h2 : gto y (pn (aP a))
    · obtain ⟨p, k, hp, hk, rfl⟩ := h2
      refine sp_noTooth_g h.pc hn hp hk (br_t rfl ?_)
      refine sp_refusalOfBytes h hs ?_
      rw [l10, pk_div (by omega) (by decide) (by decide), jr_n (by omega) (by decide) (by decide), show (10 * p + k) / 10 = p by omega, show (10 * p + k) % 10 = k by omega]
      have mod : ∀ (P : Int32 → Tt → Prop) t1, Rel t1 a → Rt g (d + 299) mX8_layOr 0 [some (.ref 57), some (.int (nI s)), none] [] t1 (QI (fun v10 t9 => (0 ≤ v10 → vp_in (nI (8 * p + k)) 56 ∧ QI P (some (.int (t9.1 74 (nI (8 * p + k)).toNatClampNeg))) t9) ∧ (¬ 0 ≤ v10 → QI P (some (.int v10)) t9))) → Rt g (d + 300) mX8_tooth 0 [some (.ref 57), some (.int (nI s)), some (.int (nI (10 * p + k))), none] [] t1 (QI P) := by
        intro P t1 hr1 kk
        apply bX8_tooth_0
        refine sr_isShelf_g ⟨s, hs, rfl⟩ (br_f (by decide) (br_f (nI_pos (by omega)) ?_))
        rw [l10, pk_div (by omega) (by decide) (by decide), jr_n (by omega) (by decide) (by decide), show (10 * p + k) / 10 = p by omega, show (10 * p + k) % 10 = k by omega, ix8']
        exact sr_isPerson_g hr1.pm hn ⟨p, hp, rfl⟩ (br_f (by decide) (br_t (nI_lt (b := 8) hk (by decide)) kk))
      by_cases h4 : refB ((aH a).1 s) = 0
      · refine br_t h4 ?_
        have hw := hdA_W h s
        have hp' : p < pn (sP (hdA a s)) := by rw [hw.2.1]; exact hp
        refine sp_hear h hs h4 (fun t7 hf7 ht7 hs7 => ?_)
        have h7 := h.c hf7
        rw [ix8]
        refine ⟨vpn (by omega), qi ?_⟩
        rw [ncl (by omega), hs7.1.2.2.1 p hp' k hk]
        refine mod _ _ h7 (sr_layOr_g h7 hs h4 (fun t8 hf8 ht8 hs8 => br_t (by decide) ⟨vpn (by omega), qi ?_⟩))
        rw [ncl (by omega), hs8.1.2.2.1 p hp' k hk]
        exact K _ _ ⟨a, h7.m hf8⟩
      · refine br_f h4 (qi ?_)
        exact mod _ _ h (sr_layOr_b h hs h4 (br_f (refB_n h4).1 (qi (K _ _ ⟨a, h⟩))))
    · refine sp_noTooth_b h.pc hn h2 (br_f (by decide) (qi ?_))
      apply bX8_tooth_0
      refine sr_isShelf_g ⟨s, hs, rfl⟩ (br_f (by decide) ⟨fun _ => qi (K _ _ ⟨a, h⟩), fun c => ?_⟩)
      obtain ⟨k, hk, e1, e2, e3⟩ := ten c
      rw [e2, e3]
      by_cases h5 : gd (nI (k / 10)) (pn (aP a))
      · refine sr_isPerson_g h.pm hn h5 (br_f (by decide) ⟨fun c2 => absurd ?_ h2, fun _ => qi (K _ _ ⟨a, h⟩)⟩)
        obtain ⟨j, hj, ej⟩ := h5
        have := nI_inj (by omega) (by omega) ej
        have h8 : k % 10 < 8 := (nI_ltI (b := 8) (by omega) (by decide)).mp c2
        exact ⟨k / 10, k % 10, by omega, h8, by rw [e1]; congr 1; omega⟩
      · exact sr_isPerson_b h.pm hn h5 (br_t rfl (qi (K _ _ ⟨a, h⟩)))
  · refine sp_noShelf_b h1 (br_n (by decide) (qi ?_))
    apply bX8_tooth_0
    exact sr_isShelf_b h1 (br_t rfl (qi (K _ _ ⟨a, h⟩)))
end P35
