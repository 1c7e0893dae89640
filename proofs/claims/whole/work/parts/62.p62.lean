/-! PURE LAYER: body, trace -/
section P62
variable {g : Gt} {d : Nat} {t t1 : Tt} {a : Aa}
theorem RC.bo {S : Nat → Nat → Prop} {b : Bo} (h : RC t a) (f : Fr S t t1) (hS : ∀ o j, S o j → 27 ≤ o ∧ o ≤ 29) (hb : boC t1 b) : RC t1 (setB a b) := by
  obtain ⟨h1, h2, h3, h4, h5, h6, h7, h8, h9⟩ := h
  exact ⟨c_mo h1 f (fun o j q => by have := hS o j q; omega), c_so h2 f (fun o j q => by have := hS o j q; omega), c_ch h3 f (fun o j q => by have := hS o j q; omega), c_tp h4 f (fun o j q => by have := hS o j q; omega), c_lw h5 f (fun o j q => by have := hS o j q; omega), c_im h6 f (fun o j q => by have := hS o j q; omega), c_dd h7 f (fun o j q => by have := hS o j q; omega), hb, c_sh h9 f (fun o j q => by have := hS o j q; omega)⟩
theorem RF.bo {S : Nat → Nat → Prop} {b : Bo} (h : RF t a) (f : Fr S t t1) (hS : ∀ o j, S o j → (o = 57 ∧ (j = 45 ∨ j = 47)) ∨ o = 87 ∨ o = 88) (hb : boM t1 b) : RF t1 (setB a b) := by
  obtain ⟨h1, h2, h3, h4, h5, h6, h7, h8, h9⟩ := h
  exact ⟨m_mo h1 f (fun o j q => by have := hS o j q; omega), m_so h2 f (fun o j q => by have := hS o j q; omega), m_ch h3 f (fun o j q => by have := hS o j q; omega), m_tp h4 f (fun o j q => by have := hS o j q; omega), m_lw h5 f (fun o j q => by have := hS o j q; omega), m_im h6 f (fun o j q => by have := hS o j q; omega), m_dd h7 f (fun o j q => by have := hS o j q; omega), hb, m_sh h9 f (fun o j q => by have := hS o j q; omega)⟩
theorem shW.mono {n m : Nat} {x : Sh} (h : shW n x) (hm : n ≤ m) : shW m x := by
  intro s hs
  rcases h s hs with q | q | q
  · exact Or.inl q
  · exact Or.inr (Or.inl ⟨q.1, by omega⟩)
  · exact Or.inr (Or.inr q)
theorem both_body {x : Int32} {Q : Int32 → Int32 → Tt → Prop} (h : Rel t a) (K : KK Q) : Rt g (d + 300) mX7_body 0 [some (.ref 0), some (.int x)] [] t (QI (fun v t1 => Rt g (d + 300) mX8_body 0 [some (.ref 57), some (.int x)] [] t1 (QI (fun w t2 => Q v w t2)))) := by
  obtain ⟨hb1, hb2, hb3⟩ := h.1.2.2.2.2.2.1
  obtain ⟨c1, c2, c3, c4⟩ := h.2.1.2.2.2.2.2.2.2.1
  have hm := h.2.2.2.2.2.2.2.2.2.1
  apply bX7_body_0
  by_cases h1 : gd x 8
  · refine sp_out_g (n := 8) rfl (by decide) h1 (br_t rfl ?_)
    apply bX0_bear_0
    rw [c1]
    by_cases h50 : (aB a).1 < 50
    · obtain ⟨k, hk, rfl⟩ := h1
      rw [pI_o _ _ _ _ (show 27 ≠ 28 by decide), c1, nI_1, pI_s, nI_pred]
      refine br_t (nI_lt (b := 50) h50 (by decide)) ⟨vpn h50, qi (qi ?_)⟩
      rw [ncl (by omega)]
      generalize e1 : pI (pI t 28 (aB a).1 (nI k)) 27 0 (nI ((aB a).1 + 1)) = t1
      have f1 : Fr (fun o j => o = 28 ∨ (o = 27 ∧ j = 0)) t t1 := by rw [← e1]; exact ((Fr.rf _ t).pI _ (by omega)).pI _ (by omega)
      have r1 : RC t1 (setB a ((aB a).1 + 1, upN (aB a).2.1 (aB a).1 k, (aB a).2.2)) := by
        refine h.2.1.bo f1 (fun o j q => by omega) ⟨by rw [← e1, pI_s], (f1.1 _ _ (by omega)).trans c2, fun i hi => ?_, fun i hi hr => (f1.1 _ _ (by omega)).trans (c4 i hi hr)⟩
        have hi : i < (aB a).1 + 1 := hi
        rw [← e1, pI_o _ _ _ _ (by decide), pI_a]
        show _ = nI (upN (aB a).2.1 (aB a).1 k i)
        unfold upN
        by_cases e : i = (aB a).1
        · rw [if_pos ⟨rfl, e⟩, if_pos e]
        · rw [if_neg (fun q => e q.2), if_neg e]; exact c3 i (by omega)
      have g1 := h.2.2.al (f1.mo (fun o j q => by unfold CAl; omega))
      obtain ⟨m1, m2, m3, m4⟩ := g1.2.2.2.2.2.2.2.1
      apply bX8_body_0
      refine sr_in_g (n := 8) rfl (by decide) ⟨k, hk, rfl⟩ (br_n (by decide) ?_)
      rw [m1, pI_o _ _ _ _ (show 57 ≠ 87 by decide), m1, nI_1, pI_s, nI_pred]
      refine br_n (fun q => by have := nI_inj (b := 50) (by omega) (by decide) q; omega) ⟨vpn h50, qi ?_⟩
      rw [ncl (by omega)]
      generalize e2 : pI (pI t1 87 (aB a).1 (nI k)) 57 45 (nI ((aB a).1 + 1)) = t2
      have f2 : Fr (fun o j => o = 87 ∨ (o = 57 ∧ j = 45)) t1 t2 := by rw [← e2]; exact ((Fr.rf _ t1).pI _ (by omega)).pI _ (by omega)
      refine K _ _ ⟨_, ?_, r1.al (f2.mo (fun o j q => by unfold MAl; omega)), ?_⟩
      · obtain ⟨w1, w2, w3, w4, w5, w6, w7⟩ := h.1
        refine ⟨w1, w2, w3, w4, w5, ⟨by show (aB a).1 + 1 ≤ 50; omega, fun i hi => ?_, hb3⟩, w7.mono (Nat.le_succ _)⟩
        have hi : i < (aB a).1 + 1 := hi
        show upN (aB a).2.1 (aB a).1 k i < 8
        unfold upN
        split
        · exact hk
        · exact hb2 i (by omega)
      · refine g1.bo f2 (fun o j q => by omega) ⟨by rw [← e2, pI_s], (f2.1 _ _ (by omega)).trans m2, fun i hi => ?_, fun i hi hr => (f2.1 _ _ (by omega)).trans (m4 i hi hr)⟩
        have hi : i < (aB a).1 + 1 := hi
        rw [← e2, pI_o _ _ _ _ (by decide), pI_a]
        show _ = nI (upN (aB a).2.1 (aB a).1 k i)
        unfold upN
        by_cases e : i = (aB a).1
        · rw [if_pos ⟨rfl, e⟩, if_pos e]
        · rw [if_neg (fun q => e q.2), if_neg e]; exact m3 i (by omega)
    · have e50 : (aB a).1 = 50 := by omega
      refine br_f (nI_nlt (a := (aB a).1) (b := 50) (by omega) (by omega)) (qi (qi ?_))
      apply bX8_body_0
      refine sr_in_g (n := 8) rfl (by decide) h1 (br_n (by decide) ?_)
      rw [hm.1, e50]
      exact br_p rfl (qi (K _ _ ⟨a, h⟩))
  · refine sp_out_b (n := 8) rfl (by decide) h1 (br_f (by decide) (qi ?_))
    apply bX8_body_0
    exact sr_in_b (n := 8) rfl (by decide) h1 (br_p rfl (qi (K _ _ ⟨a, h⟩)))
theorem both_trace {x : Int32} {Q : Int32 → Int32 → Tt → Prop} (h : Rel t a) (K : KK Q) : Rt g (d + 300) mX7_trace 0 [some (.ref 0), some (.int x)] [] t (QI (fun v t1 => Rt g (d + 300) mX8_trace 0 [some (.ref 57), some (.int x)] [] t1 (QI (fun w t2 => Q v w t2)))) := by
  obtain ⟨hb1, hb2, hb3⟩ := h.1.2.2.2.2.2.1
  obtain ⟨c1, c2, c3, c4⟩ := h.2.1.2.2.2.2.2.2.2.1
  obtain ⟨m1, m2, m3, m4⟩ := h.2.2.2.2.2.2.2.2.2.1
  apply bX7_trace_0
  apply bX0_tracedBodies_0
  rw [c2, show (24 : Int32) = nI 24 from rfl, min_n (by omega) (by decide)]
  apply qi
  by_cases h1 : gd x (min (aB a).2.2.1 24)
  · refine sp_out_g (m1_i (by omega)) (by omega) h1 (br_t rfl ?_)
    obtain ⟨i, hi, rfl⟩ := h1
    refine ⟨vpn (by omega), qi ?_⟩
    rw [ncl (by omega), c4 i (by omega) (by omega)]
    apply bX8_trace_0
    rw [m2, ncl (by omega), m4 i (by omega) (by omega)]
    exact br_f (nI_pos (by omega)) (br_f (nI_ge (by omega) (by omega)) (br_f (nI_ge (b := 24) (by omega) (by decide)) ⟨vpn (by omega), qi (K _ _ ⟨a, h⟩)⟩))
  · refine sp_out_b (m1_i (by omega)) (by omega) h1 (br_f (by decide) (qi ?_))
    apply bX8_trace_0
    rw [m2]
    refine ⟨fun _ => qi (K _ _ ⟨a, h⟩), fun c => ⟨fun _ => qi (K _ _ ⟨a, h⟩), fun c2 => ⟨fun _ => qi (K _ _ ⟨a, h⟩), fun c3 => absurd ?_ h1⟩⟩⟩
    obtain ⟨k, hk, rfl⟩ := nI_of c
    have q1 : ¬ (aB a).2.2.1 ≤ k := fun q => c2 (nI_le q hk)
    have q2 : ¬ 24 ≤ k := fun q => c3 (nI_le (a := 24) q hk)
    exact ⟨k, by omega, rfl⟩
end P62
