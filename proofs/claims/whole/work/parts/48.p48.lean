/-! PURE LAYER: feed -/
section P48
variable {g : Gt} {d : Nat} {t : Tt} {a : Aa}
theorem byte_tab : ∀ k, k < 256 → vp_nar .byte ((nI k).toInt8.toInt32) = vp_nar .byte (nI k) := by decide +kernel
def tpP (p : Tp) (k : Nat) : Tp := (p.1 + 1, upN p.2 p.1 k)
theorem both_feed {x : Int32} {Q : Int32 → Int32 → Tt → Prop} (h : Rel t a) (K : KK Q) : Rt g (d + 300) mX7_feed 0 [some (.ref 0), some (.int x)] [] t (QI (fun v t1 => Rt g (d + 300) mX8_feed 0 [some (.ref 57), some (.int x)] [] t1 (QI (fun w t2 => Q v w t2)))) := by
  have hT : (aTp a).1 ≤ 120 := h.1.2.2.2.1.1
  have eC : t.1 33 1 = nI (aTp a).1 := h.2.1.2.2.2.1.1
  have eM : t.1 57 14 = nI (aTp a).1 := h.2.2.2.2.2.1.1
  apply bX7_feed_0
  by_cases h1 : gd x 256
  · refine sp_out_g (n := 256) rfl (by decide) h1 (br_t rfl ?_)
    apply bX4_take_0
    rw [eC]
    by_cases hf : (aTp a).1 < 120
    · refine br_t (nI_lt (b := 120) hf (by decide)) ⟨vpn hf, qi (qi ?_)⟩
      obtain ⟨k, hk, rfl⟩ := h1
      rw [ncl (by omega), pI_o _ _ _ _ (show 33 ≠ 34 by decide), eC, nI_1]
      generalize e1 : pI (pI t 34 (aTp a).1 (nI k)) 33 1 (nI ((aTp a).1 + 1)) = t1
      have f1 : Fr (fun o j => o = 34 ∨ (o = 33 ∧ j = 1)) t t1 := by rw [← e1]; exact ((Fr.rf _ t).pI _ (by omega)).pI _ (by omega)
      have c1 : RC t1 (setT a (tpP (aTp a) k)) := by
        obtain ⟨h1, h2, h3, h4, h5, h6, h7, h8, h9⟩ := h.2.1
        refine ⟨c_mo h1 f1 (fun o j q => by omega), c_so h2 f1 (fun o j q => by omega), c_ch h3 f1 (fun o j q => by omega), ⟨?_, fun i hi => ?_⟩, c_lw h5 f1 (fun o j q => by omega), c_im h6 f1 (fun o j q => by omega), c_dd h7 f1 (fun o j q => by omega), c_bo h8 f1 (fun o j q => by omega), c_sh h9 f1 (fun o j q => by omega)⟩
        · rw [← e1, pI_s]; rfl
        · rw [← e1, pI_o _ _ _ _ (by decide), pI_a]
          show _ = nI (upN (aTp a).2 (aTp a).1 k i)
          have hi : i < (aTp a).1 + 1 := hi
          unfold upN
          by_cases e : i = (aTp a).1
          · rw [if_pos ⟨rfl, e⟩, if_pos e]
          · rw [if_neg (fun w => e w.2), if_neg e]
            exact h4.2 i (by omega)
      have g1 : RF t1 a := h.2.2.al (f1.mo (fun o j q => by unfold CAl; omega))
      have eM1 : t1.1 57 14 = nI (aTp a).1 := g1.2.2.2.1.1
      rw [← e1, pI_s, e1]
      apply bX8_feed_0
      refine sr_in_g (n := 256) rfl (by decide) ⟨k, hk, rfl⟩ (br_n (by decide) ?_)
      rw [eM1]
      refine br_n (fun q => by have := nI_inj (b := 120) (by omega) (by decide) q; omega) ⟨vpn hf, qi ?_⟩
      rw [ncl (by omega), pI_o _ _ _ _ (show 57 ≠ 66 by decide), eM1, nI_1, byte_tab k hk]
      generalize e2 : pI (pI t1 66 (aTp a).1 (vp_nar .byte (nI k))) 57 14 (nI ((aTp a).1 + 1)) = t2
      have f2 : Fr (fun o j => o = 66 ∨ (o = 57 ∧ j = 14)) t1 t2 := by rw [← e2]; exact ((Fr.rf _ t1).pI _ (by omega)).pI _ (by omega)
      rw [← e2, pI_s, e2]
      refine K _ _ ⟨setT a (tpP (aTp a) k), ?_, c1.al (f2.mo (fun o j q => by unfold MAl; omega)), ?_⟩
      · obtain ⟨w1, w2, w3, w4, w5, w6, w7⟩ := h.1
        refine ⟨w1, w2, w3, ⟨show (aTp a).1 + 1 ≤ 120 by omega, fun i hi => ?_⟩, w5, w6, w7⟩
        show upN (aTp a).2 (aTp a).1 k i < 256
        have hi : i < (aTp a).1 + 1 := hi
        unfold upN
        split
        · exact hk
        · exact w4.2 i (by omega)
      · obtain ⟨h1, h2, h3, h4, h5, h6, h7, h8, h9⟩ := g1
        refine ⟨m_mo h1 f2 (fun o j q => by omega), m_so h2 f2 (fun o j q => by omega), m_ch h3 f2 (fun o j q => by omega), ⟨?_, fun i hi => ?_⟩, m_lw h5 f2 (fun o j q => by omega), m_im h6 f2 (fun o j q => by omega), m_dd h7 f2 (fun o j q => by omega), m_bo h8 f2 (fun o j q => by omega), m_sh h9 f2 (fun o j q => by omega)⟩
        · rw [← e2, pI_s]; rfl
        · rw [← e2, pI_o _ _ _ _ (by decide), pI_a]
          show _ = vp_nar .byte (nI (upN (aTp a).2 (aTp a).1 k i))
          have hi : i < (aTp a).1 + 1 := hi
          unfold upN
          by_cases e : i = (aTp a).1
          · rw [if_pos ⟨rfl, e⟩, if_pos e]
          · rw [if_neg (fun w => e w.2), if_neg e]
            exact h4.2 i (by omega)
    · have e120 : (aTp a).1 = 120 := by omega
      refine br_f (nI_nlt (a := (aTp a).1) (b := 120) (by omega) (by omega)) (qi (qi ?_))
      apply bX8_feed_0
      refine sr_in_g (n := 256) rfl (by decide) h1 (br_n (by decide) ?_)
      rw [eM, e120]
      exact br_p rfl (qi (K _ _ ⟨a, h⟩))
  · refine sp_out_b (n := 256) rfl (by decide) h1 (br_f (by decide) (qi ?_))
    apply bX8_feed_0
    exact sr_in_b (n := 256) rfl (by decide) h1 (br_p rfl (qi (K _ _ ⟨a, h⟩)))
end P48
