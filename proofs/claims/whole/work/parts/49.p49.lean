/-! PURE LAYER: cap -/
section P49
variable {g : Gt} {d : Nat} {t : Tt} {a : Aa}
def setCp (b : Pp) (p v : Nat) : Pp := (pn b, pg b, pf b, upN (pc b) p v, pl b)
theorem Mth.putC {o i j fo co lo : Nat} {b : Pp} (h : Mth t o i j fo co lo b) {p v : Nat} (d1 : co ≠ o) (d2 : co ≠ fo) (d3 : co ≠ lo) : Mth (pI t co p (nI v)) o i j fo co lo (setCp b p v) := by
  refine ⟨?_, ?_, fun q hq l hl => ?_, fun q hq => ?_, fun q hq => ?_⟩
  · rw [pI_o _ _ _ _ (Ne.symm d1)]; exact h.1
  · rw [pI_o _ _ _ _ (Ne.symm d1)]; exact h.2.1
  · rw [pI_o _ _ _ _ (Ne.symm d2)]; exact h.2.2.1 q hq l hl
  · rw [pI_a]
    show _ = nI (upN (pc b) p v q)
    unfold upN
    by_cases hqp : q = p
    · subst hqp; rw [if_pos ⟨rfl, rfl⟩, if_pos rfl]
    · rw [if_neg (fun e => hqp e.2), if_neg hqp]; exact h.2.2.2.1 q hq
  · rw [pI_o _ _ _ _ (Ne.symm d3)]; exact h.2.2.2.2 q hq
theorem setCp_W {b : Pp} (hw : PpW b) {p v : Nat} (hv : v < 256) : PpW (setCp b p v) := by
  refine ⟨hw.1, hw.2.1, hw.2.2.1, fun q hq => ?_⟩
  show upN (pc b) p v q < 256
  unfold upN
  split
  · exact hv
  · exact hw.2.2.2 q hq
theorem both_cap {x y : Int32} {Q : Int32 → Int32 → Tt → Prop} (h : Rel t a) (K : KK Q) : Rt g (d + 300) mX7_cap 0 [some (.ref 0), some (.int x), some (.int y)] [] t (QI (fun v t1 => Rt g (d + 300) mX8_cap 0 [some (.ref 57), some (.int x), some (.int y)] [] t1 (QI (fun w t2 => Q v w t2)))) := by
  have hn := h.n7
  apply bX7_cap_0
  by_cases h1 : gd x (pn (aP a))
  · refine sp_nobody_g h.pc hn h1 (br_p rfl ?_)
    by_cases h2 : gd y 8
    · refine sp_out_g (n := 8) rfl (by decide) h2 (br_t rfl ?_)
      obtain ⟨p, hp, rfl⟩ := h1
      obtain ⟨k, hk, rfl⟩ := h2
      have hc := h.pw.2.2.2 p hp
      have mdl : ∀ (P : Int32 → Tt → Prop) t1, Rel t1 a ∨ RF t1 a → _ → Rt g (d + 300) mX8_cap 0 [some (.ref 57), some (.int (nI p)), some (.int (nI k))] [] t1 (QI P) := fun P t1 hr kk => bX8_cap_0 (sr_isPerson_g (n := pn (aP a)) (by rcases hr with q | q; exact q.pm; exact q.1.1) hn ⟨p, hp, rfl⟩ (br_f (by decide) (sr_in_g (n := 8) rfl (by decide) ⟨k, hk, rfl⟩ (br_n (by decide) ⟨vpn (by omega), kk⟩))))
      refine sp_isCapped mo1 h.2.1.1 h.pw hp hk ?_
      have v1 : (nI p).toNatClampNeg = p := ncl (by omega)
      have em : ∀ t1, RF t1 a → t1.1 59 p = nI (pc (aP a) p) := fun t1 q => q.1.2.2.2.1 p hp
      rcases capd_01 (pc (aP a) p) k with e | e
      · rw [e]
        refine br_t rfl ⟨vpn (by omega), vpn (by omega), vpn (by omega), ?_⟩
        have hv : pc (aP a) p ||| 2 ^ k < 256 := lor_lt (n := 8) _ _ hc (Nat.pow_lt_pow_right (by decide) hk)
        rw [v1, h.2.1.1.2.2.2.1 p hp, shl_tab k (by omega), nI_or, pI_o _ _ _ _ (show 31 ≠ 3 by decide), h.2.1.2.2.2.2.2.2.1 4 (by decide)]
        generalize e1 : pI (pI t 3 p (nI (pc (aP a) p ||| 2 ^ k))) 31 4 (aD a 4 + 1) = t1
        have r3 : t1.1 3 p = nI (pc (aP a) p ||| 2 ^ k) := by rw [← e1, pI_o _ _ _ _ (by decide), pI_s]
        have f1 : Fr (fun o j => o = 3 ∨ o = 31) t t1 := by rw [← e1]; exact ((Fr.rf _ t).pI _ (Or.inl rfl)).pI _ (Or.inr rfl)
        rw [r3]
        refine sp_bitCount (by omega) (qi ?_)
        have g1 : RF t1 a := h.2.2.al (f1.mo (fun o j q => by unfold CAl; omega))
        have c1 : RC t1 (setD (setP a (setCp (aP a) p (pc (aP a) p ||| 2 ^ k))) (upN (aD a) 4 (aD a 4 + 1))) := by
          obtain ⟨h1, h2, h3, h4, h5, h6, h7, h8, h9⟩ := h.2.1
          refine ⟨?_, c_so h2 f1 (fun o j q => by omega), c_ch h3 f1 (fun o j q => by omega), c_tp h4 f1 (fun o j q => by omega), c_lw h5 f1 (fun o j q => by omega), c_im h6 f1 (fun o j q => by omega), fun i hi => ?_, c_bo h8 f1 (fun o j q => by omega), c_sh h9 f1 (fun o j q => by omega)⟩
          · rw [← e1]
            exact c_mo (h1.putC (by decide) (by decide) (by decide)) ((Fr.rf (fun o _ => o = 31) _).pI _ rfl) (fun o j q => by omega)
          · rw [← e1, pI_a]
            show _ = upN (aD a) 4 (aD a 4 + 1) i
            unfold upN
            by_cases q : i = 4
            · rw [if_pos ⟨rfl, q⟩, if_pos q]
            · rw [if_neg (fun w => q w.2), if_neg q, pI_o _ _ _ _ (by decide)]
              exact h7 i hi
        refine mdl _ t1 (Or.inr g1) ?_
        rw [v1, em t1 g1, capd_tab _ hc k hk, e]
        refine br_n (by decide) ⟨vpn (by omega), vpn (by omega), vpn (by omega), ?_⟩
        rw [shl_tab k (by omega), nI_or, pI_o _ _ _ _ (show 82 ≠ 59 by decide), g1.2.2.2.2.2.2.1 4 (by decide)]
        generalize e2 : pI (pI t1 59 p (nI (pc (aP a) p ||| 2 ^ k))) 82 4 (aD a 4 + 1) = t2
        have r4 : t2.1 59 p = nI (pc (aP a) p ||| 2 ^ k) := by rw [← e2, pI_o _ _ _ _ (by decide), pI_s]
        have f2 : Fr (fun o j => o = 59 ∨ o = 82) t1 t2 := by rw [← e2]; exact ((Fr.rf _ t1).pI _ (Or.inl rfl)).pI _ (Or.inr rfl)
        rw [r4]
        refine sp_bitsOf (by omega) (qi (K _ _ ⟨_, ?_, c1.al (f2.mo (fun o j q => by unfold MAl; omega)), ?_⟩))
        · obtain ⟨w1, w2, w3, w4, w5, w6, w7⟩ := h.1
          exact ⟨setCp_W w1 hv, w2, w3, w4, w5, w6, w7⟩
        · obtain ⟨h1, h2, h3, h4, h5, h6, h7, h8, h9⟩ := g1
          refine ⟨?_, m_so h2 f2 (fun o j q => by omega), m_ch h3 f2 (fun o j q => by omega), m_tp h4 f2 (fun o j q => by omega), m_lw h5 f2 (fun o j q => by omega), m_im h6 f2 (fun o j q => by omega), fun i hi => ?_, m_bo h8 f2 (fun o j q => by omega), m_sh h9 f2 (fun o j q => by omega)⟩
          · rw [← e2]
            exact m_mo (h1.putC (by decide) (by decide) (by decide)) ((Fr.rf (fun o _ => o = 82) _).pI _ rfl) (fun o j q => by omega)
          · rw [← e2, pI_a]
            show _ = upN (aD a) 4 (aD a 4 + 1) i
            unfold upN
            by_cases q : i = 4
            · rw [if_pos ⟨rfl, q⟩, if_pos q]
            · rw [if_neg (fun w => q w.2), if_neg q, pI_o _ _ _ _ (by decide)]
              exact h7 i hi
      · rw [e]
        refine br_f (by decide) (qi (mdl _ t (Or.inl h) ?_))
        rw [v1, em t h.2.2, capd_tab _ hc k hk, e]
        exact br_p rfl (qi (K _ _ ⟨a, h⟩))
    · refine sp_out_b (n := 8) rfl (by decide) h2 (br_f (by decide) (qi ?_))
      exact bX8_cap_0 (sr_isPerson_g h.pm hn h1 (br_f (by decide) (sr_in_b (n := 8) rfl (by decide) h2 (br_p rfl (qi (K _ _ ⟨a, h⟩))))))
  · refine sp_nobody_b h.pc hn h1 (br_n (by decide) (qi ?_))
    exact bX8_cap_0 (sr_isPerson_b h.pm hn h1 (br_t rfl (qi (K _ _ ⟨a, h⟩))))
end P49
