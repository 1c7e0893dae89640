/-! PURE LAYER: law, both -/
section P76
variable {g : Gt} {d : Nat} {t t1 : Tt} {a : Aa}
theorem RF.lawOk {T' : Tp} {p : Prog} (h : RF t a) (f : Fr (fun o j => RdZ o j ∨ (o = 57 ∧ j = 26)) t t1) (hT : tpM t1 T') (hL : LwM t1 p) : RF t1 (setG (setT a T') p) := by
  have c : ∀ o j, RdZ o j ∨ (o = 57 ∧ j = 26) → ((o = 57 ∧ 14 ≤ j ∧ j ≤ 18) ∨ (67 ≤ o ∧ o ≤ 71)) ∨ (o = 57 ∧ j = 26) := fun o j q => q
  obtain ⟨h1, h2, h3, h4, h5, h6, h7, h8, h9⟩ := h
  exact ⟨m_mo h1 f (fun o j q => by have := c o j q; omega), m_so h2 f (fun o j q => by have := c o j q; omega), m_ch h3 f (fun o j q => by have := c o j q; omega), hT, hL, m_im h6 f (fun o j q => by have := c o j q; omega), m_dd h7 f (fun o j q => by have := c o j q; omega), m_bo h8 f (fun o j q => by have := c o j q; omega), m_sh h9 f (fun o j q => by have := c o j q; omega)⟩
theorem RF.lawNo {T' : Tp} (h : RF t a) (f : Fr RdW t t1) (hT : tpM t1 T') : RF t1 (setT a T') := by
  obtain ⟨h1, h2, h3, h4, h5, h6, h7, h8, h9⟩ := h
  exact ⟨m_mo h1 f (fun o j q => by have := RdW_c q; omega), m_so h2 f (fun o j q => by have := RdW_c q; omega), m_ch h3 f (fun o j q => by have := RdW_c q; omega), hT, h5.nw f (fun o j q => by have := RdW_c q; omega), m_im h6 f (fun o j q => by have := RdW_c q; omega), m_dd h7 f (fun o j q => by have := RdW_c q; omega), m_bo h8 f (fun o j q => by have := RdW_c q; omega), m_sh h9 f (fun o j q => by have := RdW_c q; omega)⟩
theorem RC.parts {S : Nat → Nat → Prop} (h : RC t a) (f : Fr S t t1) (hS : ∀ o j, S o j → (o = 33 ∧ (j = 1 ∨ j = 3)) ∨ (35 ≤ o ∧ o ≤ 44)) : MoC t1 1 (aP a) ∧ soC t1 (aS a) ∧ chC t1 (aC a) ∧ imC t1 (aI a) ∧ ddC t1 (aD a) ∧ boC t1 (aB a) ∧ shC t1 (aH a) := by
  obtain ⟨h1, h2, h3, h4, h5, h6, h7, h8, h9⟩ := h
  exact ⟨c_mo h1 f (fun o j q => by have := hS o j q; omega), c_so h2 f (fun o j q => by have := hS o j q; omega), c_ch h3 f (fun o j q => by have := hS o j q; omega), c_im h6 f (fun o j q => by have := hS o j q; omega), c_dd h7 f (fun o j q => by have := hS o j q; omega), c_bo h8 f (fun o j q => by have := hS o j q; omega), c_sh h9 f (fun o j q => by have := hS o j q; omega)⟩
theorem LwC.keep {r r' : Nat} {p : Prog} {S : Nat → Nat → Prop} (h : LwC t r p) (f : Fr S t t1) (hS : ∀ o j, S o j → ¬ (o = r ∧ j = 4) ∧ o ≠ r + 1 ∧ o ≠ r + 2) : LwC t1 r p := by
  refine ⟨(f.1 _ _ (fun q => by have := hS _ _ q; omega)).trans h.1, h.2.1, h.2.2.1, fun i x hx => ?_⟩
  rw [f.1 _ _ (fun q => by have := hS _ _ q; omega), f.1 _ _ (fun q => by have := hS _ _ q; omega)]
  exact h.2.2.2 i x hx
theorem sr_law {P : Int32 → Tt → Prop} (h : RF t a) (hO : TpO (aTp a)) (k1 : okX3 (aTp a) → ∀ t', Fr MAl t t' → RF t' (setG (setT a (0, (aTp a).2)) (txF (aTp a)).2.2) → P 1 t') (k0 : ¬ okX3 (aTp a) → ∀ t', Fr MAl t t' → RF t' (setT a (0, (aTp a).2)) → P (-100 - nI (txF (aTp a)).2.1) t') : Rt g (d + 49) mX8_law 0 [some (.ref 57), none] [] t (QI P) := by
  have hsp := txF_Sp (aTp a)
  have h120 := hO.1
  have hT := h.2.2.2.1
  apply bX8_law_0
  refine sr_readText (d := d) hO hT (fun hx t1 f1 e14 e69 hln => br_t (by decide) (qi ?_)) (fun hx t1 f1 e14 => br_f (nI_pos (by have := hsp.1; omega)) (qi ?_))
  · obtain ⟨w1, w2, w3, w4, w5⟩ := hsp.2 hx.1
    have hle := hsp.1
    have f2 : Fr (fun o j => RdZ o j ∨ (o = 57 ∧ j = 26)) t (pI t1 57 26 1) := (f1.mo (fun o j q => Or.inl q)).pI _ (Or.inr ⟨rfl, rfl⟩)
    refine k1 hx _ (f2.mo (fun o j q => by unfold RdZ at q; unfold MAl; omega)) (h.lawOk f2 ⟨?_, fun i hi => absurd hi (Nat.not_lt_zero i)⟩ (Or.inr ⟨w2, pI_s _ _ _ _, w1, by omega, by omega, ?_, ?_⟩))
    · rw [pI_n _ _ _ (by decide), e14]; rfl
    · rw [pI_o _ _ _ _ (by decide)]; exact e69
    · exact LnM.cg (pI_o _ _ _ _ (by decide)) (pI_o _ _ _ _ (by decide)) (pI_o _ _ _ _ (by decide)) (pI_o _ _ _ _ (by decide)) _ 0 0 hln
  · exact k0 hx t1 (f1.mo (fun o j q => by have := RdW_c q; unfold MAl; omega)) (h.lawNo f1 ⟨e14.trans rfl, fun i hi => absurd hi (Nat.not_lt_zero i)⟩)
theorem both_law {Q : Int32 → Int32 → Tt → Prop} (h : Rel t a) (K : KK Q) : Rt g (d + 300) mX7_law 0 [some (.ref 0), none] [] t (QI (fun v t1 => Rt g (d + 300) mX8_law 0 [some (.ref 57), none] [] t1 (QI (fun w t2 => Q v w t2)))) := by
  have hO : TpO (aTp a) := h.1.2.2.2.1
  have hT : tpC t (aTp a) := h.2.1.2.2.2.1
  obtain ⟨l1, l2, l3, l4⟩ := h.lw
  have hsp := txF_Sp (aTp a)
  have h120 := hO.1
  have l1' := l1
  have l2' := l2
  unfold isLw at l1' l2'
  apply bX7_law_0
  refine sp_read (d := d + 242) hO l2 rfl hT (fun hx t1 f1 o1 => br_t (by decide) ?_) (fun hx t1 f1 => br_f (nI_pos (by have := hsp.1; omega)) (qi ?_))
  · obtain ⟨w1, w2, w3, w4, w5⟩ := hsp.2 hx.1
    have hle := hsp.1
    have er : t1.2.2.1 = t.2.2.1 := by rw [f1.2]
    have er2 : t1.2.2.2 = t.2.2.2 := by rw [f1.2]
    rw [er]
    refine ⟨l1, ?_⟩
    apply bX4_exchangeFor_0 l1
    rw [show (pI t1 33 1 0).2.2.2 = t.2.2.2 from er2]
    refine ⟨l2, qr (qi ?_)⟩
    have f2 : Fr (fun o j => RdS t.2.2.2 o j ∨ (o = 33 ∧ j = 1)) t (pI t1 33 1 0) := (f1.mo (fun o j q => Or.inl q)).pI _ (Or.inr ⟨rfl, rfl⟩)
    obtain ⟨p1, p2, p3, p4, p5, p6, p7⟩ := h.2.1.parts f2 (fun o j q => by unfold RdS at q; omega)
    have cl : LwC (pI t1 33 1 0) t.2.2.2 (txF (aTp a)).2.2 := by
      refine ⟨?_, by omega, w1, fun i x hx => ?_⟩
      · rw [pI_o _ _ _ _ (by omega), o1.2.1, cco_len]
      · rw [pI_o _ _ _ _ (by omega), pI_o _ _ _ _ (by omega)]
        exact o1.2.2 i x hx
    have c2 : RC ((pI t1 33 1 0).1, (pI t1 33 1 0).2.1, t.2.2.2, t.2.2.1) (setG (setT a (0, (aTp a).2)) (txF (aTp a)).2.2) := ⟨p1, p2, p3, ⟨show (pI t1 33 1 0).1 33 1 = nI 0 from by rw [pI_s]; rfl, fun i hi => absurd hi (Nat.not_lt_zero i)⟩, ⟨l2, l1, Ne.symm l3, cl⟩, p4, p5, p6, p7⟩
    have g2 : RF ((pI t1 33 1 0).1, (pI t1 33 1 0).2.1, t.2.2.2, t.2.2.1) a := by
      obtain ⟨h1, h2, h3, h4, h5, h6, h7, h8, h9⟩ := h.2.2.al (f2.mo (fun o j q => by unfold RdS at q; unfold CAl; omega))
      exact ⟨h1, h2, h3, h4, h5.cg rfl rfl rfl rfl rfl rfl, h6, h7, h8, h9⟩
    refine sr_law (d := d + 251) g2 hO (fun _ t3 f3 g3 => K _ _ ⟨_, ?_, c2.al f3, g3⟩) (fun q => absurd hx q)
    obtain ⟨v1, v2, v3, v4, v5, v6, v7⟩ := h.1
    exact ⟨v1, v2, v3, ⟨Nat.zero_le _, fun i hi => absurd hi (Nat.not_lt_zero i)⟩, v5, v6, v7⟩
  · have f2 : Fr (fun o j => RdS t.2.2.2 o j ∨ (o = 33 ∧ j = 1)) t (pI t1 33 1 0) := (f1.mo (fun o j q => Or.inl q)).pI _ (Or.inr ⟨rfl, rfl⟩)
    obtain ⟨p1, p2, p3, p4, p5, p6, p7⟩ := h.2.1.parts f2 (fun o j q => by unfold RdS at q; omega)
    have cl : lwC (pI t1 33 1 0) (aL a) := by
      unfold lwC
      rw [f2.2]
      refine ⟨l1, l2, l3, l4.keep (r' := 0) f2 (fun o j q => ?_)⟩
      unfold RdS at q
      omega
    have c2 : RC (pI t1 33 1 0) (setT a (0, (aTp a).2)) := ⟨p1, p2, p3, ⟨pI_s _ _ _ _, fun i hi => absurd hi (Nat.not_lt_zero i)⟩, cl, p4, p5, p6, p7⟩
    have g2 : RF (pI t1 33 1 0) a := h.2.2.al (f2.mo (fun o j q => by unfold RdS at q; unfold CAl; omega))
    refine sr_law (d := d + 251) g2 hO (fun q => absurd q hx) (fun _ t3 f3 g3 => K _ _ ⟨_, ?_, c2.al f3, g3⟩)
    obtain ⟨v1, v2, v3, v4, v5, v6, v7⟩ := h.1
    exact ⟨v1, v2, v3, ⟨Nat.zero_le _, fun i hi => absurd hi (Nat.not_lt_zero i)⟩, v5, v6, v7⟩
end P76
