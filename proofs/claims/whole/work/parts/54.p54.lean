/-! PURE LAYER: image -/
section P54
variable {g : Gt} {d : Nat} {t t1 : Tt} {a : Aa}
theorem sp_image {P : Int32 → Tt → Prop} (h : Rel t a) (kk : ∀ t1, Fr CAl t t1 → RC t1 (setI a (true, aP a, aD a)) → P (aD a 0) t1) : Rt g (d + 5) mX7_image 0 [some (.ref 0)] [] t (QI P) := by
  have hn := h.n7
  apply bX7_image_0
  refine sp_copyFrom mo9 mo1 (by decide) h.2.1.1 h.pw (fun t1 f1 m1 => ?_)
  rw [show (0 : Int32).toNatClampNeg = 0 from rfl, show (6 : Int32).toNatClampNeg = 6 from rfl]
  have d1 : ∀ k, k < 6 → t1.1 31 k = aD a k := fun k hk => (f1.1 _ _ (by omega)).trans (h.2.1.2.2.2.2.2.2.1 k hk)
  have d2 : (pI (cI t1 31 32 0 0 6) 0 12 1).1 31 0 = aD a 0 := by rw [pI_o _ _ _ _ (by decide), cI_o _ _ _ _ _ _ (by decide)]; exact d1 0 (by decide)
  rw [d2]
  have f2 : Fr (fun o j => o = 32 ∨ (o = 0 ∧ j = 12)) t1 (pI (cI t1 31 32 0 0 6) 0 12 1) := ((Fr.rf _ t1).cI (fun j => Or.inl rfl)).pI _ (Or.inr ⟨rfl, rfl⟩)
  have f3 : Fr (fun o j => (9 ≤ o ∧ o ≤ 12) ∨ o = 32 ∨ (o = 0 ∧ j = 12)) t (pI (cI t1 31 32 0 0 6) 0 12 1) := (f1.mo (fun o j q => by omega)).tr (f2.mo (fun o j q => by omega))
  refine qi (kk _ (f3.mo (fun o j q => by unfold CAl; omega)) ?_)
  obtain ⟨h1, h2, h3, h4, h5, h6, h7, h8, h9⟩ := h.2.1
  refine ⟨c_mo h1 f3 (fun o j q => by omega), c_so h2 f3 (fun o j q => by omega), c_ch h3 f3 (fun o j q => by omega), c_tp h4 f3 (fun o j q => by omega), c_lw h5 f3 (fun o j q => by omega), Or.inr ⟨rfl, pI_s _ _ _ _, m1.fr f2 (by omega) (by omega) (fun k => by omega) (fun k => by omega) (fun k => by omega), fun k hk => ?_⟩, c_dd h7 f3 (fun o j q => by omega), c_bo h8 f3 (fun o j q => by omega), c_sh h9 f3 (fun o j q => by omega)⟩
  rw [pI_o _ _ _ _ (by decide), cI_s, if_pos (by omega), Nat.zero_add, Nat.sub_zero]
  exact d1 k hk
theorem sr_image {P : Int32 → Tt → Prop} (h : RF t a) (hw : PpW (aP a)) (kk : ∀ t1, Fr MAl t t1 → RF t1 (setI a (true, aP a, aD a)) → P (aD a 0) t1) : Rt g d mX8_image 0 [some (.ref 57), none] [] t (QI P) := by
  have hn := hw.1
  apply bX8_image_0
  rw [pI_n _ _ _ (show 1 ≠ 39 by decide), show t.1 57 1 = nI (pn (aP a)) from h.1.1]
  generalize e0 : pI (pI t 57 39 1) 57 40 (nI (pn (aP a))) = t0
  have f0 : Fr (fun o j => o = 57 ∧ (j = 39 ∨ j = 40)) t t0 := by rw [← e0]; exact ((Fr.rf _ t).pI _ (by omega)).pI _ (by omega)
  have a1 : t0.1 57 39 = 1 := by rw [← e0, pI_n _ _ _ (by decide), pI_s]
  have a2 : t0.1 57 40 = nI (pn (aP a)) := by rw [← e0, pI_s]
  have k3 : ∀ m i t2, i + m = 6 → Fr (fun o _ => o = 83 ∨ o = 84 ∨ o = 85 ∨ o = 86) t0 t2 → (∀ q, q < 56 → t2.1 83 q = t.1 58 q) → (∀ q, q < 7 → t2.1 84 q = t.1 59 q ∧ t2.1 85 q = t.1 60 q) → (∀ q, q < i → t2.1 86 q = t.1 82 q) → Rt g d mX8_image 79 [some (.ref 57), some (.int (nI i))] [] t2 (QI P) := by
    intro m
    induction m with
    | zero =>
      intro i t2 hi f2 h1 h2 h3
      have : i = 6 := by omega
      subst this
      apply bX8_image_79
      rw [f2.1 82 0 (by omega), f0.1 82 0 (by omega), h.2.2.2.2.2.2.1 0 (by decide)]
      have f3 : Fr (fun o j => (o = 57 ∧ (j = 39 ∨ j = 40)) ∨ (83 ≤ o ∧ o ≤ 86)) t t2 := (f0.mo (fun o j q => by omega)).tr (f2.mo (fun o j q => by omega))
      refine br_t (nI_le (a := 6) (by omega) (by decide)) (qi (kk t2 (f3.mo (fun o j q => by unfold MAl; omega)) ?_))
      obtain ⟨g1, g2, g3, g4, g5, g6, g7, g8, g9⟩ := h
      refine ⟨m_mo g1 f3 (fun o j q => by omega), m_so g2 f3 (fun o j q => by omega), m_ch g3 f3 (fun o j q => by omega), m_tp g4 f3 (fun o j q => by omega), m_lw g5 f3 (fun o j q => by omega), Or.inr ⟨rfl, ?_, ?_, fun p hp k hk => ?_, fun p hp => ?_, fun p hp => ?_, fun k hk => ?_⟩, m_dd g7 f3 (fun o j q => by omega), m_bo g8 f3 (fun o j q => by omega), m_sh g9 f3 (fun o j q => by omega)⟩
      · rw [f2.1 _ _ (by omega)]; exact a1
      · rw [f2.1 _ _ (by omega)]; exact a2
      · have hp : p < pn (aP a) := hp
        rw [h1 _ (by omega)]; exact g1.2.2.1 p hp k hk
      · have hp : p < pn (aP a) := hp
        rw [(h2 p (by omega)).1]; exact g1.2.2.2.1 p hp
      · have hp : p < pn (aP a) := hp
        rw [(h2 p (by omega)).2]; exact g1.2.2.2.2 p hp
      · rw [h3 k hk]; exact g7 k hk
    | succ m ih =>
      intro i t2 hi f2 h1 h2 h3
      apply bX8_image_79
      refine br_f (nI_ge (b := 6) (by omega) (by decide)) ⟨vpn (by omega), vpn (by omega), ?_⟩
      rw [ncl (by omega), f2.1 82 _ (by omega), f0.1 82 _ (by omega), nI_1]
      refine ih (i + 1) _ (by omega) (f2.pI _ (by omega)) (fun q hq => ?_) (fun q hq => ?_) (fun q hq => ?_)
      · rw [pI_o _ _ _ _ (by decide)]; exact h1 q hq
      · rw [pI_o _ _ _ _ (by decide), pI_o _ _ _ _ (by decide)]; exact h2 q hq
      · rw [pI_a]
        split
        · rename_i e; rw [e.2]
        · rename_i e; exact h3 q (by omega)
  have k2 : ∀ m i t2, i + m = 7 → Fr (fun o _ => o = 83 ∨ o = 84 ∨ o = 85 ∨ o = 86) t0 t2 → (∀ q, q < 56 → t2.1 83 q = t.1 58 q) → (∀ q, q < i → t2.1 84 q = t.1 59 q ∧ t2.1 85 q = t.1 60 q) → Rt g d mX8_image 41 [some (.ref 57), some (.int (nI i))] [] t2 (QI P) := by
    intro m
    induction m with
    | zero =>
      intro i t2 hi f2 h1 h2
      have : i = 7 := by omega
      subst this
      apply bX8_image_41
      exact br_t (nI_le (a := 7) (by omega) (by decide)) (k3 6 0 t2 rfl f2 h1 h2 (fun q hq => absurd hq (by omega)))
    | succ m ih =>
      intro i t2 hi f2 h1 h2
      apply bX8_image_41
      refine br_f (nI_ge (b := 7) (by omega) (by decide)) ⟨vpn (by omega), vpn (by omega), vpn (by omega), vpn (by omega), ?_⟩
      rw [ncl (by omega), pI_o _ _ _ _ (show 60 ≠ 84 by decide), f2.1 59 _ (by omega), f0.1 59 _ (by omega), f2.1 60 _ (by omega), f0.1 60 _ (by omega), nI_1]
      refine ih (i + 1) _ (by omega) ((f2.pI _ (by omega)).pI _ (by omega)) (fun q hq => ?_) (fun q hq => ?_)
      · rw [pI_o _ _ _ _ (by decide), pI_o _ _ _ _ (by decide)]; exact h1 q hq
      · rw [pI_o _ _ _ _ (show 84 ≠ 85 by decide), pI_a, pI_a]
        by_cases e : q = i
        · rw [if_pos ⟨rfl, e⟩, if_pos ⟨rfl, e⟩, e]; exact ⟨rfl, rfl⟩
        · rw [if_neg (fun w => e w.2), if_neg (fun w => e w.2), pI_o _ _ _ _ (show 85 ≠ 84 by decide)]; exact h2 q (by omega)
  have k1 : ∀ m i t2, i + m = 56 → Fr (fun o _ => o = 83 ∨ o = 84 ∨ o = 85 ∨ o = 86) t0 t2 → (∀ q, q < i → t2.1 83 q = t.1 58 q) → Rt g d mX8_image 15 [some (.ref 57), some (.int (nI i))] [] t2 (QI P) := by
    intro m
    induction m with
    | zero =>
      intro i t2 hi f2 h1
      have : i = 56 := by omega
      subst this
      apply bX8_image_15
      exact br_t (nI_le (a := 56) (by omega) (by decide)) (k2 7 0 t2 rfl f2 h1 (fun q hq => absurd hq (by omega)))
    | succ m ih =>
      intro i t2 hi f2 h1
      apply bX8_image_15
      refine br_f (nI_ge (b := 56) (by omega) (by decide)) ⟨vpn (by omega), vpn (by omega), ?_⟩
      rw [ncl (by omega), f2.1 58 _ (by omega), f0.1 58 _ (by omega), nI_1]
      refine ih (i + 1) _ (by omega) (f2.pI _ (by omega)) (fun q hq => ?_)
      rw [pI_a]
      split
      · rename_i e; rw [e.2]
      · rename_i e; exact h1 q (by omega)
  exact k1 56 0 t0 rfl (Fr.rf _ _) (fun q hq => absurd hq (by omega))
theorem both_image {Q : Int32 → Int32 → Tt → Prop} (h : Rel t a) (K : KK Q) : Rt g (d + 300) mX7_image 0 [some (.ref 0)] [] t (QI (fun v t1 => Rt g (d + 300) mX8_image 0 [some (.ref 57), none] [] t1 (QI (fun w t2 => Q v w t2)))) := by
  refine sp_image (d := d + 295) h (fun t1 f1 c1 => ?_)
  refine sr_image (h.2.2.al f1) h.pw (fun t2 f2 g2 => K _ _ ⟨_, ?_, c1.al f2, g2⟩)
  obtain ⟨w1, w2, w3, w4, w5, w6, w7⟩ := h.1
  exact ⟨w1, w2, w3, w4, fun _ => ⟨w1, Nat.le_refl _⟩, w6, w7⟩
end P54
