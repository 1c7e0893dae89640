/-! PURE LAYER: law -/
section P75
variable {g : Gt} {d : Nat} {t t1 : Tt} {a : Aa}
theorem LnM.of : ∀ (p : Prog) (l s : Nat), (∀ q, l ≤ q → q < l + p.length → t1.1 70 q = t.1 70 (61 + q) ∧ t1.1 71 q = t.1 71 (61 + q)) → LnN t l s p → AtM t1 s (ptk p) → LnM t1 l s p := by
  intro p
  induction p with
  | nil => intro l s _ _ _; trivial
  | cons x p ih =>
    intro l s hq h ha
    obtain ⟨te, va⟩ := x
    have h0 := hq l (Nat.le_refl _) (by simp)
    obtain ⟨a1, a2⟩ := AtM.app (show AtM t1 s ((te ++ va) ++ ptk p) from ha)
    rw [List.length_append] at a2
    refine ⟨h0.1.trans h.1, h0.2.trans h.2.1, a1, ih _ _ (fun q q1 q2 => hq q (by omega) (by simp at q2 ⊢; omega)) h.2.2 ?_⟩
    rw [Nat.add_assoc]; exact a2
theorem LnN.vals : ∀ (p : Prog) (l s : Nat), s + mlen p < 300 → LnN t l s p → ∀ q, l ≤ q → q < l + p.length → (∃ v, v < 300 ∧ t.1 70 (61 + q) = nI v) ∧ ∃ v, v < 300 ∧ t.1 71 (61 + q) = nI v := by
  intro p
  induction p with
  | nil => intro l s _ _ q q1 q2; simp at q2; omega
  | cons x p ih =>
    intro l s hs h q q1 q2
    obtain ⟨te, va⟩ := x
    simp only [mlen] at hs
    by_cases e : q = l
    · subst e
      exact ⟨⟨_, by omega, h.1⟩, ⟨_, by omega, h.2.1⟩⟩
    · exact ih _ _ (by omega) h.2.2 q (by omega) (by simp at q2; omega)
theorem LnM.nw {S : Nat → Nat → Prop} (f : Fr S t t1) (hS : ∀ o j, S o j → ¬ ((o = 67 ∨ o = 68) ∧ j < 130) ∧ ¬ ((o = 70 ∨ o = 71) ∧ j < 61)) : ∀ (p : Prog) (l s : Nat), l + p.length ≤ 61 → s + mlen p ≤ 130 → LnM t l s p → LnM t1 l s p := by
  intro p
  induction p with
  | nil => intro l s _ _ _; trivial
  | cons x p ih =>
    intro l s hl hs h
    obtain ⟨te, va⟩ := x
    simp only [mlen, List.length_cons] at hl hs
    refine ⟨(f.1 _ _ (fun w => by have := hS _ _ w; omega)).trans h.1, (f.1 _ _ (fun w => by have := hS _ _ w; omega)).trans h.2.1, fun i x hx => ?_, ih _ _ (by omega) (by omega) h.2.2.2⟩
    have hi := (List.getElem?_eq_some_iff.mp hx).1
    rw [List.length_append] at hi
    rw [f.1 67 _ (fun w => by have := hS _ _ w; omega), f.1 68 _ (fun w => by have := hS _ _ w; omega)]
    exact h.2.2.1 i x hx
theorem LwM.nw {S : Nat → Nat → Prop} {p : Prog} (h : LwM t p) (f : Fr S t t1) (hS : ∀ o j, S o j → ¬ ((o = 67 ∨ o = 68) ∧ j < 130) ∧ ¬ ((o = 70 ∨ o = 71) ∧ j < 61) ∧ ¬ (o = 69 ∧ j = 0) ∧ ¬ (o = 57 ∧ j = 26)) : LwM t1 p := by
  rcases h with ⟨h1, h2⟩ | ⟨h1, h2, h3, h4, h5, h6, h7⟩
  · exact Or.inl ⟨h1, (f.1 _ _ (fun w => by have := hS _ _ w; omega)).trans h2⟩
  · exact Or.inr ⟨h1, (f.1 _ _ (fun w => by have := hS _ _ w; omega)).trans h2, h3, h4, h5, (f.1 _ _ (fun w => by have := hS _ _ w; omega)).trans h6, LnM.nw f (fun o j w => ⟨(hS o j w).1, (hS o j w).2.1⟩) p 0 0 (by omega) (by omega) h7⟩
theorem ptk_ok : ∀ (p : Prog), progOk p → ∀ x ∈ ptk p, x.1 < 128 := by
  intro p
  induction p with
  | nil => intro _ x hx; cases hx
  | cons l p ih =>
    intro h x hx
    obtain ⟨te, va⟩ := l
    obtain ⟨h1, h2⟩ := h (te, va) List.mem_cons_self
    dsimp only at h1 h2
    have hok : okT x → x.1 < 128 := by
      intro q
      rcases q with q | q | q | q | q
      · omega
      · omega
      · omega
      · omega
      · exact isOp_lt q
    simp only [ptk] at hx
    rcases List.mem_append.mp hx with hx | hx
    · rcases List.mem_append.mp hx with hx | hx
      · rcases h1 with q | q
        · rw [q] at hx; cases hx
        · exact hok (q.1 x hx)
      · exact hok (h2.1 x hx)
    · exact ih (fun l hl => h l (List.mem_cons_of_mem _ hl)) x hx
def RdW (o j : Nat) : Prop := RdX o j ∨ (o = 57 ∧ j = 14)
def RdZ (o j : Nat) : Prop := (o = 57 ∧ 14 ≤ j ∧ j ≤ 18) ∨ (67 ≤ o ∧ o ≤ 71)
theorem RdW_Z (o j : Nat) (h : RdW o j) : RdZ o j := by
  rcases h with q | q
  · rcases q with q | q | q
    · unfold RdM at q; unfold RdZ; omega
    · unfold RdZ; omega
    · unfold RdZ; omega
  · unfold RdZ; omega
theorem RdW_c {o j : Nat} (h : RdW o j) : (o = 57 ∧ 14 ≤ j ∧ j ≤ 18) ∨ ((o = 67 ∨ o = 68) ∧ 130 ≤ j) ∨ (o = 69 ∧ j = 1) ∨ ((o = 70 ∨ o = 71) ∧ 61 ≤ j) := by
  rcases h with q | q
  · rcases q with q | q | q
    · unfold RdM at q; omega
    · omega
    · omega
  · omega
/-- what was read comes to its place -/
theorem sr_copy {p : Prog} {P : Int32 → Tt → Prop} (hp : progOk p) (hm : mlen p ≤ 120) (hL : p.length ≤ 61) (h18 : t.1 57 18 = nI (ptk p).length) (hat : AtM t 130 (ptk p)) (h69 : t.1 69 1 = nI p.length) (hln : LnN t 0 0 p) (k : ∀ t', Fr (fun o _ => 67 ≤ o ∧ o ≤ 71) t t' → t'.1 69 0 = nI p.length → LnM t' 0 0 p → P (-1) t') : Rt g (d + 1) mX8_readText 105 [some (.ref 57), some (.int 0), some (.int 0)] [] t (QI P) := by
  have hpl := ptk_len p
  have hok := ptk_ok p hp
  have k2 : ∀ m l t2, l + m = p.length → Fr (fun o j => (o = 67 ∧ j < 130) ∨ (o = 68 ∧ j < 130) ∨ (o = 69 ∧ j = 0) ∨ ((o = 70 ∨ o = 71) ∧ j < 61)) t t2 → t2.1 69 0 = nI p.length → AtM t2 0 (ptk p) → (∀ q, q < l → t2.1 70 q = t.1 70 (61 + q) ∧ t2.1 71 q = t.1 71 (61 + q)) → Rt g (d + 1) mX8_readText 177 [some (.ref 57), some (.int 0), some (.int (nI l))] [] t2 (QI P) := by
    intro m
    induction m with
    | zero =>
      intro l t2 hl f2 e69 ha hq
      have : l = p.length := by omega
      subst this
      apply bX8_readText_177
      rw [show (0 : Int32).toNatClampNeg = 0 from rfl, e69]
      refine ⟨vpn (k := 0) (by decide), br_t (nI_le (Nat.le_refl _) (by omega)) (qi (k t2 (f2.mo (fun o j q => by omega)) e69 (LnM.of p 0 0 (fun q _ q2 => hq q (by omega)) hln ha)))⟩
    | succ m ih =>
      intro l t2 hl f2 e69 ha hq
      obtain ⟨⟨v, hv, ev⟩, ⟨w, hw, ew⟩⟩ := LnN.vals p 0 0 (by omega) hln l (Nat.zero_le _) (by omega)
      apply bX8_readText_177
      rw [show (0 : Int32).toNatClampNeg = 0 from rfl, e69, m61, show (61 : Int32) = nI 61 from rfl, nI_add]
      have n1 : (nI (61 + l)).toNatClampNeg = 61 + l := ncl (by omega)
      have n2 : (nI l).toNatClampNeg = l := ncl (by omega)
      rw [n1, n2, pI_o _ _ _ _ (show 71 ≠ 70 by decide), f2.1 70 (61 + l) (by omega), f2.1 71 (61 + l) (by omega), ev, ew, (sho_tab v hv).2, (sho_tab w hw).2, nI_1]
      refine ⟨vpn (k := 0) (by decide), br_f (nI_ge (by omega) (by omega)) ⟨vpn (by omega), vpn (by omega), vpn (by omega), vpn (by omega), ?_⟩⟩
      refine ih (l + 1) _ (by omega) ((f2.pI _ (by omega)).pI _ (by omega)) ?_ ((ha.oth (by decide) (by decide)).oth (by decide) (by decide)) (fun q hq' => ?_)
      · rw [pI_o _ _ _ _ (by decide), pI_o _ _ _ _ (by decide)]; exact e69
      · rw [pI_o _ _ _ _ (show 70 ≠ 71 by decide), pI_a, pI_a]
        by_cases e : q = l
        · rw [if_pos ⟨rfl, e⟩, if_pos ⟨rfl, e⟩, e]; exact ⟨ev.symm, ew.symm⟩
        · rw [if_neg (fun c => e c.2), if_neg (fun c => e c.2), pI_o _ _ _ _ (show 71 ≠ 70 by decide)]; exact hq q (by omega)
  have k1 : ∀ m c t2, c + m = (ptk p).length → Fr (fun o j => (o = 67 ∧ j < 130) ∨ (o = 68 ∧ j < 130)) t t2 → (∀ i x, i < c → (ptk p)[i]? = some x → t2.1 67 i = nI x.1 ∧ t2.1 68 i = vlu x) → Rt g (d + 1) mX8_readText 105 [some (.ref 57), some (.int 0), some (.int (nI c))] [] t2 (QI P) := by
    intro m
    induction m with
    | zero =>
      intro c t2 hc f2 hq
      have : c = (ptk p).length := by omega
      subst this
      apply bX8_readText_105
      rw [show (0 : Int32).toNatClampNeg = 0 from rfl, f2.1 57 18 (by omega), h18, f2.1 69 1 (by omega), h69]
      refine br_t (nI_le (Nat.le_refl _) (by omega)) ⟨vpn (k := 0) (by decide), ?_⟩
      refine k2 p.length 0 _ (Nat.zero_add _) ((f2.mo (fun o j q => by omega)).pI _ (by omega)) (pI_s _ _ _ _) (fun i x hx => ?_) (fun q hq => absurd hq (by omega))
      rw [Nat.zero_add, pI_o _ _ _ _ (by decide), pI_o _ _ _ _ (by decide)]
      exact hq i x (List.getElem?_eq_some_iff.mp hx).1 hx
    | succ m ih =>
      intro c t2 hc f2 hq
      have hcl : c < (ptk p).length := by omega
      have hx := List.getElem?_eq_getElem hcl
      have hx128 := hok _ (List.getElem_mem hcl)
      obtain ⟨a1, a2⟩ := hat c _ hx
      apply bX8_readText_105
      rw [f2.1 57 18 (by omega), h18, m130, show (130 : Int32) = nI 130 from rfl, nI_add]
      have n1 : (nI (130 + c)).toNatClampNeg = 130 + c := ncl (by omega)
      have n2 : (nI c).toNatClampNeg = c := ncl (by omega)
      rw [n1, n2, pI_o _ _ _ _ (show 68 ≠ 67 by decide), f2.1 67 (130 + c) (by omega), f2.1 68 (130 + c) (by omega), a1, a2, byt2_tab _ hx128, nI_1]
      refine br_f (nI_ge (by omega) (by omega)) ⟨vpn (by omega), vpn (by omega), vpn (by omega), vpn (by omega), ?_⟩
      refine ih (c + 1) _ (by omega) ((f2.pI _ (by omega)).pI _ (by omega)) (fun i x hi hx' => ?_)
      rw [pI_o _ _ _ _ (show 67 ≠ 68 by decide), pI_a, pI_a]
      by_cases e : i = c
      · subst e
        rw [hx] at hx'
        cases hx'
        rw [if_pos ⟨rfl, rfl⟩, if_pos ⟨rfl, rfl⟩]; exact ⟨rfl, rfl⟩
      · rw [if_neg (fun q => e q.2), if_neg (fun q => e q.2), pI_o _ _ _ _ (show 68 ≠ 67 by decide)]; exact hq i x (by omega) hx'
  exact k1 (ptk p).length 0 t (Nat.zero_add _) (Fr.rf _ _) (fun i x hi _ => absurd hi (by omega))
theorem txF_Sp (T : Tp) : SpT T (txF T) := txL_Sp (fun i hi => lnR_Sp (exT_Sp T) hi) 120 _ (cml_Sp (lnR_Sp (exT_Sp T) (Nat.zero_le _)) (fun l hl => by cases hl) (Nat.le_refl _) (Nat.le_refl _) (Nat.le_refl _))
theorem sr_readText {T : Tp} {P : Int32 → Tt → Prop} (hO : TpO T) (hT : tpM t T) (k1 : okX3 T → ∀ t', Fr RdZ t t' → t'.1 57 14 = 0 → t'.1 69 0 = nI (txF T).2.2.length → LnM t' 0 0 (txF T).2.2 → P (-1) t') (k0 : ¬ okX3 T → ∀ t', Fr RdW t t' → t'.1 57 14 = 0 → P (nI (txF T).2.1) t') : Rt g (d + 48) mX8_readText 0 [some (.ref 57), some (.int 0), none] [] t (QI P) := by
  have h120 := hO.1
  have hspF := txF_Sp T
  have rx : ∀ t1, Fr RdX t t1 → tpM t1 T := fun t1 f => m_tp hT f (fun o j q => by unfold RdX RdM at q; omega)
  -- a fault
  have bad : ∀ t1, ¬ okX3 T → Fr RdX t t1 → t1.1 57 16 = nI (txF T).2.1 → Rt g (d + 48) mX8_readText 86 [some (.ref 57), some (.int 0), none] [] t1 (QI P) := by
    intro t1 hno f1 b1
    have := hspF.1
    apply bX8_readText_86
    rw [pI_n _ _ _ (show 16 ≠ 14 by decide), b1]
    exact br_f (nI_pos (by omega)) (qi (k0 hno _ ((f1.mo (fun o j q => Or.inl q)).pI _ (Or.inr ⟨rfl, rfl⟩)) (pI_s _ _ _ _)))
  have fin : ∀ t1, Fr RdX t t1 → OutY (txF T) t1 → Rt g (d + 48) mX8_readText 64 [some (.ref 57), some (.int 0), none] [] t1 (QI P) := by
    intro t1 f1 o1
    apply bX8_readText_64
    cases hz : (txF T).1 with
    | false =>
      obtain ⟨b1, b2⟩ := o1.2 hz
      have := hspF.1
      have hno : ¬ okX3 T := fun w => by rw [w.1] at hz; cases hz
      rw [b2]
      exact br_t (nI_pos' (by omega)) (bad t1 hno f1 b2)
    | true =>
      obtain ⟨q1, q2, q3⟩ := o1.1 hz
      have hle := hspF.1
      obtain ⟨w1, w2, w3, w4, w5⟩ := hspF.2 hz
      rw [q1.2.1]
      refine br_f (by decide) ?_
      rw [(rx t1 f1).1, q1.1]
      by_cases e : (txF T).2.1 = T.1
      · refine br_t (nI_le (by omega) (by omega)) ?_
        apply bX8_readText_86
        rw [pI_n _ _ _ (show 16 ≠ 14 by decide), q1.2.1]
        refine br_t (by decide) ?_
        refine sr_copy (p := (txF T).2.2) w1 (by omega) (by omega) ?_ q1.2.2.2.2.w57 ?_ ?_ (fun t2 f2 c1 c2 => k1 ⟨hz, e⟩ t2 ?_ ?_ c1 c2)
        · rw [pI_n _ _ _ (by decide)]; exact q1.2.2.2.1
        · rw [pI_o _ _ _ _ (by decide)]; exact q2
        · exact LnN.cg _ 0 0 (fun q _ _ => ⟨by rw [pI_o _ _ _ _ (by decide)], by rw [pI_o _ _ _ _ (by decide)]⟩) q3
        · exact (((f1.mo (S' := RdW) (fun o j q => Or.inl q)).pI _ (Or.inr ⟨rfl, rfl⟩)).mo RdW_Z).tr (f2.mo (fun o j q => Or.inr q))
        · rw [f2.1 _ _ (by omega), pI_s]
      · have hno : ¬ okX3 T := fun w => e w.2
        refine br_f (nI_ge (by omega) (by omega)) ?_
        exact sr_wrong q1 (fun t2 f2 b1 b2 b3 => bad t2 hno (f1.tr (f2.mo RdM_X)) b2)
  apply bX8_readText_0
  generalize e0 : pI (pI (pI (pI (pI t 57 15 0) 57 16 (-1)) 57 17 0) 57 18 0) 69 1 0 = t0
  have f0 : Fr RdX t t0 := by
    rw [← e0]
    exact (((((Fr.rf RdX t).pI _ (Or.inl (Or.inl ⟨rfl, by omega⟩))).pI _ (Or.inl (Or.inl ⟨rfl, by omega⟩))).pI _ (Or.inl (Or.inl ⟨rfl, by omega⟩))).pI _ (Or.inl (Or.inl ⟨rfl, by omega⟩))).pI _ (Or.inr (Or.inl ⟨rfl, rfl⟩))
  have o0 : OkM [] 0 0 t0 := by
    rw [← e0]
    refine ⟨?_, ?_, ?_, ?_, fun i x hx => by cases hx⟩
    · rw [pI_o _ _ _ _ (by decide), pI_n _ _ _ (by decide), pI_n _ _ _ (by decide), pI_n _ _ _ (by decide), pI_s]; rfl
    · rw [pI_o _ _ _ _ (by decide), pI_n _ _ _ (by decide), pI_n _ _ _ (by decide), pI_s]
    · rw [pI_o _ _ _ _ (by decide), pI_n _ _ _ (by decide), pI_s]; rfl
    · rw [pI_o _ _ _ _ (by decide), pI_s]; rfl
  have hin : InM T [] 0 0 t0 := ⟨rx t0 f0, Nat.zero_le _, Nat.le_refl _, o0⟩
  refine rs_line (d := d + 46) (L := 0) hO (exT_Sp T) (rs_exT (d := d + 1) hO) hin (by decide) (by rw [← e0, pI_s]; rfl) (fun t2 f2 on => ?_)
  have hsp1 : SpT T (cml [] (lnR T (exT T) 0)) := cml_Sp (lnR_Sp (exT_Sp T) (Nat.zero_le _)) (fun l hl => by cases hl) (Nat.le_refl _) (Nat.le_refl _) (Nat.le_refl _)
  exact sr_lines31 (d := d + 1) hO hT 120 _ t2 (by omega) hsp1 (f0.tr (f2.mo (LiF_X _))) (OutN.Y (p := []) on trivial f2) fin
end P75
