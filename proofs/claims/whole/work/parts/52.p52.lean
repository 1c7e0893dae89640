/-! PURE LAYER: say -/
section P52
variable {g : Gt} {d : Nat} {t t1 : Tt} {a : Aa}
def sdP (a : Aa) (p f v z : Nat) : Pp := if capd (aS a) f = v then aP a else lieA (prc (aL a) (aP a) p f z) (aP a) p z
def sdO (a : Aa) (p f v z : Nat) : Nat := if capd (aS a) f = v then 0 else lieO (prc (aL a) (aP a) p f z) (aP a) p z
def sdD (a : Aa) (p f v z : Nat) : Nat → Int32 := fun k => if k = 0 then aD a 0 + 1 else if k = 1 then (if capd (aS a) f = v then aD a 1 else aD a 1 + 1) else if k = 2 then aD a 2 + nI (sdO a p f v z) else aD a k
theorem sdP_o (a : Aa) (p f v z : Nat) : pn (sdP a p f v z) = pn (aP a) ∧ pg (sdP a p f v z) = pg (aP a) ∧ pc (sdP a p f v z) = pc (aP a) ∧ (∀ q, q ≠ p → pf (sdP a p f v z) q = pf (aP a) q) ∧ ∀ q, q ≠ p → pl (sdP a p f v z) q = pl (aP a) q := by
  unfold sdP
  split
  · exact ⟨rfl, rfl, rfl, fun _ _ => rfl, fun _ _ => rfl⟩
  · exact ⟨rfl, rfl, rfl, fun q hq => upN_n _ _ hq, fun q hq => upN_n _ _ hq⟩
theorem sdP_W {p f v z : Nat} (hw : PpW (aP a)) (hp : p < pn (aP a)) : PpW (sdP a p f v z) := by
  unfold sdP
  split
  · exact hw
  · exact lieA_W hw hp _ _
theorem sp_say {p f v z : Nat} {P : Int32 → Tt → Prop} (h : Rel t a) (hp : p < pn (aP a)) (hf : f < 10) (hv : v < 2) (hz : z < 10) (k : ∀ t1, Fr CAl t t1 → RC t1 (setD (setP a (sdP a p f v z)) (sdD a p f v z)) → P (nI (sdO a p f v z)) t1) : Rt g (d + 6) mX7_say 0 [some (.ref 0), some (.int (nI p)), some (.int (nI (100 * f + 10 * v + z))), none, none] [] t (QI P) := by
  have hn := h.n7
  have e1 : nI (100 * f + 10 * v + z) / 10 = nI (10 * f + v) := by rw [l10, pk_div (by omega) (by decide) (by decide), show (100 * f + 10 * v + z) / 10 = 10 * f + v by omega]
  have e2 : nI (100 * f + 10 * v + z) / 100 = nI f := by rw [show (100 : Int32) = nI 100 from rfl, pk_div (by omega) (by decide) (by decide), show (100 * f + 10 * v + z) / 100 = f by omega]
  have e3 : jr (nI (10 * f + v)) 10 = nI v := by rw [l10, jr_n (by omega) (by decide) (by decide), show (10 * f + v) % 10 = v by omega]
  have e4 : jr (nI (100 * f + 10 * v + z)) 10 = nI z := by rw [l10, jr_n (by omega) (by decide) (by decide), show (100 * f + 10 * v + z) % 10 = z by omega]
  apply bX7_say_0
  refine sp_nobody_g h.pc hn ⟨p, hp, rfl⟩ (br_p rfl (br_f (nI_pos (by omega)) ?_))
  rw [e1]
  refine sp_noClaim_g ⟨f, v, hf, hv, rfl⟩ (br_t rfl ?_)
  intro z8 e8
  rw [e2] at e8
  subst e8
  rw [e3, e4, pI_o _ _ _ _ (show 0 ≠ 31 by decide), h.so]
  generalize e0 : pI t 31 0 (t.1 31 0 + 1) = t0
  have f0 : Fr (fun o _ => o = 31) t t0 := by rw [← e0]; exact (Fr.rf _ t).pI _ rfl
  have d0 : t0.1 31 0 = aD a 0 + 1 := by rw [← e0, pI_s, h.2.1.2.2.2.2.2.2.1 0 (by decide)]
  have d1 : ∀ k, k < 6 → k ≠ 0 → t0.1 31 k = aD a k := fun k hk hk0 => by rw [← e0, pI_n _ _ _ hk0]; exact h.2.1.2.2.2.2.2.2.1 k hk
  have c0 : RC t0 (setD (setP a (aP a)) (upN (aD a) 0 (aD a 0 + 1))) := by
    refine h.2.1.pd f0 (fun o j q => Or.inr (Or.inr q)) (c_mo h.2.1.1 f0 (fun o j q => by omega)) (fun k hk => ?_)
    unfold upN
    by_cases e : k = 0
    · rw [e, if_pos rfl]; exact d0
    · rw [if_neg e]; exact d1 k hk e
  refine sp_isLie h.1.2.1 hf hv ?_
  by_cases hl : capd (aS a) f = v
  · rw [if_pos hl]
    refine br_p rfl (qi ?_)
    have eO : sdO a p f v z = 0 := by unfold sdO; rw [if_pos hl]
    have eP : sdP a p f v z = aP a := by unfold sdP; rw [if_pos hl]
    have := k t0 (f0.mo (fun o j q => by unfold CAl; omega)) ?_
    · rw [eO] at this; exact this
    · rw [eP]
      refine h.2.1.pd f0 (fun o j q => Or.inr (Or.inr q)) (c_mo h.2.1.1 f0 (fun o j q => by omega)) (fun k hk => ?_)
      unfold sdD
      rw [eO, if_pos hl]
      by_cases e : k = 0
      · rw [e, if_pos rfl]; exact d0
      · rw [if_neg e, d1 k hk e]
        by_cases e' : k = 1
        · rw [e', if_pos rfl]
        · rw [if_neg e']
          by_cases e'' : k = 2
          · rw [e'', if_pos rfl]; exact (Int32.add_zero _).symm
          · rw [if_neg e'']
  · rw [if_neg hl]
    have lw : lwC t0 (aL a) := c0.2.2.2.2.1
    have m0 : MoC t0 1 (aP a) := c0.1
    refine br_n (by decide) ⟨lw.1, ?_⟩
    refine sp_lie (d := d + 3) mo1 lw.1 m0 h.pw hp hz (prc_le hz) (fun P' k' => sp_priceOf mo1 lw.1 m0 h.pw hp hz lw.2.2.2 k') (fun t3 f3 m3 => ?_)
    have eO : sdO a p f v z = lieO (prc (aL a) (aP a) p f z) (aP a) p z := by unfold sdO; rw [if_neg hl]
    have eP : sdP a p f v z = lieA (prc (aL a) (aP a) p f z) (aP a) p z := by unfold sdP; rw [if_neg hl]
    apply qi
    rw [← eP] at m3
    rw [← eO]
    generalize e5 : pI (pI t3 31 1 (t3.1 31 1 + 1)) 31 2 ((pI t3 31 1 (t3.1 31 1 + 1)).1 31 2 + nI (sdO a p f v z)) = t5
    have f5 : Fr (fun o _ => o = 31) t3 t5 := by rw [← e5]; exact ((Fr.rf (fun o _ => o = 31) t3).pI _ rfl).pI _ rfl
    have n31 : ∀ k, t3.1 31 k = t0.1 31 k := fun k => f3.1 _ _ (by unfold LieS LwS; omega)
    have f6 : Fr (fun o j => LwS o j ∨ o = 2 ∨ o = 4 ∨ o = 31) t t5 := (f0.mo (fun o j q => Or.inr (Or.inr (Or.inr q)))).tr ((f3.mo (fun o j q => by rcases q with q | q | q; exact Or.inl q; exact Or.inr (Or.inl q); exact Or.inr (Or.inr (Or.inl q)))).tr (f5.mo (fun o j q => Or.inr (Or.inr (Or.inr q)))))
    refine k t5 (f6.mo (fun o j q => by unfold CAl; unfold LwS at q; omega)) ?_
    refine h.2.1.pd f6 (fun o j q => by rcases q with q | q | q | q; exact Or.inl (Or.inr (Or.inr (Or.inl q))); exact Or.inr (Or.inl (by omega)); exact Or.inr (Or.inl (by omega)); exact Or.inr (Or.inr q)) (c_mo m3 f5 (fun o j q => by omega)) (fun k hk => ?_)
    unfold sdD
    rw [if_neg hl]
    by_cases e : k = 0
    · rw [e, if_pos rfl, ← e5, pI_n _ _ _ (by decide), pI_n _ _ _ (by decide), n31]; exact d0
    · rw [if_neg e]
      by_cases e' : k = 1
      · rw [e', if_pos rfl, ← e5, pI_n _ _ _ (by decide), pI_s, n31, d1 1 (by decide) (by decide)]
      · rw [if_neg e']
        by_cases e'' : k = 2
        · rw [e'', if_pos rfl, ← e5, pI_s, pI_n _ _ _ (by decide), n31, d1 2 (by decide) (by decide)]
        · rw [if_neg e'', ← e5, pI_n _ _ _ e'', pI_n _ _ _ e', n31, d1 k hk e]
theorem sr_say86 {p : Nat} {b : Pp} {x4 x5 : Int32} {P : Int32 → Tt → Prop} (hp : p < pn b) (hn : pn b ≤ 7) (hm : MoM t b) (k : ∀ t', Fr (fun o j => (o = 58 ∧ 8 * p ≤ j ∧ j < 8 * p + 8) ∨ (o = 60 ∧ j = p) ∨ o = 82) t t' → (∀ k, k < 8 → t'.1 58 (8 * p + k) = nI (pf b p k)) → t'.1 60 p = pl b p → t'.1 82 0 = t.1 82 0 + 1 → t'.1 82 1 = (if x4 = 0 then t.1 82 1 else t.1 82 1 + 1) → t'.1 82 2 = t.1 82 2 + x5 → (∀ k, 3 ≤ k → t'.1 82 k = t.1 82 k) → P x5 t') : Rt g (d + 1) mX8_say 86 [some (.ref 57), some (.int (nI p)), none, none, some (.int x4), some (.int x5), some (.int 0)] [] t (QI P) := by
  have key : ∀ m i t2, i + m = 8 → Fr (fun o j => o = 58 ∧ 8 * p ≤ j ∧ j < 8 * p + 8) t t2 → (∀ k, k < i → t2.1 58 (8 * p + k) = nI (pf b p k)) → Rt g (d + 1) mX8_say 86 [some (.ref 57), some (.int (nI p)), none, none, some (.int x4), some (.int x5), some (.int (nI i))] [] t2 (QI P) := by
    intro m
    induction m with
    | zero =>
      intro i t2 hi f2 e4
      have : i = 8 := by omega
      subst this
      apply bX8_say_86
      refine br_t (nI_le (a := 8) (by omega) (by decide)) ⟨vpn (by omega), vpn (by omega), ?_⟩
      have e75 : t2.1 75 p = pl b p := (f2.1 _ _ (by omega)).trans (hm.2.2.2.2 p hp)
      have n82 : ∀ k, t2.1 82 k = t.1 82 k := fun k => f2.1 _ _ (by omega)
      rw [ncl (by omega), e75, pI_o _ _ _ _ (show 82 ≠ 60 by decide), n82]
      generalize e3 : pI (pI t2 60 p (pl b p)) 82 0 (t.1 82 0 + 1) = t3
      have f3 : Fr (fun o j => (o = 60 ∧ j = p) ∨ o = 82) t2 t3 := by rw [← e3]; exact ((Fr.rf _ t2).pI _ (Or.inl ⟨rfl, rfl⟩)).pI _ (Or.inr rfl)
      have r0 : t3.1 82 0 = t.1 82 0 + 1 := by rw [← e3, pI_s]
      have r1 : ∀ k, k ≠ 0 → t3.1 82 k = t.1 82 k := fun k hk => by rw [← e3, pI_n _ _ _ hk, pI_o _ _ _ _ (by decide), n82]
      have r2 : t3.1 60 p = pl b p := by rw [← e3, pI_o _ _ _ _ (by decide), pI_s]
      have f23 := (f2.mo (S' := fun o j => (o = 58 ∧ 8 * p ≤ j ∧ j < 8 * p + 8) ∨ (o = 60 ∧ j = p) ∨ o = 82) (fun o j q => Or.inl q)).tr (f3.mo (fun o j q => Or.inr q))
      refine ⟨fun c => ?_, fun c => ?_⟩
      · apply bX8_say_160
        refine qi (k _ (f23.pI _ (Or.inr (Or.inr rfl))) (fun k hk => ?_) ?_ ?_ ?_ ?_ (fun k hk => ?_))
        · rw [pI_o _ _ _ _ (by decide), f3.1 _ _ (by omega)]; exact e4 k hk
        · rw [pI_o _ _ _ _ (by decide)]; exact r2
        · rw [pI_n _ _ _ (by decide)]; exact r0
        · rw [pI_n _ _ _ (by decide), if_pos c]; exact r1 1 (by decide)
        · rw [pI_s, r1 2 (by decide)]
        · rw [pI_n _ _ _ (by omega)]; exact r1 k (by omega)
      · apply bX8_say_160
        refine qi (k _ ((f23.pI _ (Or.inr (Or.inr rfl))).pI _ (Or.inr (Or.inr rfl))) (fun k hk => ?_) ?_ ?_ ?_ ?_ (fun k hk => ?_))
        · rw [pI_o _ _ _ _ (by decide), pI_o _ _ _ _ (by decide), f3.1 _ _ (by omega)]; exact e4 k hk
        · rw [pI_o _ _ _ _ (by decide), pI_o _ _ _ _ (by decide)]; exact r2
        · rw [pI_n _ _ _ (by decide), pI_n _ _ _ (by decide)]; exact r0
        · rw [pI_n _ _ _ (by decide), pI_s, if_neg c, r1 1 (by decide)]
        · rw [pI_s, pI_n _ _ _ (by decide), r1 2 (by decide)]
        · rw [pI_n _ _ _ (by omega), pI_n _ _ _ (by omega)]; exact r1 k (by omega)
    | succ m ih =>
      intro i t2 hi f2 e4
      apply bX8_say_86
      rw [ix8']
      refine br_f (nI_ge (b := 8) (by omega) (by decide)) ⟨vpn (by omega), vpn (by omega), ?_⟩
      rw [ncl (by omega), nI_1]
      have e74 : t2.1 74 (8 * p + i) = nI (pf b p i) := (f2.1 _ _ (by omega)).trans (hm.2.2.1 p hp i (by omega))
      refine ih (i + 1) _ (by omega) (f2.pI _ ⟨rfl, by omega, by omega⟩) (fun k hk => ?_)
      rw [pI_a, e74]
      by_cases e : k = i
      · rw [if_pos ⟨rfl, by omega⟩, e]
      · rw [if_neg (by omega)]; exact e4 k (by omega)
  exact key 8 0 t rfl (Fr.rf _ _) (fun k hk => absurd hk (by omega))
theorem sr_say {p f v z : Nat} {P : Int32 → Tt → Prop} (h : RF t a) (hw : PpW (aP a)) (hp : p < pn (aP a)) (hf : f < 10) (hv : v < 2) (hz : z < 10) (k : ∀ t1, Fr MAl t t1 → RF t1 (setD (setP a (sdP a p f v z)) (sdD a p f v z)) → P (nI (sdO a p f v z)) t1) : Rt g (d + 6) mX8_say 0 [some (.ref 57), some (.int (nI p)), some (.int (nI (100 * f + 10 * v + z))), none, none, none, none] [] t (QI P) := by
  have hn := hw.1
  have e1 : nI (100 * f + 10 * v + z) / 10 = nI (10 * f + v) := by rw [l10, pk_div (by omega) (by decide) (by decide), show (100 * f + 10 * v + z) / 10 = 10 * f + v by omega]
  have e2 : nI (100 * f + 10 * v + z) / 100 = nI f := by rw [show (100 : Int32) = nI 100 from rfl, pk_div (by omega) (by decide) (by decide), show (100 * f + 10 * v + z) / 100 = f by omega]
  have e3 : jr (nI (10 * f + v)) 10 = nI v := by rw [l10, jr_n (by omega) (by decide) (by decide), show (10 * f + v) % 10 = v by omega]
  have e4 : jr (nI (100 * f + 10 * v + z)) 10 = nI z := by rw [l10, jr_n (by omega) (by decide) (by decide), show (100 * f + 10 * v + z) % 10 = z by omega]
  apply bX8_say_0
  rw [e1, e2, e3]
  refine sr_isPerson_g h.1.1 hn ⟨p, hp, rfl⟩ (br_f (by decide) (br_f (nI_pos (by omega)) ?_))
  refine sr_isFact_g ⟨f, hf, rfl⟩ (br_f (by decide) (br_t (nI_le (b := 1) (by omega) (by decide)) ?_))
  refine sr_beginMouths h.1 hw (fun t3 f3 m3 => ?_)
  intro z10 e10
  subst e10
  refine ⟨vpn hf, ?_⟩
  rw [ncl (by omega)]
  have eso : ∀ t4, Fr (fun o _ => o ≠ 61) t t4 → t4.1 61 f = nI (capd (aS a) f) := fun t4 f4 => (f4.1 _ _ (fun q => q rfl)).trans (h.2.1 f hf)
  rw [eso t3 (f3.mo (fun o j q => by omega))]
  have hc2 := capd_2 (aS a) f
  -- what the last part leaves
  have fin : ∀ (x4 : Int32) t4 t5, Fr (fun o j => (72 ≤ o ∧ o ≤ 75)) t t4 → MoM t4 (sdP a p f v z) → (x4 = 0 ↔ capd (aS a) f = v) → Fr (fun o j => (o = 58 ∧ 8 * p ≤ j ∧ j < 8 * p + 8) ∨ (o = 60 ∧ j = p) ∨ o = 82) t4 t5 → (∀ k, k < 8 → t5.1 58 (8 * p + k) = nI (pf (sdP a p f v z) p k)) → t5.1 60 p = pl (sdP a p f v z) p → t5.1 82 0 = t4.1 82 0 + 1 → t5.1 82 1 = (if x4 = 0 then t4.1 82 1 else t4.1 82 1 + 1) → t5.1 82 2 = t4.1 82 2 + nI (sdO a p f v z) → (∀ k, 3 ≤ k → t5.1 82 k = t4.1 82 k) → P (nI (sdO a p f v z)) t5 := by
    intro x4 t4 t5 f4 m4 hx f5 q1 q2 q3 q4 q5 q6
    obtain ⟨o1, o2, o3, o4, o5⟩ := sdP_o a p f v z
    have f45 : Fr (fun o j => (72 ≤ o ∧ o ≤ 75) ∨ (o = 58 ∧ 8 * p ≤ j ∧ j < 8 * p + 8) ∨ (o = 60 ∧ j = p) ∨ o = 82) t t5 := (f4.mo (fun o j q => Or.inl q)).tr (f5.mo (fun o j q => Or.inr q))
    have n82 : ∀ k, k < 6 → t4.1 82 k = aD a k := fun k hk => (f4.1 _ _ (by omega)).trans (h.2.2.2.2.2.2.1 k hk)
    refine k t5 (f45.mo (fun o j q => by unfold MAl; omega)) (h.pd f45 (fun o j q => by unfold MSc; omega) ?_ (fun k hk => ?_))
    · refine ⟨?_, ?_, fun q hq l hl => ?_, fun q hq => ?_, fun q hq => ?_⟩
      · rw [o1, f45.1 _ _ (by omega)]; exact h.1.1
      · rw [o2, f45.1 _ _ (by omega)]; exact h.1.2.1
      · by_cases e : q = p
        · rw [e]; exact q1 l hl
        · rw [o4 q e, f45.1 _ _ (by omega)]; exact h.1.2.2.1 q (by omega) l hl
      · rw [o3, f45.1 _ _ (by omega)]; exact h.1.2.2.2.1 q (by omega)
      · by_cases e : q = p
        · rw [e]; exact q2
        · rw [o5 q e, f45.1 _ _ (by omega)]; exact h.1.2.2.2.2 q (by omega)
    · unfold sdD
      by_cases e : k = 0
      · rw [e, if_pos rfl, q3, n82 0 (by decide)]
      · rw [if_neg e]
        by_cases e' : k = 1
        · rw [e', if_pos rfl, q4, n82 1 (by decide)]
          by_cases hl : capd (aS a) f = v
          · rw [if_pos hl, if_pos (hx.mpr hl)]
          · rw [if_neg hl, if_neg (fun w => hl (hx.mp w))]
        · rw [if_neg e']
          by_cases e'' : k = 2
          · rw [e'', if_pos rfl, q5, n82 2 (by decide)]
          · rw [if_neg e'', q6 k (by omega), n82 k hk]
  have f3' : Fr (fun o j => (72 ≤ o ∧ o ≤ 75)) t t3 := f3.mo (fun o j q => by omega)
  by_cases hl : capd (aS a) f = v
  · have eO : sdO a p f v z = 0 := by unfold sdO; rw [if_pos hl]
    have eP : sdP a p f v z = aP a := by unfold sdP; rw [if_pos hl]
    refine br_t (by rw [hl]) ?_
    apply bX8_say_65
    rw [e2, e4]
    apply bX8_sayOf_0
    refine ⟨vpn hf, ?_⟩
    rw [ncl (by omega), eso t3 (f3.mo (fun o j q => by omega))]
    refine br_p (by rw [hl]) (qi ?_)
    rw [← eP] at m3
    have := sr_say86 (g := g) (d := d + 5) (x4 := 0) (x5 := nI (sdO a p f v z)) (by rw [eP]; exact hp) (by rw [eP]; exact hn) m3 (fin 0 t3 · f3' m3 ⟨fun _ => hl, fun _ => rfl⟩)
    rw [eO] at this
    exact this
  · have eO : sdO a p f v z = lieO (prc (aL a) (aP a) p f z) (aP a) p z := by unfold sdO; rw [if_neg hl]
    have eP : sdP a p f v z = lieA (prc (aL a) (aP a) p f z) (aP a) p z := by unfold sdP; rw [if_neg hl]
    have hne : ¬ nI v = nI (capd (aS a) f) := fun q => hl (nI_inj (by omega) (by omega) q).symm
    refine br_f hne ?_
    apply bX8_say_65
    rw [e2, e4]
    apply bX8_sayOf_0
    refine ⟨vpn hf, ?_⟩
    rw [ncl (by omega), eso t3 (f3.mo (fun o j q => by omega))]
    refine br_n hne ?_
    refine sr_lieOf (d := d) m3 hw hp hz (h.2.2.2.2.1.fr f3 (fun o j q => by omega)) (fun t4 f4 m4 => qi ?_)
    rw [← eP] at m4
    rw [← eO]
    exact sr_say86 (g := g) (d := d + 5) (x4 := 1) (by rw [eP]; exact hp) (by rw [eP]; exact hn) m4 (fin 1 t4 · (f3'.tr (f4.mo (fun o j q => by unfold LiM at q; omega))) m4 ⟨fun q => absurd q (by decide), fun q => absurd q hl⟩)
theorem both_say {x y : Int32} {Q : Int32 → Int32 → Tt → Prop} (h : Rel t a) (K : KK Q) : Rt g (d + 300) mX7_say 0 [some (.ref 0), some (.int x), some (.int y), none, none] [] t (QI (fun v t1 => Rt g (d + 300) mX8_say 0 [some (.ref 57), some (.int x), some (.int y), none, none, none, none] [] t1 (QI (fun w t2 => Q v w t2)))) := by
  have hn := h.n7
  by_cases h1 : gd x (pn (aP a))
  · by_cases h2 : y < 0
    · apply bX7_say_0
      refine sp_nobody_g h.pc hn h1 (br_p rfl (br_t h2 (qi ?_)))
      exact bX8_say_0 (sr_isPerson_g h.pm hn h1 (br_f (by decide) (br_t h2 (qi (K _ _ ⟨a, h⟩)))))
    · obtain ⟨k, hk, ey, e1, -⟩ := ten h2
      by_cases hc : gcl (nI (k / 10))
      · obtain ⟨f, v, hf, hv, ec⟩ := hc
        have ek : k / 10 = 10 * f + v := nI_inj (by omega) (by omega) ec
        obtain ⟨p, hp, rfl⟩ := h1
        have e5 : y = nI (100 * f + 10 * v + k % 10) := by rw [ey]; congr 1; omega
        rw [e5]
        have hz : k % 10 < 10 := Nat.mod_lt _ (by decide)
        refine sp_say (d := d + 294) h hp hf hv hz (fun t1 f1 c1 => ?_)
        refine sr_say (d := d + 294) (h.2.2.al f1) h.pw hp hf hv hz (fun t2 f2 g2 => K _ _ ⟨_, ?_, c1.al f2, g2⟩)
        obtain ⟨w1, w2, w3, w4, w5, w6, w7⟩ := h.1
        have eo := (sdP_o a p f v (k % 10)).1
        refine ⟨sdP_W w1 hp, w2, ?_, w4, ?_, w6, w7⟩
        · show chW (pn (sdP a p f v (k % 10))) _
          rw [eo]; exact w3
        · show imW (pn (sdP a p f v (k % 10))) _
          rw [eo]; exact w5
      · apply bX7_say_0
        refine sp_nobody_g h.pc hn h1 (br_p rfl (br_f h2 ?_))
        rw [e1]
        refine sp_noClaim_b hc (br_f (by decide) (qi ?_))
        apply bX8_say_0
        refine sr_isPerson_g h.pm hn h1 (br_f (by decide) (br_f h2 ?_))
        have e2 : y / 100 = nI (k / 100) := by rw [ey, show (100 : Int32) = nI 100 from rfl, pk_div hk (by decide) (by decide)]
        rw [e1, e2]
        by_cases hf : gd (nI (k / 100)) 10
        · refine sr_isFact_g hf (br_f (by decide) ?_)
          rw [l10, jr_n (by omega) (by decide) (by decide)]
          refine br_f (fun c => hc ?_) (qi (K _ _ ⟨a, h⟩))
          obtain ⟨j, hj, ej⟩ := hf
          have h3 := nI_inj (by omega) (by omega) ej
          have h4 : k / 10 % 10 ≤ 1 := (nI_leI (b := 1) (by omega) (by decide)).mp c
          exact ⟨j, k / 10 % 10, hj, by omega, by congr 1; omega⟩
        · exact sr_isFact_b hf (br_t rfl (qi (K _ _ ⟨a, h⟩)))
  · apply bX7_say_0
    refine sp_nobody_b h.pc hn h1 (br_n (by decide) (qi ?_))
    exact bX8_say_0 (sr_isPerson_b h.pm hn h1 (br_t rfl (qi (K _ _ ⟨a, h⟩))))
end P52
