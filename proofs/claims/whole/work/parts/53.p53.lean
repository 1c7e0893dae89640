/-! PURE LAYER: lend -/
section P53
variable {g : Gt} {d : Nat} {t t1 : Tt} {a : Aa}
theorem capd_tb (x k : Nat) : capd x k = if x.testBit k = true then 1 else 0 := by
  have h := capd_bit x k
  rcases capd_01 x k with q | q
  · rw [if_neg (fun w => by have := h.mpr w; omega)]; exact q
  · rw [if_pos (h.mp q)]; exact q
theorem xor_bit (x y k : Nat) : (x ^^^ y) &&& 2 ^ k = if capd x k = capd y k then 0 else 2 ^ k := by
  apply Nat.eq_of_testBit_eq
  intro i
  rw [Nat.testBit_and, Nat.testBit_xor, Nat.testBit_two_pow, capd_tb, capd_tb]
  by_cases e : k = i
  · subst e
    generalize x.testBit k = p
    generalize y.testBit k = q
    cases p <;> cases q <;> simp
  · have e2 : (2 ^ k).testBit i = false := by rw [Nat.testBit_two_pow]; exact decide_eq_false e
    rw [show decide (k = i) = false from decide_eq_false e, Bool.and_false]
    have e3 : ∀ m, (m = 0 ∨ m = 2 ^ k) → false = Nat.testBit m i := by
      rintro m (rfl | rfl)
      · exact (Nat.zero_testBit i).symm
      · exact e2.symm
    have e4 : ∀ (A : Prop) (hA : Decidable A), (if A then 0 else 2 ^ k) = 0 ∨ (if A then 0 else 2 ^ k) = 2 ^ k := fun A hA => by
      by_cases c : A
      · exact Or.inl (if_pos c)
      · exact Or.inr (if_neg c)
    exact e3 _ (e4 _ _)
def lnD (b : Pp) (p q k : Nat) : Nat := if capd (pc b p) k = capd (pc b q) k then 0 else 2 ^ k
def lnF (b : Pp) (p q k : Nat) : Pp := setF (setF b p (upN (pf b p) k (pf b q k))) q (upN (pf b q) k (pf b p k))
def lendP (b : Pp) (p q k : Nat) : Pp := setCp (setCp (lnF b p q k) p (pc b p ^^^ lnD b p q k)) q (pc b q ^^^ lnD b p q k)
theorem lnF_W {b : Pp} {p q k : Nat} (hw : PpW b) (hp : p < pn b) (hq : q < pn b) (hk : k < 8) : PpW (lnF b p q k) := by
  have u : ∀ p q, p < pn b → q < pn b → ∀ j, j < 8 → upN (pf b p) k (pf b q k) j ≤ 9 := by
    intro p q hp hq j hj
    unfold upN
    split
    · exact hw.2.2.1 q hq k hk
    · exact hw.2.2.1 p hp j hj
  exact setF_W (setF_W hw (u p q hp hq)) (u q p hq hp)
theorem lendP_W {b : Pp} {p q k : Nat} (hw : PpW b) (hp : p < pn b) (hq : q < pn b) (hk : k < 8) : PpW (lendP b p q k) := by
  have hd : lnD b p q k < 2 ^ 8 := by
    unfold lnD
    split
    · decide
    · exact Nat.pow_lt_pow_right (by decide) hk
  exact setCp_W (setCp_W (lnF_W hw hp hq hk) (Nat.xor_lt_two_pow (n := 8) (hw.2.2.2 p hp) hd)) (Nat.xor_lt_two_pow (n := 8) (hw.2.2.2 q hq) hd)
theorem Mth.lnF {o i j fo co lo : Nat} {b : Pp} {p q k : Nat} (h : Mth t o i j fo co lo b) (hp : p < pn b) (hq : q < pn b) (hne : p ≠ q) (hk : k < 8) (d1 : fo ≠ o) (d2 : fo ≠ co) (d3 : fo ≠ lo) : Mth (pI (pI t fo (8 * p + k) (nI (pf b q k))) fo (8 * q + k) (nI (pf b p k))) o i j fo co lo (lnF b p q k) := by
  have h1 := h.putF (p := p) (k := k) (v := pf b q k) hp hk rfl d1 d2 d3
  refine h1.putF (p := q) (k := k) (v := pf b p k) hq hk ?_ d1 d2 d3
  show _ = upN (upN (pf b) p _ q) k _
  rw [upN_n _ _ (Ne.symm hne)]
theorem sp_lend {p q k : Nat} {P : Int32 → Tt → Prop} (h : Rel t a) (hp : p < pn (aP a)) (hq : q < pn (aP a)) (hne : p ≠ q) (hk : k < 8) (kk : ∀ t1, Fr CAl t t1 → RC t1 (setD (setP a (lendP (aP a) p q k)) (upN (aD a) 3 (aD a 3 + 1))) → P (nI (pf (lendP (aP a) p q k) p k)) t1) : Rt g (d + 5) mX7_lend 0 [some (.ref 0), some (.int (nI (10 * p + q))), some (.int (nI k))] [] t (QI P) := by
  have hn := h.n7
  have e1 : nI (10 * p + q) / 10 = nI p := by rw [l10, pk_div (by omega) (by decide) (by decide), show (10 * p + q) / 10 = p by omega]
  have e2 : jr (nI (10 * p + q)) 10 = nI q := by rw [l10, jr_n (by omega) (by decide) (by decide), show (10 * p + q) % 10 = q by omega]
  have r1 : t.1 2 (8 * p + k) = nI (pf (aP a) p k) := h.2.1.1.2.2.1 p hp k hk
  have r2 : t.1 2 (8 * q + k) = nI (pf (aP a) q k) := h.2.1.1.2.2.1 q hq k hk
  apply bX7_lend_0
  rw [e1, e2]
  refine br_f (nI_pos (by omega)) (sp_nobody_g h.pc hn ⟨p, hp, rfl⟩ (br_p rfl (sp_nobody_g h.pc hn ⟨q, hq, rfl⟩ (br_p rfl (br_f (fun c => hne (nI_inj (by omega) (by omega) c)) (sp_out_g (n := 8) rfl (by decide) ⟨k, hk, rfl⟩ (br_t rfl ?_)))))))
  apply bX5_exchange_0 mo1
  rw [ix8, ix8]
  have c1 : (nI (8 * p + k)).toNatClampNeg = 8 * p + k := ncl (by omega)
  have c2 : (nI (8 * q + k)).toNatClampNeg = 8 * q + k := ncl (by omega)
  have c3 : (nI p).toNatClampNeg = p := ncl (by omega)
  have c4 : (nI q).toNatClampNeg = q := ncl (by omega)
  rw [c1, c2, c3, c4]
  refine ⟨vpn (by omega), ?_⟩
  intro z2 ez
  have ez : z2 = nI (pf (aP a) p k) := ez.trans r1
  subst ez
  refine ⟨vpn (by omega), vpn (by omega), vpn (by omega), ?_⟩
  rw [show t.1 (1 + 1) (8 * q + k) = nI (pf (aP a) q k) from r2]
  have m2 : MoC (pI (pI t (1 + 1) (8 * p + k) (nI (pf (aP a) q k))) (1 + 1) (8 * q + k) (nI (pf (aP a) p k))) 1 (lnF (aP a) p q k) := h.2.1.1.lnF hp hq hne hk (by decide) (by decide) (by decide)
  have f2 : Fr (fun o _ => o = 2 ∨ o = 3) t (pI (pI t (1 + 1) (8 * p + k) (nI (pf (aP a) q k))) (1 + 1) (8 * q + k) (nI (pf (aP a) p k))) := ((Fr.rf _ t).pI _ (Or.inl rfl)).pI _ (Or.inl rfl)
  generalize pI (pI t (1 + 1) (8 * p + k) (nI (pf (aP a) q k))) (1 + 1) (8 * q + k) (nI (pf (aP a) p k)) = t2 at m2 f2 ⊢
  have w2 := lnF_W h.pw hp hq hk
  have fin : ∀ t3, Fr (fun o _ => o = 2 ∨ o = 3) t t3 → MoC t3 1 (lendP (aP a) p q k) → vp_in (nI (8 * p + k)) 56 ∧ QI P (some (.int ((pI t3 31 3 (t3.1 31 3 + 1)).1 2 (8 * p + k)))) (pI t3 31 3 (t3.1 31 3 + 1)) := by
    intro t3 f3 m3
    refine ⟨vpn (by omega), qi ?_⟩
    rw [pI_o _ _ _ _ (show 2 ≠ 31 by decide), show t3.1 2 (8 * p + k) = _ from m3.2.2.1 p hp k hk]
    have f4 : Fr (fun o _ => o = 31) t3 (pI t3 31 3 (t3.1 31 3 + 1)) := (Fr.rf _ t3).pI _ rfl
    have f5 : Fr (fun o j => o = 2 ∨ o = 3 ∨ o = 31) t (pI t3 31 3 (t3.1 31 3 + 1)) := (f3.mo (fun o j q => by omega)).tr (f4.mo (fun o j q => by omega))
    refine kk _ (f5.mo (fun o j q => by unfold CAl; omega)) (h.2.1.pd f5 (fun o j q => by omega) (c_mo m3 f4 (fun o j q => by omega)) (fun k hk => ?_))
    rw [pI_a, f3.1 31 3 (by omega), h.2.1.2.2.2.2.2.2.1 3 (by decide)]
    unfold upN
    by_cases q : k = 3
    · rw [if_pos ⟨rfl, q⟩, if_pos q]
    · rw [if_neg (fun w => q w.2), if_neg q, f3.1 _ _ (by omega)]
      exact h.2.1.2.2.2.2.2.2.1 k hk
  refine sp_isCapped mo1 m2 w2 hp hk (sp_isCapped mo1 m2 w2 hq hk ?_)
  have ep : pc (lnF (aP a) p q k) = pc (aP a) := rfl
  rw [ep]
  have h1 := capd_2 (pc (aP a) p) k
  have h2 := capd_2 (pc (aP a) q) k
  by_cases c : capd (pc (aP a) p) k = capd (pc (aP a) q) k
  · refine br_t (by rw [c]) (qv (fin t2 f2 ?_))
    unfold lendP
    have e0 : lnD (aP a) p q k = 0 := if_pos c
    rw [e0, Nat.xor_zero, Nat.xor_zero]
    have e3 : setCp (setCp (lnF (aP a) p q k) p (pc (aP a) p)) q (pc (aP a) q) = lnF (aP a) p q k := by
      unfold setCp
      refine Prod.ext rfl (Prod.ext rfl (Prod.ext rfl (Prod.ext ?_ rfl)))
      show upN (upN (pc (aP a)) p (pc (aP a) p)) q (pc (aP a) q) = pc (aP a)
      rw [upN_id, upN_id]
    rw [e3]
    exact m2
  · refine br_f (fun q => c (nI_inj (by omega) (by omega) q)) ⟨vpn (by omega), vpn (by omega), vpn (by omega), vpn (by omega), qv ?_⟩
    have e0 : lnD (aP a) p q k = 2 ^ k := if_neg c
    rw [shl_tab k (by omega), show t2.1 (1 + 2) p = nI (pc (aP a) p) from m2.2.2.2.1 p hp, pI_n _ _ _ (Ne.symm hne), show t2.1 (1 + 2) q = nI (pc (aP a) q) from m2.2.2.2.1 q hq, nI_xor, nI_xor]
    refine fin _ ((f2.pI _ (Or.inr rfl)).pI _ (Or.inr rfl)) ?_
    unfold lendP
    rw [e0]
    exact (m2.putC (by decide) (by decide) (by decide)).putC (by decide) (by decide) (by decide)
theorem sr_lend {p q k : Nat} {P : Int32 → Tt → Prop} (h : RF t a) (hw : PpW (aP a)) (hp : p < pn (aP a)) (hq : q < pn (aP a)) (hne : p ≠ q) (hk : k < 8) (kk : ∀ t1, Fr MAl t t1 → RF t1 (setD (setP a (lendP (aP a) p q k)) (upN (aD a) 3 (aD a 3 + 1))) → P (nI (pf (lendP (aP a) p q k) p k)) t1) : Rt g (d + 5) mX8_lend 0 [some (.ref 57), some (.int (nI (10 * p + q))), some (.int (nI k)), none, none, none, none] [] t (QI P) := by
  have hn := hw.1
  have e1 : nI (10 * p + q) / 10 = nI p := by rw [l10, pk_div (by omega) (by decide) (by decide), show (10 * p + q) / 10 = p by omega]
  have e2 : jr (nI (10 * p + q)) 10 = nI q := by rw [l10, jr_n (by omega) (by decide) (by decide), show (10 * p + q) % 10 = q by omega]
  have r1 : t.1 58 (8 * p + k) = nI (pf (aP a) p k) := h.1.2.2.1 p hp k hk
  have r2 : t.1 58 (8 * q + k) = nI (pf (aP a) q k) := h.1.2.2.1 q hq k hk
  apply bX8_lend_0
  rw [e1, e2]
  refine br_f (nI_pos (by omega)) (sr_isPerson_g h.1.1 hn ⟨p, hp, rfl⟩ (br_f (by decide) (sr_isPerson_g h.1.1 hn ⟨q, hq, rfl⟩ (br_f (by decide) (br_f (fun c => hne (nI_inj (by omega) (by omega) c)) (sr_in_g (n := 8) rfl (by decide) ⟨k, hk, rfl⟩ (br_n (by decide) ?_)))))))
  intro z12 e12 z13 e13
  subst e12 e13
  rw [ix8', ix8']
  have c1 : (nI (8 * p + k)).toNatClampNeg = 8 * p + k := ncl (by omega)
  have c2 : (nI (8 * q + k)).toNatClampNeg = 8 * q + k := ncl (by omega)
  have c3 : (nI p).toNatClampNeg = p := ncl (by omega)
  have c4 : (nI q).toNatClampNeg = q := ncl (by omega)
  rw [c1, c2, c3, c4]
  refine ⟨vpn (by omega), ?_⟩
  intro z15 e15
  rw [r1] at e15
  subst e15
  rw [r2]
  have m2 : MoR (pI (pI t 58 (8 * p + k) (nI (pf (aP a) q k))) 58 (8 * q + k) (nI (pf (aP a) p k))) (lnF (aP a) p q k) := h.1.lnF hp hq hne hk (by decide) (by decide) (by decide)
  have f2 : Fr (fun o _ => o = 58 ∨ o = 59) t (pI (pI t 58 (8 * p + k) (nI (pf (aP a) q k))) 58 (8 * q + k) (nI (pf (aP a) p k))) := ((Fr.rf _ t).pI _ (Or.inl rfl)).pI _ (Or.inl rfl)
  generalize pI (pI t 58 (8 * p + k) (nI (pf (aP a) q k))) 58 (8 * q + k) (nI (pf (aP a) p k)) = t2 at m2 f2 ⊢
  refine ⟨vpn (by omega), vpn (by omega), vpn (by omega), vpn (by omega), vpn (by omega), ?_⟩
  intro z21 e21
  have e5 : t2.1 59 p = nI (pc (aP a) p) := m2.2.2.2.1 p hp
  have e6 : t2.1 59 q = nI (pc (aP a) q) := m2.2.2.2.1 q hq
  rw [e5, e6, shl_tab k (by omega), nI_xor, nI_and, xor_bit] at e21
  have e21 : z21 = nI (lnD (aP a) p q k) := e21
  subst e21
  refine ⟨vpn (by omega), vpn (by omega), vpn (by omega), vpn (by omega), vpn (by omega), qi ?_⟩
  rw [e5, pI_n _ _ _ (Ne.symm hne), e6, nI_xor, nI_xor]
  have m3 : MoR (pI (pI t2 59 p (nI (pc (aP a) p ^^^ lnD (aP a) p q k))) 59 q (nI (pc (aP a) q ^^^ lnD (aP a) p q k))) (lendP (aP a) p q k) := (m2.putC (by decide) (by decide) (by decide)).putC (by decide) (by decide) (by decide)
  have f3 : Fr (fun o _ => o = 58 ∨ o = 59) t (pI (pI t2 59 p (nI (pc (aP a) p ^^^ lnD (aP a) p q k))) 59 q (nI (pc (aP a) q ^^^ lnD (aP a) p q k))) := (f2.pI _ (Or.inr rfl)).pI _ (Or.inr rfl)
  generalize pI (pI t2 59 p (nI (pc (aP a) p ^^^ lnD (aP a) p q k))) 59 q (nI (pc (aP a) q ^^^ lnD (aP a) p q k)) = t3 at m3 f3 ⊢
  rw [pI_o _ _ _ _ (show 58 ≠ 82 by decide), show t3.1 58 (8 * p + k) = _ from m3.2.2.1 p hp k hk]
  have f4 : Fr (fun o _ => o = 82) t3 (pI t3 82 3 (t3.1 82 3 + 1)) := (Fr.rf _ t3).pI _ rfl
  have f5 : Fr (fun o j => o = 58 ∨ o = 59 ∨ o = 82) t (pI t3 82 3 (t3.1 82 3 + 1)) := (f3.mo (fun o j q => by omega)).tr (f4.mo (fun o j q => by omega))
  refine kk _ (f5.mo (fun o j q => by unfold MAl; omega)) (h.pd f5 (fun o j q => by omega) (m_mo m3 f4 (fun o j q => by omega)) (fun k hk => ?_))
  rw [pI_a, f3.1 82 3 (by omega), h.2.2.2.2.2.2.1 3 (by decide)]
  unfold upN
  by_cases q : k = 3
  · rw [if_pos ⟨rfl, q⟩, if_pos q]
  · rw [if_neg (fun w => q w.2), if_neg q, f3.1 _ _ (by omega)]
    exact h.2.2.2.2.2.2.1 k hk
theorem both_lend {x y : Int32} {Q : Int32 → Int32 → Tt → Prop} (h : Rel t a) (K : KK Q) : Rt g (d + 300) mX7_lend 0 [some (.ref 0), some (.int x), some (.int y)] [] t (QI (fun v t1 => Rt g (d + 300) mX8_lend 0 [some (.ref 57), some (.int x), some (.int y), none, none, none, none] [] t1 (QI (fun w t2 => Q v w t2)))) := by
  have hn := h.n7
  by_cases h0 : x < 0
  · apply bX7_lend_0
    refine br_t h0 (qi ?_)
    apply bX8_lend_0
    exact br_t h0 (qi (K _ _ ⟨a, h⟩))
  · obtain ⟨k, hk, ex, e1, e2⟩ := ten h0
    by_cases h1 : gd (x / 10) (pn (aP a))
    · by_cases h2 : gd (jr x 10) (pn (aP a))
      · by_cases h3 : x / 10 = jr x 10
        · apply bX7_lend_0
          refine br_f h0 (sp_nobody_g h.pc hn h1 (br_p rfl (sp_nobody_g h.pc hn h2 (br_p rfl (br_t h3 (qi ?_))))))
          apply bX8_lend_0
          exact br_f h0 (sr_isPerson_g h.pm hn h1 (br_f (by decide) (sr_isPerson_g h.pm hn h2 (br_f (by decide) (br_t h3 (qi (K _ _ ⟨a, h⟩)))))))
        · by_cases h4 : gd y 8
          · obtain ⟨p, hp, ep⟩ := h1
            obtain ⟨q, hq, eq⟩ := h2
            obtain ⟨j, hj, rfl⟩ := h4
            have ep' : k / 10 = p := nI_inj (by omega) (by omega) (e1.symm.trans ep)
            have eq' : k % 10 = q := nI_inj (by omega) (by omega) (e2.symm.trans eq)
            have e5 : x = nI (10 * p + q) := by rw [ex]; congr 1; omega
            have hne : p ≠ q := fun w => h3 (by rw [ep, eq, w])
            rw [e5]
            refine sp_lend (d := d + 295) h hp hq hne hj (fun t1 f1 c1 => ?_)
            refine sr_lend (d := d + 295) (h.2.2.al f1) h.pw hp hq hne hj (fun t2 f2 g2 => K _ _ ⟨_, ?_, c1.al f2, g2⟩)
            obtain ⟨w1, w2, w3, w4, w5, w6, w7⟩ := h.1
            exact ⟨lendP_W w1 hp hq hj, w2, w3, w4, w5, w6, w7⟩
          · apply bX7_lend_0
            refine br_f h0 (sp_nobody_g h.pc hn h1 (br_p rfl (sp_nobody_g h.pc hn h2 (br_p rfl (br_f h3 (sp_out_b (n := 8) rfl (by decide) h4 (br_f (by decide) (qi ?_))))))))
            apply bX8_lend_0
            exact br_f h0 (sr_isPerson_g h.pm hn h1 (br_f (by decide) (sr_isPerson_g h.pm hn h2 (br_f (by decide) (br_f h3 (sr_in_b (n := 8) rfl (by decide) h4 (br_p rfl (qi (K _ _ ⟨a, h⟩)))))))))
      · apply bX7_lend_0
        refine br_f h0 (sp_nobody_g h.pc hn h1 (br_p rfl (sp_nobody_b h.pc hn h2 (br_n (by decide) (qi ?_)))))
        apply bX8_lend_0
        exact br_f h0 (sr_isPerson_g h.pm hn h1 (br_f (by decide) (sr_isPerson_b h.pm hn h2 (br_t rfl (qi (K _ _ ⟨a, h⟩))))))
    · apply bX7_lend_0
      refine br_f h0 (sp_nobody_b h.pc hn h1 (br_n (by decide) (qi ?_)))
      apply bX8_lend_0
      exact br_f h0 (sr_isPerson_b h.pm hn h1 (br_t rfl (qi (K _ _ ⟨a, h⟩))))
end P53
