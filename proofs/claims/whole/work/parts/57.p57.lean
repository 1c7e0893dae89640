/-! PURE LAYER: a number is made another; changes are noted -/
section P57
variable {g : Gt} {d : Nat} {t t1 : Tt} {a : Aa}
def soPut (so f v : Nat) : Nat := (so &&& (1023 ^^^ 2 ^ f)) ||| (if v = 1 then 2 ^ f else 0)
theorem put_tab : ∀ f, f < 10 → ∀ v, v < 2 → ∀ so, so < 1024 → (nI so &&& (jsl 1 (nI f) ^^^ (-1))) ||| jsl (nI v) (nI f) = nI (soPut so f v) := by decide +kernel
theorem pmsk_tab : ∀ f, f < 10 → ∀ k, k < 10 → (1023 ^^^ 2 ^ f).testBit k = decide (k ≠ f) := by decide +kernel
theorem soPut_lt {so f v : Nat} (hso : so < 1024) (hf : f < 10) : soPut so f v < 1024 := by
  unfold soPut
  refine Nat.or_lt_two_pow (n := 10) (Nat.lt_of_le_of_lt Nat.and_le_left hso) ?_
  split
  · exact Nat.pow_lt_pow_right (by decide) hf
  · decide
theorem soPut_bit {so f v k : Nat} (hf : f < 10) (hv : v < 2) (hk : k < 10) : capd (soPut so f v) k = if k = f then v else capd so k := by
  rw [capd_tb]
  unfold soPut
  rw [Nat.testBit_or, Nat.testBit_and, pmsk_tab f hf k hk]
  by_cases e : k = f
  · subst e
    rw [if_pos rfl]
    have hv' : v = 0 ∨ v = 1 := by omega
    rcases hv' with rfl | rfl <;> simp
  · rw [if_neg e, capd_tb so k]
    have : (if v = 1 then 2 ^ f else 0).testBit k = false := by
      split
      · rw [Nat.testBit_two_pow]; exact decide_eq_false (fun q => e q.symm)
      · simp
    rw [this]
    simp [e]
def setGd (b : Pp) (v : Nat) : Pp := (pn b, v, pf b, pc b, pl b)
def mkA (a : Aa) (nb w v : Nat) : Aa := if w = 8 then setP a (setCp (aP a) nb v) else if w = 9 then setS a (soPut (aS a) nb v) else if w = 10 then setP a (setGd (aP a) v) else setP a (setF (aP a) nb (upN (pf (aP a) nb) w v))
theorem mst_le {w v : Nat} (hw : w < 11) (hv : v ≤ mst w) : (w = 8 → v < 256) ∧ (w = 9 → v < 2) ∧ (w ≠ 8 → w ≠ 9 → v ≤ 9) ∧ v < 256 := by
  unfold mst at hv
  split at hv
  · omega
  · split at hv <;> omega
theorem mkA_W {nb w v : Nat} (h : AW a) (ok : okN (pn (aP a)) nb w) (hw : w < 11) (hv : v ≤ mst w) : AW (mkA a nb w v) := by
  obtain ⟨v1, v2, v3, v4⟩ := mst_le hw hv
  obtain ⟨w1, w2, w3, w4, w5, w6, w7⟩ := h
  unfold okN at ok
  unfold mkA
  by_cases h8 : w = 8
  · rw [if_pos h8]; exact ⟨setCp_W w1 v4, w2, w3, w4, w5, w6, w7⟩
  · rw [if_neg h8]
    by_cases h9 : w = 9
    · rw [if_pos h9] at ok ⊢
      exact ⟨w1, soPut_lt w2 ok, w3, w4, w5, w6, w7⟩
    · rw [if_neg h9] at ok ⊢
      by_cases h10 : w = 10
      · rw [if_pos h10]
        exact ⟨⟨w1.1, v3 h8 h9, w1.2.2⟩, w2, w3, w4, w5, w6, w7⟩
      · rw [if_neg h10] at ok ⊢
        refine ⟨setF_W w1 (fun k hk => ?_), w2, w3, w4, w5, w6, w7⟩
        unfold upN
        split
        · exact v3 h8 h9
        · exact w1.2.2.1 nb ok k hk
theorem Mth.putG {o i j fo co lo v : Nat} {b : Pp} (h : Mth t o i j fo co lo b) (d0 : i ≠ j) (d1 : o ≠ fo) (d2 : o ≠ co) (d3 : o ≠ lo) : Mth (pI t o j (nI v)) o i j fo co lo (setGd b v) := by
  refine ⟨?_, pI_s _ _ _ _, fun q hq l hl => ?_, fun q hq => ?_, fun q hq => ?_⟩
  · rw [pI_n _ _ _ d0]; exact h.1
  · rw [pI_o _ _ _ _ (Ne.symm d1)]; exact h.2.2.1 q hq l hl
  · rw [pI_o _ _ _ _ (Ne.symm d2)]; exact h.2.2.2.1 q hq
  · rw [pI_o _ _ _ _ (Ne.symm d3)]; exact h.2.2.2.2 q hq
def SmC (o j : Nat) : Prop := o = 2 ∨ o = 3 ∨ (o = 0 ∧ j = 11) ∨ (o = 1 ∧ j = 1)
def SmM (o j : Nat) : Prop := o = 58 ∨ o = 59 ∨ o = 61 ∨ (o = 57 ∧ j = 6)
theorem sp_make {nb w v : Nat} {P : Tt → Prop} (h : RC t a) (hw : AW a) (ok : okN (pn (aP a)) nb w) (hw' : w < 11) (hv : v ≤ mst w) (k : ∀ t', Fr SmC t t' → RC t' (mkA a nb w v) → P t') : Rt g d mX7_makeNumber 0 [some (.ref 0), some (.int (nI nb)), some (.int (nI w)), some (.int (nI v))] [] t (QV P) := by
  have hn := hw.1.1
  obtain ⟨v1, v2, v3, v4⟩ := mst_le hw' hv
  unfold okN at ok
  unfold mkA at k
  have pd : ∀ {b : Pp} {t'}, Fr (fun o j => o = 2 ∨ o = 3 ∨ (o = 1 ∧ j = 1)) t t' → MoC t' 1 b → RC t' (setP a b) := fun {b t'} f m => h.pd f (fun o j q => by omega) m (c_dd h.2.2.2.2.2.2.1 f (fun o j q => by omega))
  apply bX7_makeNumber_0
  by_cases h8 : w = 8
  · subst h8
    rw [if_neg (by decide), if_neg (by decide)] at ok
    rw [if_pos rfl] at k
    refine br_t rfl ⟨vpn (by omega), qv ?_⟩
    rw [ncl (by omega)]
    exact k _ ((Fr.rf _ t).pI _ (Or.inr (Or.inl rfl))) (pd ((Fr.rf _ t).pI _ (Or.inr (Or.inl rfl))) (h.1.putC (by decide) (by decide) (by decide)))
  · rw [if_neg h8] at k
    refine br_f (wne (by omega) (by decide) h8) ?_
    by_cases h9 : w = 9
    · subst h9
      rw [if_pos rfl] at ok k
      refine br_t rfl (qv ?_)
      rw [show t.1 0 11 = nI (aS a) from h.2.1, put_tab nb ok v (v2 rfl) _ hw.2.1]
      have f : Fr (fun o j => o = 0 ∧ j = 11) t (pI t 0 11 (nI (soPut (aS a) nb v))) := (Fr.rf _ t).pI _ ⟨rfl, rfl⟩
      refine k _ (f.mo (fun o j q => Or.inr (Or.inr (Or.inl q)))) ?_
      obtain ⟨h1, h2, h3, h4, h5, h6, h7, h8, h9⟩ := h
      exact ⟨c_mo h1 f (fun o j q => by omega), pI_s _ _ _ _, c_ch h3 f (fun o j q => by omega), c_tp h4 f (fun o j q => by omega), c_lw h5 f (fun o j q => by omega), c_im h6 f (fun o j q => by omega), c_dd h7 f (fun o j q => by omega), c_bo h8 f (fun o j q => by omega), c_sh h9 f (fun o j q => by omega)⟩
    · rw [if_neg h9] at k ok
      refine br_f (wne (by omega) (by decide) h9) ?_
      by_cases h10 : w = 10
      · subst h10
        rw [if_pos rfl] at k
        refine br_t rfl (qv ?_)
        exact k _ ((Fr.rf _ t).pI _ (Or.inr (Or.inr (Or.inr ⟨rfl, rfl⟩)))) (pd ((Fr.rf _ t).pI _ (Or.inr (Or.inr ⟨rfl, rfl⟩))) (h.1.putG (by decide) (by decide) (by decide) (by decide)))
      · rw [if_neg h10] at k ok
        rw [ix8]
        refine br_f (wne (by omega) (by decide) h10) ⟨vpn (by omega), qv ?_⟩
        rw [ncl (by omega)]
        exact k _ ((Fr.rf _ t).pI _ (Or.inl rfl)) (pd ((Fr.rf _ t).pI _ (Or.inl rfl)) (h.1.putF ok (by omega) rfl (by decide) (by decide) (by decide)))
theorem sr_lays {nb w v : Nat} {P : Tt → Prop} (h : RF t a) (hw : AW a) (ok : okN (pn (aP a)) nb w) (hw' : w < 11) (hv : v ≤ mst w) (k : ∀ t', Fr SmM t t' → RF t' (mkA a nb w v) → P t') : Rt g d mX8_lays 0 [some (.ref 57), some (.int (nI w)), some (.int (nI nb)), some (.int (nI v))] [] t (QV P) := by
  have hn := hw.1.1
  obtain ⟨v1, v2, v3, v4⟩ := mst_le hw' hv
  unfold okN at ok
  unfold mkA at k
  have pd : ∀ {b : Pp} {t'}, Fr (fun o j => o = 58 ∨ o = 59 ∨ (o = 57 ∧ j = 6)) t t' → MoR t' b → RF t' (setP a b) := fun {b t'} f m => h.pd f (fun o j q => by omega) m (m_dd h.2.2.2.2.2.2.1 f (fun o j q => by omega))
  apply bX8_lays_0
  by_cases h8 : w = 8
  · subst h8
    rw [if_neg (by decide), if_neg (by decide)] at ok
    rw [if_pos rfl] at k
    refine br_t (by decide) (br_p rfl ⟨vpn (by omega), qv ?_⟩)
    rw [ncl (by omega)]
    exact k _ ((Fr.rf _ t).pI _ (Or.inr (Or.inl rfl))) (pd ((Fr.rf _ t).pI _ (Or.inr (Or.inl rfl))) (h.1.putC (by decide) (by decide) (by decide)))
  · rw [if_neg h8] at k
    by_cases h9 : w = 9
    · subst h9
      rw [if_pos rfl] at ok k
      refine br_t (by decide) (br_n (by decide) (br_p rfl ⟨vpn (by omega), qv ?_⟩))
      rw [ncl (by omega)]
      have f : Fr (fun o _ => o = 61) t (pI t 61 nb (nI v)) := (Fr.rf _ t).pI _ rfl
      refine k _ (f.mo (fun o j q => Or.inr (Or.inr (Or.inl q)))) (h.so f (fun o j q => Or.inr q) (fun q hq => ?_))
      rw [soPut_bit ok (v2 rfl) hq, pI_a]
      by_cases e : q = nb
      · rw [if_pos ⟨rfl, e⟩, if_pos e]
      · rw [if_neg (fun c => e c.2), if_neg e]; exact h.2.1 q hq
    · rw [if_neg h9] at k ok
      by_cases h10 : w = 10
      · subst h10
        rw [if_pos rfl] at k
        refine br_t (by decide) (br_n (by decide) (br_n (by decide) (qv ?_)))
        exact k _ ((Fr.rf _ t).pI _ (Or.inr (Or.inr (Or.inr ⟨rfl, rfl⟩)))) (pd ((Fr.rf _ t).pI _ (Or.inr (Or.inr ⟨rfl, rfl⟩))) (h.1.putG (by decide) (by decide) (by decide) (by decide)))
      · rw [if_neg h10] at k ok
        rw [ix8']
        refine br_f (nI_ge (b := 8) (by omega) (by decide)) ⟨vpn (by omega), qv ?_⟩
        rw [ncl (by omega)]
        exact k _ ((Fr.rf _ t).pI _ (Or.inl rfl)) (pd ((Fr.rf _ t).pI _ (Or.inl rfl)) (h.1.putF ok (by omega) rfl (by decide) (by decide) (by decide)))
abbrev Ce : Type := Nat × Nat × Nat × Nat
theorem okCh_mk {n nb w x v : Nat} (hw : w < 11) (ok : okN n nb w) (hx : x ≤ mst w) (hv : v ≤ mst w) : okCh n (nb, w, x, v) := by
  obtain ⟨v1, v2, v3, v4⟩ := mst_le hw hv
  obtain ⟨x1, x2, x3, x4⟩ := mst_le hw hx
  unfold okN at ok
  unfold okCh
  dsimp only
  by_cases h9 : w = 9
  · rw [if_pos h9] at ok; omega
  · rw [if_neg h9] at ok
    by_cases h10 : w = 10
    · rw [if_pos h10] at ok; omega
    · rw [if_neg h10] at ok; omega
theorem okCh_of {n : Nat} {e : Ce} (h : okCh n e) : e.2.1 < 11 ∧ okN n e.1 e.2.1 ∧ e.2.2.1 ≤ mst e.2.1 ∧ e.2.2.2 ≤ mst e.2.1 := by
  unfold okCh at h
  unfold okN mst
  rcases h with ⟨h1, h2, h3, h4⟩ | ⟨h1, h2, h3, h4⟩ | ⟨h1, h2, h3, h4⟩ | ⟨h1, h2, h3, h4⟩
  · rw [if_neg (by omega), if_neg (by omega), if_neg (by omega), if_neg (by omega)]; omega
  · rw [h1]; simp; omega
  · rw [h1]; simp; omega
  · rw [h1]; simp; omega
def noteC (c : Ch) (e : Ce) : Ch := if c.1 < 40 then (c.1 + 1, c.1 + 1, upN c.2.2 c.1 e) else (40, 40, upN (fun i => c.2.2 (i + 1)) 39 e)
theorem noteC_W {n : Nat} {c : Ch} {e : Ce} (h : chW n c) (he : okCh n e) : chW n (noteC c e) := by
  obtain ⟨h1, h2, h3⟩ := h
  unfold noteC
  by_cases c40 : c.1 < 40
  · rw [if_pos c40]
    refine ⟨Nat.le_refl _, by show c.1 + 1 ≤ 40; omega, fun i hi => ?_⟩
    have hi : i < c.1 + 1 := hi
    show okCh n (upN c.2.2 c.1 e i)
    unfold upN
    split
    · exact he
    · exact h3 i (by omega)
  · rw [if_neg c40]
    refine ⟨Nat.le_refl _, Nat.le_refl _, fun i hi => ?_⟩
    have hi : i < 40 := hi
    show okCh n (upN (fun i => c.2.2 (i + 1)) 39 e i)
    unfold upN
    split
    · exact he
    · exact h3 (i + 1) (by omega)
def SnC (o j : Nat) : Prop := (o = 22 ∧ (j = 0 ∨ j = 1)) ∨ (23 ≤ o ∧ o ≤ 26)
def enC (t : Tt) (i : Nat) (e : Ce) : Prop := t.1 23 i = nI e.1 ∧ t.1 24 i = nI e.2.1 ∧ t.1 25 i = nI e.2.2.1 ∧ t.1 26 i = nI e.2.2.2
theorem sp_note13 {n : Nat} {es : Nat → Ce} {e : Ce} {P : Tt → Prop} (h0 : t.1 22 0 = nI n) (hn : n < 40) (hes : ∀ i, i < n → enC t i (es i)) (k : ∀ t', Fr SnC t t' → chC t' (n + 1, n + 1, upN es n e) → P t') : Rt g (d + 1) mX1_note 13 [some (.ref 22), some (.int (nI e.1)), some (.int (nI e.2.1)), some (.int (nI e.2.2.1)), some (.int (nI e.2.2.2))] [] t (QV P) := by
  apply bX1_note_13
  simp only [pI_o _ _ _ _ (show (22 : Nat) ≠ 23 by decide), pI_o _ _ _ _ (show (22 : Nat) ≠ 24 by decide), pI_o _ _ _ _ (show (22 : Nat) ≠ 25 by decide), pI_o _ _ _ _ (show (22 : Nat) ≠ 26 by decide), h0, pI_s, nI_1]
  rw [ncl (by omega)]
  refine ⟨vpn hn, vpn hn, vpn hn, vpn hn, qv (k _ ?_ ⟨?_, ?_, fun i hi => ?_⟩)⟩
  · exact ((((((Fr.rf SnC t).pI _ (Or.inr (by omega))).pI _ (Or.inr (by omega))).pI _ (Or.inr (by omega))).pI _ (Or.inr (by omega))).pI _ (Or.inl (by omega))).pI _ (Or.inl (by omega))
  · rw [pI_n _ _ _ (by decide), pI_s]
  · rw [pI_s]
  · have hi : i < n + 1 := hi
    have e22 : ∀ o, o ≠ 22 → ∀ q : Nat, (pI (pI (pI (pI (pI (pI t 23 n (nI e.1)) 24 n (nI e.2.1)) 25 n (nI e.2.2.1)) 26 n (nI e.2.2.2)) 22 0 (nI (n + 1))) 22 1 (nI (n + 1))).1 o q = (pI (pI (pI (pI t 23 n (nI e.1)) 24 n (nI e.2.1)) 25 n (nI e.2.2.1)) 26 n (nI e.2.2.2)).1 o q := fun o ho q => by rw [pI_o _ _ _ _ ho, pI_o _ _ _ _ ho]
    rw [e22 23 (by decide), e22 24 (by decide), e22 25 (by decide), e22 26 (by decide)]
    show _ = nI (upN es n e i).1 ∧ _ = nI (upN es n e i).2.1 ∧ _ = nI (upN es n e i).2.2.1 ∧ _ = nI (upN es n e i).2.2.2
    unfold upN
    by_cases c : i = n
    · rw [if_pos c, c]
      simp [pI_a]
    · rw [if_neg c]
      obtain ⟨a1, a2, a3, a4⟩ := hes i (by omega)
      simp [pI_a, c, a1, a2, a3, a4]
theorem sp_note {c : Ch} {e : Ce} {P : Tt → Prop} (h : chC t c) (h1 : c.1 ≤ c.2.1) (h2 : c.2.1 ≤ 40) (k : ∀ t', Fr SnC t t' → chC t' (noteC c e) → P t') : Rt g (d + 2) mX1_note 0 [some (.ref 22), some (.int (nI e.1)), some (.int (nI e.2.1)), some (.int (nI e.2.2.1)), some (.int (nI e.2.2.2))] [] t (QV P) := by
  apply bX1_note_0
  rw [h.1]
  unfold noteC at k
  by_cases c40 : c.1 < 40
  · rw [if_pos c40] at k
    refine br_t (nI_lt (b := 40) c40 (by decide)) ?_
    exact sp_note13 h.1 c40 (fun i hi => h.2.2 i (by omega)) k
  · rw [if_neg c40] at k
    refine br_f (nI_nlt (a := c.1) (b := 40) (by omega) (by omega)) ?_
    apply bX1_dropOldest_0
    simp only [cI_o _ _ _ _ _ _ (show (22 : Nat) ≠ 23 by decide), cI_o _ _ _ _ _ _ (show (22 : Nat) ≠ 24 by decide), cI_o _ _ _ _ _ _ (show (22 : Nat) ≠ 25 by decide), cI_o _ _ _ _ _ _ (show (22 : Nat) ≠ 26 by decide), pI_s, show (39 : Int32).toNatClampNeg = 39 from rfl, show (1 : Int32).toNatClampNeg = 1 from rfl, show (0 : Int32).toNatClampNeg = 0 from rfl]
    refine ⟨by decide, by decide, by decide, by decide, by decide, by decide, by decide, by decide, by decide, by decide, by decide, by decide, qv ?_⟩
    generalize e5 : cI (cI (cI (cI (pI t 22 0 39) 23 23 1 0 39) 24 24 1 0 39) 25 25 1 0 39) 26 26 1 0 39 = t5
    have f5 : Fr SnC t t5 := by rw [← e5]; exact (((((Fr.rf SnC t).pI _ (Or.inl (by omega))).cI (fun j => Or.inr (by omega))).cI (fun j => Or.inr (by omega))).cI (fun j => Or.inr (by omega))).cI (fun j => Or.inr (by omega))
    have h5 : t5.1 22 0 = nI 39 := by rw [← e5, cI_o _ _ _ _ _ _ (by decide), cI_o _ _ _ _ _ _ (by decide), cI_o _ _ _ _ _ _ (by decide), cI_o _ _ _ _ _ _ (by decide), pI_s]; rfl
    refine sp_note13 (es := fun i => c.2.2 (i + 1)) h5 (by decide) (fun i hi => ?_) (fun t' f' c' => k t' (f5.tr f') c')
    obtain ⟨a1, a2, a3, a4⟩ := h.2.2 (i + 1) (by omega)
    rw [← e5]
    refine ⟨?_, ?_, ?_, ?_⟩
    · rw [cI_o _ _ _ _ _ _ (by decide), cI_o _ _ _ _ _ _ (by decide), cI_o _ _ _ _ _ _ (by decide), cI_s, if_pos (by omega), pI_o _ _ _ _ (by decide), Nat.sub_zero, Nat.add_comm]; exact a1
    · rw [cI_o _ _ _ _ _ _ (by decide), cI_o _ _ _ _ _ _ (by decide), cI_s, if_pos (by omega), cI_o _ _ _ _ _ _ (by decide), pI_o _ _ _ _ (by decide), Nat.sub_zero, Nat.add_comm]; exact a2
    · rw [cI_o _ _ _ _ _ _ (by decide), cI_s, if_pos (by omega), cI_o _ _ _ _ _ _ (by decide), cI_o _ _ _ _ _ _ (by decide), pI_o _ _ _ _ (by decide), Nat.sub_zero, Nat.add_comm]; exact a3
    · rw [cI_s, if_pos (by omega), cI_o _ _ _ _ _ _ (by decide), cI_o _ _ _ _ _ _ (by decide), cI_o _ _ _ _ _ _ (by decide), pI_o _ _ _ _ (by decide), Nat.sub_zero, Nat.add_comm]; exact a4
end P57
