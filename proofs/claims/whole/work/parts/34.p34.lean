/-! PURE LAYER: what a shelf refuses; a trial is heard -/
section P34
variable {g : Gt} {d : Nat} {t : Tt} {a : Aa}
def refB (x : Nat × Nat × Nat) : Int32 := if x.1 = 0 then -11 else if x.1 = 2 ∧ x.2.1 = 0 then 0 else -12
theorem refB_0 {x : Nat × Nat × Nat} (h : refB x = 0) : x.1 = 2 ∧ x.2.1 = 0 := by
  unfold refB at h
  split at h
  · exact absurd h (by decide)
  · split at h
    · assumption
    · exact absurd h (by decide)
theorem refB_n {x : Nat × Nat × Nat} (h : refB x ≠ 0) : ¬ 0 ≤ refB x ∧ refB x < 0 := by
  unfold refB at h ⊢
  split
  · decide
  · split
    · rename_i h1 h2
      rw [if_neg h1, if_pos h2] at h
      exact absurd rfl h
    · decide
theorem Rel.n7 (h : Rel t a) : pn (aP a) ≤ 7 := h.1.1.1
theorem Rel.pc (h : Rel t a) : t.1 1 0 = nI (pn (aP a)) := h.2.1.1.1
theorem Rel.pm (h : Rel t a) : t.1 57 1 = nI (pn (aP a)) := h.2.2.1.1
theorem Rel.so (h : Rel t a) : t.1 0 11 = nI (aS a) := h.2.1.2.1
theorem Rel.lw (h : Rel t a) : lwC t (aL a) := h.2.1.2.2.2.2.1
theorem Rel.lm (h : Rel t a) : LwM t (aL a) := h.2.2.2.2.2.2.1
theorem Rel.sc (h : Rel t a) : shC t (aH a) := h.2.1.2.2.2.2.2.2.2.2
theorem Rel.sm (h : Rel t a) : shM t (aH a) := h.2.2.2.2.2.2.2.2.2.2
theorem Rel.sw (h : Rel t a) : shW (aB a).1 (aH a) := h.1.2.2.2.2.2.2
theorem Rel.pw (h : Rel t a) : PpW (aP a) := h.1.1
theorem sp_refusalOfBytes {s : Nat} {P : Int32 → Tt → Prop} (h : Rel t a) (hs : s < 6) (k : P (refB ((aH a).1 s)) t) : Rt g d mX7_refusalOfBytes 0 [some (.ref 0), some (.int (nI s)), none] [] t (QI P) := by
  apply bX7_refusalOfBytes_0
  refine ⟨vpn hs, ?_⟩
  intro z ez
  rw [ncl (by omega)] at ez
  unfold refB at k
  rcases h.sc s hs with ⟨e1, e2⟩ | ⟨e1, e2, -⟩ | ⟨e1, e2, -, -⟩
  · rw [e2] at ez
    subst ez
    rw [if_pos e1] at k
    exact br_p rfl (qi k)
  · rw [e2] at ez
    subst ez
    rw [if_neg (by omega), if_neg (by omega)] at k
    exact br_n (by decide) (br_n (by decide) (qi k))
  · have h5 : ((aH a).1 s).2.1 < 5 := by rcases h.sw s hs with q | q | q <;> omega
    rw [e2] at ez
    subst ez
    rw [if_neg (by omega)] at k
    refine br_n (fun q => nI_pos (n := ((aH a).1 s).2.1) (by omega) (by rw [q]; decide)) ?_
    by_cases h0 : ((aH a).1 s).2.1 = 0
    · rw [if_pos ⟨e1, h0⟩] at k
      exact br_p (by rw [h0]; rfl) (qi k)
    · rw [if_neg (fun q => h0 q.2)] at k
      exact br_n (fun q => h0 (nI_inj (b := 0) (by omega) (by decide) q)) (qi k)
theorem sort_tab : ∀ k, k < 5 → (-2 - nI k : Int32) ≠ -1 ∧ ((-2 - nI k : Int32) = -2 ↔ k = 0) := by decide
theorem body_tab : ∀ k, k < 50 → (nI k : Int32) ≠ -1 ∧ (nI k : Int32) ≠ -2 := by decide +kernel
theorem sr_rowFault {s : Nat} {P : Int32 → Tt → Prop} (h : Rel t a) (hs : s < 6) (k : P (refB ((aH a).1 s)) t) : Rt g d mX8_rowFault 0 [some (.ref 57), some (.int (nI s))] [] t (QI P) := by
  apply bX8_rowFault_0
  refine ⟨vpn hs, ?_⟩
  rw [ncl (by omega)]
  unfold refB at k
  have hb : (aB a).1 ≤ 50 := h.1.2.2.2.2.2.1.1
  rcases h.sm s hs with ⟨e1, e2⟩ | ⟨e1, e2⟩ | ⟨e1, e2, -, -⟩
  · rw [e2]
    rw [if_pos e1] at k
    exact br_p rfl (qi k)
  · have h5 : ((aH a).1 s).2.1 < 50 := by rcases h.sw s hs with q | q | q <;> omega
    rw [e2]
    rw [if_neg (by omega), if_neg (by omega)] at k
    exact br_n (body_tab _ h5).1 ⟨vpn hs, br_n (body_tab _ h5).2 (qi k)⟩
  · have h5 : ((aH a).1 s).2.1 < 5 := by rcases h.sw s hs with q | q | q <;> omega
    rw [e2]
    rw [if_neg (by omega)] at k
    refine br_n (sort_tab _ h5).1 ⟨vpn hs, ?_⟩
    by_cases h0 : ((aH a).1 s).2.1 = 0
    · rw [if_pos ⟨e1, h0⟩] at k
      exact br_p ((sort_tab _ h5).2.mpr h0) (qi k)
    · rw [if_neg (fun q => h0 q.2)] at k
      exact br_n (fun q => h0 ((sort_tab _ h5).2.mp q)) (qi k)
abbrev trA (a : Aa) (s : Nat) : Tr := trl (pn (aP a)) ((aH a).1 s).2.2 ((aH a).2 s)
abbrev hdA (a : Aa) (s : Nat) : Rs := held (aL a) (aS a) 0 (aP a) (trA a s)
theorem byC (h : Rel t a) {s : Nat} (hs : s < 6) (hb : refB ((aH a).1 s) = 0) : ((aH a).1 s).2.2 ≤ 60 ∧ t.1 (45 + 2 * s) 0 = 0 ∧ t.1 (45 + 2 * s) 1 = nI ((aH a).1 s).2.2 ∧ ∀ i, i < 60 → t.2.1 (45 + 2 * s + 1) i = (aH a).2 s i := by
  have h0 := refB_0 hb
  have h1 : ((aH a).1 s).2.2 ≤ 60 := by rcases h.sw s hs with q | q | q <;> omega
  rcases h.sc s hs with ⟨e1, -⟩ | ⟨e1, -⟩ | ⟨-, e2, e3, e4⟩
  · omega
  · omega
  · exact ⟨h1, by rw [e2, h0.2]; rfl, e3, e4⟩
theorem byM (h : Rel t a) {s : Nat} (hs : s < 6) (hb : refB ((aH a).1 s) = 0) : t.1 90 s = nI ((aH a).1 s).2.2 ∧ (∀ i, i < 60 → t.2.1 91 (60 * s + i) = (aH a).2 s i) ∧ ∀ i, i < 60 → -128 ≤ ((aH a).2 s i).toInt ∧ ((aH a).2 s i).toInt ≤ 127 := by
  have h0 := refB_0 hb
  rcases h.sm s hs with ⟨e1, -⟩ | ⟨e1, -⟩ | ⟨-, e2, e3, e4⟩
  · omega
  · omega
  · rcases h.sw s hs with q | q | q
    · omega
    · omega
    · exact ⟨e3, e4, q.2.2.2 h0.2⟩
theorem trA_W (a : Aa) (s : Nat) : trW (pn (aP a)) (trA a s) := trl_W _ _ _
theorem hdA_W (h : Rel t a) (s : Nat) : RsW (pn (aP a)) (hdA a s) := rsn_W h.pw (trA_W a s) _ (Nat.le_refl _)
theorem sp_summonA {s : Nat} {P : Tt → Prop} (h : Rel t a) (hs : s < 6) (hb : refB ((aH a).1 s) = 0) (k : ∀ t', Fr SuS t t' → TrC t' (trA a s) → P t') : Rt g d mX2_summon 0 [some (.ref 13), some (.ref (45 + 2 * s)), some (.int (nI (pn (aP a)))), none, none, none, none, none, none, none, none, none, none, none] [] t (QV P) := by
  have hc := byC h hs hb
  exact sp_summon hs h.n7 hc.1 hc.2.2.1 hc.2.2.2 k
theorem sp_hear {s : Nat} {P : Tt → Prop} (h : Rel t a) (hs : s < 6) (hb : refB ((aH a).1 s) = 0) (k : ∀ t', Fr CSc t t' → TrC t' (trA a s) → RsC t' (hdA a s) → P t') : Rt g (d + 6) mX7_hear 0 [some (.ref 0), some (.int (nI s))] [] t (QV P) := by
  apply bX7_hear_0
  refine ⟨vpn hs, ?_⟩
  rw [ncl (by omega), h.pc]
  refine sp_summonA h hs hb (fun t2 hf2 ht2 => ?_)
  have f2 : Fr CSc t t2 := hf2.mo SuS_C
  have h2 := h.c f2
  refine ⟨h2.lw.1, ?_⟩
  rw [h2.so]
  exact sp_hold h2.lw.1 h2.2.1.1 h2.pw h2.lw.2.2.2 h2.1.2.1 (by decide) ht2 (trA_W a s) (fun t3 hf3 hs3 => qv (k t3 (f2.tr (hf3.mo HoS_C)) (ht2.fr hf3) hs3))
theorem sr_layOr_g {s : Nat} {P : Int32 → Tt → Prop} (h : Rel t a) (hs : s < 6) (hb : refB ((aH a).1 s) = 0) (k : ∀ t', Fr MSc t t' → TrM t' (trA a s) → RsM t' (hdA a s) → P 0 t') : Rt g (d + 7) mX8_layOr 0 [some (.ref 57), some (.int (nI s)), none] [] t (QI P) := by
  have hc := byC h hs hb
  have hm := byM h hs hb
  apply bX8_layOr_0
  refine sr_rowFault h hs ?_
  rw [hb]
  refine br_t (by decide) ?_
  refine sr_layTrial hs h.n7 h.pm hc.1 hm.1 hm.2.1 hm.2.2 (fun t2 hf2 ht2 => ?_)
  have f2 : Fr MSc t t2 := hf2.mo LyS_M
  have h2 := h.m f2
  exact sr_goTrial (tb := 0) h2.2.2.1 h2.pw h2.lm h2.2.2.2.1 (by decide) ht2 (trA_W a s) (fun t3 hf3 hs3 => qi (k t3 (f2.tr (hf3.mo GoS_M)) (ht2.fr hf3) hs3))
theorem sr_layOr_b {s : Nat} {P : Int32 → Tt → Prop} (h : Rel t a) (hs : s < 6) (hb : refB ((aH a).1 s) ≠ 0) (k : P (refB ((aH a).1 s)) t) : Rt g (d + 7) mX8_layOr 0 [some (.ref 57), some (.int (nI s)), none] [] t (QI P) := by
  apply bX8_layOr_0
  refine sr_rowFault h hs ?_
  exact br_f (refB_n hb).1 (qi k)
end P34
