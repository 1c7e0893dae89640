/-! PURE LAYER: a trial is held, on both sides; beliefs -/
section P32
variable {g : Gt} {d : Nat} {t : Tt}
def HoS (o j : Nat) : Prop := (o = 13 ∧ 6 ≤ j) ∨ (17 ≤ o ∧ o ≤ 21) ∨ LwS o j
theorem mo1 : isMo 1 := by unfold isMo; decide
theorem mo5 : isMo 5 := by unfold isMo; decide
theorem mo9 : isMo 9 := by unfold isMo; decide
theorem mo17 : isMo 17 := by unfold isMo; decide
theorem HoS_C (o j : Nat) (h : HoS o j) : CSc o j := by unfold HoS at h; unfold CSc; unfold LwS at *; omega
theorem SuS_C (o j : Nat) (h : SuS o j) : CSc o j := by unfold SuS at h; unfold CSc; omega
theorem LwC.fs {t t' : Tt} {r : Nat} {p : Prog} (h : LwC t r p) (hr : isLw r) (hf : Fr CSc t t') : LwC t' r p := by
  unfold isLw at hr
  refine ⟨(hf.1 _ _ (by unfold CSc LwS; omega)).trans h.1, h.2.1, h.2.2.1, fun i x hx => ?_⟩
  rw [hf.1 _ _ (by unfold CSc LwS; omega), hf.1 _ _ (by unfold CSc LwS; omega)]
  exact h.2.2.2 i x hx
theorem MoC.f1 {t t' : Tt} {a : Pp} (h : MoC t 1 a) (hf : Fr CSc t t') : MoC t' 1 a :=
  h.fr hf (by unfold CSc LwS; omega) (by unfold CSc LwS; omega) (fun k => by unfold CSc LwS; omega) (fun k => by unfold CSc LwS; omega) (fun k => by unfold CSc LwS; omega)
theorem TrC.fr {t t' : Tt} {r : Tr} (h : TrC t r) (hf : Fr HoS t t') : TrC t' r := by
  refine ⟨(hf.1 _ _ (by unfold HoS LwS; omega)).trans h.1, fun i hi => ?_⟩
  rw [hf.1 14 _ (by unfold HoS LwS; omega), hf.1 15 _ (by unfold HoS LwS; omega), hf.1 16 _ (by unfold HoS LwS; omega)]
  exact h.2 i hi
theorem sp_isLie {so f v : Nat} {P : Int32 → Tt → Prop} (hso : so < 1024) (hf : f < 10) (hv : v < 2) (h : P (if capd so f = v then 0 else 1) t) : Rt g d mX7_isLie 0 [some (.int (nI so)), some (.int (nI f)), some (.int (nI v))] [] t (QI P) := by
  apply bX7_isLie_0
  rw [bit_tab f (by omega) so hso]
  have := capd_2 so f
  refine ⟨fun c => qi ?_, fun c => qi ?_⟩
  · rw [if_pos (nI_inj (by omega) (by omega) c)] at h; exact h
  · rw [if_neg (fun e => c (by rw [e]))] at h; exact h
theorem sp_speak {r n so p f v z : Nat} {s : Rs} {pr : Prog} {P : Int32 → Tt → Prop} (hr : isLw r) (hs : RsC t s) (hw : RsW n s) (hl : LwC t r pr) (hso : so < 1024) (hp : p < n) (hf : f < 10) (hv : v < 2) (hz : z < 10)
    (h : ∀ t', Fr HoS t t' → RsC t' (spk pr so s p f v z) → P (nI (spkO pr so s p f v z)) t') : Rt g (d + 4) mX2_speak 0 [some (.ref 13), some (.ref r), some (.int (nI so)), some (.int (nI p)), some (.int (nI (2 * f + v))), some (.int (nI z)), none, none] [] t (QI P) := by
  have hn7 := hw.1.1
  have hpn : p < pn (sP s) := by rw [hw.2.1]; exact hp
  have hn := hw.2.1
  apply bX2_speak_0 hr
  intro z1 e1 z2 e2
  rw [show (2 : Int32) = nI 2 from rfl, pk_div (by omega) (by decide) (by decide), show (2 * f + v) / 2 = f by omega] at e1
  rw [show (2 : Int32) = nI 2 from rfl, jr_n (by omega) (by decide) (by decide), show (2 * f + v) % 2 = v by omega] at e2
  subst e1 e2
  rw [ix10]
  refine ⟨vpn (by omega), ?_⟩
  rw [ncl (by omega), pI_o _ _ _ _ (show 13 ≠ 21 by decide), hs.2.2.2.1, shl_tab f (by omega), nI_or]
  generalize e1 : pI (pI t 21 (10 * p + f) (nI v)) 13 7 (nI (sH s ||| 2 ^ f)) = t1
  have f1 : Fr HoS t t1 := by rw [← e1]; exact ((Fr.rf _ t).pI _ (by unfold HoS; omega)).pI _ (by unfold HoS; omega)
  have m1 : MoC t1 17 (sP s) := by
    rw [← e1]
    refine ⟨?_, ?_, fun p hp k hk => ?_, fun p hp => ?_, fun p hp => ?_⟩ <;> simp only [pI_a] <;> rw [if_neg (by omega), if_neg (by omega)]
    · exact hs.1.1
    · exact hs.1.2.1
    · exact hs.1.2.2.1 p hp k hk
    · exact hs.1.2.2.2.1 p hp
    · exact hs.1.2.2.2.2 p hp
  have l1' : ∀ i, i < 70 → t1.1 21 i = lsI (upN (sL s) (10 * p + f) v i) := by
    intro i hi
    rw [← e1, pI_o _ _ _ _ (by decide), pI_a]
    unfold upN
    by_cases q : i = 10 * p + f
    · rw [if_pos ⟨rfl, q⟩, if_pos q]
      unfold lsI
      rw [if_neg (by omega)]
    · rw [if_neg (fun w => q w.2), if_neg q]
      exact hs.2.1 i hi
  have h6 : t1.1 13 6 = nI (sI s) := by rw [← e1, pI_n _ _ _ (by decide), pI_o _ _ _ _ (by decide)]; exact hs.2.2.1
  have h7 : t1.1 13 7 = nI (sH s ||| 2 ^ f) := by rw [← e1, pI_s]
  have h8 : t1.1 13 8 = gI (sG s) := by rw [← e1, pI_n _ _ _ (by decide), pI_o _ _ _ _ (by decide)]; exact hs.2.2.2.2
  refine sp_isLie hso hf hv ?_
  by_cases ht : capd so f = v
  · rw [if_pos ht]
    refine br_p rfl (qi ?_)
    have := h t1 f1 ⟨by show MoC t1 17 (if _ then _ else _); rw [if_pos ht]; exact m1, l1', by show _ = nI (if _ then _ else _); rw [if_pos ht]; exact h6, h7, h8⟩
    unfold spkO at this
    rw [if_pos ht] at this
    exact this
  · rw [if_neg ht]
    refine br_n (by decide) ?_
    rw [h6, shl_tab p (by omega), nI_or]
    generalize e2 : pI t1 13 6 (nI (sI s ||| 2 ^ p)) = t2
    have f2 : Fr HoS t t2 := by rw [← e2]; exact f1.pI _ (by unfold HoS; omega)
    have m2 : MoC t2 17 (sP s) := by
      rw [← e2]
      refine ⟨?_, ?_, fun p hp k hk => ?_, fun p hp => ?_, fun p hp => ?_⟩ <;> rw [pI_o _ _ _ _ (by decide)]
      · exact m1.1
      · exact m1.2.1
      · exact m1.2.2.1 p hp k hk
      · exact m1.2.2.2.1 p hp
      · exact m1.2.2.2.2 p hp
    have hl2 : LwC t2 r pr := hl.fs hr (f2.mo HoS_C)
    refine sp_lie (d := d + 1) (due := prc pr (sP s) p f z) mo17 hr m2 hw.1 hpn hz (prc_le hz) (fun P' k => sp_priceOf mo17 hr m2 hw.1 hpn hz hl2 k) (fun t3 hf3 hm3 => qi ?_)
    have f3 : Fr HoS t t3 := f2.tr (hf3.mo (fun o j q => by unfold LieS at q; unfold HoS; rcases q with q | q | q; exact Or.inr (Or.inr q); omega; omega))
    have := h t3 f3 ⟨by show MoC t3 17 (if _ then _ else _); rw [if_neg ht]; exact hm3, fun i hi => ?_, ?_, ?_, ?_⟩
    · unfold spkO at this
      rw [if_neg ht] at this
      exact this
    · rw [hf3.1 _ _ (by unfold LieS LwS; omega), ← e2, pI_o _ _ _ _ (by decide)]
      exact l1' i hi
    · show _ = nI (if _ then _ else _)
      rw [if_neg ht, hf3.1 _ _ (by unfold LieS LwS; omega), ← e2, pI_s]
    · rw [hf3.1 _ _ (by unfold LieS LwS; omega), ← e2, pI_n _ _ _ (by decide)]; exact h7
    · rw [hf3.1 _ _ (by unfold LieS LwS; omega), ← e2, pI_n _ _ _ (by decide)]; exact h8
theorem gI_none {x : Option Nat} (hx : ∀ i, x = some i → i < 15) : gI x = -2 ↔ x = none := by
  cases x with
  | none => exact ⟨fun _ => rfl, fun _ => rfl⟩
  | some i =>
    have := hx i rfl
    refine ⟨fun e => ?_, fun e => (by cases e)⟩
    have h2 : gI (some i) < 0 := by rw [e]; decide
    exact absurd h2 (nI_pos (by omega))
theorem sp_hold {r so tb : Nat} {a : Pp} {tr : Tr} {pr : Prog} {P : Tt → Prop} (hr : isLw r) (hm : MoC t 1 a) (hw : PpW a) (hl : LwC t r pr) (hso : so < 1024) (htb : tb < 1024) (ht : TrC t tr) (htw : trW (pn a) tr)
    (h : ∀ t', Fr HoS t t' → RsC t' (held pr so tb a tr) → P t') : Rt g (d + 5) mX2_hold 0 [some (.ref 13), some (.ref 1), some (.ref r), some (.int (nI so)), some (.int (nI tb)), none] [] t (QV P) := by
  have hn := hw.1
  apply bX2_hold_0 mo1 hr
  refine sp_copyFrom mo17 mo1 (by decide) hm hw (fun t1 hf1 hm1 => ?_)
  have f1 : Fr HoS t t1 := hf1.mo (fun o j q => by unfold HoS; omega)
  have k2 : ∀ m i t2, i + m = tr.1 → Fr HoS t t2 → RsC t2 (rsn pr so tb a tr i) → Rt g (d + 5) mX2_hold 54 [some (.ref 13), none, some (.ref r), some (.int (nI so)), some (.int (nI tb)), some (.int (nI i))] [] t2 (QV P) := by
    intro m
    induction m with
    | zero =>
      intro i t2 hi hf hs
      have : i = tr.1 := by omega
      subst this
      apply bX2_hold_54 hr
      refine br_t ?_ (qv (h t2 hf hs))
      rw [(ht.fr hf).1]
      exact nI_le (Nat.le_refl _) (by have := htw.1; omega)
    | succ m ih =>
      intro i t2 hi hf hs
      have h15 := htw.1
      have ht2 := ht.fr hf
      have hy := htw.2 i (by omega)
      have hsw := rsn_W (pr := pr) (so := so) (tb := tb) hw htw i (by omega)
      have hc2 := capd_2 tb i
      apply bX2_hold_54 hr
      rw [ht2.1]
      refine br_f (nI_ge (by omega) (by omega)) ⟨vpn (by omega), vpn (by omega), vpn (by omega), ?_⟩
      rw [ncl (by omega), (ht2.2 i (by omega)).1, (ht2.2 i (by omega)).2.1, (ht2.2 i (by omega)).2.2, bit_tab i (by omega) tb htb, nI_xor, xor_tab _ hy.2.1 _ hy.2.2.1 _ hc2]
      refine sp_speak (v := turn tb i (tr.2 i).2.2.1) hr hs hsw (hl.fs hr (hf.mo HoS_C)) hso hy.1 hy.2.1 (Nat.mod_lt _ (by decide)) hy.2.2.2 (fun t5 hf5 hs5 => ?_)
      have ff5 := hf.tr hf5
      have next : ∀ t6, Fr HoS t t6 → RsC t6 (rsn pr so tb a tr (i + 1)) → Rt g (d + 5) mX2_hold 131 [some (.ref 13), none, some (.ref r), some (.int (nI so)), some (.int (nI tb)), some (.int (nI i))] [] t6 (QV P) := by
        intro t6 hf6 hs6
        apply bX2_hold_131 hr
        rw [nI_1]
        exact ih (i + 1) t6 (by omega) hf6 hs6
      have hw5 := spk_W (pr := pr) (so := so) (v := turn tb i (tr.2 i).2.2.1) (z := (tr.2 i).2.2.2) hsw hy.1 hy.2.1 (Nat.mod_lt _ (by decide))
      have e8 : t5.1 13 8 = gI (sG (rsn pr so tb a tr i)) := hs5.2.2.2.2
      have same : ¬ (sG (rsn pr so tb a tr i) = none ∧ fsum (pf (sP (spk pr so (rsn pr so tb a tr i) (tr.2 i).1 (tr.2 i).2.1 (turn tb i (tr.2 i).2.2.1) (tr.2 i).2.2.2)) (tr.2 i).1) 8 = 0) → RsC t5 (rsn pr so tb a tr (i + 1)) := by
        intro hno
        refine ⟨hs5.1, hs5.2.1, hs5.2.2.1, hs5.2.2.2.1, ?_⟩
        show _ = gI (if _ then _ else _)
        rw [if_neg hno]
        exact e8
      rw [e8]
      refine ⟨fun c => next t5 ff5 (same (fun q => c (by rw [q.1]; rfl))), fun c => ⟨vpn (by omega), ?_⟩⟩
      have hnone := (gI_none hsw.2.2.2.2.2).mp c
      rw [((ht.fr ff5).2 i (by omega)).1]
      refine sp_isGone mo17 hs5.1 hw5.1 (by rw [hw5.2.1]; exact hy.1) ?_
      by_cases h0 : fsum (pf (sP (spk pr so (rsn pr so tb a tr i) (tr.2 i).1 (tr.2 i).2.1 (turn tb i (tr.2 i).2.2.1) (tr.2 i).2.2.2)) (tr.2 i).1) 8 = 0
      · rw [if_pos h0]
        refine br_f (by decide) (next _ (ff5.pI _ (by unfold HoS; omega)) ?_)
        refine ⟨?_, fun q hq => ?_, ?_, ?_, ?_⟩
        · refine ⟨?_, ?_, fun p hp k hk => ?_, fun p hp => ?_, fun p hp => ?_⟩ <;> rw [pI_o _ _ _ _ (by decide)]
          · exact hs5.1.1
          · exact hs5.1.2.1
          · exact hs5.1.2.2.1 p hp k hk
          · exact hs5.1.2.2.2.1 p hp
          · exact hs5.1.2.2.2.2 p hp
        · rw [pI_o _ _ _ _ (by decide)]; exact hs5.2.1 q hq
        · rw [pI_n _ _ _ (by decide)]; exact hs5.2.2.1
        · rw [pI_n _ _ _ (by decide)]; exact hs5.2.2.2.1
        · rw [pI_s]
          show _ = gI (if _ then _ else _)
          rw [if_pos ⟨hnone, h0⟩]
          rfl
      · rw [if_neg h0]
        exact br_t rfl (next t5 ff5 (same (fun q => h0 q.2)))
  have k1 : ∀ m i t2, i + m = 70 → Fr HoS t t2 → MoC t2 17 a → (∀ q, q < i → t2.1 21 q = -1) → Rt g (d + 5) mX2_hold 11 [some (.ref 13), none, some (.ref r), some (.int (nI so)), some (.int (nI tb)), some (.int (nI i))] [] t2 (QV P) := by
    intro m
    induction m with
    | zero =>
      intro i t2 hi hf hm2 hq
      have : i = 70 := by omega
      subst this
      apply bX2_hold_11 hr
      refine br_t (nI_le (a := 70) (by omega) (by decide)) ?_
      refine k2 tr.1 0 _ (Nat.zero_add _) (((hf.pI _ (by unfold HoS; omega)).pI _ (by unfold HoS; omega)).pI _ (by unfold HoS; omega)) ⟨?_, fun q hq' => ?_, ?_, ?_, ?_⟩
      · refine ⟨?_, ?_, fun p hp k hk => ?_, fun p hp => ?_, fun p hp => ?_⟩ <;> rw [pI_o _ _ _ _ (by decide), pI_o _ _ _ _ (by decide), pI_o _ _ _ _ (by decide)]
        · exact hm2.1
        · exact hm2.2.1
        · exact hm2.2.2.1 p hp k hk
        · exact hm2.2.2.2.1 p hp
        · exact hm2.2.2.2.2 p hp
      · rw [pI_o _ _ _ _ (by decide), pI_o _ _ _ _ (by decide), pI_o _ _ _ _ (by decide)]; exact hq q hq'
      · simp [pI_a]; rfl
      · simp [pI_a]; rfl
      · simp [pI_a]; rfl
    | succ m ih =>
      intro i t2 hi hf hm2 hq
      apply bX2_hold_11 hr
      refine br_f (nI_ge (b := 70) (by omega) (by decide)) ⟨vpn (by omega), ?_⟩
      rw [ncl (by omega), nI_1]
      refine ih (i + 1) _ (by omega) (hf.pI _ (by unfold HoS; omega)) ?_ (fun q hq' => ?_)
      · refine ⟨?_, ?_, fun p hp k hk => ?_, fun p hp => ?_, fun p hp => ?_⟩ <;> rw [pI_o _ _ _ _ (by decide)]
        · exact hm2.1
        · exact hm2.2.1
        · exact hm2.2.2.1 p hp k hk
        · exact hm2.2.2.2.1 p hp
        · exact hm2.2.2.2.2 p hp
      · rw [pI_a]
        split
        · rfl
        · rename_i e; exact hq q (by omega)
  exact k1 70 0 t1 rfl f1 hm1 (fun q hq => absurd hq (by omega))
end P32
