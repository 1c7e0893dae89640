/-! PURE LAYER: the reference holds a trial; beliefs -/
section P33
variable {g : Gt} {d : Nat} {t : Tt}
def GoS (o j : Nat) : Prop := (72 ≤ o ∧ o ≤ 75) ∨ o = 80 ∨ (o = 57 ∧ (j = 35 ∨ j = 36))
theorem GoS_M (o j : Nat) (h : GoS o j) : MSc o j := by unfold GoS at h; unfold MSc; omega
theorem LyS_M (o j : Nat) (h : LyS o j) : MSc o j := by unfold LyS at h; unfold MSc; omega
theorem MSc_L (o j : Nat) (h : MSc o j) : (o < 67 ∨ 71 < o) ∧ ¬ (o = 57 ∧ j = 26) := by unfold MSc at h; omega
theorem TrM.fr {t t' : Tt} {r : Tr} (h : TrM t r) (hf : Fr GoS t t') : TrM t' r := by
  refine ⟨(hf.1 _ _ (by unfold GoS; omega)).trans h.1, fun i hi => ?_⟩
  rw [hf.1 76 _ (by unfold GoS; omega), hf.1 77 _ (by unfold GoS; omega), hf.1 78 _ (by unfold GoS; omega), hf.1 79 _ (by unfold GoS; omega)]
  exact h.2 i hi
theorem soM.fr {t t' : Tt} {s : Nat} (h : soM t s) (hf : Fr GoS t t') : soM t' s := fun f hf' => (hf.1 _ _ (by unfold GoS; omega)).trans (h f hf')
theorem sr_goTrial {so tb : Nat} {a : Pp} {tr : Tr} {pr : Prog} {P : Tt → Prop} (hm : MoR t a) (hw : PpW a) (hl : LwM t pr) (hso : soM t so) (htb : tb < 1024) (ht : TrM t tr) (htw : trW (pn a) tr)
    (h : ∀ t', Fr GoS t t' → RsM t' (held pr so tb a tr) → P t') : Rt g (d + 6) mX8_goTrial 0 [some (.ref 57), some (.int (nI tb)), none, none, none] [] t (QV P) := by
  have hn := hw.1
  apply bX8_goTrial_0
  refine sr_beginMouths hm hw (fun t1 hf1 hm1 => ?_)
  have f1 : Fr GoS t t1 := hf1.mo (fun o j q => by unfold GoS; omega)
  have k2 : ∀ m i t2, i + m = tr.1 → Fr GoS t t2 → RsM t2 (rsn pr so tb a tr i) → Rt g (d + 6) mX8_goTrial 38 [some (.ref 57), some (.int (nI tb)), some (.int (nI i)), none, none] [] t2 (QV P) := by
    intro m
    induction m with
    | zero =>
      intro i t2 hi hf hs
      have : i = tr.1 := by omega
      subst this
      apply bX8_goTrial_38
      refine br_t ?_ (qv (h t2 hf hs))
      rw [(ht.fr hf).1]
      exact nI_le (Nat.le_refl _) (by have := htw.1; omega)
    | succ m ih =>
      intro i t2 hi hf hs
      have h15 := htw.1
      have ht2 := ht.fr hf
      have hy := htw.2 i (by omega)
      have hsw := rsn_W (pr := pr) (so := so) (tb := tb) hw htw i (by omega)
      have hc2 := capd_2 tb i
      generalize hvv : turn tb i (tr.2 i).2.2.1 = v
      have hv : v < 2 := by rw [← hvv]; exact Nat.mod_lt _ (by decide)
      generalize hpp : (tr.2 i).1 = p at *
      generalize hff : (tr.2 i).2.1 = f at *
      generalize hzz : (tr.2 i).2.2.2 = z at *
      generalize hss : rsn pr so tb a tr i = s at *
      have hp : p < pn a := by rw [← hpp]; exact hy.1
      have hf10 : f < 10 := by rw [← hff]; exact hy.2.1
      have hz : z < 10 := by rw [← hzz]; exact hy.2.2.2
      have est : rsn pr so tb a tr (i + 1) = (sP (spk pr so s p f v z), sL (spk pr so s p f v z), sI (spk pr so s p f v z), sH (spk pr so s p f v z), if sG s = none ∧ fsum (pf (sP (spk pr so s p f v z)) p) 8 = 0 then some i else sG s) := by
        show stp pr so tb tr (rsn pr so tb a tr i) i = _
        rw [hss]
        unfold stp
        rw [hpp, hff, hzz, hvv]
      apply bX8_goTrial_38
      rw [ht2.1]
      refine br_f (nI_ge (by omega) (by omega)) ⟨vpn (by omega), ?_⟩
      intro z3 e3
      refine ⟨vpn (by omega), ?_⟩
      intro z5 e5
      rw [ncl (by omega)] at e3 e5
      rw [ncl (by omega)]
      rw [(ht2.2 i (by omega)).1, hpp] at e3
      rw [(ht2.2 i (by omega)).2.2.1, bit_tab i (by omega) tb htb, nI_xor, xor_tab2 _ hy.2.2.1 _ hc2] at e5
      have e5 : z5 = nI v := by rw [e5, ← hvv]; rfl
      subst e3 e5
      rw [(ht2.2 i (by omega)).2.1, hff]
      refine ⟨vpn (by omega), vpn hf10, ?_⟩
      rw [ncl (by omega), (hso.fr hf) f hf10]
      have hc3 := capd_2 so f
      -- the lie, if it is one, and what follows
      have hsw1 := spk_W (pr := pr) (so := so) (v := v) (z := z) hsw hp hf10 hv
      have rest : ∀ t3, Fr GoS t t3 → MoM t3 (sP s) → (∀ q, q < 70 → t3.1 80 q = lsI (sL s q)) → t3.1 57 36 = nI (sI (spk pr so s p f v z)) → t3.1 57 35 = gI (sG s) → Rt g (d + 6) mX8_goTrial 95 [some (.ref 57), some (.int (nI tb)), some (.int (nI i)), some (.int (nI p)), some (.int (nI v))] [] t3 (QV P) := by
        intro t3 hf3 hm3 hl3 h36 h35
        have ht3 := ht.fr hf3
        apply bX8_goTrial_95
        refine ⟨vpn (by omega), vpn (by omega), ?_⟩
        rw [ncl (by omega), (ht3.2 i (by omega)).2.1, (ht3.2 i (by omega)).2.2.2, hff, hzz]
        have after : ∀ t4, Fr GoS t t4 → MoM t4 (sP (spk pr so s p f v z)) → (∀ q, q < 70 → t4.1 80 q = lsI (sL s q)) → t4.1 57 36 = nI (sI (spk pr so s p f v z)) → t4.1 57 35 = gI (sG s) → vp_in (nI i) 15 ∧ (vp_in ((10 * (nI p)) + (t4.1 77 i)) 70 ∧ ((0 ≤ ((pI t4 80 ((10 * (nI p)) + (t4.1 77 i)).toNatClampNeg (nI v)).1 57 35) → Rt g (d + 6) mX8_goTrial 153 [some (.ref 57), some (.int (nI tb)), some (.int (nI i)), none, none] [] (pI t4 80 ((10 * (nI p)) + (t4.1 77 i)).toNatClampNeg (nI v)) (QV P)) ∧ (¬ 0 ≤ ((pI t4 80 ((10 * (nI p)) + (t4.1 77 i)).toNatClampNeg (nI v)).1 57 35) → Rt g (d + 5) mX8_isGone 0 [some (.ref 57), some (.int (nI p))] [] (pI t4 80 ((10 * (nI p)) + (t4.1 77 i)).toNatClampNeg (nI v)) (QI (fun v9 t8 => (v9 = 0 → Rt g (d + 6) mX8_goTrial 153 [some (.ref 57), some (.int (nI tb)), some (.int (nI i)), none, none] [] t8 (QV P)) ∧ (¬ v9 = 0 → Rt g (d + 6) mX8_goTrial 153 [some (.ref 57), some (.int (nI tb)), some (.int (nI i)), none, none] [] (pI t8 57 35 (nI i)) (QV P))))))) := by
          intro t4 hf4 hm4 hl4 h36 h35
          rw [((ht.fr hf4).2 i (by omega)).2.1, hff, ix10']
          refine ⟨vpn (by omega), vpn (by omega), ?_⟩
          rw [ncl (by omega)]
          generalize e5 : pI t4 80 (10 * p + f) (nI v) = t5
          have ff5 : Fr GoS t t5 := by rw [← e5]; exact hf4.pI _ (by unfold GoS; omega)
          have m5 : MoM t5 (sP (spk pr so s p f v z)) := by
            rw [← e5]
            refine ⟨?_, ?_, fun p hp k hk => ?_, fun p hp => ?_, fun p hp => ?_⟩ <;> rw [pI_o _ _ _ _ (by decide)]
            · exact hm4.1
            · exact hm4.2.1
            · exact hm4.2.2.1 p hp k hk
            · exact hm4.2.2.2.1 p hp
            · exact hm4.2.2.2.2 p hp
          have l5 : ∀ q, q < 70 → t5.1 80 q = lsI (sL (spk pr so s p f v z) q) := by
            intro q hq
            rw [← e5, pI_a]
            show _ = lsI (upN (sL s) (10 * p + f) v q)
            unfold upN
            by_cases w : q = 10 * p + f
            · rw [if_pos ⟨rfl, w⟩, if_pos w]
              unfold lsI
              rw [if_neg (by omega)]
            · rw [if_neg (fun x => w x.2), if_neg w]
              exact hl4 q hq
          have i5 : t5.1 57 36 = nI (sI (spk pr so s p f v z)) := by rw [← e5, pI_o _ _ _ _ (by decide)]; exact h36
          have g5 : t5.1 57 35 = gI (sG s) := by rw [← e5, pI_o _ _ _ _ (by decide)]; exact h35
          have next : ∀ t6, Fr GoS t t6 → RsM t6 (rsn pr so tb a tr (i + 1)) → Rt g (d + 6) mX8_goTrial 153 [some (.ref 57), some (.int (nI tb)), some (.int (nI i)), none, none] [] t6 (QV P) := by
            intro t6 hf6 hs6
            apply bX8_goTrial_153
            rw [nI_1]
            exact ih (i + 1) t6 (by omega) hf6 hs6
          have same : ¬ (sG s = none ∧ fsum (pf (sP (spk pr so s p f v z)) p) 8 = 0) → RsM t5 (rsn pr so tb a tr (i + 1)) := by
            intro hno
            rw [est]
            refine ⟨m5, l5, i5, ?_⟩
            show _ = gI (if _ then _ else _)
            rw [if_neg hno]
            exact g5
          rw [g5]
          have hG := hsw.2.2.2.2.2
          cases hg : sG s with
          | some j =>
            have hj := hG j hg
            have : (0 : Int32) ≤ gI (some j) := nI_pos' (by omega)
            exact br_t this (next t5 ff5 (same (fun q => by rw [hg] at q; cases q.1)))
          | none =>
            refine br_f (by decide) ?_
            refine sr_isGone m5 hsw1.1 (by rw [hsw1.2.1]; exact hp) ?_
            by_cases h0 : fsum (pf (sP (spk pr so s p f v z)) p) 8 = 0
            · rw [if_pos h0]
              refine br_f (by decide) (next _ (ff5.pI _ (by unfold GoS; omega)) ?_)
              rw [est]
              refine ⟨?_, fun q hq => ?_, ?_, ?_⟩
              · refine ⟨?_, ?_, fun p hp k hk => ?_, fun p hp => ?_, fun p hp => ?_⟩
                · rw [pI_n _ _ _ (by decide)]; exact m5.1
                · rw [pI_n _ _ _ (by decide)]; exact m5.2.1
                · rw [pI_o _ _ _ _ (by decide)]; exact m5.2.2.1 p hp k hk
                · rw [pI_o _ _ _ _ (by decide)]; exact m5.2.2.2.1 p hp
                · rw [pI_o _ _ _ _ (by decide)]; exact m5.2.2.2.2 p hp
              · rw [pI_o _ _ _ _ (by decide)]; exact l5 q hq
              · rw [pI_n _ _ _ (by decide)]; exact i5
              · rw [pI_s]
                show _ = gI (if _ then _ else _)
                rw [if_pos ⟨hg, h0⟩]
                rfl
            · rw [if_neg h0]
              exact br_t rfl (next t5 ff5 (same (fun q => h0 q.2)))
        apply bX8_sayOf_0
        refine ⟨vpn hf10, ?_⟩
        rw [ncl (by omega), (hso.fr hf3) f hf10]
        refine ⟨fun c => ?_, fun c => qi ?_⟩
        · have hne : ¬ capd so f = v := fun e => c (by rw [e])
          refine sr_lieOf (pr := pr) hm3 hsw.1 (by rw [hsw.2.1]; exact hp) hz (hl.fr (hf3.mo GoS_M) MSc_L) (fun t4 hf4 hm4 => qi ?_)
          refine after t4 (hf3.tr (hf4.mo (fun o j q => by unfold LiM at q; unfold GoS; omega))) ?_ (fun q hq => ?_) ?_ ?_
          · show MoM t4 (if _ then _ else _)
            rw [if_neg hne]
            exact hm4
          · rw [hf4.1 _ _ (by unfold LiM; omega)]; exact hl3 q hq
          · rw [hf4.1 _ _ (by unfold LiM; omega)]; exact h36
          · rw [hf4.1 _ _ (by unfold LiM; omega)]; exact h35
        · have he : capd so f = v := (nI_inj (by omega) (by omega) c).symm
          refine after t3 hf3 ?_ hl3 h36 h35
          show MoM t3 (if _ then _ else _)
          rw [if_pos he]
          exact hm3
      refine ⟨fun c => ?_, fun c => ?_⟩
      · have he : capd so f = v := (nI_inj (by omega) (by omega) c).symm
        refine rest t2 hf hs.1 hs.2.1 ?_ hs.2.2.2
        show _ = nI (if _ then _ else _)
        rw [if_pos he]
        exact hs.2.2.1
      · have hne : ¬ capd so f = v := fun e => c (by rw [e])
        rw [hs.2.2.1, shl_tab p (by omega), nI_or]
        refine rest _ (hf.pI _ (by unfold GoS; omega)) ?_ (fun q hq => ?_) ?_ ?_
        · refine ⟨?_, ?_, fun p hp k hk => ?_, fun p hp => ?_, fun p hp => ?_⟩
          · rw [pI_n _ _ _ (by decide)]; exact hs.1.1
          · rw [pI_n _ _ _ (by decide)]; exact hs.1.2.1
          · rw [pI_o _ _ _ _ (by decide)]; exact hs.1.2.2.1 p hp k hk
          · rw [pI_o _ _ _ _ (by decide)]; exact hs.1.2.2.2.1 p hp
          · rw [pI_o _ _ _ _ (by decide)]; exact hs.1.2.2.2.2 p hp
        · rw [pI_o _ _ _ _ (by decide)]; exact hs.2.1 q hq
        · rw [pI_s]
          show _ = nI (if _ then _ else _)
          rw [if_neg hne]
        · rw [pI_n _ _ _ (by decide)]; exact hs.2.2.2
  have k1 : ∀ m i t2, i + m = 70 → Fr GoS t t2 → MoM t2 a → (∀ q, q < i → t2.1 80 q = -1) → Rt g (d + 6) mX8_goTrial 6 [some (.ref 57), some (.int (nI tb)), some (.int (nI i)), none, none] [] t2 (QV P) := by
    intro m
    induction m with
    | zero =>
      intro i t2 hi hf hm2 hq
      have : i = 70 := by omega
      subst this
      apply bX8_goTrial_6
      refine br_t (nI_le (a := 70) (by omega) (by decide)) ?_
      refine k2 tr.1 0 _ (Nat.zero_add _) ((hf.pI _ (by unfold GoS; omega)).pI _ (by unfold GoS; omega)) ⟨?_, fun q hq' => ?_, ?_, ?_⟩
      · refine ⟨?_, ?_, fun p hp k hk => ?_, fun p hp => ?_, fun p hp => ?_⟩
        · rw [pI_n _ _ _ (by decide), pI_n _ _ _ (by decide)]; exact hm2.1
        · rw [pI_n _ _ _ (by decide), pI_n _ _ _ (by decide)]; exact hm2.2.1
        · rw [pI_o _ _ _ _ (by decide), pI_o _ _ _ _ (by decide)]; exact hm2.2.2.1 p hp k hk
        · rw [pI_o _ _ _ _ (by decide), pI_o _ _ _ _ (by decide)]; exact hm2.2.2.2.1 p hp
        · rw [pI_o _ _ _ _ (by decide), pI_o _ _ _ _ (by decide)]; exact hm2.2.2.2.2 p hp
      · rw [pI_o _ _ _ _ (by decide), pI_o _ _ _ _ (by decide)]; exact hq q hq'
      · simp [pI_a]; rfl
      · simp [pI_a]; rfl
    | succ m ih =>
      intro i t2 hi hf hm2 hq
      apply bX8_goTrial_6
      refine br_f (nI_ge (b := 70) (by omega) (by decide)) ⟨vpn (by omega), ?_⟩
      rw [ncl (by omega), nI_1]
      refine ih (i + 1) _ (by omega) (hf.pI _ (by unfold GoS; omega)) ?_ (fun q hq' => ?_)
      · refine ⟨?_, ?_, fun p hp k hk => ?_, fun p hp => ?_, fun p hp => ?_⟩ <;> rw [pI_o _ _ _ _ (by decide)]
        · exact hm2.1
        · exact hm2.2.1
        · exact hm2.2.2.1 p hp k hk
        · exact hm2.2.2.2.1 p hp
        · exact hm2.2.2.2.2 p hp
      · rw [pI_a]
        split
        · rfl
        · rename_i e; exact hq q (by omega)
  exact k1 70 0 t1 rfl f1 hm1 (fun q hq => absurd hq (by omega))
/-- what is believed of a fact: 1, 0, or -2 -/
def balI (s : Rs) (f : Nat) : Nat → Int32
  | 0 => 0
  | i + 1 => if sL s (10 * i + f) = 2 then balI s f i else if sL s (10 * i + f) = 1 then balI s f i + nI (worth (sP s) i) else balI s f i + -nI (worth (sP s) i)
def bel (s : Rs) (f : Nat) : Int32 := if balI s f (pn (sP s)) = 0 then -2 else if balI s f (pn (sP s)) ≤ 0 then 0 else 1
theorem sp_beliefIn {n f : Nat} {s : Rs} {P : Int32 → Tt → Prop} (hs : RsC t s) (hw : RsW n s) (hf : f < 10) (h : P (bel s f) t) : Rt g (d + 2) mX2_beliefIn 0 [some (.ref 13), some (.int (nI f)), none, none, none] [] t (QI P) := by
  have hn := hw.1.1
  apply bX2_beliefIn_0
  have key : ∀ m i, i + m = pn (sP s) → Rt g (d + 2) mX2_beliefIn 4 [some (.ref 13), some (.int (nI f)), some (.int (balI s f i)), some (.int (nI i)), none] [] t (QI P) := by
    intro m
    induction m with
    | zero =>
      intro i hi
      have : i = pn (sP s) := by omega
      apply bX2_beliefIn_4
      rw [hs.1.1, ← this]
      refine br_t (nI_le (by omega) (by omega)) ?_
      unfold bel at h
      rw [← this] at h
      refine ⟨fun c => ⟨fun c2 => qi ?_, fun c2 => qi ?_⟩, fun c => qi ?_⟩
      · rw [if_neg c, if_pos c2] at h; exact h
      · rw [if_neg c, if_neg c2] at h; exact h
      · rw [if_pos c] at h; exact h
    | succ m ih =>
      intro i hi
      have hl2 := hw.2.2.1 (10 * i + f) (by omega)
      apply bX2_beliefIn_4
      rw [hs.1.1]
      refine br_f (nI_ge (by omega) (by omega)) ?_
      rw [ix10]
      refine ⟨vpn (by omega), ?_⟩
      intro z5 e5
      rw [ncl (by omega), hs.2.1 _ (by omega)] at e5
      have step : ∀ x, balI s f (i + 1) = x → Rt g (d + 2) mX2_beliefIn 63 [some (.ref 13), some (.int (nI f)), some (.int x), some (.int (nI i)), none] [] t (QI P) := by
        intro x hx
        apply bX2_beliefIn_63
        rw [nI_1, ← hx]
        exact ih (i + 1) (by omega)
      have eb : balI s f (i + 1) = if sL s (10 * i + f) = 2 then balI s f i else if sL s (10 * i + f) = 1 then balI s f i + nI (worth (sP s) i) else balI s f i + -nI (worth (sP s) i) := rfl
      unfold lsI at e5
      by_cases c2 : sL s (10 * i + f) = 2
      · rw [if_pos c2] at e5 eb
        exact br_t e5 (step _ eb)
      · rw [if_neg c2] at e5 eb
        refine br_f (by rw [e5]; intro q; exact nI_pos (n := sL s (10 * i + f)) (by omega) (by rw [q]; decide)) ?_
        by_cases c1 : sL s (10 * i + f) = 1
        · rw [if_pos c1] at eb
          refine br_p (by rw [e5, c1]; rfl) ?_
          refine sp_worthOf mo17 hs.1 hw.1 (by omega) ?_
          apply bX2_beliefIn_61
          intro z1 e1
          exact step _ (by rw [eb, e1])
        · rw [if_neg c1] at eb
          refine br_n (by rw [e5]; intro q; exact c1 (nI_inj (b := 1) (by omega) (by decide) q)) ?_
          refine sp_worthOf mo17 hs.1 hw.1 (by omega) ?_
          apply bX2_beliefIn_61
          intro z1 e1
          exact step _ (by rw [eb, e1])
  exact key (pn (sP s)) 0 (Nat.zero_add _)
theorem sr_believedNow {n f : Nat} {s : Rs} {P : Int32 → Tt → Prop} (hs : RsM t s) (hw : RsW n s) (hf : f < 10) (h : P (bel s f) t) : Rt g (d + 2) mX8_believedNow 0 [some (.ref 57), some (.int (nI f)), none, none, none] [] t (QI P) := by
  have hn := hw.1.1
  apply bX8_believedNow_0
  have key : ∀ m i, i + m = pn (sP s) → Rt g (d + 2) mX8_believedNow 4 [some (.ref 57), some (.int (nI f)), some (.int (balI s f i)), some (.int (nI i)), none] [] t (QI P) := by
    intro m
    induction m with
    | zero =>
      intro i hi
      have : i = pn (sP s) := by omega
      apply bX8_believedNow_4
      rw [hs.1.1, ← this]
      refine br_t (nI_le (by omega) (by omega)) ?_
      unfold bel at h
      rw [← this] at h
      refine ⟨fun c => ⟨fun c2 => qi ?_, fun c2 => qi ?_⟩, fun c => qi ?_⟩
      · rw [if_pos (Int32.toInt_inj.mp (by rw [le_i, z_i] at *; omega))] at h; exact h
      · rw [if_neg (fun e => c2 (by rw [e]; decide)), if_pos c] at h; exact h
      · rw [if_neg (fun e => c (by rw [e]; decide)), if_neg c] at h; exact h
    | succ m ih =>
      intro i hi
      have hl2 := hw.2.2.1 (10 * i + f) (by omega)
      apply bX8_believedNow_4
      rw [hs.1.1]
      refine br_f (nI_ge (by omega) (by omega)) ?_
      rw [ix10']
      refine ⟨vpn (by omega), ?_⟩
      intro z5 e5
      rw [ncl (by omega), hs.2.1 _ (by omega)] at e5
      have step : ∀ x, balI s f (i + 1) = x → Rt g (d + 2) mX8_believedNow 53 [some (.ref 57), some (.int (nI f)), some (.int x), some (.int (nI i)), none] [] t (QI P) := by
        intro x hx
        apply bX8_believedNow_53
        rw [nI_1, ← hx]
        exact ih (i + 1) (by omega)
      have eb : balI s f (i + 1) = if sL s (10 * i + f) = 2 then balI s f i else if sL s (10 * i + f) = 1 then balI s f i + nI (worth (sP s) i) else balI s f i + -nI (worth (sP s) i) := rfl
      unfold lsI at e5
      by_cases c2 : sL s (10 * i + f) = 2
      · rw [if_pos c2] at e5 eb
        exact br_t (by rw [e5]; decide) (step _ eb)
      · rw [if_neg c2] at e5 eb
        refine br_f (by rw [e5]; exact nI_pos (by omega)) ?_
        by_cases c1 : sL s (10 * i + f) = 1
        · rw [if_pos c1] at eb
          refine br_p (by rw [e5, c1]; rfl) ?_
          refine sr_worthOf hs.1 hw.1 (by omega) ?_
          apply bX8_believedNow_51
          intro z1 e1
          exact step _ (by rw [eb, e1])
        · rw [if_neg c1] at eb
          refine br_n (by rw [e5]; intro q; exact c1 (nI_inj (b := 1) (by omega) (by decide) q)) ?_
          refine sr_worthOf hs.1 hw.1 (by omega) ?_
          apply bX8_believedNow_51
          intro z1 e1
          exact step _ (by rw [eb, e1])
  exact key (pn (sP s)) 0 (Nat.zero_add _)
end P33
