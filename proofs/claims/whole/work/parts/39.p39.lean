/-! PURE LAYER: have: the cheapest saying that would turn a belief -/
section P39
variable {g : Gt} {d : Nat} {t : Tt} {a : Aa}
theorem balI_cg {s s' : Rs} (h1 : sP s = sP s') (h2 : sL s = sL s') (f : Nat) : ∀ i, balI s f i = balI s' f i := by
  intro i
  induction i with
  | zero => rfl
  | succ i ih => simp only [balI]; rw [h1, h2, ih]
theorem bel_cg {s s' : Rs} (h1 : sP s = sP s') (h2 : sL s = sL s') (f : Nat) : bel s f = bel s' f := by
  unfold bel
  rw [balI_cg h1 h2, h1]
theorem spkO_le (pr : Prog) (so : Nat) (s : Rs) (p f v z : Nat) (hz : z < 10) : spkO pr so s p f v z ≤ 99 := by
  unfold spkO
  split
  · omega
  · have h1 := lk_off (pc (sP s) p) z (prc pr (sP s) p f z) (pf (sP s) p) 8
    have h2 := prc_le (pr := pr) (a := sP s) (p := p) (f := f) hz
    unfold lieO lieM
    omega
def hOf (pr : Prog) (so : Nat) (s : Rs) (f v i : Nat) : Nat := spkO pr so s (i / 10) f v (i % 10)
abbrev hIs (pr : Prog) (so : Nat) (s : Rs) (f v i : Nat) : Prop := bel (spk pr so s (i / 10) f v (i % 10)) f = nI v
def hbst (pr : Prog) (so : Nat) (s : Rs) (f v : Nat) : Nat → Option (Nat × Nat)
  | 0 => none
  | i + 1 => if hIs pr so s f v i ∧ ∀ b, hbst pr so s f v i = some b → hOf pr so s f v i < b.1 then some (hOf pr so s f v i, i) else hbst pr so s f v i
theorem hbst_ok {pr : Prog} {so : Nat} {s : Rs} {f v : Nat} : ∀ i b, hbst pr so s f v i = some b → b.2 < i ∧ b.1 ≤ 99 := by
  intro i
  induction i with
  | zero => intro b h; cases h
  | succ i ih =>
    intro b h
    simp only [hbst] at h
    split at h
    · cases h
      exact ⟨Nat.lt_succ_self _, spkO_le _ _ _ _ _ _ _ (Nat.mod_lt _ (by decide))⟩
    · have := ih b h
      exact ⟨by omega, this.2⟩
def cdI : Option (Nat × Nat) → Int32
  | none => -2
  | some b => nI (70 * b.1 + b.2)
def hans (b : Option (Nat × Nat)) (y : Nat) : Int32 := match b with
  | none => -2
  | some b => if y = 0 then nI b.1 else if y = 1 then nI (b.2 / 10) else nI (b.2 % 10)
def mo5h (t : Tt) (s : Rs) : Prop := MoC t 5 (sP s)
theorem MoC.hf {o : Nat} {t t' : Tt} {b : Pp} (ho : o = 5) (h : MoC t o b) (hf : Fr HoS t t') : MoC t' o b := by
  subst ho
  exact h.fr hf (by unfold HoS LwS; omega) (by unfold HoS LwS; omega) (fun k => by unfold HoS LwS; omega) (fun k => by unfold HoS LwS; omega) (fun k => by unfold HoS LwS; omega)
theorem sp_cheapest {f v : Nat} {s : Rs} {P : Int32 → Tt → Prop} (h : Rel t a) (hs : RsC t s) (hw : RsW (pn (aP a)) s) (hf : f < 10) (hv : v < 2) (k : ∀ t', Rel t' a → P (cdI (hbst (aL a) (aS a) s f v (10 * pn (aP a)))) t') : Rt g (d + 5) mX7_cheapestWay 0 [some (.ref 0), some (.int (nI f)), some (.int (nI v)), none, none, none, none, none, none] [] t (QI P) := by
  have hn := h.n7
  have hso := h.1.2.1
  have hn2 := hw.2.1
  have hn7 := hw.1.1
  apply bX7_cheapestWay_0
  refine sp_copyFrom mo5 mo17 (by decide) hs.1 hw.1 (fun t1 hf1 hm1 => ?_)
  have r1 := h.c (cp5_C hf1)
  have hs1 : RsC t1 s := by
    refine ⟨hs.1.fr hf1 (by omega) (by omega) (fun k => by omega) (fun k => by omega) (fun k => by omega), fun i hi => ?_, ?_, ?_, ?_⟩
    · rw [hf1.1 _ _ (by omega)]; exact hs.2.1 i hi
    · rw [hf1.1 _ _ (by omega)]; exact hs.2.2.1
    · rw [hf1.1 _ _ (by omega)]; exact hs.2.2.2.1
    · rw [hf1.1 _ _ (by omega)]; exact hs.2.2.2.2
  -- the end of the inner loop, and the outer one
  have outer : ∀ m p t2, p + m = pn (aP a) → Rel t2 a → MoC t2 5 (sP s) → (∃ P' I H, I < 128 ∧ H < 1024 ∧ RsC t2 (P', sL s, I, H, sG s)) → Rt g (d + 5) mX7_cheapestWay 20 [some (.ref 0), some (.int (nI f)), some (.int (nI v)), some (.int (cdI (hbst (aL a) (aS a) s f v (10 * p)))), some (.int (nI p)), none, none, none, none] [] t2 (QI P) := by
    intro m
    induction m with
    | zero =>
      intro p t2 hp r2 m2 _
      have : p = pn (aP a) := by omega
      subst this
      apply bX7_cheapestWay_20
      rw [r2.pc]
      exact br_t (nI_le (Nat.le_refl _) (by omega)) (qi (k t2 r2))
    | succ m ih =>
      intro p t2 hp r2 m2 hex
      obtain ⟨P0, I, H, hI, hH, c2⟩ := hex
      apply bX7_cheapestWay_20
      rw [r2.pc]
      refine br_f (nI_ge (by omega) (by omega)) ?_
      rw [ix10]
      refine ⟨vpn (by omega), ?_⟩
      intro z3 e3
      rw [ncl (by omega), c2.2.1 _ (by omega)] at e3
      subst e3
      have inner : ∀ m2 z t3, z + m2 = 10 → Rel t3 a → MoC t3 5 (sP s) → (∃ P' v' I H, v' ≤ 2 ∧ I < 128 ∧ H < 1024 ∧ RsC t3 (P', upN (sL s) (10 * p + f) v', I, H, sG s)) → Rt g (d + 5) mX7_cheapestWay 52 [some (.ref 0), some (.int (nI f)), some (.int (nI v)), some (.int (cdI (hbst (aL a) (aS a) s f v (10 * p + z)))), some (.int (nI p)), some (.int (lsI (sL s (10 * p + f)))), some (.int (nI z)), none, none] [] t3 (QI P) := by
        intro m2
        induction m2 with
        | zero =>
          intro z t3 hz r3 m3 hex3
          have : z = 10 := by omega
          subst this
          obtain ⟨P', v', I, H, hv', hI, hH, c3⟩ := hex3
          apply bX7_cheapestWay_52
          rw [ix10]
          refine br_t (nI_le (a := 10) (by omega) (by decide)) ⟨vpn (by omega), ?_⟩
          rw [ncl (by omega)]
          have f4 : Fr CSc t3 (pI t3 21 (10 * p + f) (lsI (sL s (10 * p + f)))) := (Fr.rf CSc t3).pI _ (by unfold CSc; omega)
          have m4 : MoC (pI t3 21 (10 * p + f) (lsI (sL s (10 * p + f)))) 5 (sP s) := m3.hf rfl ((Fr.rf HoS t3).pI _ (by unfold HoS; omega))
          have f5 : Fr (fun o _ => o = 21) t3 (pI t3 21 (10 * p + f) (lsI (sL s (10 * p + f)))) := (Fr.rf _ t3).pI _ rfl
          rw [nI_1]
          refine ih (p + 1) _ (by omega) (r3.c f4) m4 ⟨P', I, H, hI, hH, c3.1.fr f5 (by omega) (by omega) (fun k => by omega) (fun k => by omega) (fun k => by omega), fun i hi => ?_, ?_, ?_, ?_⟩
          · rw [pI_a]
            by_cases e : i = 10 * p + f
            · rw [if_pos ⟨rfl, e⟩, e]
            · rw [if_neg (fun w => e w.2), c3.2.1 i hi]
              show lsI (upN (sL s) (10 * p + f) v' i) = _
              rw [upN_n _ _ e]
          · rw [pI_o _ _ _ _ (by decide)]; exact c3.2.2.1
          · rw [pI_o _ _ _ _ (by decide)]; exact c3.2.2.2.1
          · rw [pI_o _ _ _ _ (by decide)]; exact c3.2.2.2.2
        | succ m2 ih2 =>
          intro z t3 hz r3 m3 hex3
          obtain ⟨P', v', I, H, hv', hI, hH, c3⟩ := hex3
          apply bX7_cheapestWay_52
          refine br_f (nI_ge (b := 10) (by omega) (by decide)) ?_
          refine sp_copyFrom mo17 mo5 (by decide) m3 hw.1 (fun t4 hf4 hm4 => ?_)
          have r4 := r3.c (hf4.mo (fun o j q => by unfold CSc; omega))
          have m4 : MoC t4 5 (sP s) := m3.hf rfl (hf4.mo (fun o j q => by unfold HoS; omega))
          have c4 : RsC t4 (sP s, upN (sL s) (10 * p + f) v', I, H, sG s) := by
            refine ⟨hm4, fun i hi => ?_, ?_, ?_, ?_⟩
            · rw [hf4.1 _ _ (by omega)]; exact c3.2.1 i hi
            · rw [hf4.1 _ _ (by omega)]; exact c3.2.2.1
            · rw [hf4.1 _ _ (by omega)]; exact c3.2.2.2.1
            · rw [hf4.1 _ _ (by omega)]; exact c3.2.2.2.2
          have w4 : RsW (pn (aP a)) (sP s, upN (sL s) (10 * p + f) v', I, H, sG s) := by
            refine ⟨hw.1, hw.2.1, fun i hi => ?_, hI, hH, hw.2.2.2.2.2⟩
            show upN _ _ _ i ≤ 2
            unfold upN
            split
            · exact hv'
            · exact hw.2.2.1 i hi
          refine ⟨r4.lw.1, ?_⟩
          rw [r4.so, show nI f * 2 + nI v = nI (2 * f + v) from by rw [show (2 : Int32) = nI 2 from rfl, pk_mul, nI_add, Nat.mul_comm]]
          refine sp_speak r4.lw.1 c4 w4 r4.lw.2.2.2 hso (show p < pn (aP a) by omega) hf hv (show z < 10 by omega) (fun t6 hf6 c6 => ?_)
          have r6 := r4.c (hf6.mo HoS_C)
          have m6 : MoC t6 5 (sP s) := m4.hf rfl hf6
          have w6 := spk_W (pr := aL a) (so := aS a) (p := p) (f := f) (v := v) (z := z) w4 (by omega) hf hv
          have eO : spkO (aL a) (aS a) (sP s, upN (sL s) (10 * p + f) v', I, H, sG s) p f v z = hOf (aL a) (aS a) s f v (10 * p + z) := by
            unfold hOf
            rw [show (10 * p + z) / 10 = p by omega, show (10 * p + z) % 10 = z by omega]
            rfl
          have hO99 : hOf (aL a) (aS a) s f v (10 * p + z) ≤ 99 := spkO_le _ _ _ _ _ _ _ (Nat.mod_lt _ (by decide))
          rw [eO]
          intro z8 e8
          have e8 : z8 = nI (70 * hOf (aL a) (aS a) s f v (10 * p + z) + (10 * p + z)) := by
            rw [e8, show (7 : Int32) = nI 7 from rfl, pk_mul, nI_add, l10, pk_mul, nI_add]
            congr 1
            omega
          subst e8
          refine sp_beliefIn c6 w6 hf ?_
          have eB : bel (spk (aL a) (aS a) (sP s, upN (sL s) (10 * p + f) v', I, H, sG s) p f v z) f = bel (spk (aL a) (aS a) s ((10 * p + z) / 10) f v ((10 * p + z) % 10)) f := by
            rw [show (10 * p + z) / 10 = p by omega, show (10 * p + z) % 10 = z by omega]
            apply bel_cg
            · rfl
            show upN (upN (sL s) (10 * p + f) v') (10 * p + f) v = upN (sL s) (10 * p + f) v
            funext j
            unfold upN
            split <;> rfl
          rw [eB]
          have ew : hbst (aL a) (aS a) s f v (10 * p + z + 1) = if hIs (aL a) (aS a) s f v (10 * p + z) ∧ ∀ b, hbst (aL a) (aS a) s f v (10 * p + z) = some b → hOf (aL a) (aS a) s f v (10 * p + z) < b.1 then some (hOf (aL a) (aS a) s f v (10 * p + z), 10 * p + z) else hbst (aL a) (aS a) s f v (10 * p + z) := rfl
          have hex6 : ∃ P' v' I H, v' ≤ 2 ∧ I < 128 ∧ H < 1024 ∧ RsC t6 (P', upN (sL s) (10 * p + f) v', I, H, sG s) := by
            refine ⟨_, v, _, _, by omega, w6.2.2.2.1, w6.2.2.2.2.1, c6.1, fun i hi => ?_, c6.2.2.1, c6.2.2.2.1, c6.2.2.2.2⟩
            rw [c6.2.1 i hi]
            show lsI (upN (upN (sL s) (10 * p + f) v') (10 * p + f) v i) = lsI (upN (sL s) (10 * p + f) v i)
            unfold upN
            split <;> rfl
          have step : ∀ x, cdI (hbst (aL a) (aS a) s f v (10 * p + z + 1)) = x → Rt g (d + 5) mX7_cheapestWay 142 [some (.ref 0), some (.int (nI f)), some (.int (nI v)), some (.int x), some (.int (nI p)), some (.int (lsI (sL s (10 * p + f)))), some (.int (nI z)), none, none] [] t6 (QI P) := by
            intro x hx
            apply bX7_cheapestWay_142
            rw [nI_1, ← hx]
            exact ih2 (z + 1) t6 (by omega) r6 m6 hex6
          refine ⟨fun c => ?_, fun c => ?_⟩
          · rw [if_neg (fun q => c q.1)] at ew
            exact step _ (by rw [ew])
          · have take : (∀ b, hbst (aL a) (aS a) s f v (10 * p + z) = some b → hOf (aL a) (aS a) s f v (10 * p + z) < b.1) → Rt g (d + 5) mX7_cheapestWay 139 [some (.ref 0), some (.int (nI f)), some (.int (nI v)), none, some (.int (nI p)), some (.int (lsI (sL s (10 * p + f)))), some (.int (nI z)), none, some (.int (nI (70 * hOf (aL a) (aS a) s f v (10 * p + z) + (10 * p + z))))] [] t6 (QI P) := by
              intro q
              rw [if_pos ⟨c, q⟩] at ew
              apply bX7_cheapestWay_139
              exact step _ (by rw [ew]; rfl)
            cases hb : hbst (aL a) (aS a) s f v (10 * p + z) with
            | none => exact br_t rfl (take (fun b hb' => by rw [hb] at hb'; cases hb'))
            | some b =>
              have hbo := hbst_ok _ _ hb
              rw [hb] at ew
              refine br_f (n2_n (k := 70 * b.1 + b.2) (by omega)) ⟨fun c2 => ?_, fun c2 => ?_⟩
              · have c3 : 70 * b.1 + b.2 ≤ _ := (nI_leI (by omega) (by omega)).mp c2
                rw [if_neg (fun q => by have := q.2 b rfl; omega)] at ew
                exact step _ (by rw [ew])
              · have c3 : ¬ 70 * b.1 + b.2 ≤ 70 * hOf (aL a) (aS a) s f v (10 * p + z) + (10 * p + z) := fun q => c2 (nI_le q (by omega))
                exact take (fun b' hb' => by rw [hb] at hb'; cases hb'; omega)
      refine inner 10 0 t2 rfl r2 m2 ⟨P0, sL s (10 * p + f), I, H, hw.2.2.1 _ (by omega), hI, hH, ?_⟩
      rw [upN_id]
      exact c2
  refine outer (pn (aP a)) 0 t1 (Nat.zero_add _) r1 hm1 ⟨sP s, sI s, sH s, hw.2.2.2.1, hw.2.2.2.2.1, hs1⟩
end P39
