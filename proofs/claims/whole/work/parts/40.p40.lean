/-! PURE LAYER: have, the reference; both -/
section P40
variable {g : Gt} {d : Nat} {t : Tt} {a : Aa}
def sayP (pr : Prog) (so : Nat) (b : Pp) (p f v z : Nat) : Pp := if capd so f = v then b else lieA (prc pr b p f z) b p z
theorem sr_sayOf {p f v z : Nat} {s : Rs} {P : Int32 → Tt → Prop} (h : Rel t a) (hm : MoM t (sP s)) (hw : PpW (sP s)) (hp : p < pn (sP s)) (hf : f < 10) (hv : v < 2) (hz : z < 10)
    (k : ∀ t', Fr LiM t t' → MoM t' (sayP (aL a) (aS a) (sP s) p f v z) → P (nI (spkO (aL a) (aS a) s p f v z)) t') : Rt g (d + 5) mX8_sayOf 0 [some (.ref 57), some (.int (nI p)), some (.int (nI f)), some (.int (nI v)), some (.int (nI z))] [] t (QI P) := by
  have hc := capd_2 (aS a) f
  apply bX8_sayOf_0
  refine ⟨vpn hf, ?_⟩
  rw [ncl (by omega), h.2.2.2.1 f hf]
  unfold sayP spkO at k
  refine ⟨fun c => ?_, fun c => qi ?_⟩
  · have hne : ¬ capd (aS a) f = v := fun e => c (by rw [e])
    rw [if_neg hne, if_neg hne] at k
    exact sr_lieOf hm hw hp hz h.lm (fun t' hf' hm' => qi (k t' hf' hm'))
  · have he : capd (aS a) f = v := (nI_inj (by omega) (by omega) c).symm
    rw [if_pos he, if_pos he] at k
    exact k t (Fr.rf _ _) hm
def hx7 : Option (Nat × Nat) → Int32
  | none => -1
  | some b => nI b.1
def hx8 : Option (Nat × Nat) → Int32
  | none => -2
  | some b => nI (b.2 / 10)
def hx9 : Option (Nat × Nat) → Int32
  | none => -2
  | some b => nI (b.2 % 10)
theorem sr_have {f v y : Nat} {tr : Tr} {P : Int32 → Tt → Prop} (h : Rel t a) (ht : TrM t tr) (htw : trW (pn (aP a)) tr) (hf : f < 10) (hv : v < 2) (hy : y < 3) (k : ∀ t', Rel t' a → P (hans (hbst (aL a) (aS a) (held (aL a) (aS a) 0 (aP a) tr) f v (10 * pn (aP a))) y) t') : Rt g (d + 7) mX8_have 88 [some (.ref 57), none, none, some (.int (nI y)), none, some (.int (nI f)), some (.int (nI v)), some (.int (-1)), some (.int (-2)), some (.int (-2)), some (.int 0), none, none] [] t (QI P) := by
  have hn := h.n7
  have hso := h.1.2.1
  generalize hss : held (aL a) (aS a) 0 (aP a) tr = s at k
  have hw : RsW (pn (aP a)) s := by rw [← hss]; exact rsn_W h.pw htw _ (Nat.le_refl _)
  have hn2 := hw.2.1
  have outer : ∀ m p t2, p + m = pn (aP a) → Rel t2 a → TrM t2 tr → Rt g (d + 7) mX8_have 88 [some (.ref 57), none, none, some (.int (nI y)), none, some (.int (nI f)), some (.int (nI v)), some (.int (hx7 (hbst (aL a) (aS a) s f v (10 * p)))), some (.int (hx8 (hbst (aL a) (aS a) s f v (10 * p)))), some (.int (hx9 (hbst (aL a) (aS a) s f v (10 * p)))), some (.int (nI p)), none, none] [] t2 (QI P) := by
    intro m
    induction m with
    | zero =>
      intro p t2 hp r2 _
      have : p = pn (aP a) := by omega
      subst this
      apply bX8_have_88
      rw [r2.pm]
      refine br_t (nI_le (Nat.le_refl _) (by omega)) ?_
      have kk := k t2 r2
      unfold hans at kk
      cases hb : hbst (aL a) (aS a) s f v (10 * pn (aP a)) with
      | none =>
        rw [hb] at kk
        exact br_f (by decide) (qi kk)
      | some b =>
        have hbo := hbst_ok _ _ hb
        rw [hb] at kk
        dsimp only at kk
        refine br_t (nI_pos' (n := b.1) (by omega)) ?_
        match y, hy with
        | 0, _ => exact br_p rfl (qi kk)
        | 1, _ => exact br_n (by decide) (br_p rfl (qi kk))
        | 2, _ => exact br_n (by decide) (br_n (by decide) (qi kk))
    | succ m ih =>
      intro p t2 hp r2 ht2
      apply bX8_have_88
      rw [r2.pm]
      refine br_f (nI_ge (by omega) (by omega)) ?_
      have inner : ∀ m2 z t3, z + m2 = 10 → Rel t3 a → TrM t3 tr → Rt g (d + 7) mX8_have 100 [some (.ref 57), none, none, some (.int (nI y)), none, some (.int (nI f)), some (.int (nI v)), some (.int (hx7 (hbst (aL a) (aS a) s f v (10 * p + z)))), some (.int (hx8 (hbst (aL a) (aS a) s f v (10 * p + z)))), some (.int (hx9 (hbst (aL a) (aS a) s f v (10 * p + z)))), some (.int (nI p)), some (.int (nI z)), none] [] t3 (QI P) := by
        intro m2
        induction m2 with
        | zero =>
          intro z t3 hz r3 ht3
          have : z = 10 := by omega
          subst this
          apply bX8_have_100
          refine br_t (nI_le (a := 10) (by omega) (by decide)) ?_
          rw [nI_1]
          exact ih (p + 1) t3 (by omega) r3 ht3
        | succ m2 ih2 =>
          intro z t3 hz r3 ht3
          apply bX8_have_100
          refine br_f (nI_ge (b := 10) (by omega) (by decide)) ?_
          refine sr_goTrial (tb := 0) r3.2.2.1 r3.pw r3.lm r3.2.2.2.1 (by decide) ht3 htw (fun t4 hf4 c4 => ?_)
          rw [hss] at c4
          have r4 := r3.m (hf4.mo GoS_M)
          have ht4 := ht3.fr hf4
          refine sr_sayOf r4 c4.1 hw.1 (by omega) hf hv (by omega) (fun t5 hf5 m5 => ?_)
          have r5 := r4.m (hf5.mo LiM_M)
          have ht5 := ht4.fr (hf5.mo (fun o j q => by unfold LiM at q; unfold GoS; omega))
          rw [ix10']
          refine ⟨vpn (by omega), ?_⟩
          rw [ncl (by omega)]
          have f6 : Fr GoS t5 (pI t5 80 (10 * p + f) (nI v)) := (Fr.rf GoS t5).pI _ (by unfold GoS; omega)
          have r6 := r5.m (f6.mo GoS_M)
          have ht6 := ht5.fr f6
          have c6 : RsM (pI t5 80 (10 * p + f) (nI v)) (sayP (aL a) (aS a) (sP s) p f v z, upN (sL s) (10 * p + f) v, sI s, sH s, sG s) := by
            have f6s : Fr (fun o _ => o = 80) t5 (pI t5 80 (10 * p + f) (nI v)) := (Fr.rf _ t5).pI _ rfl
            refine ⟨m5.fr f6s (by omega) (by omega) (fun k => by omega) (fun k => by omega) (fun k => by omega), fun i hi => ?_, ?_, ?_⟩
            · rw [pI_a]
              show _ = lsI (upN (sL s) (10 * p + f) v i)
              unfold upN
              by_cases e : i = 10 * p + f
              · rw [if_pos ⟨rfl, e⟩, if_pos e]
                unfold lsI
                rw [if_neg (by omega)]
              · rw [if_neg (fun w => e w.2), if_neg e, hf5.1 _ _ (by unfold LiM; omega)]
                exact c4.2.1 i hi
            · rw [pI_o _ _ _ _ (by decide), hf5.1 _ _ (by unfold LiM; omega)]; exact c4.2.2.1
            · rw [pI_o _ _ _ _ (by decide), hf5.1 _ _ (by unfold LiM; omega)]; exact c4.2.2.2
          have w6' := spk_W (pr := aL a) (so := aS a) (p := p) (f := f) (v := v) (z := z) hw (by omega) hf hv
          have w6 : RsW (pn (aP a)) (sayP (aL a) (aS a) (sP s) p f v z, upN (sL s) (10 * p + f) v, sI s, sH s, sG s) := ⟨w6'.1, w6'.2.1, w6'.2.2.1, hw.2.2.2.1, hw.2.2.2.2.1, hw.2.2.2.2.2⟩
          refine sr_believedNow c6 w6 hf ?_
          have eB : bel (sayP (aL a) (aS a) (sP s) p f v z, upN (sL s) (10 * p + f) v, sI s, sH s, sG s) f = bel (spk (aL a) (aS a) s ((10 * p + z) / 10) f v ((10 * p + z) % 10)) f := by
            rw [show (10 * p + z) / 10 = p by omega, show (10 * p + z) % 10 = z by omega]
            apply bel_cg
            · rfl
            · rfl
          have eO : spkO (aL a) (aS a) s p f v z = hOf (aL a) (aS a) s f v (10 * p + z) := by
            unfold hOf
            rw [show (10 * p + z) / 10 = p by omega, show (10 * p + z) % 10 = z by omega]
          have hO99 : hOf (aL a) (aS a) s f v (10 * p + z) ≤ 99 := spkO_le _ _ _ _ _ _ _ (Nat.mod_lt _ (by decide))
          rw [eB, eO]
          have ew : hbst (aL a) (aS a) s f v (10 * p + z + 1) = if hIs (aL a) (aS a) s f v (10 * p + z) ∧ ∀ b, hbst (aL a) (aS a) s f v (10 * p + z) = some b → hOf (aL a) (aS a) s f v (10 * p + z) < b.1 then some (hOf (aL a) (aS a) s f v (10 * p + z), 10 * p + z) else hbst (aL a) (aS a) s f v (10 * p + z) := rfl
          have step : ∀ q, hbst (aL a) (aS a) s f v (10 * p + z + 1) = q → Rt g (d + 7) mX8_have 179 [some (.ref 57), none, none, some (.int (nI y)), none, some (.int (nI f)), some (.int (nI v)), some (.int (hx7 q)), some (.int (hx8 q)), some (.int (hx9 q)), some (.int (nI p)), some (.int (nI z)), none] [] (pI t5 80 (10 * p + f) (nI v)) (QI P) := by
            intro q hq
            apply bX8_have_179
            rw [nI_1, ← hq]
            exact ih2 (z + 1) _ (by omega) r6 ht6
          refine ⟨fun c => ?_, fun c => ?_⟩
          · rw [if_neg (fun q => c q.1)] at ew
            exact step _ ew
          · have take : (∀ b, hbst (aL a) (aS a) s f v (10 * p + z) = some b → hOf (aL a) (aS a) s f v (10 * p + z) < b.1) → Rt g (d + 7) mX8_have 167 [some (.ref 57), none, none, some (.int (nI y)), none, some (.int (nI f)), some (.int (nI v)), none, none, none, some (.int (nI p)), some (.int (nI z)), some (.int (nI (hOf (aL a) (aS a) s f v (10 * p + z))))] [] (pI t5 80 (10 * p + f) (nI v)) (QI P) := by
              intro q
              rw [if_pos ⟨c, q⟩] at ew
              apply bX8_have_167
              have := step _ ew
              unfold hx7 hx8 hx9 at this
              dsimp only at this
              rw [show (10 * p + z) / 10 = p by omega, show (10 * p + z) % 10 = z by omega] at this
              exact this
            cases hb : hbst (aL a) (aS a) s f v (10 * p + z) with
            | none => exact br_t (by decide) (take (fun b hb' => by rw [hb] at hb'; cases hb'))
            | some b =>
              have hbo := hbst_ok _ _ hb
              rw [hb] at ew
              refine br_f (nI_pos (n := b.1) (by omega)) ⟨fun c2 => ?_, fun c2 => ?_⟩
              · have c3 : _ < b.1 := (nI_ltI (by omega) (by omega)).mp c2
                exact take (fun b' hb' => by rw [hb] at hb'; cases hb'; exact c3)
              · rw [if_neg (fun q => c2 (nI_lt (q.2 b rfl) (by omega)))] at ew
                exact step _ ew
      exact inner 10 0 t2 rfl r2 ht2
  exact outer (pn (aP a)) 0 t (Nat.zero_add _) h ht
theorem both_have {x y z : Int32} {Q : Int32 → Int32 → Tt → Prop} (h : Rel t a) (K : KK Q) : Rt g (d + 300) mX7_have 0 [some (.ref 0), some (.int x), some (.int y), some (.int z), none, none] [] t (QI (fun v t1 => Rt g (d + 300) mX8_have 0 [some (.ref 57), some (.int x), some (.int y), some (.int z), none, none, none, none, none, none, none, none, none] [] t1 (QI (fun w t2 => Q v w t2)))) := by
  have hn := h.n7
  apply bX7_have_0
  by_cases h1 : gd x 6
  · refine sp_noShelf_g h1 (br_p rfl ?_)
    by_cases h2 : gcl y
    · refine sp_noClaim_g h2 (br_p rfl ?_)
      by_cases h3 : gd z 3
      · refine sp_out_g (n := 3) rfl (by decide) h3 (br_t rfl ?_)
        obtain ⟨s, hs, rfl⟩ := h1
        refine sp_refusalOfBytes h hs ?_
        have md : ∀ (P : Int32 → Tt → Prop) t1, _ → Rt g (d + 300) mX8_have 0 [some (.ref 57), some (.int (nI s)), some (.int y), some (.int z), none, none, none, none, none, none, none, none, none] [] t1 (QI P) := fun P t1 k => bX8_have_0 (sr_isShelf_g ⟨s, hs, rfl⟩ (br_f (by decide) (sr_areFact_g h2 (br_f (by decide) (sr_in_g (n := 3) rfl (by decide) h3 (br_n (by decide) k))))))
        by_cases h4 : refB ((aH a).1 s) = 0
        · refine br_t h4 ?_
          have hw := hdA_W h s
          obtain ⟨f, v, hf, hv, rfl⟩ := h2
          obtain ⟨k, hk, rfl⟩ := h3
          have q1 : nI (10 * f + v) / 10 = nI f := by rw [l10, pk_div (by omega) (by decide) (by decide), show (10 * f + v) / 10 = f by omega]
          have q2 : jr (nI (10 * f + v)) 10 = nI v := by rw [l10, jr_n (by omega) (by decide) (by decide), show (10 * f + v) % 10 = v by omega]
          rw [q1, q2]
          refine sp_hear h hs h4 (fun t7 hf7 ht7 hs7 => ?_)
          have h7 := h.c hf7
          refine sp_beliefIn hs7 hw hf ?_
          refine ⟨fun c => ?_, fun c => ?_⟩
          · refine sp_cheapest h7 hs7 hw hf hv (fun t8 h8 => ?_)
            have fin : Rt g (d + 300) mX8_have 0 [some (.ref 57), some (.int (nI s)), some (.int (nI (10 * f + v))), some (.int (nI k)), none, none, none, none, none, none, none, none, none] [] t8 (QI (fun w t2 => Q (hans (hbst (aL a) (aS a) (hdA a s) f v (10 * pn (aP a))) k) w t2)) := by
              refine md _ _ (sr_layOr_g h8 hs h4 (fun t9 hf9 ht9 hs9 => br_t (by decide) ?_))
              intro z13 e13 z14 e14
              rw [q1] at e13
              rw [q2] at e14
              subst e13 e14
              refine sr_believedNow hs9 hw hf (br_n c ?_)
              exact sr_have (h8.m hf9) ht9 (trA_W a s) hf hv hk (fun t10 h10 => K _ _ ⟨a, h10⟩)
            cases hb : hbst (aL a) (aS a) (hdA a s) f v (10 * pn (aP a)) with
            | none =>
              rw [hb] at fin
              exact br_p rfl (qi fin)
            | some b =>
              have hbo := hbst_ok _ _ hb
              rw [hb] at fin
              unfold hans at fin
              dsimp only at fin
              have e1 : nI (70 * b.1 + b.2) / 70 = nI b.1 := by
                rw [show (70 : Int32) = nI 70 from rfl, pk_div (by omega) (by decide) (by decide)]
                congr 1
                omega
              have e2 : jr (nI (70 * b.1 + b.2) / 10) 7 = nI (b.2 / 10) := by
                rw [l10, pk_div (by omega) (by decide) (by decide), show (7 : Int32) = nI 7 from rfl, jr_n (by omega) (by decide) (by decide)]
                congr 1
                omega
              have e3 : jr (nI (70 * b.1 + b.2)) 10 = nI (b.2 % 10) := by
                rw [l10, jr_n (by omega) (by decide) (by decide)]
                congr 1
                omega
              rw [show cdI (some b) = nI (70 * b.1 + b.2) from rfl, e1, e2, e3]
              refine br_n (n2_n (by omega)) ?_
              match k, hk with
              | 0, _ => exact br_t rfl (qi fin)
              | 1, _ => exact br_f (by decide) (br_t rfl (qi fin))
              | 2, _ => exact br_f (by decide) (br_f (by decide) (qi fin))
          · have fin : ∀ r, (¬ nI k = 0 → r = -2) → (nI k = 0 → r = 0) → Rt g (d + 300) mX8_have 0 [some (.ref 57), some (.int (nI s)), some (.int (nI (10 * f + v))), some (.int (nI k)), none, none, none, none, none, none, none, none, none] [] t7 (QI (fun w t2 => Q r w t2)) := by
              intro r e1 e2
              refine md _ _ (sr_layOr_g h7 hs h4 (fun t9 hf9 ht9 hs9 => br_t (by decide) ?_))
              intro z13 e13 z14 e14
              rw [q1] at e13
              rw [q2] at e14
              subst e13 e14
              refine sr_believedNow hs9 hw hf (br_p c ⟨fun c2 => qi ?_, fun c2 => qi ?_⟩)
              · rw [e1 c2]; exact K _ _ ⟨a, h7.m hf9⟩
              · rw [e2 c2]; exact K _ _ ⟨a, h7.m hf9⟩
            exact ⟨fun c2 => qi (fin _ (fun _ => rfl) (fun q => absurd q c2)), fun c2 => qi (fin _ (fun q => absurd c2 q) (fun _ => rfl))⟩
        · refine br_f h4 (qi (md _ _ ?_))
          exact sr_layOr_b h hs h4 (br_f (refB_n h4).1 (qi (K _ _ ⟨a, h⟩)))
      · refine sp_out_b (n := 3) rfl (by decide) h3 (br_f (by decide) (qi ?_))
        apply bX8_have_0
        exact sr_isShelf_g h1 (br_f (by decide) (sr_areFact_g h2 (br_f (by decide) (sr_in_b (n := 3) rfl (by decide) h3 (br_p rfl (qi (K _ _ ⟨a, h⟩)))))))
    · refine sp_noClaim_b h2 (br_n (by decide) (qi ?_))
      apply bX8_have_0
      exact sr_isShelf_g h1 (br_f (by decide) (sr_areFact_b h2 (br_t rfl (qi (K _ _ ⟨a, h⟩)))))
  · refine sp_noShelf_b h1 (br_n (by decide) (qi ?_))
    apply bX8_have_0
    exact sr_isShelf_b h1 (br_t rfl (qi (K _ _ ⟨a, h⟩)))
end P40
