/-! PURE LAYER: bribe -/
section P41
variable {g : Gt} {d : Nat} {t : Tt} {a : Aa}
theorem gI_x {o : Option Nat} (h : ∀ j, o = some j → j < 1024) : gI o = -2 ↔ o = none := by
  constructor
  · intro e
    cases o with
    | none => rfl
    | some j => exact absurd e (n2_n (k := j) (by have := h j rfl; omega))
  · intro e; rw [e]; rfl
def bbst (pr : Prog) (so : Nat) (b : Pp) (r : Tr) (f v : Nat) : Nat → Option Nat
  | 0 => none
  | k + 1 => if bel (held pr so k b r) f = nI v ∧ ∀ j, bbst pr so b r f v k = some j → bits k < bits j then some k else bbst pr so b r f v k
theorem bbst_lt {pr : Prog} {so : Nat} {b : Pp} {r : Tr} {f v : Nat} : ∀ k j, bbst pr so b r f v k = some j → j < k := by
  intro k
  induction k with
  | zero => intro j h; cases h
  | succ k ih =>
    intro j h
    simp only [bbst] at h
    split at h
    · cases h; omega
    · have := ih j h; omega
def bans (o : Option Nat) (y : Nat) : Int32 := match o with
  | none => -2
  | some j => if y = 1 then nI j else nI (bits j)
theorem p10_pow {n : Nat} (h : n ≤ 10) : 2 ^ n ≤ 1024 := by have := Nat.pow_le_pow_right (show 2 > 0 by decide) h; omega
theorem sp_fewest {f v : Nat} {tr : Tr} {P : Int32 → Tt → Prop} (h : Rel t a) (ht : TrC t tr) (htw : trW (pn (aP a)) tr) (h10 : tr.1 ≤ 10) (hf : f < 10) (hv : v < 2) (k : ∀ t', Rel t' a → P (gI (bbst (aL a) (aS a) (aP a) tr f v (2 ^ tr.1))) t') : Rt g (d + 6) mX7_fewestTurned 0 [some (.ref 0), some (.int (nI f)), some (.int (nI v)), none, none] [] t (QI P) := by
  have hp := p10_pow h10
  have hso := h.1.2.1
  apply bX7_fewestTurned_0
  have key : ∀ m i t2, i + m = 2 ^ tr.1 → Rel t2 a → TrC t2 tr → Rt g (d + 6) mX7_fewestTurned 6 [some (.ref 0), some (.int (nI f)), some (.int (nI v)), some (.int (gI (bbst (aL a) (aS a) (aP a) tr f v i))), some (.int (nI i))] [] t2 (QI P) := by
    intro m
    induction m with
    | zero =>
      intro i t2 hi r2 c2
      have : i = 2 ^ tr.1 := by omega
      subst this
      apply bX7_fewestTurned_6
      rw [c2.1, shl_tab _ (by omega)]
      exact br_t (nI_le (Nat.le_refl _) (by omega)) (qi (k t2 r2))
    | succ m ih =>
      intro i t2 hi r2 c2
      apply bX7_fewestTurned_6
      rw [c2.1, shl_tab _ (by omega)]
      refine br_f (nI_ge (by omega) (by omega)) ?_
      have ew : bbst (aL a) (aS a) (aP a) tr f v (i + 1) = if bel (held (aL a) (aS a) i (aP a) tr) f = nI v ∧ ∀ j, bbst (aL a) (aS a) (aP a) tr f v i = some j → bits i < bits j then some i else bbst (aL a) (aS a) (aP a) tr f v i := rfl
      have step : ∀ q t3, Rel t3 a → TrC t3 tr → bbst (aL a) (aS a) (aP a) tr f v (i + 1) = q → Rt g (d + 6) mX7_fewestTurned 74 [some (.ref 0), some (.int (nI f)), some (.int (nI v)), some (.int (gI q)), some (.int (nI i))] [] t3 (QI P) := by
        intro q t3 r3 c3 hq
        apply bX7_fewestTurned_74
        rw [nI_1, ← hq]
        exact ih (i + 1) t3 (by omega) r3 c3
      have go : (∀ j, bbst (aL a) (aS a) (aP a) tr f v i = some j → bits i < bits j) → Rt g (d + 6) mX7_fewestTurned 38 [some (.ref 0), some (.int (nI f)), some (.int (nI v)), some (.int (gI (bbst (aL a) (aS a) (aP a) tr f v i))), some (.int (nI i))] [] t2 (QI P) := by
        intro hj
        apply bX7_fewestTurned_38
        refine ⟨r2.lw.1, ?_⟩
        rw [r2.so]
        refine sp_hold r2.lw.1 r2.2.1.1 r2.pw r2.lw.2.2.2 hso (by omega) c2 htw (fun t3 hf3 hs3 => ?_)
        have r3 := r2.c (hf3.mo HoS_C)
        have c3 := c2.fr hf3
        have hw3 := rsn_W (pr := aL a) (so := aS a) (tb := i) r2.pw htw _ (Nat.le_refl _)
        refine sp_beliefIn hs3 hw3 hf ⟨fun c => ?_, fun c => ?_⟩
        · rw [if_neg (fun q => c q.1)] at ew
          exact step _ t3 r3 c3 ew
        · rw [if_pos ⟨c, hj⟩] at ew
          exact step (some i) t3 r3 c3 ew
      refine ⟨fun c => go (fun j hj => by rw [(gI_x (fun j hj => by have := bbst_lt _ _ hj; omega)).mp c] at hj; cases hj), fun c => ?_⟩
      cases hb : bbst (aL a) (aS a) (aP a) tr f v i with
      | none => exact absurd (by rw [hb]; rfl) c
      | some j =>
        have hj := bbst_lt _ _ hb
        rw [hb] at go ew
        refine sp_bitCount (by omega) (sp_bitCount (x := j) (by omega) ⟨fun c2' => ?_, fun c2' => ?_⟩)
        · have c3 := (nI_leI (bits_lt (by omega)) (bits_lt (by omega))).mp c2'
          rw [if_neg (fun q => by have := q.2 j rfl; omega)] at ew
          exact step _ t2 r2 c2 ew
        · have c3 : ¬ bits j ≤ bits i := fun q => c2' (nI_le q (bits_lt (by omega)))
          exact go (fun j' hj' => by cases hj'; omega)
  exact key (2 ^ tr.1) 0 t (Nat.zero_add _) h ht
theorem sr_bribe {f v y : Nat} {tr : Tr} {P : Int32 → Tt → Prop} (h : Rel t a) (ht : TrM t tr) (htw : trW (pn (aP a)) tr) (h10 : tr.1 ≤ 10) (hf : f < 10) (hv : v < 2) (hy : y < 2) (k : ∀ t', Rel t' a → P (bans (bbst (aL a) (aS a) (aP a) tr f v (2 ^ tr.1)) y) t') : Rt g (d + 7) mX8_bribe 59 [some (.ref 57), none, some (.int (nI (10 * f + v))), some (.int (nI y)), none, some (.int (-2)), some (.int 0)] [] t (QI P) := by
  have hp := p10_pow h10
  have hso := h.1.2.1
  have q1 : nI (10 * f + v) / 10 = nI f := by rw [l10, pk_div (by omega) (by decide) (by decide), show (10 * f + v) / 10 = f by omega]
  have q2 : jr (nI (10 * f + v)) 10 = nI v := by rw [l10, jr_n (by omega) (by decide) (by decide), show (10 * f + v) % 10 = v by omega]
  have key : ∀ m i t2, i + m = 2 ^ tr.1 → Rel t2 a → TrM t2 tr → Rt g (d + 7) mX8_bribe 59 [some (.ref 57), none, some (.int (nI (10 * f + v))), some (.int (nI y)), none, some (.int (gI (bbst (aL a) (aS a) (aP a) tr f v i))), some (.int (nI i))] [] t2 (QI P) := by
    intro m
    induction m with
    | zero =>
      intro i t2 hi r2 c2
      have : i = 2 ^ tr.1 := by omega
      subst this
      apply bX8_bribe_59
      rw [c2.1, shl_tab _ (by omega)]
      refine br_t (nI_le (Nat.le_refl _) (by omega)) ?_
      have kk := k t2 r2
      unfold bans at kk
      cases hb : bbst (aL a) (aS a) (aP a) tr f v (2 ^ tr.1) with
      | none =>
        rw [hb] at kk
        exact br_f (by decide) (qi kk)
      | some j =>
        have hj := bbst_lt _ _ hb
        rw [hb] at kk
        dsimp only at kk
        refine br_t (nI_pos' (n := j) (by omega)) ?_
        match y, hy with
        | 0, _ => exact br_p rfl (sp_bitsOf (by omega) (qi kk))
        | 1, _ => exact br_n (by decide) (qi kk)
    | succ m ih =>
      intro i t2 hi r2 c2
      apply bX8_bribe_59
      rw [c2.1, shl_tab _ (by omega)]
      refine br_f (nI_ge (by omega) (by omega)) ?_
      have ew : bbst (aL a) (aS a) (aP a) tr f v (i + 1) = if bel (held (aL a) (aS a) i (aP a) tr) f = nI v ∧ ∀ j, bbst (aL a) (aS a) (aP a) tr f v i = some j → bits i < bits j then some i else bbst (aL a) (aS a) (aP a) tr f v i := rfl
      have step : ∀ q t3, Rel t3 a → TrM t3 tr → bbst (aL a) (aS a) (aP a) tr f v (i + 1) = q → Rt g (d + 7) mX8_bribe 116 [some (.ref 57), none, some (.int (nI (10 * f + v))), some (.int (nI y)), none, some (.int (gI q)), some (.int (nI i))] [] t3 (QI P) := by
        intro q t3 r3 c3 hq
        apply bX8_bribe_116
        rw [nI_1, ← hq]
        exact ih (i + 1) t3 (by omega) r3 c3
      have go : (∀ j, bbst (aL a) (aS a) (aP a) tr f v i = some j → bits i < bits j) → Rt g (d + 7) mX8_bribe 91 [some (.ref 57), none, some (.int (nI (10 * f + v))), some (.int (nI y)), none, some (.int (gI (bbst (aL a) (aS a) (aP a) tr f v i))), some (.int (nI i))] [] t2 (QI P) := by
        intro hj
        apply bX8_bribe_91
        refine sr_goTrial r2.2.2.1 r2.pw r2.lm r2.2.2.2.1 (by omega) c2 htw (fun t3 hf3 hs3 => ?_)
        have r3 := r2.m (hf3.mo GoS_M)
        have c3 := c2.fr hf3
        have hw3 := rsn_W (pr := aL a) (so := aS a) (tb := i) r2.pw htw _ (Nat.le_refl _)
        rw [q1, q2]
        refine sr_believedNow hs3 hw3 hf ⟨fun c => ?_, fun c => ?_⟩
        · rw [if_neg (fun q => c q.1)] at ew
          exact step _ t3 r3 c3 ew
        · rw [if_pos ⟨c, hj⟩] at ew
          exact step (some i) t3 r3 c3 ew
      cases hb : bbst (aL a) (aS a) (aP a) tr f v i with
      | none =>
        rw [hb] at go
        exact br_t (by decide) (go (fun j hj => by cases hj))
      | some j =>
        have hj := bbst_lt _ _ hb
        rw [hb] at go ew
        refine br_f (nI_pos (n := j) (by omega)) (sp_bitsOf (by omega) (sp_bitsOf (x := j) (by omega) ⟨fun c2' => ?_, fun c2' => ?_⟩))
        · have c3 := (nI_ltI (bits_lt (by omega)) (bits_lt (by omega))).mp c2'
          exact go (fun j' hj' => by cases hj'; omega)
        · have c3 : ¬ bits i < bits j := fun q => c2' (nI_lt q (bits_lt (by omega)))
          rw [if_neg (fun q => c3 (q.2 j rfl))] at ew
          exact step _ t2 r2 c2 ew
  exact key (2 ^ tr.1) 0 t (Nat.zero_add _) h ht
theorem both_bribe {x y z : Int32} {Q : Int32 → Int32 → Tt → Prop} (h : Rel t a) (K : KK Q) : Rt g (d + 300) mX7_bribe 0 [some (.ref 0), some (.int x), some (.int y), some (.int z), none, none] [] t (QI (fun v t1 => Rt g (d + 300) mX8_bribe 0 [some (.ref 57), some (.int x), some (.int y), some (.int z), none, none, none] [] t1 (QI (fun w t2 => Q v w t2)))) := by
  have hn := h.n7
  apply bX7_bribe_0
  by_cases h1 : gd x 6
  · refine sp_noShelf_g h1 (br_p rfl ?_)
    by_cases h2 : gcl y
    · refine sp_noClaim_g h2 (br_p rfl ?_)
      by_cases h3 : gd z 2
      · refine sp_out_g (n := 2) rfl (by decide) h3 (br_t rfl ?_)
        obtain ⟨s, hs, rfl⟩ := h1
        refine sp_refusalOfBytes h hs ?_
        have md : ∀ (P : Int32 → Tt → Prop) t1, _ → Rt g (d + 300) mX8_bribe 0 [some (.ref 57), some (.int (nI s)), some (.int y), some (.int z), none, none, none] [] t1 (QI P) := fun P t1 k => bX8_bribe_0 (sr_isShelf_g ⟨s, hs, rfl⟩ (br_f (by decide) (sr_areFact_g h2 (br_f (by decide) (sr_in_g (n := 2) rfl (by decide) h3 (br_n (by decide) k))))))
        by_cases h4 : refB ((aH a).1 s) = 0
        · refine br_t h4 ⟨vpn hs, ?_⟩
          obtain ⟨f, v, hf, hv, rfl⟩ := h2
          obtain ⟨k, hk, rfl⟩ := h3
          have q1 : nI (10 * f + v) / 10 = nI f := by rw [l10, pk_div (by omega) (by decide) (by decide), show (10 * f + v) / 10 = f by omega]
          have q2 : jr (nI (10 * f + v)) 10 = nI v := by rw [l10, jr_n (by omega) (by decide) (by decide), show (10 * f + v) % 10 = v by omega]
          rw [q1, q2, ncl (by omega), h.pc]
          refine sp_summonA h hs h4 (fun t2 hf2 ht2 => ?_)
          have r2 := h.c (hf2.mo SuS_C)
          have htw := trA_W a s
          have h15 := htw.1
          rw [ht2.1]
          refine ⟨fun c => ?_, fun c => qi (md _ _ ?_)⟩
          · have h10 := (nI_leI (b := 10) (by omega) (by decide)).mp c
            have hp := p10_pow h10
            refine sp_fewest r2 ht2 htw h10 hf hv (fun t3 r3 => ?_)
            have fin : Rt g (d + 300) mX8_bribe 0 [some (.ref 57), some (.int (nI s)), some (.int (nI (10 * f + v))), some (.int (nI k)), none, none, none] [] t3 (QI (fun w t2 => Q (bans (bbst (aL a) (aS a) (aP a) (trA a s) f v (2 ^ (trA a s).1)) k) w t2)) := by
              refine md _ _ (sr_layOr_g r3 hs h4 (fun t9 hf9 ht9 hs9 => br_t (by decide) ?_))
              rw [ht9.1]
              refine br_t c ?_
              exact sr_bribe (r3.m hf9) ht9 htw h10 hf hv hk (fun t10 h10 => K _ _ ⟨a, h10⟩)
            unfold bans at fin
            cases hb : bbst (aL a) (aS a) (aP a) (trA a s) f v (2 ^ (trA a s).1) with
            | none =>
              rw [hb] at fin
              exact br_t rfl (bX7_bribe_100 (qi fin))
            | some j =>
              have hj := bbst_lt _ _ hb
              rw [hb] at fin
              dsimp only at fin
              refine br_f (n2_n (k := j) (by omega)) ?_
              match k, hk with
              | 0, _ => exact br_n (by decide) (sp_bitCount (by omega) (qi fin))
              | 1, _ => exact br_p rfl (bX7_bribe_100 (qi fin))
          · refine sr_layOr_g r2 hs h4 (fun t9 hf9 ht9 hs9 => br_t (by decide) ?_)
            rw [ht9.1]
            exact br_f c (qi (K _ _ ⟨a, r2.m hf9⟩))
        · refine br_f h4 (qi (md _ _ ?_))
          exact sr_layOr_b h hs h4 (br_f (refB_n h4).1 (qi (K _ _ ⟨a, h⟩)))
      · refine sp_out_b (n := 2) rfl (by decide) h3 (br_f (by decide) (qi ?_))
        apply bX8_bribe_0
        exact sr_isShelf_g h1 (br_f (by decide) (sr_areFact_g h2 (br_f (by decide) (sr_in_b (n := 2) rfl (by decide) h3 (br_p rfl (qi (K _ _ ⟨a, h⟩)))))))
    · refine sp_noClaim_b h2 (br_n (by decide) (qi ?_))
      apply bX8_bribe_0
      exact sr_isShelf_g h1 (br_f (by decide) (sr_areFact_b h2 (br_t rfl (qi (K _ _ ⟨a, h⟩)))))
  · refine sp_noShelf_b h1 (br_n (by decide) (qi ?_))
    apply bX8_bribe_0
    exact sr_isShelf_b h1 (br_t rfl (qi (K _ _ ⟨a, h⟩)))
end P41
