/-! PURE LAYER: isSo, the reference; both -/
section P46
variable {g : Gt} {d : Nat} {t : Tt} {a : Aa}
def MS1 (o j : Nat) : Prop := MSc o j ∨ o = 61
theorem MS1_c {o j : Nat} (h : MS1 o j) : (72 ≤ o ∧ o ≤ 81) ∨ (o = 57 ∧ (j = 33 ∨ j = 35 ∨ j = 36)) ∨ o = 61 := by unfold MS1 MSc at h; omega
theorem MSc_1 (o j : Nat) (h : MSc o j) : MS1 o j := Or.inl h
theorem sr_isSoLoop {p k z s1 s2 : Nat} {tr : Tr} {P : Int32 → Tt → Prop} (h : Rel t a) (ht : TrM t tr) (htw : trW (pn (aP a)) tr) (hs1 : s1 < 6) (hs2 : s2 < 6) (hb2 : refB ((aH a).1 s2) = 0) (hp : p < pn (aP a)) (hk1 : 1 ≤ k) (hk : k < 9) (hz : z < 3) (kk : ∀ t', Rel t' a → P (iAns (isA (aL a) (aS a) (aP a) tr k p ((aH a).2 s2) (2 ^ k)) z) t') : Rt g (d + 7) mX8_isSo 148 [some (.ref 57), some (.int (nI (10 * s1 + s2))), some (.int (nI (10 * p + k))), some (.int (nI z)), some (.int (nI k)), some (.int 0), none, none, none, none] [] t (QI P) := by
  have hso := h.1.2.1
  have hn := h.n7
  have h28 : 2 ^ k ≤ 2 ^ 8 := Nat.pow_le_pow_right (by decide) (by omega)
  have h20 : 0 < 2 ^ k := Nat.pow_pos (by decide)
  have hm2 := byM h hs2 hb2
  have q1 : jr (nI (10 * s1 + s2)) 10 = nI s2 := by rw [l10, jr_n (by omega) (by decide) (by decide)]; congr 1; omega
  have q2 : nI (10 * p + k) / 10 = nI p := by rw [l10, pk_div (by omega) (by decide) (by decide)]; congr 1; omega
  have MOR : ∀ t', Fr MS1 t t' → MoR t' (aP a) := fun t' hf => m_mo h.2.2.1 hf (fun o j q => by have := MS1_c q; omega)
  have LWM : ∀ t', Fr MS1 t t' → LwM t' (aL a) := fun t' hf => m_lw h.lm hf (fun o j q => by have := MS1_c q; omega)
  -- the facts are laid back
  have back : ∀ m i t2, i + m = 10 → Fr MS1 t t2 → (∀ f, f < 10 → t2.1 81 f = nI (capd (aS a) f)) → (∀ f, f < i → t2.1 61 f = nI (capd (aS a) f)) → Rt g (d + 7) mX8_isSo 283 [some (.ref 57), none, none, some (.int (nI z)), none, some (.int (nI (isA (aL a) (aS a) (aP a) tr k p ((aH a).2 s2) (2 ^ k)).1)), some (.int (gI (isA (aL a) (aS a) (aP a) tr k p ((aH a).2 s2) (2 ^ k)).2.1)), some (.int (nI (isA (aL a) (aS a) (aP a) tr k p ((aH a).2 s2) (2 ^ k)).2.2)), some (.int (nI i)), none] [] t2 (QI P) := by
    intro m
    induction m with
    | zero =>
      intro i t2 hi hf h81 h61
      have : i = 10 := by omega
      subst this
      have hok := isA_ok (pr := aL a) (so := aS a) (b := aP a) (tr := tr) (k := k) (p := p) (c := (aH a).2 s2) (2 ^ k)
      have r2 : Rel t2 a := ⟨h.1, h.2.1.al (hf.mo (fun o j q => by have := MS1_c q; unfold MAl; omega)), h.2.2.so hf (fun o j q => q) (fun f hf' => h61 f hf')⟩
      apply bX8_isSo_283
      have q := kk t2 r2
      unfold iAns at q
      refine br_t (nI_le (a := 10) (by omega) (by decide)) ⟨fun c => ?_, fun c => qi ?_⟩
      · rw [if_neg (fun e => c (by rw [e]; rfl))] at q
        refine ⟨fun c2 => bX8_isSo_329 (qi ?_), fun c2 => ⟨fun c3 => qi ?_, fun c3 => bX8_isSo_329 (qi ?_)⟩⟩
        · rw [if_pos (nI_inj (b := 1) (by omega) (by decide) c2)] at q; exact q
        · rw [if_neg (fun e => c2 (by rw [e]; rfl)), if_neg (fun e => c3 (by rw [e]; rfl))] at q; exact q
        · rw [if_neg (fun e => c2 (by rw [e]; rfl)), if_pos (nI_inj (b := 0) (by omega) (by decide) c3)] at q; exact q
      · rw [if_pos (nI_inj (b := 0) (by omega) (by decide) c)] at q; exact q
    | succ m ih =>
      intro i t2 hi hf h81 h61
      apply bX8_isSo_283
      refine br_f (nI_ge (b := 10) (by omega) (by decide)) ⟨vpn (by omega), vpn (by omega), ?_⟩
      rw [ncl (by omega), h81 i (by omega), nI_1]
      refine ih (i + 1) _ (by omega) (hf.pI _ (Or.inr rfl)) (fun f hf' => ?_) (fun f hf' => ?_)
      · rw [pI_o _ _ _ _ (by decide)]; exact h81 f hf'
      · rw [pI_a]
        split
        · rename_i e; rw [e.2]
        · rename_i e; exact h61 f (by omega)
  -- way by way
  have ways : ∀ m i t2, i + m = 2 ^ k → Fr MS1 t t2 → TrM t2 tr → (∀ f, f < 10 → t2.1 81 f = nI (capd (aS a) f)) → (∀ f, f < 10 → k ≤ f → t2.1 61 f = nI (capd (aS a) f)) → Rt g (d + 7) mX8_isSo 193 [some (.ref 57), some (.int (nI (10 * s1 + s2))), some (.int (nI (10 * p + k))), some (.int (nI z)), some (.int (nI k)), some (.int (nI (isA (aL a) (aS a) (aP a) tr k p ((aH a).2 s2) i).1)), some (.int (gI (isA (aL a) (aS a) (aP a) tr k p ((aH a).2 s2) i).2.1)), some (.int (nI (isA (aL a) (aS a) (aP a) tr k p ((aH a).2 s2) i).2.2)), some (.int (nI i)), none] [] t2 (QI P) := by
    intro m
    induction m with
    | zero =>
      intro i t2 hi hf c2 h81 h61
      have : i = 2 ^ k := by omega
      subst this
      apply bX8_isSo_193
      rw [shl_tab k (by omega)]
      exact br_t (nI_le (Nat.le_refl _) (by omega)) (back 10 0 t2 rfl hf h81 (fun f hf' => absurd hf' (by omega)))
    | succ m ih =>
      intro i t2 hi hf c2 h81 h61
      apply bX8_isSo_193
      rw [shl_tab k (by omega)]
      refine br_f (nI_ge (by omega) (by omega)) ?_
      have bits : ∀ m2 j t3, j + m2 = k → Fr MS1 t t3 → TrM t3 tr → (∀ f, f < 10 → t3.1 81 f = nI (capd (aS a) f)) → (∀ f, f < 10 → k ≤ f → t3.1 61 f = nI (capd (aS a) f)) → (∀ f, f < j → t3.1 61 f = nI (capd i f)) → Rt g (d + 7) mX8_isSo 205 [some (.ref 57), some (.int (nI (10 * s1 + s2))), some (.int (nI (10 * p + k))), some (.int (nI z)), some (.int (nI k)), some (.int (nI (isA (aL a) (aS a) (aP a) tr k p ((aH a).2 s2) i).1)), some (.int (gI (isA (aL a) (aS a) (aP a) tr k p ((aH a).2 s2) i).2.1)), some (.int (nI (isA (aL a) (aS a) (aP a) tr k p ((aH a).2 s2) i).2.2)), some (.int (nI i)), some (.int (nI j))] [] t3 (QI P) := by
        intro m2
        induction m2 with
        | zero =>
          intro j t3 hj hf3 c3 h81' h61' hw
          have : j = k := by omega
          subst this
          have hok := isA_ok (pr := aL a) (so := aS a) (b := aP a) (tr := tr) (k := j) (p := p) (c := (aH a).2 s2) i
          have hsoM : soM t3 (soW (aS a) j i) := by
            intro f hf'
            rw [soW_bit hk (by omega) hf']
            split
            · rename_i c; exact hw f c
            · rename_i c; exact h61' f hf' (by omega)
          apply bX8_isSo_205
          refine br_t (nI_le (Nat.le_refl _) (by omega)) ?_
          refine sr_goTrial (tb := 0) (MOR t3 hf3) h.pw (LWM t3 hf3) hsoM (by decide) c3 htw (fun t4 hf4 hs4 => ?_)
          have f4 : Fr MS1 t t4 := hf3.tr (hf4.mo (fun o j q => Or.inl (GoS_M o j q)))
          have c4 := c3.fr hf4
          have hw4 := rsn_W (pr := aL a) (so := soW (aS a) j i) (tb := 0) h.pw htw _ (Nat.le_refl _)
          rw [q1, q2]
          refine sr_isSeen0 (c := (aH a).2 s2) hs4.1 hw4.1 (by rw [hw4.2.1]; exact hp) hs2 (by rw [f4.2]; exact hm2.2.1) hm2.2.2 ?_
          have h81'' : ∀ f, f < 10 → t4.1 81 f = nI (capd (aS a) f) := fun f hf' => by rw [hf4.1 _ _ (by unfold GoS; omega)]; exact h81' f hf'
          have h61'' : ∀ f, f < 10 → j ≤ f → t4.1 61 f = nI (capd (aS a) f) := fun f hf' hkf => by rw [hf4.1 _ _ (by unfold GoS; omega)]; exact h61' f hf' hkf
          have ew : isA (aL a) (aS a) (aP a) tr j p ((aH a).2 s2) (i + 1) = if sees (isP (aL a) (aS a) (aP a) tr j i) p ((aH a).2 s2) then ((isA (aL a) (aS a) (aP a) tr j p ((aH a).2 s2) i).1 + 1, if (isA (aL a) (aS a) (aP a) tr j p ((aH a).2 s2) i).2.1 = none then some i else (isA (aL a) (aS a) (aP a) tr j p ((aH a).2 s2) i).2.1, (isA (aL a) (aS a) (aP a) tr j p ((aH a).2 s2) i).2.2 &&& i) else isA (aL a) (aS a) (aP a) tr j p ((aH a).2 s2) i := rfl
          have step : ∀ u q w, isA (aL a) (aS a) (aP a) tr j p ((aH a).2 s2) (i + 1) = (u, q, w) → Rt g (d + 7) mX8_isSo 274 [some (.ref 57), some (.int (nI (10 * s1 + s2))), some (.int (nI (10 * p + j))), some (.int (nI z)), some (.int (nI j)), some (.int (nI u)), some (.int (gI q)), some (.int (nI w)), some (.int (nI i)), none] [] t4 (QI P) := by
            intro u q w hq
            apply bX8_isSo_274
            have := ih (i + 1) t4 (by omega) f4 c4 h81'' h61''
            rw [hq] at this
            rw [nI_1]
            exact this
          by_cases h0 : sees (isP (aL a) (aS a) (aP a) tr j i) p ((aH a).2 s2)
          · rw [if_pos h0] at ew
            rw [if_pos h0]
            refine br_n (by decide) ⟨fun c => ?_, fun c => ?_⟩
            · have hne : (isA (aL a) (aS a) (aP a) tr j p ((aH a).2 s2) i).2.1 ≠ none := fun q => c (by rw [hok.2.1.mpr q]; rfl)
              rw [if_neg hne] at ew
              apply bX8_isSo_264
              intro z8 e8
              rw [nI_and] at e8
              rw [e8, nI_1]
              exact step _ _ _ ew
            · have he : (isA (aL a) (aS a) (aP a) tr j p ((aH a).2 s2) i).2.1 = none := hok.2.1.mp (nI_inj (b := 0) (by omega) (by decide) c)
              rw [if_pos he] at ew
              apply bX8_isSo_264
              intro z8 e8
              rw [nI_and] at e8
              rw [e8, nI_1]
              exact step _ (some i) _ ew
          · rw [if_neg h0] at ew
            rw [if_neg h0]
            exact br_p rfl (step _ _ _ ew)
        | succ m2 ih2 =>
          intro j t3 hj hf3 c3 h81' h61' hw
          apply bX8_isSo_205
          refine br_f (nI_ge (by omega) (by omega)) ⟨vpn (by omega), ?_⟩
          rw [ncl (by omega), bit_tab j (by omega) i (by omega), nI_1]
          refine ih2 (j + 1) _ (by omega) (hf3.pI _ (Or.inr rfl)) ?_ (fun f hf' => ?_) (fun f hf' hkf => ?_) (fun f hf' => ?_)
          · refine ⟨?_, fun q hq => ?_⟩
            · rw [pI_o _ _ _ _ (by decide)]; exact c3.1
            · rw [pI_o _ _ _ _ (by decide), pI_o _ _ _ _ (by decide), pI_o _ _ _ _ (by decide), pI_o _ _ _ _ (by decide)]; exact c3.2 q hq
          · rw [pI_o _ _ _ _ (by decide)]; exact h81' f hf'
          · rw [pI_n _ _ _ (by omega)]; exact h61' f hf' hkf
          · rw [pI_a]
            split
            · rename_i e; rw [e.2]
            · rename_i e; exact hw f (by omega)
      exact bits k 0 t2 (Nat.zero_add _) hf c2 h81 h61 (fun f hf' => absurd hf' (by omega))
  have keep : ∀ m i t2, i + m = 10 → Fr MSc t t2 → TrM t2 tr → (∀ f, f < i → t2.1 81 f = nI (capd (aS a) f)) → Rt g (d + 7) mX8_isSo 148 [some (.ref 57), some (.int (nI (10 * s1 + s2))), some (.int (nI (10 * p + k))), some (.int (nI z)), some (.int (nI k)), some (.int (nI i)), none, none, none, none] [] t2 (QI P) := by
    intro m
    induction m with
    | zero =>
      intro i t2 hi hf c2 h81
      have : i = 10 := by omega
      subst this
      apply bX8_isSo_148
      refine br_t (nI_le (a := 10) (by omega) (by decide)) ?_
      intro z2 e2
      rw [shl_tab k (by omega), l1, pk_sub (by omega)] at e2
      rw [e2]
      exact ways (2 ^ k) 0 t2 (Nat.zero_add _) (hf.mo MSc_1) c2 h81 (fun f hf' _ => by rw [hf.1 _ _ (by unfold MSc; omega)]; exact h.2.2.2.1 f hf')
    | succ m ih =>
      intro i t2 hi hf c2 h81
      apply bX8_isSo_148
      refine br_f (nI_ge (b := 10) (by omega) (by decide)) ⟨vpn (by omega), vpn (by omega), ?_⟩
      rw [ncl (by omega), hf.1 61 _ (by unfold MSc; omega), h.2.2.2.1 i (by omega), nI_1]
      refine ih (i + 1) _ (by omega) (hf.pI _ (by unfold MSc; omega)) ?_ (fun f hf' => ?_)
      · refine ⟨?_, fun q hq => ?_⟩
        · rw [pI_o _ _ _ _ (by decide)]; exact c2.1
        · rw [pI_o _ _ _ _ (by decide), pI_o _ _ _ _ (by decide), pI_o _ _ _ _ (by decide), pI_o _ _ _ _ (by decide)]; exact c2.2 q hq
      · rw [pI_a]
        split
        · rename_i e; rw [e.2]
        · rename_i e; exact h81 f (by omega)
  exact keep 10 0 t rfl (Fr.rf _ _) ht (fun f hf' => absurd hf' (by omega))
theorem refB_c (x : Nat × Nat × Nat) : refB x = -11 ∨ refB x = 0 ∨ refB x = -12 := by
  unfold refB
  split
  · exact Or.inl rfl
  · split
    · exact Or.inr (Or.inl rfl)
    · exact Or.inr (Or.inr rfl)
theorem sh89 (h : Rel t a) {s : Nat} (hs : s < 6) : t.1 89 s = -1 ↔ refB ((aH a).1 s) = -11 := by
  have hb : (aB a).1 ≤ 50 := h.1.2.2.2.2.2.1.1
  unfold refB
  rcases h.sm s hs with ⟨e1, e2⟩ | ⟨e1, e2⟩ | ⟨e1, e2, -, -⟩
  · rw [e2, if_pos e1]
    exact ⟨fun _ => rfl, fun _ => rfl⟩
  · have h5 : ((aH a).1 s).2.1 < 50 := by rcases h.sw s hs with q | q | q <;> omega
    rw [e2, if_neg (by omega), if_neg (by omega)]
    exact ⟨fun q => absurd q (body_tab _ h5).1, fun q => absurd q (by decide)⟩
  · have h5 : ((aH a).1 s).2.1 < 5 := by rcases h.sw s hs with q | q | q <;> omega
    rw [e2, if_neg (by omega)]
    refine ⟨fun q => absurd q (sort_tab _ h5).1, fun q => ?_⟩
    split at q <;> exact absurd q (by decide)
theorem in18 {k : Nat} {P : Int32 → Tt → Prop} (hk : k < 2 ^ 31) (h1 : 1 ≤ k → k ≤ 8 → P 1 t) (h0 : ¬ (1 ≤ k ∧ k ≤ 8) → P 0 t) : Rt g d mX8_in 0 [some (.int (nI k)), some (.int 1), some (.int 8)] [] t (QI P) := by
  apply bX8_in_0
  refine ⟨fun c => qi (h0 (fun q => ?_)), fun c => ⟨fun c2 => qi (h0 (fun q => ?_)), fun c2 => qi (h1 ?_ ?_)⟩⟩
  · have := (nI_ltI (b := 1) (by omega) (by decide)).mp c; omega
  · have := (nI_ltI (a := 8) (by decide) (by omega)).mp c2; omega
  · exact Nat.le_of_not_lt (fun q => c (nI_lt (b := 1) q (by decide)))
  · exact Nat.le_of_not_lt (fun q => c2 (nI_lt (a := 8) q (by omega)))
theorem both_isSo {x y z : Int32} {Q : Int32 → Int32 → Tt → Prop} (h : Rel t a) (K : KK Q) : Rt g (d + 300) mX7_isSo 0 [some (.ref 0), some (.int x), some (.int y), some (.int z), none, none, none] [] t (QI (fun v t1 => Rt g (d + 300) mX8_isSo 0 [some (.ref 57), some (.int x), some (.int y), some (.int z), none, none, none, none, none, none] [] t1 (QI (fun w t2 => Q v w t2)))) := by
  have hn := h.n7
  have bad := K (-1) t ⟨a, h⟩
  apply bX7_isSo_0
  -- where the shelves are none
  have no : Rt g (d + 300) mX8_isSo 0 [some (.ref 57), some (.int x), some (.int y), some (.int z), none, none, none, none, none, none] [] t (QI (fun w t2 => Q (-1) w t2)) → Rt g (d + 300) mX7_isSo 24 [some (.ref 0), some (.int x), some (.int y), some (.int z), none, none, none] [] t (QI (fun v t1 => Rt g (d + 300) mX8_isSo 0 [some (.ref 57), some (.int x), some (.int y), some (.int z), none, none, none, none, none, none] [] t1 (QI (fun w t2 => Q v w t2)))) := by
    intro q
    apply bX7_isSo_24
    apply bX7_isSo_29
    exact br_n (by decide) (qi q)
  refine ⟨fun c => no (bX8_isSo_0 (br_t c (qi bad))), fun c => ?_⟩
  obtain ⟨kx, hkx, e1, e2, e3⟩ := ten c
  by_cases g1 : gd (nI (kx / 10)) 6
  · rw [e2]
    refine sp_noShelf_g g1 (br_p rfl ?_)
    by_cases g2 : gd (nI (kx % 10)) 6
    · rw [e3]
      refine sp_noShelf_g g2 (br_t rfl ?_)
      obtain ⟨s1, hs1, es1⟩ := g1
      obtain ⟨s2, hs2, es2⟩ := g2
      have es1' := nI_inj (by omega) (by omega) es1
      have es2' := nI_inj (by omega) (by omega) es2
      have ex : x = nI (10 * s1 + s2) := by rw [e1]; congr 1; omega
      rw [es1] at e2
      rw [es2] at e3
      have mdx : ∀ (P : Int32 → Tt → Prop), _ → Rt g (d + 300) mX8_isSo 0 [some (.ref 57), some (.int x), some (.int y), some (.int z), none, none, none, none, none, none] [] t (QI P) := fun P k => bX8_isSo_0 (br_f c (by rw [e2]; exact sr_isShelf_g ⟨s1, hs1, rfl⟩ (br_f (by decide) (by rw [e3]; exact sr_isShelf_g ⟨s2, hs2, rfl⟩ (br_f (by decide) k)))))
      apply bX7_isSo_29
      refine br_p rfl ⟨fun cy => qi (mdx _ (br_t cy (qi bad))), fun cy => ?_⟩
      obtain ⟨ky, hky, f1, f2, f3⟩ := ten cy
      rw [f2, f3]
      rw [f2, f3] at mdx
      by_cases g3 : gd (nI (ky / 10)) (pn (aP a))
      · refine sp_nobody_g h.pc hn g3 (br_p rfl ?_)
        refine ⟨fun c1 => qi (mdx _ (br_f cy (sr_isPerson_g h.pm hn g3 (br_f (by decide) (in18 (by omega) (fun q _ => ?_) (fun _ => br_t rfl (qi bad))))))), fun c1 => ⟨fun c8 => qi (mdx _ (br_f cy (sr_isPerson_g h.pm hn g3 (br_f (by decide) (in18 (by omega) (fun _ q => ?_) (fun _ => br_t rfl (qi bad))))))), fun c8 => ?_⟩⟩
        · have := (nI_ltI (b := 1) (by omega) (by decide)).mp c1; omega
        · have := (nI_ltI (a := 8) (by decide) (by omega)).mp c8; omega
        · have hk1 : 1 ≤ ky % 10 := Nat.le_of_not_lt (fun q => c1 (nI_lt (b := 1) q (by decide)))
          have hk8 : ky % 10 ≤ 8 := Nat.le_of_not_lt (fun q => c8 (nI_lt (a := 8) q (by omega)))
          obtain ⟨p, hp, ep⟩ := g3
          have ep' := nI_inj (by omega) (by omega) ep
          have ey : y = nI (10 * p + ky % 10) := by rw [f1]; congr 1; omega
          rw [ep]
          rw [ep] at mdx
          have mdy : ∀ (P : Int32 → Tt → Prop), _ → Rt g (d + 300) mX8_isSo 0 [some (.ref 57), some (.int x), some (.int y), some (.int z), none, none, none, none, none, none] [] t (QI P) := fun P k => mdx P (br_f cy (sr_isPerson_g h.pm hn ⟨p, hp, rfl⟩ (br_f (by decide) (in18 (by omega) (fun _ _ => br_f (by decide) k) (fun q => absurd ⟨hk1, hk8⟩ q)))))
          by_cases g4 : gd z 3
          · refine sp_out_g (n := 3) rfl (by decide) g4 (br_t rfl ?_)
            rw [e2, e3]
            refine sp_refusalOfBytes h hs1 (sp_refusalOfMirror h hs2 ?_)
            have v1 : (nI s1).toNatClampNeg = s1 := ncl (by omega)
            have v2 : (nI s2).toNatClampNeg = s2 := ncl (by omega)
            rw [v1, v2]
            rw [v1, v2] at mdy
            have mdz : ∀ (P : Int32 → Tt → Prop), _ → Rt g (d + 300) mX8_isSo 0 [some (.ref 57), some (.int x), some (.int y), some (.int z), none, none, none, none, none, none] [] t (QI P) := fun P k => mdy P (sr_in_g (n := 3) rfl (by decide) g4 (br_n (by decide) ⟨vpn hs1, k⟩))
            have w1 := sh89 h hs1
            have w2 := sh89 h hs2
            have rM : refM ((aH a).1 s2) = -11 ↔ refB ((aH a).1 s2) = -11 := by
              unfold refM
              split
              · rename_i e
                rw [e]
                split
                · exact ⟨fun q => absurd q (by decide), fun q => absurd q (by decide)⟩
                · exact ⟨fun q => absurd q (by decide), fun q => absurd q (by decide)⟩
              · exact Iff.rfl
            by_cases r1 : refB ((aH a).1 s1) = -11
            · exact br_t r1 (qi (mdz _ (br_t (w1.mpr r1) (qi (K _ _ ⟨a, h⟩)))))
            · refine br_f r1 ?_
              have n1 : ¬ t.1 89 s1 = -1 := fun q => r1 (w1.mp q)
              by_cases r2 : refB ((aH a).1 s2) = -11
              · exact br_p (rM.mpr r2) (qi (mdz _ (br_f n1 ⟨vpn hs2, br_p (w2.mpr r2) (qi (K _ _ ⟨a, h⟩))⟩)))
              · have n2 : ¬ t.1 89 s2 = -1 := fun q => r2 (w2.mp q)
                refine br_n (fun q => r2 (rM.mp q)) ?_
                have mdr : ∀ (P : Int32 → Tt → Prop), _ → Rt g (d + 300) mX8_isSo 0 [some (.ref 57), some (.int x), some (.int y), some (.int z), none, none, none, none, none, none] [] t (QI P) := fun P k => mdz P (br_f n1 ⟨vpn hs2, br_n n2 (sr_rowFault h hs1 k)⟩)
                by_cases r3 : refB ((aH a).1 s1) = 0
                · have mdq : ∀ (P : Int32 → Tt → Prop), _ → Rt g (d + 300) mX8_isSo 0 [some (.ref 57), some (.int x), some (.int y), some (.int z), none, none, none, none, none, none] [] t (QI P) := fun P k => mdr P (br_f (by rw [r3]; decide) (sr_rowFault h hs2 k))
                  refine br_p r3 ?_
                  by_cases r4 : refM ((aH a).1 s2) = 0
                  · obtain ⟨b2, b8⟩ := refM_0 r4
                    refine br_t r4 ⟨vpn hs1, ?_⟩
                    rw [h.pc]
                    obtain ⟨zz, hzz, ez⟩ := g4
                    refine sp_summonA h hs1 r3 (fun t2 hf2 ht2 => ⟨vpn hs2, ?_⟩)
                    have h2 := h.c (hf2.mo SuS_C)
                    rw [ez]
                    refine sp_waysOfSo h2 ht2 (trA_W a s1) hs2 b2 hp (by omega) hzz (fun t3 h3 => qi ?_)
                    apply bX8_isSo_0
                    refine br_f c ?_
                    rw [e2]
                    refine sr_isShelf_g ⟨s1, hs1, rfl⟩ (br_f (by decide) ?_)
                    rw [e3]
                    refine sr_isShelf_g ⟨s2, hs2, rfl⟩ (br_f (by decide) (br_f cy ?_))
                    rw [f2, f3, ep]
                    refine sr_isPerson_g h3.pm hn ⟨p, hp, rfl⟩ (br_f (by decide) (in18 (by omega) (fun _ _ => br_f (by decide) ?_) (fun q => absurd ⟨hk1, hk8⟩ q)))
                    refine sr_in_g (n := 3) rfl (by decide) ⟨zz, hzz, rfl⟩ (br_n (by decide) ⟨vpn hs1, ?_⟩)
                    rw [v1, v2]
                    refine br_f (fun q => r1 ((sh89 h3 hs1).mp q)) ⟨vpn hs2, br_n (fun q => r2 ((sh89 h3 hs2).mp q)) ?_⟩
                    refine sr_rowFault h3 hs1 (br_f (by rw [r3]; decide) (sr_rowFault h3 hs2 (br_t (by rw [b2]; decide) ?_)))
                    refine sr_isMirror h3 hs2 b2 ?_
                    rw [if_pos b8]
                    refine br_n (by decide) ?_
                    intro z31 e31
                    subst e31
                    have hc := byC h3 hs1 r3
                    have hm := byM h3 hs1 r3
                    refine sr_layTrial hs1 h3.n7 h3.pm hc.1 hm.1 hm.2.1 hm.2.2 (fun t4 hf4 ht4 => ?_)
                    have h4 := h3.m (hf4.mo LyS_M)
                    rw [ex, ey]
                    exact sr_isSoLoop h4 ht4 (trA_W a s1) hs1 hs2 b2 hp hk1 (by omega) hzz (fun t5 h5 => K _ _ ⟨a, h5⟩)
                  · refine br_f r4 ?_
                    apply bX7_isSo_125
                    refine br_t r3 (qi (mdq _ ?_))
                    by_cases r5 : refB ((aH a).1 s2) = 0
                    · have em : refM ((aH a).1 s2) = -2 := by
                        unfold refM at r4 ⊢
                        rw [if_pos r5] at r4 ⊢
                        split
                        · rename_i q; rw [if_pos q] at r4; exact absurd rfl r4
                        · rfl
                      have e8 : ((aH a).1 s2).2.2 ≠ 8 := fun q => r4 (by unfold refM; rw [if_pos r5, if_pos q])
                      refine br_t (by rw [r5]; decide) (sr_isMirror h hs2 r5 ?_)
                      rw [if_neg e8]
                      refine br_p rfl (qi ?_)
                      rw [em]
                      exact K _ _ ⟨a, h⟩
                    · have em : refM ((aH a).1 s2) = -12 := by
                        unfold refM
                        rw [if_neg r5]
                        rcases refB_c ((aH a).1 s2) with q | q | q
                        · exact absurd q r2
                        · exact absurd q r5
                        · exact q
                      refine br_f (refB_n r5).1 (qi ?_)
                      rw [em]
                      exact K _ _ ⟨a, h⟩
                · refine br_n r3 ?_
                  apply bX7_isSo_125
                  refine br_f r3 (qi (mdr _ (br_t (refB_n r3).2 (qi ?_))))
                  have : refB ((aH a).1 s1) = -12 := by
                    rcases refB_c ((aH a).1 s1) with q | q | q
                    · exact absurd q r1
                    · exact absurd q r3
                    · exact q
                  rw [this]
                  exact K _ _ ⟨a, h⟩
          · refine sp_out_b (n := 3) rfl (by decide) g4 (br_f (by decide) (qi (mdy _ ?_)))
            exact sr_in_b (n := 3) rfl (by decide) g4 (br_p rfl (qi bad))
      · exact sp_nobody_b h.pc hn g3 (br_n (by decide) (qi (mdx _ (br_f cy (sr_isPerson_b h.pm hn g3 (br_t rfl (qi bad)))))))
    · rw [e3]
      refine sp_noShelf_b g2 (br_f (by decide) (no (bX8_isSo_0 (br_f c ?_))))
      rw [e2]
      refine sr_isShelf_g g1 (br_f (by decide) ?_)
      rw [e3]
      exact sr_isShelf_b g2 (br_t rfl (qi bad))
  · rw [e2]
    refine sp_noShelf_b g1 (br_n (by decide) (no (bX8_isSo_0 (br_f c ?_))))
    rw [e2]
    exact sr_isShelf_b g1 (br_t rfl (qi bad))
end P46
