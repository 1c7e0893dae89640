/-! PURE LAYER: queries: told, left -/
section P36
variable {g : Gt} {d : Nat} {t : Tt} {a : Aa}
theorem capd_bit (x k : Nat) : capd x k = 1 ↔ x.testBit k = true := by
  unfold capd
  rw [Nat.testBit_eq_decide_div_mod_eq]
  simp
theorem capd_or (x f k : Nat) : capd (x ||| 2 ^ f) k = 1 ↔ capd x k = 1 ∨ f = k := by
  rw [capd_bit, capd_bit, Nat.testBit_or, Nat.testBit_two_pow]
  simp
theorem lie_gc (due : Nat) (a : Pp) (p z : Nat) : pg (lieA due a p z) = pg a ∧ pc (lieA due a p z) = pc a := ⟨rfl, rfl⟩
theorem rsn_gc {pr : Prog} {so tb : Nat} {a : Pp} {r : Tr} : ∀ i, pg (sP (rsn pr so tb a r i)) = pg a ∧ pc (sP (rsn pr so tb a r i)) = pc a := by
  intro i
  induction i with
  | zero => exact ⟨rfl, rfl⟩
  | succ i ih =>
    show pg (sP (spk pr so (rsn pr so tb a r i) _ _ _ _)) = _ ∧ pc (sP (spk pr so (rsn pr so tb a r i) _ _ _ _)) = _
    unfold spk
    show pg (if _ then _ else _) = _ ∧ pc (if _ then _ else _) = _
    split
    · exact ih
    · exact ih
def hrd (n : Nat) (s : Rs) : Prop := ∀ f, f < 10 → (capd (sH s) f = 1 ↔ ∃ p, p < n ∧ sL s (10 * p + f) ≠ 2)
theorem spk_hrd {pr : Prog} {so n : Nat} {s : Rs} {p f v z : Nat} (h : hrd n s) (hp : p < n) (hf : f < 10) (hv : v < 2) : hrd n (spk pr so s p f v z) := by
  intro k hk
  show capd (sH s ||| 2 ^ f) k = 1 ↔ ∃ q, q < n ∧ upN (sL s) (10 * p + f) v (10 * q + k) ≠ 2
  rw [capd_or, h k hk]
  constructor
  · rintro (⟨q, hq, e⟩ | rfl)
    · refine ⟨q, hq, ?_⟩
      unfold upN
      split
      · omega
      · exact e
    · refine ⟨p, hp, ?_⟩
      rw [upN_s]
      omega
  · rintro ⟨q, hq, e⟩
    unfold upN at e
    split at e
    · exact Or.inr (by omega)
    · exact Or.inl ⟨q, hq, e⟩
theorem rsn_hrd {pr : Prog} {so tb : Nat} {a : Pp} {r : Tr} (hr : trW (pn a) r) : ∀ i, i ≤ r.1 → hrd (pn a) (rsn pr so tb a r i) := by
  intro i
  induction i with
  | zero =>
    intro _ f hf
    show capd 0 f = 1 ↔ ∃ p, p < pn a ∧ (2 : Nat) ≠ 2
    have : capd 0 f = 0 := by unfold capd; simp
    rw [this]
    simp
  | succ i ih =>
    intro hi
    have hy := hr.2 i (by omega)
    exact spk_hrd (pr := pr) (so := so) (v := turn tb i (r.2 i).2.2.1) (z := (r.2 i).2.2.2) (ih (by omega)) hy.1 hy.2.1 (Nat.mod_lt _ (by decide))
theorem bel_01 (s : Rs) (f : Nat) : bel s f = -2 ∨ ∃ b, b < 2 ∧ bel s f = nI b := by
  unfold bel
  split
  · exact Or.inl rfl
  · split
    · exact Or.inr ⟨0, by decide, rfl⟩
    · exact Or.inr ⟨1, by decide, rfl⟩
theorem n2_n {k : Nat} (h : k < 2 ^ 31) : ¬ nI k = -2 := fun q => nI_pos h (by rw [q]; decide)
def wrg (so : Nat) (s : Rs) : Nat → Nat
  | 0 => 0
  | k + 1 => if bel s k = -2 then wrg so s k else if bel s k = nI (capd so k) then wrg so s k else wrg so s k + 1
theorem sp_wrong {n so : Nat} {s : Rs} {P : Int32 → Tt → Prop} (hs : RsC t s) (hw : RsW n s) (hso : so < 1024) (h : P (nI (wrg so s 10)) t) : Rt g (d + 3) mX2_wrongBeliefs 0 [some (.ref 13), some (.int (nI so)), none, none, none] [] t (QI P) := by
  apply bX2_wrongBeliefs_0
  have key : ∀ m i, i + m = 10 → Rt g (d + 3) mX2_wrongBeliefs 4 [some (.ref 13), some (.int (nI so)), some (.int (nI (wrg so s i))), some (.int (nI i)), none] [] t (QI P) := by
    intro m
    induction m with
    | zero =>
      intro i hi
      have : i = 10 := by omega
      subst this
      apply bX2_wrongBeliefs_4
      exact br_t (nI_le (a := 10) (by omega) (by decide)) (qi h)
    | succ m ih =>
      intro i hi
      apply bX2_wrongBeliefs_4
      refine br_f (nI_ge (b := 10) (by omega) (by decide)) ?_
      have step : ∀ x, wrg so s (i + 1) = x → Rt g (d + 3) mX2_wrongBeliefs 37 [some (.ref 13), some (.int (nI so)), some (.int (nI x)), some (.int (nI i)), none] [] t (QI P) := by
        intro x hx
        apply bX2_wrongBeliefs_37
        rw [nI_1, ← hx]
        exact ih (i + 1) (by omega)
      have ew : wrg so s (i + 1) = if bel s i = -2 then wrg so s i else if bel s i = nI (capd so i) then wrg so s i else wrg so s i + 1 := rfl
      refine sp_beliefIn hs hw (by omega) ?_
      rcases bel_01 s i with e | ⟨b, hb, e⟩
      · rw [if_pos e] at ew
        exact br_t e (step _ ew)
      · rw [e] at ew ⊢
        rw [if_neg (n2_n (by omega))] at ew
        refine br_f (n2_n (by omega)) (sp_isLie hso (by omega) hb ?_)
        have := capd_2 so i
        by_cases hc : capd so i = b
        · rw [if_pos hc]
          rw [if_pos (by rw [hc])] at ew
          exact br_t rfl (step _ ew)
        · rw [if_neg hc]
          rw [if_neg (fun q => hc (nI_inj (by omega) (by omega) q).symm)] at ew
          rw [nI_1]
          exact br_f (by decide) (step _ ew)
  exact key 10 0 rfl
def hon (b c : Pp) : Nat → Nat
  | 0 => 0
  | k + 1 => if fsum (pf b k) 8 = fsum (pf c k) 8 then hon b c k ||| 2 ^ k else hon b c k
theorem sp_asWorthyAs {n : Nat} {s : Rs} {b : Pp} {P : Int32 → Tt → Prop} (hs : RsC t s) (hw : RsW n s) (hm : MoC t 1 b) (hb : PpW b) (hn : pn b = n) (hg : pg (sP s) = pg b) (hc : pc (sP s) = pc b) (h : P (nI (hon b (sP s) n)) t) : Rt g (d + 2) mX2_asWorthyAs 0 [some (.ref 13), some (.ref 1), none, none] [] t (QI P) := by
  have hn7 := hb.1
  have hn2 := hw.2.1
  apply bX2_asWorthyAs_0 mo1
  have key : ∀ m i, i + m = n → Rt g (d + 2) mX2_asWorthyAs 4 [some (.ref 13), some (.ref 1), some (.int (nI (hon b (sP s) i))), some (.int (nI i))] [] t (QI P) := by
    intro m
    induction m with
    | zero =>
      intro i hi
      have : i = n := by omega
      subst this
      apply bX2_asWorthyAs_4 mo1
      rw [hm.1, hn]
      exact br_t (nI_le (Nat.le_refl _) (by omega)) (qi h)
    | succ m ih =>
      intro i hi
      apply bX2_asWorthyAs_4 mo1
      rw [hm.1, hn]
      refine br_f (nI_ge (by omega) (by omega)) ?_
      have step : ∀ x, hon b (sP s) (i + 1) = x → Rt g (d + 2) mX2_asWorthyAs 34 [some (.ref 13), some (.ref 1), some (.int (nI x)), some (.int (nI i))] [] t (QI P) := by
        intro x hx
        apply bX2_asWorthyAs_34 mo1
        rw [nI_1, ← hx]
        exact ih (i + 1) (by omega)
      have ew : hon b (sP s) (i + 1) = if fsum (pf b i) 8 = fsum (pf (sP s) i) 8 then hon b (sP s) i ||| 2 ^ i else hon b (sP s) i := rfl
      refine sp_worthOf mo17 hs.1 hw.1 (by omega) ?_
      refine sp_worthOf mo1 hm hb (by omega) ?_
      have l1 := worth_le hw.1 (p := i) (by omega)
      have l2 := worth_le hb (p := i) (by omega)
      have ee : worth (sP s) i = worth b i ↔ fsum (pf b i) 8 = fsum (pf (sP s) i) 8 := by
        unfold worth
        rw [hg, hc]
        omega
      refine ⟨fun q => ?_, fun q => ?_⟩
      · rw [if_neg (fun w => q (by rw [ee.mpr w]))] at ew
        exact step _ ew
      · rw [if_pos (ee.mp (nI_inj (by omega) (by omega) q))] at ew
        intro z7 e7
        rw [shl_tab i (by omega), nI_or] at e7
        rw [e7]
        exact step _ ew
  exact key n 0 (Nat.zero_add _)
-- the reference
theorem sr_isSpoken {n f : Nat} {s : Rs} {P : Int32 → Tt → Prop} (hs : RsM t s) (hw : RsW n s) (hh : hrd n s) (hf : f < 10) (h : P (nI (capd (sH s) f)) t) : Rt g d mX8_isSpoken 0 [some (.ref 57), some (.int (nI f)), none] [] t (QI P) := by
  have hn7 := hw.1.1
  have hn2 := hw.2.1
  apply bX8_isSpoken_0
  have key : ∀ m i, i + m = n → (∀ p, p < i → sL s (10 * p + f) = 2) → Rt g d mX8_isSpoken 2 [some (.ref 57), some (.int (nI f)), some (.int (nI i))] [] t (QI P) := by
    intro m
    induction m with
    | zero =>
      intro i hi hq
      apply bX8_isSpoken_2
      rw [hs.1.1, hn2]
      refine br_t (nI_le (by omega) (by omega)) (qi ?_)
      have : capd (sH s) f = 0 := by
        rcases capd_01 (sH s) f with e | e
        · exact e
        · obtain ⟨p, hp, e2⟩ := (hh f hf).mp e
          exact absurd (hq p (by omega)) e2
      rw [this] at h
      exact h
    | succ m ih =>
      intro i hi hq
      apply bX8_isSpoken_2
      rw [hs.1.1, hn2]
      refine br_f (nI_ge (by omega) (by omega)) ?_
      rw [ix10']
      refine ⟨vpn (by omega), ?_⟩
      have hl2 := hw.2.2.1 (10 * i + f) (by omega)
      rw [ncl (by omega), hs.2.1 _ (by omega), nI_1]
      unfold lsI
      by_cases c : sL s (10 * i + f) = 2
      · rw [if_pos c]
        refine br_t (by decide) (ih (i + 1) (by omega) (fun p hp => ?_))
        by_cases e : p = i
        · rw [e]; exact c
        · exact hq p (by omega)
      · rw [if_neg c]
        refine br_f (nI_pos (by omega)) (qi ?_)
        have : capd (sH s) f = 1 := (hh f hf).mpr ⟨i, by omega, c⟩
        rw [this] at h
        exact h
  exact key n 0 (Nat.zero_add _) (fun p hp => absurd hp (by omega))
def uhB (h : Nat) : Nat → Nat
  | 0 => 0
  | k + 1 => if capd h k = 0 then uhB h k ||| 2 ^ k else uhB h k
theorem uhB_tab : ∀ h, h < 1024 → uhB h 10 = 1023 ^^^ h := by decide +kernel
theorem unh_tab : ∀ h, h < 1024 → (1023 : Int32) &&& (nI h ^^^ (-1)) = nI (1023 ^^^ h) := by decide +kernel
theorem sr_toldLoop {n so : Nat} {s : Rs} {x1 : Int32} {P : Int32 → Tt → Prop} (hs : RsM t s) (hw : RsW n s) (hh : hrd n s) (hso : soM t so) (h : P (if x1 = 0 then nI (wrg so s 10) else nI (1023 ^^^ sH s)) t) : Rt g (d + 3) mX8_toldBy 27 [some (.ref 57), some (.int x1), some (.int 0), some (.int 0), some (.int 0), none] [] t (QI P) := by
  have key : ∀ m i, i + m = 10 → Rt g (d + 3) mX8_toldBy 27 [some (.ref 57), some (.int x1), some (.int (nI (wrg so s i))), some (.int (nI (uhB (sH s) i))), some (.int (nI i)), none] [] t (QI P) := by
    intro m
    induction m with
    | zero =>
      intro i hi
      have : i = 10 := by omega
      subst this
      apply bX8_toldBy_27
      refine br_t (nI_le (a := 10) (by omega) (by decide)) ⟨fun c => qi ?_, fun c => qi ?_⟩
      · rw [if_neg c, ← uhB_tab _ hw.2.2.2.2.1] at h; exact h
      · rw [if_pos c] at h; exact h
    | succ m ih =>
      intro i hi
      apply bX8_toldBy_27
      refine br_f (nI_ge (b := 10) (by omega) (by decide)) ?_
      have step : ∀ x, wrg so s (i + 1) = x → Rt g (d + 3) mX8_toldBy 62 [some (.ref 57), some (.int x1), some (.int (nI x)), some (.int (nI (uhB (sH s) i))), some (.int (nI i)), none] [] t (QI P) := by
        intro x hx
        apply bX8_toldBy_62
        refine sr_isSpoken hs hw hh (by omega) ?_
        have eu : uhB (sH s) (i + 1) = if capd (sH s) i = 0 then uhB (sH s) i ||| 2 ^ i else uhB (sH s) i := rfl
        have nx : ∀ y, uhB (sH s) (i + 1) = y → Rt g (d + 3) mX8_toldBy 78 [some (.ref 57), some (.int x1), some (.int (nI x)), some (.int (nI y)), some (.int (nI i)), none] [] t (QI P) := by
          intro y hy
          apply bX8_toldBy_78
          rw [nI_1, ← hx, ← hy]
          exact ih (i + 1) (by omega)
        rcases capd_01 (sH s) i with e | e
        · rw [e] at eu ⊢
          rw [if_pos rfl] at eu
          refine br_p rfl ?_
          intro z4 e4
          rw [shl_tab i (by omega), nI_or] at e4
          rw [e4]
          exact nx _ eu
        · rw [e] at eu ⊢
          rw [if_neg (by decide)] at eu
          exact br_n (by decide) (nx _ eu)
      have ew : wrg so s (i + 1) = if bel s i = -2 then wrg so s i else if bel s i = nI (capd so i) then wrg so s i else wrg so s i + 1 := rfl
      refine sr_believedNow hs hw (by omega) ?_
      rcases bel_01 s i with e | ⟨b, hb, e⟩
      · rw [if_pos e] at ew
        rw [e]
        exact br_t (by decide) (step _ ew)
      · rw [e] at ew ⊢
        rw [if_neg (n2_n (by omega))] at ew
        refine br_f (nI_pos (by omega)) ⟨vpn (by omega), ?_⟩
        rw [ncl (by omega), hso i (by omega)]
        refine ⟨fun c => ?_, fun c => ?_⟩
        · rw [if_pos c] at ew
          exact step _ ew
        · rw [if_neg c] at ew
          rw [nI_1]
          exact step _ ew
  exact key 10 0 rfl
theorem sr_honest {n : Nat} {s : Rs} {b : Pp} {P : Int32 → Tt → Prop} (hs : RsM t s) (hw : RsW n s) (hm : MoR t b) (hb : PpW b) (hn : pn b = n) (h : P (nI (hon b (sP s) n)) t) : Rt g (d + 2) mX8_honest 0 [some (.ref 57), none, none, none, none] [] t (QI P) := by
  have hn7 := hb.1
  have hn2 := hw.2.1
  apply bX8_honest_0
  have key : ∀ m i, i + m = n → Rt g (d + 2) mX8_honest 4 [some (.ref 57), some (.int (nI (hon b (sP s) i))), some (.int (nI i)), none, none] [] t (QI P) := by
    intro m
    induction m with
    | zero =>
      intro i hi
      have : i = n := by omega
      subst this
      apply bX8_honest_4
      rw [hm.1, hn]
      exact br_t (nI_le (Nat.le_refl _) (by omega)) (qi h)
    | succ m ih =>
      intro i hi
      apply bX8_honest_4
      rw [hm.1, hn]
      refine br_f (nI_ge (by omega) (by omega)) ?_
      have step : ∀ x, hon b (sP s) (i + 1) = x → Rt g (d + 2) mX8_honest 60 [some (.ref 57), some (.int (nI x)), some (.int (nI i)), none, none] [] t (QI P) := by
        intro x hx
        apply bX8_honest_60
        rw [nI_1, ← hx]
        exact ih (i + 1) (by omega)
      have ew : hon b (sP s) (i + 1) = if fsum (pf b i) 8 = fsum (pf (sP s) i) 8 then hon b (sP s) i ||| 2 ^ i else hon b (sP s) i := rfl
      have l1 := fs_le hw.1 (p := i) (by omega)
      have l2 := fs_le hb (p := i) (by omega)
      have inner : ∀ m2 j, j + m2 = 8 → Rt g (d + 2) mX8_honest 17 [some (.ref 57), some (.int (nI (hon b (sP s) i))), some (.int (nI i)), some (.int (nI (fsum (pf b i) j))), some (.int (nI j))] [] t (QI P) := by
        intro m2
        induction m2 with
        | zero =>
          intro j hj
          have : j = 8 := by omega
          subst this
          apply bX8_honest_17
          refine br_t (nI_le (a := 8) (by omega) (by decide)) ?_
          refine sr_flakesOf hs.1 hw.1 (by omega) ?_
          refine ⟨fun q => ?_, fun q => ?_⟩
          · rw [if_neg (fun w => q (by rw [w]))] at ew
            exact step _ ew
          · rw [if_pos (nI_inj (by omega) (by omega) q)] at ew
            intro z5 e5
            rw [shl_tab i (by omega), nI_or] at e5
            rw [e5]
            exact step _ ew
        | succ m2 ih2 =>
          intro j hj
          apply bX8_honest_17
          refine br_f (nI_ge (b := 8) (by omega) (by decide)) ?_
          rw [ix8']
          refine ⟨vpn (by omega), ?_⟩
          intro z7 e7
          rw [ncl (by omega), hm.2.2.1 i (by omega) j (by omega), nI_add] at e7
          rw [e7, nI_1]
          exact ih2 (j + 1) (by omega)
      exact inner 8 0 rfl
  exact key n 0 (Nat.zero_add _)
theorem both_told {x y : Int32} {Q : Int32 → Int32 → Tt → Prop} (h : Rel t a) (K : KK Q) : Rt g (d + 300) mX7_told 0 [some (.ref 0), some (.int x), some (.int y), none] [] t (QI (fun v t1 => Rt g (d + 300) mX8_told 0 [some (.ref 57), some (.int x), some (.int y), none] [] t1 (QI (fun w t2 => Q v w t2)))) := by
  apply bX7_told_0
  by_cases h1 : gd x 6
  · refine sp_noShelf_g h1 (br_p rfl ?_)
    obtain ⟨s, hs, rfl⟩ := h1
    by_cases h2 : gd y 4
    · refine sp_out_g (n := 4) rfl (by decide) h2 (br_t rfl ?_)
      refine sp_refusalOfBytes h hs ?_
      have mod : ∀ (P : Int32 → Tt → Prop) t1, Rt g (d + 299) mX8_layOr 0 [some (.ref 57), some (.int (nI s)), none] [] t1 (QI (fun v8 t7 => (0 ≤ v8 → Rt g (d + 299) mX8_toldBy 0 [some (.ref 57), some (.int y), none, none, none, none] [] t7 (QI (fun v11 t10 => QI P (some (.int v11)) t10))) ∧ (¬ 0 ≤ v8 → QI P (some (.int v8)) t7))) → Rt g (d + 300) mX8_told 0 [some (.ref 57), some (.int (nI s)), some (.int y), none] [] t1 (QI P) := by
        intro P t1 k
        apply bX8_told_0
        exact sr_isShelf_g ⟨s, hs, rfl⟩ (br_f (by decide) (sr_in_g (n := 4) rfl (by decide) h2 (br_n (by decide) k)))
      by_cases h4 : refB ((aH a).1 s) = 0
      · refine br_t h4 ?_
        have hw := hdA_W h s
        have hh := rsn_hrd (pr := aL a) (so := aS a) (tb := 0) (trA_W a s) _ (Nat.le_refl _)
        have hgc := rsn_gc (pr := aL a) (so := aS a) (tb := 0) (a := aP a) (r := trA a s) (trA a s).1
        have hso := h.1.2.1
        refine sp_hear h hs h4 (fun t7 hf7 ht7 hs7 => ?_)
        have h7 := h.c hf7
        obtain ⟨k, hk, rfl⟩ := h2
        rw [h7.so]
        have md : ∀ (P : Int32 → Tt → Prop), (∀ t8, Rel t8 a → RsM t8 (hdA a s) → Rt g (d + 299) mX8_toldBy 0 [some (.ref 57), some (.int (nI k)), none, none, none, none] [] t8 (QI P)) → Rt g (d + 300) mX8_told 0 [some (.ref 57), some (.int (nI s)), some (.int (nI k)), none] [] t7 (QI P) := by
          intro P k2
          exact mod P t7 (sr_layOr_g h7 hs h4 (fun t8 hf8 ht8 hs8 => br_t (by decide) (Rt.ci (k2 t8 (h7.m hf8) hs8) (fun v t' q => qi q))))
        match k, hk with
        | 0, _ =>
          refine br_t rfl (sp_wrong hs7 hw hso (qi (md _ (fun t8 hr8 hs8 => ?_))))
          apply bX8_toldBy_0
          refine br_n (by decide) (br_n (by decide) ?_)
          exact sr_toldLoop hs8 hw hh hr8.2.2.2.1 (K _ _ ⟨a, hr8⟩)
        | 1, _ =>
          refine br_f (by decide) (br_t rfl (qi (md _ (fun t8 hr8 hs8 => ?_))))
          apply bX8_toldBy_0
          refine br_p rfl (qi ?_)
          rw [hs7.2.2.1, hs8.2.2.1]
          exact K _ _ ⟨a, hr8⟩
        | 2, _ =>
          refine br_f (by decide) (br_f (by decide) (br_t rfl (qi (md _ (fun t8 hr8 hs8 => ?_)))))
          apply bX8_toldBy_0
          refine br_n (by decide) (br_n (by decide) ?_)
          refine sr_toldLoop hs8 hw hh hr8.2.2.2.1 ?_
          rw [if_neg (by decide), hs7.2.2.2.1, unh_tab _ hw.2.2.2.2.1]
          exact K _ _ ⟨a, hr8⟩
        | 3, _ =>
          refine br_f (by decide) (br_f (by decide) (br_f (by decide) ?_))
          refine sp_asWorthyAs hs7 hw h7.2.1.1 h7.pw rfl hgc.1 hgc.2 (qi (md _ (fun t8 hr8 hs8 => ?_)))
          apply bX8_toldBy_0
          refine br_n (by decide) (br_p rfl ?_)
          exact sr_honest hs8 hw hr8.2.2.1 hr8.pw rfl (qi (K _ _ ⟨a, hr8⟩))
      · refine br_f h4 (qi ?_)
        exact mod _ _ (sr_layOr_b h hs h4 (br_f (refB_n h4).1 (qi (K _ _ ⟨a, h⟩))))
    · refine sp_out_b (n := 4) rfl (by decide) h2 (br_f (by decide) (qi ?_))
      apply bX8_told_0
      exact sr_isShelf_g ⟨s, hs, rfl⟩ (br_f (by decide) (sr_in_b (n := 4) rfl (by decide) h2 (br_p rfl (qi (K _ _ ⟨a, h⟩)))))
  · refine sp_noShelf_b h1 (br_n (by decide) (qi ?_))
    apply bX8_told_0
    exact sr_isShelf_b h1 (br_t rfl (qi (K _ _ ⟨a, h⟩)))
end P36
