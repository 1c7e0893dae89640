/-! PURE LAYER: mirrors: liesFor, two, others -/
section P42
variable {g : Gt} {d : Nat} {t : Tt} {a : Aa}
def refM (x : Nat × Nat × Nat) : Int32 := if refB x = 0 then (if x.2.2 = 8 then 0 else -2) else refB x
theorem refM_0 {x : Nat × Nat × Nat} (h : refM x = 0) : refB x = 0 ∧ x.2.2 = 8 := by
  unfold refM at h
  split at h
  · split at h
    · exact ⟨by assumption, by assumption⟩
    · exact absurd h (by decide)
  · exact absurd h (by assumption)
theorem sp_refusalOfMirror {s : Nat} {P : Int32 → Tt → Prop} (h : Rel t a) (hs : s < 6) (k : P (refM ((aH a).1 s)) t) : Rt g (d + 1) mX7_refusalOfMirror 0 [some (.ref 0), some (.int (nI s)), none] [] t (QI P) := by
  apply bX7_refusalOfMirror_0
  refine sp_refusalOfBytes h hs ?_
  unfold refM at k
  by_cases h4 : refB ((aH a).1 s) = 0
  · have hc := byC h hs h4
    rw [if_pos h4] at k
    refine br_p h4 ⟨vpn hs, ?_⟩
    rw [ncl (by omega), hc.2.2.1, h4]
    refine ⟨fun c => qi ?_, fun c => qi ?_⟩
    · rw [if_pos (nI_inj (b := 8) (by omega) (by decide) c)] at k; exact k
    · rw [if_neg (fun e => c (by rw [e]; rfl))] at k; exact k
  · rw [if_neg h4] at k
    exact br_n h4 (qi k)
theorem sr_isMirror {s : Nat} {P : Int32 → Tt → Prop} (h : Rel t a) (hs : s < 6) (hb : refB ((aH a).1 s) = 0) (k : P (if ((aH a).1 s).2.2 = 8 then 1 else 0) t) : Rt g d mX8_isMirror 0 [some (.ref 57), some (.int (nI s))] [] t (QI P) := by
  have hc := byC h hs hb
  have hm := byM h hs hb
  apply bX8_isMirror_0
  refine ⟨vpn hs, ?_⟩
  rw [ncl (by omega), hm.1]
  refine ⟨fun c => qi ?_, fun c => qi ?_⟩
  · rw [if_neg (fun e => c (by rw [e]; rfl))] at k; exact k
  · rw [if_pos (nI_inj (b := 8) (by omega) (by decide) c)] at k; exact k
/-- the reference's look at a mirror: a refusal, or on -/
theorem sr_mirror {s : Nat} {P : Int32 → Tt → Prop} {X : Tt → Prop} (h : Rel t a) (hs : s < 6) (k0 : refM ((aH a).1 s) = 0 → X t) (k1 : refM ((aH a).1 s) ≠ 0 → P (refM ((aH a).1 s)) t) : Rt g (d + 1) mX8_rowFault 0 [some (.ref 57), some (.int (nI s))] [] t (QI (fun v11 t10 => (0 ≤ v11 → Rt g (d + 1) mX8_isMirror 0 [some (.ref 57), some (.int (nI s))] [] t10 (QI (fun v14 t13 => (¬ v14 = 0 → X t13) ∧ (v14 = 0 → QI P (some (.int (-2))) t13)))) ∧ (¬ 0 ≤ v11 → Rt g (d + 1) mX8_rowFault 0 [some (.ref 57), some (.int (nI s))] [] t10 (QI (fun v18 t17 => QI P (some (.int v18)) t17))))) := by
  refine sr_rowFault h hs ?_
  unfold refM at k0 k1
  by_cases h4 : refB ((aH a).1 s) = 0
  · rw [if_pos h4] at k0 k1
    refine br_t (by rw [h4]; decide) (sr_isMirror h hs h4 ?_)
    by_cases h8 : ((aH a).1 s).2.2 = 8
    · rw [if_pos h8] at k0
      rw [if_pos h8]
      exact br_n (by decide) (k0 rfl)
    · rw [if_neg h8] at k1
      rw [if_neg h8]
      exact br_p rfl (qi (k1 (by decide)))
  · rw [if_neg h4] at k1
    exact br_f (refB_n h4).1 (sr_rowFault h hs (qi (k1 h4)))
abbrev sees (b : Pp) (p : Nat) (c : Nat → Int64) : Prop := ∀ k, k < 8 → (pf b p k : Int) = (c k).toInt
theorem sp_looksLike {o p s : Nat} {b : Pp} {P : Int32 → Tt → Prop} (ho : isMo o) (hm : MoC t o b) (hw : PpW b) (hp : p < pn b) (h : Rel t a) (hs : s < 6) (hb : refB ((aH a).1 s) = 0) (k : P (if sees b p ((aH a).2 s) then 1 else 0) t) : Rt g d mX5_looksLike 0 [some (.ref o), some (.int (nI p)), some (.ref (45 + 2 * s)), none] [] t (QI P) := by
  have hn := hw.1
  have hc := byC h hs hb
  have hsh : isSh (45 + 2 * s) := by unfold isSh; omega
  apply bX5_looksLike_0 ho hsh
  have key : ∀ m i, i + m = 8 → (∀ q, q < i → (pf b p q : Int) = ((aH a).2 s q).toInt) → Rt g d mX5_looksLike 2 [some (.ref o), some (.int (nI p)), some (.ref (45 + 2 * s)), some (.int (nI i))] [] t (QI P) := by
    intro m
    induction m with
    | zero =>
      intro i hi hq
      have : i = 8 := by omega
      subst this
      apply bX5_looksLike_2 ho hsh
      rw [if_pos hq] at k
      exact br_t (nI_le (a := 8) (by omega) (by decide)) (qi k)
    | succ m ih =>
      intro i hi hq
      apply bX5_looksLike_2 ho hsh
      refine br_f (nI_ge (b := 8) (by omega) (by decide)) ?_
      rw [ix8]
      refine ⟨vpn (by omega), vpn (by omega), ?_⟩
      have hf9 := hw.2.2.1 p hp i (by omega)
      rw [ncl (by omega), ncl (by omega), hm.2.2.1 p hp i (by omega), hc.2.2.2 i (by omega), nI_1]
      have ee : (nI (pf b p i)).toInt64 = (aH a).2 s i ↔ (pf b p i : Int) = ((aH a).2 s i).toInt := by
        rw [← Int64.toInt_inj, nI_64 (by omega)]
      refine ⟨fun c => ih (i + 1) (by omega) (fun q hq' => ?_), fun c => qi ?_⟩
      · by_cases e : q = i
        · subst e; exact ee.mp c
        · exact hq q (by omega)
      · rw [if_neg (fun w => c (ee.mpr (w i (by omega))))] at k
        exact k
  exact key 8 0 rfl (fun q hq => absurd hq (by omega))
theorem sr_isSeen {p s : Nat} {b : Pp} {P : Int32 → Tt → Prop} (hm : MoM t b) (hw : PpW b) (hp : p < pn b) (h : Rel t a) (hs : s < 6) (hb : refB ((aH a).1 s) = 0) (k : P (if sees b p ((aH a).2 s) then 1 else 0) t) : Rt g (d + 1) mX8_isSeen 0 [some (.ref 57), some (.int (nI s)), some (.int (nI p)), none] [] t (QI P) := by
  have hn := hw.1
  have hc := byM h hs hb
  apply bX8_isSeen_0
  have key : ∀ m i, i + m = 8 → (∀ q, q < i → (pf b p q : Int) = ((aH a).2 s q).toInt) → Rt g (d + 1) mX8_isSeen 2 [some (.ref 57), some (.int (nI s)), some (.int (nI p)), some (.int (nI i))] [] t (QI P) := by
    intro m
    induction m with
    | zero =>
      intro i hi hq
      have : i = 8 := by omega
      subst this
      apply bX8_isSeen_2
      rw [if_pos hq] at k
      exact br_t (nI_le (a := 8) (by omega) (by decide)) (qi k)
    | succ m ih =>
      intro i hi hq
      apply bX8_isSeen_2
      refine br_f (nI_ge (b := 8) (by omega) (by decide)) ?_
      rw [ix8']
      refine ⟨vpn (by omega), ?_⟩
      have hf9 := hw.2.2.1 p hp i (by omega)
      refine sr_seenAt hs (by omega) (hc.2.1 i (by omega)) ?_
      rw [ncl (by omega), hm.2.2.1 p hp i (by omega), nI_1]
      have ee : nI (pf b p i) = ((aH a).2 s i).toInt32 ↔ (pf b p i : Int) = ((aH a).2 s i).toInt := by
        rw [← Int32.toInt_inj, by32 (hc.2.2 i (by omega)), tI (by omega)]
      refine ⟨fun c => ih (i + 1) (by omega) (fun q hq' => ?_), fun c => qi ?_⟩
      · by_cases e : q = i
        · subst e; exact ee.mp c
        · exact hq q (by omega)
      · rw [if_neg (fun w => c (ee.mpr (w i (by omega))))] at k
        exact k
  exact key 8 0 rfl (fun q hq => absurd hq (by omega))
-- liesFor
def lfr (pr : Prog) (p z : Nat) (c : Nat → Int64) : Nat → Nat → Pp → Int32
  | 0, _, _ => -2
  | m + 1, k, b => if sees b p c then nI k else lfr pr p z c m (k + 1) (lieA (prc pr b p 0 z) b p z)
theorem sp_liesFor {p z s : Nat} {P : Int32 → Tt → Prop} (hp : p < pn (aP a)) (hz : z < 10) (hs : s < 6) (hb : refB ((aH a).1 s) = 0) : ∀ m i b t, i + m = 100 → Rel t a → MoC t 5 b → PpW b → pn b = pn (aP a) → (∀ t', Rel t' a → P (lfr (aL a) p z ((aH a).2 s) m i b) t') → Rt g (d + 4) mX7_liesFor 55 [some (.ref 0), some (.int (nI s)), some (.int (nI p)), some (.int (nI z)), none, some (.int (nI i))] [] t (QI P) := by
  intro m
  induction m with
  | zero =>
    intro i b t hi h hm hw hn k
    apply bX7_liesFor_55
    exact br_t (nI_lt (a := 99) (by omega) (by omega)) (qi (k t h))
  | succ m ih =>
    intro i b t hi h hm hw hn k
    apply bX7_liesFor_55
    refine br_f (nI_nlt (a := 99) (by omega) (by decide)) ⟨vpn hs, ?_⟩
    rw [ncl (by omega)]
    refine sp_looksLike mo5 hm hw (by omega) h hs hb ?_
    simp only [lfr] at k
    by_cases h0 : sees b p ((aH a).2 s)
    · rw [if_pos h0] at k ⊢
      exact br_f (by decide) (qi (k t h))
    · rw [if_neg h0] at k ⊢
      refine br_t rfl ⟨h.lw.1, ?_⟩
      refine sp_lie5 (f := 0) h hm hw (by omega) hz (fun t' h' hm' => ?_)
      rw [nI_1]
      exact ih (i + 1) _ t' (by omega) h' hm' (lieA_W hw (by omega) _ _) hn k
theorem sr_liesFor {p z s : Nat} {P : Int32 → Tt → Prop} (hp : p < pn (aP a)) (hz : z < 10) (hs : s < 6) (hb : refB ((aH a).1 s) = 0) : ∀ m i b t, i + m = 100 → Rel t a → MoM t b → PpW b → pn b = pn (aP a) → (∀ t', Rel t' a → P (lfr (aL a) p z ((aH a).2 s) m i b) t') → Rt g (d + 5) mX8_liesFor 59 [some (.ref 57), some (.int (nI s)), some (.int (nI p)), some (.int (nI z)), some (.int (nI i))] [] t (QI P) := by
  intro m
  induction m with
  | zero =>
    intro i b t hi h hm hw hn k
    apply bX8_liesFor_59
    exact br_t (nI_lt (a := 99) (by omega) (by omega)) (qi (k t h))
  | succ m ih =>
    intro i b t hi h hm hw hn k
    apply bX8_liesFor_59
    refine br_f (nI_nlt (a := 99) (by omega) (by decide)) ?_
    refine sr_isSeen hm hw (by omega) h hs hb ?_
    simp only [lfr] at k
    by_cases h0 : sees b p ((aH a).2 s)
    · rw [if_pos h0] at k ⊢
      exact br_f (by decide) (qi (k t h))
    · rw [if_neg h0] at k ⊢
      refine br_t rfl ?_
      refine sr_lie5 (f := 0) h hm hw (by omega) hz (fun t' h' hm' => ?_)
      rw [nI_1]
      exact ih (i + 1) _ t' (by omega) h' hm' (lieA_W hw (by omega) _ _) hn k
theorem both_liesFor {x y z : Int32} {Q : Int32 → Int32 → Tt → Prop} (h : Rel t a) (K : KK Q) : Rt g (d + 300) mX7_liesFor 0 [some (.ref 0), some (.int x), some (.int y), some (.int z), none, none] [] t (QI (fun v t1 => Rt g (d + 300) mX8_liesFor 0 [some (.ref 57), some (.int x), some (.int y), some (.int z), none] [] t1 (QI (fun w t2 => Q v w t2)))) := by
  have hn := h.n7
  apply bX7_liesFor_0
  by_cases h1 : gd x 6
  · refine sp_noShelf_g h1 (br_p rfl ?_)
    by_cases h2 : gd y (pn (aP a))
    · refine sp_nobody_g h.pc hn h2 (br_p rfl ?_)
      by_cases h3 : gd z 10
      · refine sp_out_g (n := 10) rfl (by decide) h3 (br_t rfl ?_)
        obtain ⟨s, hs, rfl⟩ := h1
        have md : ∀ (P : Int32 → Tt → Prop) t1, Rel t1 a → _ → Rt g (d + 300) mX8_liesFor 0 [some (.ref 57), some (.int (nI s)), some (.int y), some (.int z), none] [] t1 (QI P) := fun P t1 r1 k => bX8_liesFor_0 (sr_isShelf_g ⟨s, hs, rfl⟩ (br_f (by decide) (sr_isPerson_g r1.pm hn h2 (br_f (by decide) (sr_in_g (n := 10) rfl (by decide) h3 (br_n (by decide) k))))))
        refine sp_refusalOfMirror h hs ?_
        by_cases h4 : refM ((aH a).1 s) = 0
        · have hb := (refM_0 h4).1
          refine br_t h4 (sp_copy5 h (fun t1 r1 m1 => ?_))
          obtain ⟨p, hp, rfl⟩ := h2
          obtain ⟨z, hz, rfl⟩ := h3
          refine sp_liesFor hp hz hs hb 100 0 (aP a) t1 rfl r1 m1 h.pw rfl (fun t2 r2 => md _ _ r2 ?_)
          refine sr_mirror r2 hs (fun _ => ?_) (fun q => absurd h4 q)
          refine sr_begin r2 (fun t3 r3 m3 => ?_)
          exact sr_liesFor hp hz hs hb 100 0 (aP a) t3 rfl r3 m3 h.pw rfl (fun t4 r4 => K _ _ ⟨a, r4⟩)
        · refine br_f h4 (qi (md _ _ h ?_))
          exact sr_mirror h hs (fun q => absurd q h4) (fun _ => K _ _ ⟨a, h⟩)
      · refine sp_out_b (n := 10) rfl (by decide) h3 (br_f (by decide) (qi ?_))
        exact bX8_liesFor_0 (sr_isShelf_g h1 (br_f (by decide) (sr_isPerson_g h.pm hn h2 (br_f (by decide) (sr_in_b (n := 10) rfl (by decide) h3 (br_p rfl (qi (K _ _ ⟨a, h⟩))))))))
    · refine sp_nobody_b h.pc hn h2 (br_n (by decide) (qi ?_))
      exact bX8_liesFor_0 (sr_isShelf_g h1 (br_f (by decide) (sr_isPerson_b h.pm hn h2 (br_t rfl (qi (K _ _ ⟨a, h⟩))))))
  · refine sp_noShelf_b h1 (br_n (by decide) (qi ?_))
    exact bX8_liesFor_0 (sr_isShelf_b h1 (br_t rfl (qi (K _ _ ⟨a, h⟩))))
-- others
def oth (b : Pp) (c : Nat → Int64) : Nat → Nat
  | 0 => 0
  | i + 1 => if sees b i c then oth b c i ||| 2 ^ i else oth b c i
theorem both_others {x : Int32} {Q : Int32 → Int32 → Tt → Prop} (h : Rel t a) (K : KK Q) : Rt g (d + 300) mX7_others 0 [some (.ref 0), some (.int x), none, none, none] [] t (QI (fun v t1 => Rt g (d + 300) mX8_others 0 [some (.ref 57), some (.int x), none, none] [] t1 (QI (fun w t2 => Q v w t2)))) := by
  have hn := h.n7
  apply bX7_others_0
  by_cases h1 : gd x 6
  · refine sp_noShelf_g h1 (br_t rfl ?_)
    obtain ⟨s, hs, rfl⟩ := h1
    refine sp_refusalOfMirror h hs ?_
    apply bX7_others_16
    by_cases h4 : refM ((aH a).1 s) = 0
    · have hb := (refM_0 h4).1
      refine br_t h4 ?_
      have fin : Rt g (d + 300) mX8_others 0 [some (.ref 57), some (.int (nI s)), none, none] [] t (QI (fun w t2 => Q (nI (oth (aP a) ((aH a).2 s) (pn (aP a)))) w t2)) := by
        apply bX8_others_0
        refine sr_isShelf_g ⟨s, hs, rfl⟩ (br_n (by decide) ?_)
        refine sr_mirror h hs (fun _ => ?_) (fun q => absurd h4 q)
        refine sr_begin h (fun t3 r3 m3 => ?_)
        have key : ∀ m i, i + m = pn (aP a) → Rt g (d + 300) mX8_others 42 [some (.ref 57), some (.int (nI s)), some (.int (nI (oth (aP a) ((aH a).2 s) i))), some (.int (nI i))] [] t3 (QI (fun w t2 => Q (nI (oth (aP a) ((aH a).2 s) (pn (aP a)))) w t2)) := by
          intro m
          induction m with
          | zero =>
            intro i hi
            have : i = pn (aP a) := by omega
            rw [this]
            apply bX8_others_42
            rw [r3.pm]
            exact br_t (nI_le (Nat.le_refl _) (by omega)) (qi (K _ _ ⟨a, r3⟩))
          | succ m ih =>
            intro i hi
            apply bX8_others_42
            rw [r3.pm]
            refine br_f (nI_ge (by omega) (by omega)) ?_
            have ew : oth (aP a) ((aH a).2 s) (i + 1) = if sees (aP a) i ((aH a).2 s) then oth (aP a) ((aH a).2 s) i ||| 2 ^ i else oth (aP a) ((aH a).2 s) i := rfl
            have step : ∀ q, oth (aP a) ((aH a).2 s) (i + 1) = q → Rt g (d + 300) mX8_others 65 [some (.ref 57), some (.int (nI s)), some (.int (nI q)), some (.int (nI i))] [] t3 (QI (fun w t2 => Q (nI (oth (aP a) ((aH a).2 s) (pn (aP a)))) w t2)) := by
              intro q hq
              apply bX8_others_65
              rw [nI_1, ← hq]
              exact ih (i + 1) (by omega)
            refine sr_isSeen m3 h.pw (by omega) r3 hs hb ?_
            by_cases h0 : sees (aP a) i ((aH a).2 s)
            · rw [if_pos h0] at ew ⊢
              refine br_f (by decide) ?_
              intro z5 e5
              rw [shl_tab i (by omega), nI_or] at e5
              rw [e5]
              exact step _ ew
            · rw [if_neg h0] at ew ⊢
              exact br_t rfl (step _ ew)
        exact key (pn (aP a)) 0 (Nat.zero_add _)
      have key : ∀ m i, i + m = pn (aP a) → Rt g (d + 300) mX7_others 28 [some (.ref 0), some (.int (nI s)), none, some (.int (nI (oth (aP a) ((aH a).2 s) i))), some (.int (nI i))] [] t (QI (fun v t1 => Rt g (d + 300) mX8_others 0 [some (.ref 57), some (.int (nI s)), none, none] [] t1 (QI (fun w t2 => Q v w t2)))) := by
        intro m
        induction m with
        | zero =>
          intro i hi
          have : i = pn (aP a) := by omega
          rw [this]
          apply bX7_others_28
          rw [h.pc]
          exact br_t (nI_le (Nat.le_refl _) (by omega)) (qi fin)
        | succ m ih =>
          intro i hi
          apply bX7_others_28
          rw [h.pc]
          refine br_f (nI_ge (by omega) (by omega)) ⟨vpn hs, ?_⟩
          rw [ncl (by omega)]
          have ew : oth (aP a) ((aH a).2 s) (i + 1) = if sees (aP a) i ((aH a).2 s) then oth (aP a) ((aH a).2 s) i ||| 2 ^ i else oth (aP a) ((aH a).2 s) i := rfl
          have step : ∀ q, oth (aP a) ((aH a).2 s) (i + 1) = q → Rt g (d + 300) mX7_others 65 [some (.ref 0), some (.int (nI s)), none, some (.int (nI q)), some (.int (nI i))] [] t (QI (fun v t1 => Rt g (d + 300) mX8_others 0 [some (.ref 57), some (.int (nI s)), none, none] [] t1 (QI (fun w t2 => Q v w t2)))) := by
            intro q hq
            apply bX7_others_65
            rw [nI_1, ← hq]
            exact ih (i + 1) (by omega)
          refine sp_looksLike mo1 h.2.1.1 h.pw (by omega) h hs hb ?_
          by_cases h0 : sees (aP a) i ((aH a).2 s)
          · rw [if_pos h0] at ew ⊢
            refine br_f (by decide) ?_
            intro z5 e5
            rw [shl_tab i (by omega), nI_or] at e5
            rw [e5]
            exact step _ ew
          · rw [if_neg h0] at ew ⊢
            exact br_t rfl (step _ ew)
      exact key (pn (aP a)) 0 (Nat.zero_add _)
    · refine br_f h4 (qi ?_)
      apply bX8_others_0
      refine sr_isShelf_g ⟨s, hs, rfl⟩ (br_n (by decide) ?_)
      exact sr_mirror h hs (fun q => absurd q h4) (fun _ => K _ _ ⟨a, h⟩)
  · refine sp_noShelf_b h1 (br_f (by decide) ?_)
    apply bX7_others_16
    refine br_f (by decide) (qi ?_)
    apply bX8_others_0
    exact sr_isShelf_b h1 (br_p rfl (qi (K _ _ ⟨a, h⟩)))
end P42
