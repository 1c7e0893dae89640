/-! PURE LAYER: how many flakes a lie takes; the reference's lie -/
section P28
variable {g : Gt} {d : Nat} {t : Tt}
def nmF (a : Pp) (p f z : Nat) : Nat → Int32 := fun k => match k with
  | 0 => nI z
  | 1 => pl a p
  | 2 => nI (worth a p)
  | 3 => nI (z % 8)
  | 4 => nI (capd (pc a p) (z % 8))
  | _ => nI f
def clp (x : Int32) : Nat := if x < 0 then 0 else if 99 < x then 99 else x.toNatClampNeg
theorem clp_le (x : Int32) : clp x ≤ 99 := by
  unfold clp
  split
  · omega
  · split
    · omega
    · rename_i h1 h2
      have h3 : x.toInt ≤ 99 := by rw [lt_i] at h2; have : (99 : Int32).toInt = 99 := rfl; omega
      have : x.toNatClampNeg = x.toInt.toNat := rfl
      omega
theorem clp_n {x : Int32} (h1 : ¬ x < 0) (h2 : ¬ 99 < x) : x = nI (clp x) := by
  unfold clp
  rw [if_neg h1, if_neg h2]
  obtain ⟨k, hk, rfl⟩ := nI_of h1
  rw [ncl hk]
theorem clp_max (x : Int32) : imax 0 (imin 99 x) = nI (clp x) := by
  have e99 : (99 : Int32).toInt = 99 := rfl
  by_cases h1 : x < 0
  · have h2 : imin 99 x = x := by unfold imin; rw [if_pos]; rw [lt_i] at h1 ⊢; rw [z_i] at h1; omega
    rw [h2]
    unfold imax
    rw [if_neg (by rw [lt_i] at h1 ⊢; rw [z_i] at *; omega)]
    unfold clp; rw [if_pos h1]; rfl
  · by_cases h2 : 99 < x
    · have h3 : imin 99 x = 99 := by unfold imin; rw [if_neg]; rw [lt_i] at h2 ⊢; omega
      rw [h3]
      unfold clp; rw [if_neg h1, if_pos h2]; rfl
    · rw [← clp_n h1 h2]
      have h3 : imin 99 x = x := by
        unfold imin
        by_cases h4 : x < 99
        · rw [if_pos h4]
        · rw [if_neg h4]; apply Int32.toInt_inj.mp; rw [lt_i] at h2 h4; omega
      rw [h3]
      unfold imax
      by_cases h4 : 0 < x
      · rw [if_pos h4]
      · rw [if_neg h4]; apply Int32.toInt_inj.mp; rw [lt_i] at h1 h4; rw [z_i] at *; omega
def prc (pr : Prog) (a : Pp) (p f z : Nat) : Nat := if pr = [] then 1 + z / 2 else clp (pv (nmF a p f z) pr)
theorem prc_le {pr : Prog} {a : Pp} {p f z : Nat} (hz : z < 10) : prc pr a p f z ≤ 99 := by
  unfold prc
  split
  · omega
  · exact clp_le _
theorem clen_0 {p : Prog} : clen p = 0 ↔ p = [] := by
  cases p with
  | nil => simp [clen]
  | cons x p => obtain ⟨te, va⟩ := x; simp [clen]
theorem LwC.fr {t t' : Tt} {r : Nat} {p : Prog} (h : LwC t r p) (hr : isLw r) (hf : Fr LwS t t') : LwC t' r p := by
  unfold isLw at hr
  refine ⟨(hf.1 _ _ (by unfold LwS; omega)).trans h.1, h.2.1, h.2.2.1, fun i x hx => ?_⟩
  rw [hf.1 _ _ (by unfold LwS; omega), hf.1 _ _ (by unfold LwS; omega)]
  exact h.2.2.2 i x hx
theorem StS_L {r : Nat} (hr : isLw r) (o j : Nat) (h : StS r o j) : LwS o j := by unfold isLw at hr; unfold StS at h; unfold LwS; omega
theorem MoC.frL {t t' : Tt} {o : Nat} {a : Pp} (h : MoC t o a) (ho : isMo o) (hf : Fr LwS t t') : MoC t' o a := by
  unfold isMo at ho
  exact h.fr hf (by unfold LwS; omega) (by unfold LwS; omega) (fun k => by unfold LwS; omega) (fun k => by unfold LwS; omega) (fun k => by unfold LwS; omega)
theorem sp_priceOf {r o p f z : Nat} {a : Pp} {pr : Prog} {P : Int32 → Tt → Prop} (ho : isMo o) (hr : isLw r) (hm : MoC t o a) (hw : PpW a) (hp : p < pn a) (hz : z < 10) (hl : LwC t r pr) (h : ∀ t', Fr LwS t t' → P (nI (prc pr a p f z)) t') : Rt g (d + 2) mX3_priceOf 0 [some (.ref r), some (.ref o), some (.int (nI p)), some (.int (nI f)), some (.int (nI z)), none] [] t (QI P) := by
  have hn := hw.1
  have ho' := ho
  have hr' := hr
  unfold isMo at ho'
  unfold isLw at hr'
  apply bX3_priceOf_0 hr ho
  rw [hl.1]
  by_cases h0 : pr = []
  · have hc := clen_0.mpr h0
    rw [hc]
    refine ⟨fun c => absurd rfl c, fun _ => qi ?_⟩
    have e : 1 + nI z / 2 = nI (prc pr a p f z) := by
      unfold prc
      rw [if_pos h0, show (2 : Int32) = nI 2 from rfl, pk_div (by omega) (by decide) (by decide), l1, nI_add]
    rw [e]
    exact h t (Fr.rf _ _)
  · have hc : clen pr ≠ 0 := fun q => h0 (clen_0.mp q)
    have hcl := hl.2.1
    refine ⟨fun _ => ?_, fun c => absurd (nI_inj (b := 0) (by omega) (by decide) c) hc⟩
    intro z2 e2
    rw [l8, jr_n (by omega) (by decide) (by decide)] at e2
    refine ⟨vpn (by omega), ?_⟩
    have hz8 := Nat.mod_lt z (show 0 < 8 by decide)
    rw [ncl (by omega), pI_o _ _ _ _ (show o + 3 ≠ r + 4 by omega), hm.2.2.2.2 p hp]
    have Sr : ∀ j, LwS (r + 4) j := fun j => by unfold LwS; omega
    have f1 : Fr LwS t (pI (pI t (r + 4) 0 (nI z)) (r + 4) 1 (pl a p)) := ((Fr.rf LwS t).pI _ (Sr _)).pI _ (Sr _)
    refine sp_worthOf ho (hm.frL ho f1) hw hp ?_
    have f2 := (f1.pI (o := r + 4) (j := 2) (nI (worth a p)) (Sr _)).pI (o := r + 4) (j := 3) z2 (Sr _)
    subst e2
    refine sp_isCapped ho (hm.frL ho f2) hw hp hz8 ?_
    have fin : Rt g (d + 2) mX3_priceOf 80 [some (.ref r), none, none, some (.int (nI f)), none, none] [.int (nI (capd (pc a p) (z % 8))), .int 4, .ref (r + 4)] (pI (pI (pI (pI t (r + 4) 0 (nI z)) (r + 4) 1 (pl a p)) (r + 4) 2 (nI (worth a p))) (r + 4) 3 (nI (z % 8))) (QI P) := by
      apply bX3_priceOf_80 hr
      refine ⟨vpn (k := 4) (by decide), ?_⟩
      rw [show (4 : Int32).toNatClampNeg = 4 from rfl]
      have f3 := (f2.pI (o := r + 4) (j := 4) (nI (capd (pc a p) (z % 8))) (Sr _)).pI (o := r + 4) (j := 5) (nI f) (Sr _)
      refine sp_workedOut (nm := nmF a p f z) hr (hl.fr hr f3) (fun k hk => ?_) (fun t' hf => ?_)
      · match k, hk with
        | 0, _ => simp [pI_a, nmF]
        | 1, _ => simp [pI_a, nmF]
        | 2, _ => simp [pI_a, nmF]
        | 3, _ => simp [pI_a, nmF]
        | 4, _ => simp [pI_a, nmF]
        | 5, _ => simp [pI_a, nmF]
      · apply qi
        rw [clp_max]
        have := h t' (f3.tr (hf.mo (StS_L hr)))
        unfold prc at this
        rw [if_neg h0] at this
        exact this
    rcases capd_01 (pc a p) (z % 8) with e | e
    · rw [e] at fin ⊢
      exact ⟨fun _ => fin, fun c => absurd rfl c⟩
    · rw [e] at fin ⊢
      exact ⟨fun c => absurd c (by decide), fun _ => fin⟩
-- the reference
def TkS (o j : Nat) : Prop := o = 72 ∨ o = 73
theorem MoM.frT {t t' : Tt} {a : Pp} (h : MoM t a) (hf : Fr TkS t t') : MoM t' a :=
  h.fr hf (by unfold TkS; omega) (by unfold TkS; omega) (fun k => by unfold TkS; omega) (fun k => by unfold TkS; omega) (fun k => by unfold TkS; omega)
theorem LnM.cg {t t' : Tt} (h67 : t'.1 67 = t.1 67) (h68 : t'.1 68 = t.1 68) (h70 : t'.1 70 = t.1 70) (h71 : t'.1 71 = t.1 71) : ∀ (p : Prog) (l s : Nat), LnM t l s p → LnM t' l s p := by
  intro p
  induction p with
  | nil => intro l s _; trivial
  | cons x p ih =>
    intro l s h
    obtain ⟨te, va⟩ := x
    refine ⟨by rw [h70]; exact h.1, by rw [h71]; exact h.2.1, fun i x hx => ?_, ih _ _ h.2.2.2⟩
    rw [h67, h68]
    exact h.2.2.1 i x hx
theorem LwM.cg {t t' : Tt} {p : Prog} (h : LwM t p) (h0 : t'.1 57 26 = t.1 57 26) (h67 : t'.1 67 = t.1 67) (h68 : t'.1 68 = t.1 68) (h69 : t'.1 69 = t.1 69) (h70 : t'.1 70 = t.1 70) (h71 : t'.1 71 = t.1 71) : LwM t' p := by
  rcases h with ⟨h1, h2⟩ | ⟨h1, h2, h3, h4, h5, h6, h7⟩
  · exact Or.inl ⟨h1, h0.trans h2⟩
  · exact Or.inr ⟨h1, h0.trans h2, h3, h4, h5, by rw [h69]; exact h6, LnM.cg h67 h68 h70 h71 p 0 0 h7⟩
theorem LwM.fr {S : Nat → Nat → Prop} {t t' : Tt} {p : Prog} (h : LwM t p) (hf : Fr S t t') (hS : ∀ o j, S o j → (o < 67 ∨ 71 < o) ∧ ¬ (o = 57 ∧ j = 26)) : LwM t' p := by
  refine h.cg (hf.1 _ _ (fun q => (hS _ _ q).2 ⟨rfl, rfl⟩)) ?_ ?_ ?_ ?_ ?_ <;> (funext j; exact hf.1 _ _ (fun q => by have := (hS _ _ q).1; omega))
theorem sr_takesBy {p f z : Nat} {a : Pp} {pr : Prog} {P : Int32 → Tt → Prop} (hm : MoM t a) (hw : PpW a) (hp : p < pn a) (hz : z < 10) (hl : LwM t pr) (h : ∀ t', Fr TkS t t' → P (nI (prc pr a p f z)) t') : Rt g (d + 3) mX8_takesBy 0 [some (.ref 57), some (.int (nI p)), some (.int (nI f)), some (.int (nI z)), none, none] [] t (QI P) := by
  have hn := hw.1
  apply bX8_takesBy_0
  intro z1 e1 z2 e2
  rw [l8, jr_n (by omega) (by decide) (by decide)] at e1
  have hz8 := Nat.mod_lt z (show 0 < 8 by decide)
  rcases hl with ⟨h0, hL⟩ | hl'
  · rw [hL]
    refine br_t rfl ?_
    apply bX8_takesBy_89
    have e : z2 = nI (prc pr a p f z) := by
      unfold prc
      rw [e2, if_pos h0, show (2 : Int32) = nI 2 from rfl, pk_div (by omega) (by decide) (by decide), l1, nI_add]
    have hle := prc_le (pr := pr) (a := a) (p := p) (f := f) hz
    rw [e]
    exact br_t (nI_pos' (by omega)) (br_t (nI_le (b := 99) hle (by decide)) (qi (h t (Fr.rf _ _))))
  · have hl : LwM t pr := Or.inr hl'
    rw [hl'.2.1]
    refine br_f (by decide) ⟨vpn (by omega), ?_⟩
    rw [ncl (by omega), pI_o _ _ _ _ (show 75 ≠ 72 by decide), hm.2.2.2.2 p hp]
    have S2 : ∀ j, TkS 72 j := fun j => Or.inl rfl
    have f1 : Fr TkS t (pI (pI t 72 0 (nI z)) 72 1 (pl a p)) := ((Fr.rf TkS t).pI _ (S2 _)).pI _ (S2 _)
    refine sr_worthOf (hm.frT f1) hw hp ⟨vpn (by omega), ?_⟩
    subst e1
    have f2 := (f1.pI (o := 72) (j := 2) (nI (worth a p)) (S2 _)).pI (o := 72) (j := 3) (nI (z % 8)) (S2 _)
    rw [(hm.frT f2).2.2.2.1 p hp, capd_tab _ (hw.2.2.2 p hp) _ hz8]
    have f3 := (f2.pI (o := 72) (j := 4) (nI (capd (pc a p) (z % 8))) (S2 _)).pI (o := 72) (j := 5) (nI f) (S2 _)
    refine sr_gives (nm := nmF a p f z) (hl.fr f3 (fun o j q => by unfold TkS at q; omega)) hl'.1 (fun k hk => ?_) (fun t' hf => ?_)
    · match k, hk with
      | 0, _ => simp [pI_a, nmF]
      | 1, _ => simp [pI_a, nmF]
      | 2, _ => simp [pI_a, nmF]
      | 3, _ => simp [pI_a, nmF]
      | 4, _ => simp [pI_a, nmF]
      | 5, _ => simp [pI_a, nmF]
    · have := h t' (f3.tr (hf.mo (fun o j q => Or.inr q)))
      unfold prc at this
      rw [if_neg hl'.1] at this
      apply bX8_takesBy_89
      unfold clp at this
      refine ⟨fun c => ?_, fun c => ?_⟩
      · have c0 : ¬ pv (nmF a p f z) pr < 0 := by rw [lt_i]; rw [le_i] at c; omega
        rw [if_neg c0] at this
        refine ⟨fun c2 => qi ?_, fun c2 => qi ?_⟩
        · have c3 : ¬ 99 < pv (nmF a p f z) pr := by rw [lt_i]; rw [le_i] at c2; omega
          rw [if_neg c3] at this
          obtain ⟨k, hk, ek⟩ := nI_of c0
          rw [ek] at this ⊢
          rwa [ncl hk] at this
        · have c3 : 99 < pv (nmF a p f z) pr := by rw [lt_i]; rw [le_i] at c2; omega
          rw [if_pos c3] at this
          exact this
      · have c0 : pv (nmF a p f z) pr < 0 := by rw [lt_i]; rw [le_i] at c; omega
        rw [if_pos c0] at this
        exact qi this
def LiM (o j : Nat) : Prop := o = 72 ∨ o = 73 ∨ o = 74 ∨ o = 75
theorem sr_lieOf {p f z : Nat} {a : Pp} {pr : Prog} {P : Int32 → Tt → Prop} (hm : MoM t a) (hw : PpW a) (hp : p < pn a) (hz : z < 10) (hl : LwM t pr)
    (h : ∀ t', Fr LiM t t' → MoM t' (lieA (prc pr a p f z) a p z) → P (nI (lieO (prc pr a p f z) a p z)) t') : Rt g (d + 4) mX8_lieOf 0 [some (.ref 57), some (.int (nI p)), some (.int (nI f)), some (.int (nI z)), none, none, none, none, none] [] t (QI P) := by
  have hn := hw.1
  have hdue := prc_le (pr := pr) (a := a) (p := p) (f := f) hz
  apply bX8_lieOf_0
  refine sr_takesBy hm hw hp hz hl (fun t1 hf1 => ?_)
  have hm1 := hm.frT hf1
  have hf1' : Fr LiM t t1 := hf1.mo (fun _ _ q => by unfold TkS at q; unfold LiM; omega)
  generalize hdd : prc pr a p f z = due at *
  have key : ∀ n i t2, i + n = 8 → Fr LiM t t2 → MoM t2 (setF a p (lk (pc a p) z due (pf a p) i).1) → Rt g (d + 4) mX8_lieOf 15 [some (.ref 57), some (.int (nI p)), none, some (.int (nI z)), some (.int (nI (due - (lk (pc a p) z due (pf a p) i).2))), some (.int (nI (lk (pc a p) z due (pf a p) i).2)), some (.int (nI i)), none, none] [] t2 (QI P) := by
    intro n
    induction n with
    | zero =>
      intro i t2 hi hf2 hm2
      have : i = 8 := by omega
      subst this
      apply bX8_lieOf_15
      refine br_t (nI_le (a := 8) (by omega) (by decide)) ⟨vpn (by omega), vpn (by omega), qi ?_⟩
      rw [ncl (by omega)]
      have e : t2.1 75 p = pl a p := hm2.2.2.2.2 p hp
      rw [e]
      exact h _ (hf2.pI _ (Or.inr (Or.inr (Or.inr rfl)))) (hm2.putL (by omega) (by omega) (by omega))
    | succ n ih =>
      intro i t2 hi hf2 hm2
      have hoff := lk_off (pc a p) z due (pf a p) i
      have hle := lk_le (pc a p) z due (pf a p) (fun k hk => hw.2.2.1 p hp k hk) i
      have ht := Nat.mod_lt (z + i) (show 0 < 8 by decide)
      apply bX8_lieOf_15
      refine br_f (nI_ge (b := 8) (by omega) (by decide)) ?_
      intro z4 ez
      rw [nI_add, l8, jr_n (by omega) (by decide) (by decide)] at ez
      subst ez
      refine ⟨vpn (by omega), ?_⟩
      have ecp : t2.1 59 p = nI (pc a p) := hm2.2.2.2.1 p hp
      rw [ncl (by omega), ecp, capd_tab _ (hw.2.2.2 p hp) _ ht, ix8']
      rcases capd_01 (pc a p) ((z + i) % 8) with e | e
      · rw [e]
        refine br_n (by decide) ?_
        have hv : vp_in (nI (8 * p + (z + i) % 8)) 56 := vpn (by omega)
        have hre : t2.1 74 (8 * p + (z + i) % 8) = nI ((lk (pc a p) z due (pf a p) i).1 ((z + i) % 8)) := by
          have := hm2.2.2.1 p hp _ ht
          rw [this]
          show nI (upN (pf a) p _ p _) = _
          rw [upN_s]
        have hb := hle _ ht
        refine ⟨hv, ?_⟩
        rw [ncl (by omega), hre]
        have e1 : lk (pc a p) z due (pf a p) (i + 1) = (upN (lk (pc a p) z due (pf a p) i).1 ((z + i) % 8) ((lk (pc a p) z due (pf a p) i).1 ((z + i) % 8) - min (due - (lk (pc a p) z due (pf a p) i).2) ((lk (pc a p) z due (pf a p) i).1 ((z + i) % 8))), (lk (pc a p) z due (pf a p) i).2 + min (due - (lk (pc a p) z due (pf a p) i).2) ((lk (pc a p) z due (pf a p) i).1 ((z + i) % 8))) := by
          simp only [lk]; rw [if_neg (by omega)]
        have go : Rt g (d + 4) mX8_lieOf 83 [some (.ref 57), some (.int (nI p)), none, some (.int (nI z)), some (.int (nI (due - (lk (pc a p) z due (pf a p) i).2))), some (.int (nI (lk (pc a p) z due (pf a p) i).2)), some (.int (nI i)), some (.int (nI ((z + i) % 8))), none] [.int (nI (min (due - (lk (pc a p) z due (pf a p) i).2) ((lk (pc a p) z due (pf a p) i).1 ((z + i) % 8))))] t2 (QI P) := by
          apply bX8_lieOf_83
          rw [ix8']
          refine ⟨hv, hv, ?_⟩
          intro z3 e3 z4 e4
          rw [ncl (by omega), hre, pk_sub (by omega)]
          rw [pk_sub (by omega)] at e3
          rw [nI_add] at e4
          subst e3 e4
          apply bX8_lieOf_116
          rw [nI_1]
          have := ih (i + 1) (pI t2 74 (8 * p + (z + i) % 8) (nI ((lk (pc a p) z due (pf a p) i).1 ((z + i) % 8) - min (due - (lk (pc a p) z due (pf a p) i).2) ((lk (pc a p) z due (pf a p) i).1 ((z + i) % 8))))) (by omega) (hf2.pI _ (Or.inr (Or.inr (Or.inl rfl)))) ?_
          · rw [e1] at this
            rw [show due - (lk (pc a p) z due (pf a p) i).2 - min (due - (lk (pc a p) z due (pf a p) i).2) ((lk (pc a p) z due (pf a p) i).1 ((z + i) % 8)) = due - ((lk (pc a p) z due (pf a p) i).2 + min (due - (lk (pc a p) z due (pf a p) i).2) ((lk (pc a p) z due (pf a p) i).1 ((z + i) % 8))) by omega]
            exact this
          · have h2 := hm2.putF (p := p) (k := (z + i) % 8) (v := (lk (pc a p) z due (pf a p) i).1 ((z + i) % 8) - min (due - (lk (pc a p) z due (pf a p) i).2) ((lk (pc a p) z due (pf a p) i).1 ((z + i) % 8))) (m := (lk (pc a p) z due (pf a p) (i + 1)).1) hp ht (by rw [e1]; show _ = upN (upN (pf a) p _ p) _ _; rw [upN_s]) (by omega) (by omega) (by omega)
            have e2 : setF (setF a p (lk (pc a p) z due (pf a p) i).1) p (lk (pc a p) z due (pf a p) (i + 1)).1 = setF a p (lk (pc a p) z due (pf a p) (i + 1)).1 := by
              unfold setF
              refine Prod.ext rfl (Prod.ext rfl (Prod.ext ?_ rfl))
              show upN (upN (pf a) p _) p _ = upN (pf a) p _
              funext q
              unfold upN
              split <;> simp_all
            rw [e2] at h2
            exact h2
        refine ⟨fun c => ?_, fun c => ⟨hv, ?_⟩⟩
        · have c' := (nI_leI (by omega) (by omega)).mp c
          rw [Nat.min_eq_left c'] at go
          exact go
        · have c' : ¬ due - (lk (pc a p) z due (pf a p) i).2 ≤ (lk (pc a p) z due (pf a p) i).1 ((z + i) % 8) := fun q => c (nI_le q (by omega))
          rw [Nat.min_eq_right (by omega)] at go
          exact go
      · rw [e]
        refine br_p rfl ?_
        apply bX8_lieOf_116
        rw [nI_1]
        have := ih (i + 1) t2 (by omega) hf2 (by rw [lk_cap _ _ _ _ e]; exact hm2)
        rw [lk_cap _ _ _ _ e] at this
        exact this
  have k0 := key 8 0 t1 rfl hf1' (by rw [show (lk (pc a p) z due (pf a p) 0).1 = pf a p from rfl, setF_id]; exact hm1)
  exact k0
end P28
