/-! PURE LAYER: the class reads lines and the whole text; law, its side -/
section P71
variable {g : Gt} {d : Nat} {t t1 : Tt} {a : Aa}
def OutL (T : Tp) (r : Nat) (code : List (Int32 × Int32)) (z : Rl) (v : Int32) (t : Tt) : Prop := (z.1 = true → v = 1 ∧ OkC r (code ++ cco code.length [z.2.2]) z.2.1 t) ∧ (z.1 = false → (v = 0 ∨ v = 1 ∧ isD (chr T z.2.1)) ∧ FlC r z.2.1 t)
theorem OutL.v01 {T : Tp} {r : Nat} {code : List (Int32 × Int32)} {z : Rl} {v : Int32} (h : OutL T r code z v t) : v = 0 ∨ v = 1 := by
  cases hz : z.1 with
  | true => exact Or.inr (h.1 hz).1
  | false => rcases (h.2 hz).1 with q | q; exact Or.inl q; exact Or.inr q.1
theorem At.set {r : Nat} {A B : List (Int32 × Int32)} {c x : Int32} {y : Int32} (hr : isLw r) (h : At t r 0 (A ++ (c, y) :: B)) : At (pI t (r + 2) A.length x) r 0 (A ++ (c, x) :: B) := by
  intro i q hq
  rw [Nat.zero_add, pI_o _ _ _ _ (show r + 1 ≠ r + 2 by omega), pI_a]
  by_cases e : i = A.length
  · rw [if_pos ⟨rfl, e⟩]
    subst e
    have h0 := h A.length (c, y) (by rw [List.getElem?_append_right (Nat.le_refl _)]; simp)
    rw [List.getElem?_append_right (Nat.le_refl _)] at hq
    simp at hq
    subst hq
    rw [Nat.zero_add] at h0
    exact ⟨h0.1, rfl⟩
  · rw [if_neg (fun w => e w.2)]
    have hh : (A ++ (c, y) :: B)[i]? = some q := by
      by_cases c1 : i < A.length
      · rw [List.getElem?_append_left c1] at hq ⊢; exact hq
      · rw [List.getElem?_append_right (by omega)] at hq ⊢
        obtain ⟨j, hj⟩ : ∃ j, i - A.length = j + 1 := ⟨i - A.length - 1, by omega⟩
        rw [hj] at hq ⊢
        simpa using hq
    have := h i q hh
    rw [Nat.zero_add] at this
    exact this
/-- a line's end -/
theorem sp_lineEnd {T : Tp} {r : Nat} {v x2 : Int32} {P : Int32 → Tt → Prop} (hr : isLw r) (h2 : t.2.2.2 = r) (hv : v = 0 ∨ v = 1) (kk : Tt → Prop) (k1 : Rt g d mX3_add 0 [some (.ref r), some (.int 2), some (.int 0)] [] t (QV (fun t2 => Fr (AdS r) t t2 ∧ kk t2))) (k2 : ∀ t2, Fr (AdS r) t t2 → kk t2 → Rt g d mX3_skipToHere 0 [some (.ref r), some (.int x2)] [] t2 (QV (fun t4 => P v t4))) : Rt g (d + 1) mX4_readLine 54 [some (.ref 33), some (.int v), some (.int x2)] [] t (QI P) := by
  apply bX4_readLine_54
  rw [h2]
  refine ⟨hr, k1.cv (fun t2 ⟨f2, q2⟩ => ?_)⟩
  have e2 : t2.2.2.2 = r := by rw [f2.2]; exact h2
  rw [e2]
  exact ⟨hr, (k2 t2 f2 q2).cv (fun t4 q => ⟨hv, qi q⟩)⟩
theorem cs_line {T : Tp} {ex : Nat → Rz} {i r : Nat} {code : List (Int32 × Int32)} {P : Int32 → Tt → Prop} (hT : TpO T) (hs : Sp T ex) (h : CS T ex (fun t P => Rt g d mX4_readAny 0 [some (.ref 33), some (.int (nI 0)), none, none] [] t (QI P))) (hin : InC T r code i t) (k : ∀ v t', Fr (RdS r) t t' → OutL T r code (lnR T ex i) v t' → P v t') : Rt g (d + 1) mX4_readLine 0 [some (.ref 33), none, none] [] t (QI P) := by
  have hin' := hin
  obtain ⟨hr, h2, h3, h4, h5, h6⟩ := hin'
  have h120 := hT.1
  apply bX4_readLine_0
  refine h t code i r _ hin (fun v t1 f1 o1 => ?_)
  have hsp := hs i h4
  have e12 : t1.2.2.2 = r := by rw [f1.2]; exact h2
  -- fail: whatever is added counts no more
  have bad : ∀ (q : Nat) (v x2 : Int32) t1, (lnR T ex i).1 = false → (lnR T ex i).2.1 = q → Fr (RdS r) t t1 → (v = 0 ∨ v = 1 ∧ isD (chr T q)) → FlC r q t1 → (x2 < 0 ∨ ∃ l, l ≤ 128 ∧ x2 = nI l) → Rt g (d + 1) mX4_readLine 54 [some (.ref 33), some (.int v), some (.int x2)] [] t1 (QI P) := by
    intro q v x2 t1 hz hq f1 hv hf hx
    have e12 : t1.2.2.2 = r := by rw [f1.2]; exact h2
    obtain ⟨l, hl, hl4⟩ := hf.2
    refine sp_lineEnd (T := T) hr e12 (by rcases hv with q | q; exact Or.inl q; exact Or.inr q.1) (fun t2 => FlC r q t2) (sp_addw hr hl4 hl (fun t2 f2 a2 => ⟨f2, hf.ad hr f2 a2⟩)) (fun t2 f2 hf2 => ?_)
    have f12 := f1.tr (f2.mo (Ad_Rd r))
    have fin : ∀ t3, Fr (RdS r) t t3 → FlC r q t3 → P v t3 := fun t3 f3 hf3 => k v t3 f3 ⟨fun w => (by rw [hz] at w; cases w), fun _ => (by rw [hq]; exact ⟨hv, hf3⟩)⟩
    apply bX3_skipToHere_0 hr
    refine ⟨fun _ => qv (fin t2 f12 hf2), fun c => ⟨fun _ => qv (fin t2 f12 hf2), fun c2 => ?_⟩⟩
    obtain ⟨l2, hl2, e2⟩ := hf2.2
    rw [e2] at c2 ⊢
    rcases hx with w | ⟨l3, hl3, rfl⟩
    · exact absurd w c
    · have : l3 < l2 := Nat.lt_of_not_le (fun w => c2 (nI_le w (by omega)))
      refine ⟨vpn (by omega), qv (fin _ (f12.pI _ (Or.inr (Or.inr (Or.inr rfl)))) ⟨?_, l2, hl2, ?_⟩)⟩
      · have hr' := hr; unfold isLw at hr'
        rw [pI_o _ _ _ _ (by omega)]; exact hf2.1
      · rw [pI_o _ _ _ _ (by omega)]; exact e2
  -- a line without a test
  have plain : ∀ t1, (ex i).1 = true → chr T (ex i).2.1 ≠ 63 → Fr (RdS r) t t1 → OkC r (code ++ enc (ex i).2.2) (ex i).2.1 t1 → Rt g (d + 1) mX4_readLine 54 [some (.ref 33), some (.int 1), some (.int (-1))] [] t1 (QI P) := by
    intro t1 hz h63 f1 o1
    have e12 : t1.2.2.2 = r := by rw [f1.2]; exact h2
    obtain ⟨w1, w2, w3⟩ := hsp.2.2 hz
    have hpl := hsp.2.1
    have elen : (code ++ enc (ex i).2.2).length < 128 := by rw [List.length_append, enc_len]; omega
    refine sp_lineEnd (T := T) hr e12 (Or.inr rfl) (fun t2 => OkC r (code ++ enc (ex i).2.2 ++ [(2, 0)]) (ex i).2.1 t2) (sp_add hr o1.2.1 elen o1.2.2 (fun t2 f2 a1 a2 => ⟨f2, o1.ad hr f2 a1 a2⟩)) (fun t2 f2 o2 => ?_)
    apply bX3_skipToHere_0 hr
    refine br_t (by decide) (qv (k 1 t2 (f1.tr (f2.mo (Ad_Rd r))) ?_))
    have el : lnR T ex i = (true, (ex i).2.1, ([], (ex i).2.2)) := by unfold lnR; rw [if_pos hz, if_neg h63]
    rw [el]
    refine ⟨fun _ => ⟨rfl, ?_⟩, fun q => (by cases q)⟩
    show OkC r (code ++ cco code.length [([], (ex i).2.2)]) (ex i).2.1 t2
    have ec : cco code.length [([], (ex i).2.2)] = enc (ex i).2.2 ++ [(2, 0)] := by simp [cco]
    rw [ec, ← List.append_assoc]
    exact o2
  refine ⟨fun hv => ?_, fun hv => sp_next (h3.rd hr f1) hT hsp.2.1 o1.pl ?_⟩
  · cases hz : (ex i).1 with
    | true => have := (o1.1 hz).1; rw [hv] at this; exact absurd this (by decide)
    | false =>
      have el : lnR T ex i = (false, (ex i).2.1, ([], [])) := by unfold lnR; rw [if_neg (by rw [hz]; decide)]
      exact bad (ex i).2.1 v (-1) t1 (by rw [el]) (by rw [el]) f1 (o1.2 hz).1 (o1.2 hz).2 (Or.inl (by decide))
  · have hcz := chr_le hT.2 (ex i).2.1
    have q63 : cV (chr T (ex i).2.1) = 63 ↔ chr T (ex i).2.1 = 63 := cV_eq (c := 63) hcz (by decide)
    rw [q63]
    refine ⟨fun n63 => ?_, fun e63 => ?_⟩
    · cases hz : (ex i).1 with
      | true =>
        obtain ⟨v1, o2⟩ := o1.1 hz
        subst v1
        exact plain t1 hz n63 f1 o2
      | false =>
        have el : lnR T ex i = (false, (ex i).2.1, ([], [])) := by unfold lnR; rw [if_neg (by rw [hz]; decide)]
        exact bad (ex i).2.1 v (-1) t1 (by rw [el]) (by rw [el]) f1 (o1.2 hz).1 (o1.2 hz).2 (Or.inl (by decide))
    · have hz : (ex i).1 = true := by
        cases hz : (ex i).1 with
        | true => rfl
        | false =>
          rcases (o1.2 hz).1 with q | q
          · exact absurd q hv
          · have := q.2; omega
      obtain ⟨v1, o2⟩ := o1.1 hz
      obtain ⟨w1, w2, w3⟩ := hsp.2.2 hz
      have hpl := hsp.2.1
      have hl := chr_lt (T := T) (i := (ex i).2.1) (by omega)
      have elen : (code ++ enc (ex i).2.2).length = code.length + (ex i).2.2.length := by rw [List.length_append, enc_len]
      rw [e12]
      refine ⟨hr, ?_⟩
      intro z8 e8
      rw [o1.pl, nI_1] at e8 ⊢
      have o3 := o2.p3 (i' := (ex i).2.1 + 1) hr
      have e8' : z8 = nI (code ++ enc (ex i).2.2).length := e8.trans o3.2.1
      subst e8'
      refine ⟨hr, sp_add hr o3.2.1 (by omega) o3.2.2 (fun t2 f2 a1 a2 => ?_)⟩
      have o4 := o3.ad hr f2 a1 a2
      have f02 : Fr (RdS r) t t2 := (frP3 _ f1).tr (f2.mo (Ad_Rd r))
      have hin2 : InC T r (code ++ enc (ex i).2.2 ++ [(3, 0)]) ((ex i).2.1 + 1) t2 := ⟨hr, by rw [f02.2]; exact h2, h3.rd hr f02, hl, by rw [List.length_append, elen]; show code.length + (ex i).2.2.length + 1 ≤ _; omega, o4⟩
      refine h _ _ _ r _ hin2 (fun v3 t3 f3 o5 => ?_)
      have f03 := f02.tr f3
      have e32 : t3.2.2.2 = r := by rw [f03.2]; exact h2
      have hsp2 := hs ((ex i).2.1 + 1) hl
      cases hz2 : (ex ((ex i).2.1 + 1)).1 with
      | false =>
        have el : lnR T ex i = (false, (ex ((ex i).2.1 + 1)).2.1, ([], [])) := by unfold lnR; rw [if_pos hz, if_pos e63, if_neg (by rw [hz2]; decide)]
        exact bad _ v3 _ t3 (by rw [el]) (by rw [el]) f03 (o5.2 hz2).1 (o5.2 hz2).2 (Or.inr ⟨_, by rw [elen]; omega, rfl⟩)
      | true =>
        obtain ⟨v31, o6⟩ := o5.1 hz2
        subst v31
        obtain ⟨x1, x2, x3⟩ := hsp2.2.2 hz2
        have hpl2 := hsp2.2.1
        have el : lnR T ex i = (true, (ex ((ex i).2.1 + 1)).2.1, ((ex i).2.2, (ex ((ex i).2.1 + 1)).2.2)) := by unfold lnR; rw [if_pos hz, if_pos e63, if_pos hz2]
        generalize ex ((ex i).2.1 + 1) = z2 at *
        have hlen : (code ++ enc (ex i).2.2 ++ [(3, 0)] ++ enc z2.2.2).length = code.length + (ex i).2.2.length + 1 + z2.2.2.length := by rw [List.length_append, List.length_append, elen, enc_len]; rfl
        refine sp_lineEnd (T := T) hr e32 (Or.inr rfl) (fun t4 => OkC r (code ++ enc (ex i).2.2 ++ [(3, 0)] ++ enc z2.2.2 ++ [(2, 0)]) z2.2.1 t4) (sp_add hr o6.2.1 (by rw [hlen]; omega) o6.2.2 (fun t4 f4 b1 b2 => ⟨f4, o6.ad hr f4 b1 b2⟩)) (fun t4 f4 o7 => ?_)
        have f04 := f03.tr (f4.mo (Ad_Rd r))
        have hlen2 : (code ++ enc (ex i).2.2 ++ [(3, 0)] ++ enc z2.2.2 ++ [(2, 0)]).length = code.length + (ex i).2.2.length + 1 + z2.2.2.length + 1 := by rw [List.length_append, hlen]; rfl
        apply bX3_skipToHere_0 hr
        have e4 := o7.2.1
        rw [hlen2] at e4
        rw [e4, elen]
        refine br_f (nI_pos (by omega)) (br_f (nI_ge (by omega) (by omega)) ⟨vpn (by omega), qv (k 1 _ (f04.pI _ (Or.inr (Or.inr (Or.inr rfl)))) ?_)⟩)
        rw [el]
        refine ⟨fun _ => ⟨rfl, ?_⟩, fun q => (by cases q)⟩
        rw [ncl (by omega)]
        have hr' := hr
        unfold isLw at hr'
        have ec : code ++ cco code.length [((ex i).2.2, z2.2.2)] = (code ++ enc (ex i).2.2) ++ (3, nI (code.length + (ex i).2.2.length + 1 + z2.2.2.length + 1)) :: (enc z2.2.2 ++ [(2, 0)]) := by
          simp only [cco]
          rw [if_neg (WE_ne w2), List.append_assoc]
        show OkC r (code ++ cco code.length [((ex i).2.2, z2.2.2)]) z2.2.1 _
        rw [ec]
        refine ⟨?_, ?_, ?_⟩
        · rw [pI_o _ _ _ _ (by omega)]; exact o7.1
        · rw [pI_o _ _ _ _ (by omega), e4]
          congr 1
          rw [List.length_append, elen, List.length_cons, List.length_append, enc_len]
          show _ = code.length + (ex i).2.2.length + (z2.2.2.length + 1 + 1)
          omega
        · rw [← elen]
          refine At.set (y := 0) hr ?_
          have := o7.2.2
          rw [List.append_assoc (code ++ enc (ex i).2.2 ++ [(3, 0)]), List.append_assoc (code ++ enc (ex i).2.2)] at this
          exact this
/-- the text's lines -/
def OutX (T : Tp) (r : Nat) (z : Rt3) (v : Int32) (t : Tt) : Prop := (z.1 = true → v = 1 ∧ OkC r (cco 0 z.2.2) z.2.1 t) ∧ (z.1 = false → (v = 0 ∨ v = 1 ∧ isD (chr T z.2.1)) ∧ FlC r z.2.1 t)
theorem OutX.pl {T : Tp} {r : Nat} {z : Rt3} {v : Int32} (h : OutX T r z v t) : t.1 33 3 = nI z.2.1 := by
  cases hz : z.1 with
  | true => exact (h.1 hz).2.1
  | false => exact (h.2 hz).2.1
theorem OutL.X {T : Tp} {r : Nat} {p : Prog} {z : Rl} {v : Int32} (h : OutL T r (cco 0 p) z v t) : OutX T r (cml p z) v t := by
  unfold cml
  cases hz : z.1 with
  | true =>
    rw [if_pos rfl]
    obtain ⟨h1, h2⟩ := h.1 hz
    refine ⟨fun _ => ⟨h1, ?_⟩, fun q => (by cases q)⟩
    show OkC r (cco 0 (p ++ [z.2.2])) z.2.1 t
    rw [cco_app, Nat.zero_add, ← cco_len p 0]
    exact h2
  | false =>
    rw [if_neg (by decide)]
    exact ⟨fun q => (by cases q), fun _ => h.2 hz⟩
abbrev exT (T : Tp) : Nat → Rz := exF T (opd T 6)
theorem exT_Sp (T : Tp) : Sp T (exT T) := exF_Sp (opd_Sp T 6)
theorem cs_exT {T : Tp} (hT : TpO T) : CS T (exT T) (fun t P => Rt g (d + 55) mX4_readAny 0 [some (.ref 33), some (.int (nI 0)), none, none] [] t (QI P)) := cs_ex (d := d + 50) hT (opd_Sp T 6) (cs_operand hT 6 d 0 rfl)
def okX3 (T : Tp) : Prop := (txF T).1 = true ∧ (txF T).2.1 = T.1
theorem sp_read {T : Tp} {r : Nat} {P : Int32 → Tt → Prop} (hT : TpO T) (hr : isLw r) (h2 : t.2.2.2 = r) (h3 : tpC t T) (k1 : okX3 T → ∀ t', Fr (RdS r) t t' → OkC r (cco 0 (txF T).2.2) (txF T).2.1 t' → P (-1) t') (k0 : ¬ okX3 T → ∀ t', Fr (RdS r) t t' → P (nI (txF T).2.1) t') : Rt g (d + 57) mX4_read 0 [some (.ref 33), none, none] [] t (QI P) := by
  have hr' := hr
  unfold isLw at hr'
  have h120 := hT.1
  have fin : ∀ v t1, Fr (RdS r) t t1 → OutX T r (txF T) v t1 → Rt g (d + 57) mX4_read 60 [some (.ref 33), some (.int v), none] [] t1 (QI P) := by
    intro v t1 f1 o1
    have hsp : (txF T).2.1 ≤ T.1 := (txL_Sp (fun i hi => lnR_Sp (exT_Sp T) hi) 120 _ (cml_Sp (lnR_Sp (exT_Sp T) (Nat.zero_le _)) (fun l hl => by cases hl) (Nat.le_refl _) (Nat.le_refl _) (Nat.le_refl _))).1
    unfold okX3 at k1 k0
    generalize txF T = z at *
    have h3' := h3.rd hr f1
    apply bX4_read_60
    rw [o1.pl, h3'.1]
    refine ⟨fun hv => qi (k0 (fun q => ?_) t1 f1), fun hv => ⟨fun hne => qi (k0 (fun q => hne (by rw [q.2])) t1 f1), fun he => ?_⟩⟩
    · have := (o1.1 q.1).1; rw [hv] at this; exact absurd this (by decide)
    · have he := nI_inj (by omega) (by omega) he
      cases hz : z.1 with
      | true => exact qi (k1 ⟨hz, he⟩ t1 f1 (o1.1 hz).2)
      | false =>
        rcases (o1.2 hz).1 with q | q
        · exact absurd q hv
        · have := q.2
          have := chr_lt (T := T) (i := z.2.1) (by omega)
          omega
  have key : ∀ f c z v t1, c + f = 120 → SpT T z → Fr (RdS r) t t1 → OutX T r z v t1 → (∀ v t', Fr (RdS r) t t' → OutX T r (txL T (lnR T (exT T)) f z) v t' → Rt g (d + 57) mX4_read 60 [some (.ref 33), some (.int v), none] [] t' (QI P)) → Rt g (d + 57) mX4_read 20 [some (.ref 33), some (.int v), some (.int (nI c))] [] t1 (QI P) := by
    intro f
    induction f with
    | zero =>
      intro c z v t1 hc hsp f1 ho k
      have : c = 120 := by omega
      subst this
      apply bX4_read_20
      exact br_t (nI_le (a := 120) (by omega) (by decide)) (k v t1 f1 ho)
    | succ f ih =>
      intro c z v t1 hc hsp f1 ho k
      have hcz := chr_le hT.2 z.2.1
      have q59 : cV (chr T z.2.1) = 59 ↔ chr T z.2.1 = 59 := cV_eq (c := 59) hcz (by decide)
      have es : txL T (lnR T (exT T)) (f + 1) z = if z.1 = true ∧ chr T z.2.1 = 59 then txL T (lnR T (exT T)) f (cml z.2.2 (lnR T (exT T) (z.2.1 + 1))) else z := by rw [txL]
      rw [es] at k
      apply bX4_read_20
      refine br_f (nI_ge (b := 120) (by omega) (by decide)) ?_
      by_cases hop : z.1 = true ∧ chr T z.2.1 = 59
      · rw [if_pos hop] at k
        obtain ⟨v1, o1⟩ := ho.1 hop.1
        have hl := chr_lt (T := T) (i := z.2.1) (by omega)
        obtain ⟨w1, w2, w3, w4, w5⟩ := hsp.2 hop.1
        refine br_f (by rw [v1]; decide) (sp_next (h3.rd hr f1) hT hsp.1 ho.pl ?_)
        rw [q59]
        refine br_p hop.2 ?_
        rw [ho.pl, nI_1, nI_1]
        have f1' := frP3 (nI (z.2.1 + 1)) f1
        have hin : InC T r (cco 0 z.2.2) (z.2.1 + 1) (pI t1 33 3 (nI (z.2.1 + 1))) := ⟨hr, by rw [f1'.2]; exact h2, h3.rd hr f1', hl, by rw [cco_len]; omega, o1.p3 hr⟩
        refine cs_line (d := d + 55) hT (exT_Sp T) (cs_exT (d := d) hT) hin (fun v2 t2 f2 o2 => ?_)
        exact ih (c + 1) _ v2 t2 (by omega) (cml_Sp (lnR_Sp (exT_Sp T) hl) w1 w3 (by omega) w5) (f1'.tr f2) o2.X k
      · rw [if_neg hop] at k
        refine ⟨fun _ => k v t1 f1 ho, fun hv => sp_next (h3.rd hr f1) hT hsp.1 ho.pl ?_⟩
        rw [q59]
        refine br_n (fun e => ?_) (k v t1 f1 ho)
        cases hz : z.1 with
        | true => exact hop ⟨hz, e⟩
        | false =>
          rcases (ho.2 hz).1 with q | q
          · exact hv q
          · have := q.2; omega
  apply bX4_read_0
  rw [h2]
  refine ⟨hr, ?_⟩
  have f0 : Fr (RdS r) t (pI (pI t r 4 0) 33 3 0) := frP3 _ ((Fr.rf (RdS r) t).pI _ (Or.inr (Or.inl ⟨rfl, rfl⟩)))
  have hin : InC T r [] 0 (pI (pI t r 4 0) 33 3 0) := by
    refine ⟨hr, by rw [f0.2]; exact h2, h3.rd hr f0, Nat.zero_le _, Nat.le_refl _, pI_s _ _ _ _, ?_, fun i x hx => (by cases hx)⟩
    rw [pI_o _ _ _ _ (by omega), pI_s]; rfl
  refine cs_line (d := d + 55) hT (exT_Sp T) (cs_exT (d := d) hT) hin (fun v2 t2 f2 o2 => ?_)
  exact key 120 0 _ v2 t2 rfl (cml_Sp (lnR_Sp (exT_Sp T) (Nat.zero_le _)) (fun l hl => by cases hl) (Nat.le_refl _) (Nat.le_refl _) (Nat.le_refl _)) (f0.tr f2) (OutL.X (p := []) o2) fin
end P71
