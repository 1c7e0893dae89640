/-! PURE LAYER: the reference reads the law's text: bytes, names, steps, numbers -/
section P72
variable {g : Gt} {d : Nat} {t t1 : Tt}
theorem byte_i_tab : ∀ k, k < 256 → (vp_nar .byte (nI k)).toInt = if k < 128 then (k : Int) else (k : Int) - 256 := by decide +kernel
theorem rV_i {k : Nat} (h : k ≤ 256) : (rV k).toInt = if k = 256 then -1 else if k < 128 then (k : Int) else (k : Int) - 256 := by
  unfold rV
  split
  · rfl
  · exact byte_i_tab k (by omega)
theorem rV_eq {k c : Nat} (h : k ≤ 256) (hc : c < 128) : rV k = nI c ↔ k = c := by
  rw [← Int32.toInt_inj, rV_i h, tI (by omega)]
  split
  · omega
  · split <;> omega
theorem rV_lo {k : Nat} (h : k < 128) : rV k = nI k := (rV_eq (by omega) h).mpr rfl
theorem sr_look {T : Tp} {i : Nat} {P : Int32 → Tt → Prop} (hT : tpM t T) (hO : TpO T) (hi : i ≤ T.1) (hp : t.1 57 15 = nI i) (k : P (rV (chr T i)) t) : Rt g d mX8_look 0 [some (.ref 57)] [] t (QI P) := by
  have h120 := hO.1
  unfold chr rV at k
  apply bX8_look_0
  rw [hT.1, hp]
  by_cases c : i < T.1
  · rw [if_pos c] at k
    refine br_f (nI_ge c (by omega)) ⟨vpn (by omega), qi ?_⟩
    rw [ncl (by omega), hT.2 i c]
    have := hO.2 i c
    rw [if_neg (by omega)] at k
    exact k
  · rw [if_neg c, if_pos rfl] at k
    exact br_t (nI_le (by omega) (by omega)) (qi k)
theorem sr_dig {k : Nat} {P : Int32 → Tt → Prop} (hk : k ≤ 256) (k1 : isD k → P 1 t) (k0 : ¬ isD k → P 0 t) : Rt g d mX8_in 0 [some (.int (rV k)), some (.int 48), some (.int 57)] [] t (QI P) := by
  have e := rV_i hk
  have e48 : (48 : Int32).toInt = 48 := rfl
  have e57 : (57 : Int32).toInt = 57 := rfl
  refine sr_in (fun q1 q2 => k1 ?_) (fun q => k0 (fun w => q ?_))
  · rw [le_i, e, e48] at q1
    rw [le_i, e, e57] at q2
    split at q1
    · omega
    · split at q1 <;> split at q2 <;> omega
  · rw [le_i, le_i, e, e48, e57, if_neg (by omega), if_pos (by omega)]
    omega
theorem sr_nameOf {k : Nat} {P : Int32 → Tt → Prop} (hk : k ≤ 256) (h : P (nmI k) t) : Rt g d mX8_nameOf 0 [some (.int (rV k))] [] t (QI P) := by
  have q99 : rV k = 99 ↔ k = 99 := rV_eq (c := 99) hk (by decide)
  have q102 : rV k = 102 ↔ k = 102 := rV_eq (c := 102) hk (by decide)
  have q108 : rV k = 108 ↔ k = 108 := rV_eq (c := 108) hk (by decide)
  have q116 : rV k = 116 ↔ k = 116 := rV_eq (c := 116) hk (by decide)
  have q119 : rV k = 119 ↔ k = 119 := rV_eq (c := 119) hk (by decide)
  have q122 : rV k = 122 ↔ k = 122 := rV_eq (c := 122) hk (by decide)
  apply bX8_nameOf_0
  rw [q99, q102, q108, q116, q119, q122]
  unfold nmI nmK at h
  refine ⟨fun e => qi ?_, fun n1 => ⟨fun e => qi ?_, fun n2 => ⟨fun e => qi ?_, fun n3 => ⟨fun e => qi ?_, fun n4 => ⟨fun e => qi ?_, fun n5 => ⟨fun e => qi ?_, fun n6 => qi ?_⟩⟩⟩⟩⟩⟩
  · subst e; exact h
  · subst e; exact h
  · subst e; exact h
  · subst e; exact h
  · subst e; exact h
  · subst e; exact h
  · rw [if_neg n6, if_neg n3, if_neg n5, if_neg n4, if_neg n1, if_neg n2] at h; exact h
def RdM (o j : Nat) : Prop := (o = 57 ∧ 15 ≤ j ∧ j ≤ 18) ∨ ((o = 67 ∨ o = 68) ∧ 130 ≤ j)
def OkM (toks : List Tok) (oo i : Nat) (t : Tt) : Prop := t.1 57 15 = nI i ∧ t.1 57 16 = -1 ∧ t.1 57 17 = nI oo ∧ t.1 57 18 = nI toks.length ∧ AtM t 130 toks
def FlM (L i q : Nat) (t : Tt) : Prop := t.1 57 15 = nI q ∧ t.1 57 16 = nI q ∧ ∃ l, l ≤ L + (q - i) + 1 ∧ t.1 57 18 = nI l
def OutM (toks : List Tok) (oo i : Nat) (z : Rz) (t : Tt) : Prop := (z.1 = true → OkM (toks ++ z.2.2) oo z.2.1 t) ∧ (z.1 = false → FlM toks.length i z.2.1 t)
def InM (T : Tp) (toks : List Tok) (oo i : Nat) (t : Tt) : Prop := tpM t T ∧ i ≤ T.1 ∧ toks.length ≤ i ∧ OkM toks oo i t
theorem tpM.rd {T : Tp} (h : tpM t T) (f : Fr RdM t t1) : tpM t1 T := m_tp h f (fun o j q => by unfold RdM at q; omega)
theorem byt_tab : ∀ k, k < 128 → vp_nar .byte ((nI k).toInt8.toInt32) = nI k := by decide +kernel
def AdM (o j : Nat) : Prop := (o = 57 ∧ j = 18) ∨ ((o = 67 ∨ o = 68) ∧ 130 ≤ j)
theorem AdM_R (o j : Nat) (h : AdM o j) : RdM o j := by unfold AdM at h; unfold RdM; omega
theorem AtM.w57 {b j : Nat} {xs : List Tok} {x : Int32} (h : AtM t b xs) : AtM (pI t 57 j x) b xs := by
  intro i y hy
  rw [pI_o _ _ _ _ (by decide), pI_o _ _ _ _ (by decide)]
  exact h i y hy
theorem sr_add {toks : List Tok} {x : Tok} {p0 p1 : Int32} {P : Tt → Prop} (h18 : t.1 57 18 = nI toks.length) (hl : toks.length < 130) (hat : AtM t 130 toks) (h0 : p0 = nI x.1) (hx : x.1 < 128) (h1 : p1 = vlu x) (k : ∀ t', Fr AdM t t' → t'.1 57 18 = nI (toks ++ [x]).length → AtM t' 130 (toks ++ [x]) → P t') : Rt g d mX8_addStep 0 [some (.ref 57), some (.int p0), some (.int p1)] [] t (QV P) := by
  subst h0 h1
  apply bX8_addStep_0
  simp only [pI_o _ _ _ _ (show (57 : Nat) ≠ 67 by decide), pI_o _ _ _ _ (show (57 : Nat) ≠ 68 by decide), h18]
  rw [show (130 : Int32) = nI 130 from rfl, nI_add, byt_tab _ hx, nI_1, ncl (by omega)]
  refine ⟨vpn (by omega), vpn (by omega), qv (k _ ?_ ?_ (fun i y hy => ?_))⟩
  · exact (((Fr.rf AdM t).pI _ (Or.inr ⟨Or.inl rfl, by omega⟩)).pI _ (Or.inr ⟨Or.inr rfl, by omega⟩)).pI _ (Or.inl ⟨rfl, rfl⟩)
  · rw [pI_s]; congr 1; simp
  · rw [pI_o _ _ _ _ (show 67 ≠ 57 by decide), pI_o _ _ _ _ (show 68 ≠ 57 by decide), pI_o _ _ _ _ (show 67 ≠ 68 by decide), pI_a, pI_a]
    by_cases c : i < toks.length
    · rw [List.getElem?_append_left c] at hy
      have := hat i y hy
      rw [if_neg (by omega), if_neg (by omega), pI_o _ _ _ _ (show 68 ≠ 67 by decide)]
      exact this
    · rw [List.getElem?_append_right (by omega)] at hy
      have h2 := (List.getElem?_eq_some_iff.mp hy).1
      simp at h2
      have e : i = toks.length := by omega
      subst e
      simp at hy
      subst hy
      simp
theorem sr_addw {l : Nat} {p0 p1 : Int32} {P : Tt → Prop} (h18 : t.1 57 18 = nI l) (hl : l < 130) (k : ∀ t', Fr AdM t t' → t'.1 57 18 = nI (l + 1) → P t') : Rt g d mX8_addStep 0 [some (.ref 57), some (.int p0), some (.int p1)] [] t (QV P) := by
  apply bX8_addStep_0
  simp only [pI_o _ _ _ _ (show (57 : Nat) ≠ 67 by decide), pI_o _ _ _ _ (show (57 : Nat) ≠ 68 by decide), h18]
  rw [show (130 : Int32) = nI 130 from rfl, nI_add, nI_1, ncl (by omega)]
  refine ⟨vpn (by omega), vpn (by omega), qv (k _ ?_ (pI_s _ _ _ _))⟩
  exact (((Fr.rf AdM t).pI _ (Or.inr ⟨Or.inl rfl, by omega⟩)).pI _ (Or.inr ⟨Or.inr rfl, by omega⟩)).pI _ (Or.inl ⟨rfl, rfl⟩)
theorem OkM.ad {toks toks' : List Tok} {oo i : Nat} (h : OkM toks oo i t) (f : Fr AdM t t1) (h18 : t1.1 57 18 = nI toks'.length) (hat : AtM t1 130 toks') : OkM toks' oo i t1 :=
  ⟨(f.1 _ _ (by unfold AdM; omega)).trans h.1, (f.1 _ _ (by unfold AdM; omega)).trans h.2.1, (f.1 _ _ (by unfold AdM; omega)).trans h.2.2.1, h18, hat⟩
theorem OkM.here {toks : List Tok} {oo i i' : Nat} (h : OkM toks oo i t) : OkM toks oo i' (pI t 57 15 (nI i')) :=
  ⟨pI_s _ _ _ _, (pI_n _ _ _ (by decide)).trans h.2.1, (pI_n _ _ _ (by decide)).trans h.2.2.1, (pI_n _ _ _ (by decide)).trans h.2.2.2.1, h.2.2.2.2.w57⟩
theorem OkM.opn {toks : List Tok} {oo oo' i : Nat} (h : OkM toks oo i t) : OkM toks oo' i (pI t 57 17 (nI oo')) :=
  ⟨(pI_n _ _ _ (by decide)).trans h.1, (pI_n _ _ _ (by decide)).trans h.2.1, pI_s _ _ _ _, (pI_n _ _ _ (by decide)).trans h.2.2.2.1, h.2.2.2.2.w57⟩
theorem sr_wrong {toks : List Tok} {oo i : Nat} {P : Tt → Prop} (h : OkM toks oo i t) (k : ∀ t', Fr RdM t t' → t'.1 57 15 = nI i → t'.1 57 16 = nI i → t'.1 57 18 = nI toks.length → P t') : Rt g d mX8_wrong 0 [some (.ref 57)] [] t (QV P) := by
  apply bX8_wrong_0
  rw [h.2.1, h.1]
  refine br_f (by decide) (qv (k _ ((Fr.rf RdM t).pI _ (Or.inl (by omega))) ?_ (pI_s _ _ _ _) ?_))
  · rw [pI_n _ _ _ (by decide)]; exact h.1
  · rw [pI_n _ _ _ (by decide)]; exact h.2.2.2.1
def figR (T : Tp) (i : Nat) : Rz := if isD (chr T i) then opN T i else (false, i, [])
theorem sr_figure {T : Tp} {toks : List Tok} {oo i : Nat} {P : Tt → Prop} (hO : TpO T) (hin : InM T toks oo i t) (k : ∀ t', Fr RdM t t' → OutM toks oo i (figR T i) t' → P t') : Rt g (d + 2) mX8_figure 0 [some (.ref 57), none, none] [] t (QV P) := by
  obtain ⟨hT, hi, hlen, hok⟩ := hin
  have h120 := hO.1
  apply bX8_figure_0
  -- what is laid in the end
  have good : ∀ q v t1, Fr RdM t t1 → q ≤ T.1 → OkM toks oo q t1 → (∀ t', Fr RdM t t' → OkM (toks ++ [(1, v)]) oo q t' → P t') → Rt g (d + 2) mX8_figure 74 [some (.ref 57), some (.int (nI v)), none] [] t1 (QV P) := by
    intro q v t1 f1 hq o1 k
    apply bX8_figure_74
    exact sr_add (x := (1, v)) o1.2.2.2.1 (by omega) o1.2.2.2.2 rfl (show 1 < 128 by decide) rfl (fun t2 f2 a1 a2 => qv (k t2 (f1.tr (f2.mo AdM_R)) (o1.ad f2 a1 a2)))
  have badp : ∀ q v t1, Fr RdM t t1 → i ≤ q → q ≤ T.1 → OkM toks oo q t1 → (∀ t', Fr RdM t t' → FlM toks.length i q t' → P t') → Rt g (d + 2) mX8_figure 70 [some (.ref 57), some (.int (nI v)), none] [] t1 (QV P) := by
    intro q v t1 f1 hiq hq o1 k
    apply bX8_figure_70
    refine sr_wrong o1 (fun t2 f2 b1 b2 e18 => ?_)
    apply bX8_figure_74
    refine sr_addw e18 (by omega) (fun t3 f3 a3 => qv (k t3 ((f1.tr f2).tr (f3.mo AdM_R)) ⟨?_, ?_, toks.length + 1, by omega, a3⟩))
    · rw [f3.1 _ _ (by unfold AdM; omega)]; exact b1
    · rw [f3.1 _ _ (by unfold AdM; omega)]; exact b2
  have fin : ∀ c q v t1, c ≤ 4 → (c = 0 → ¬ isD (chr T i) ∧ q = i) → (c ≠ 0 → isD (chr T i)) → nmb T 4 i 0 = (q, v) → Fr RdM t t1 → q ≤ T.1 → i ≤ q → OkM toks oo q t1 → Rt g (d + 2) mX8_figure 52 [some (.ref 57), some (.int (nI v)), some (.int (nI c))] [] t1 (QV P) := by
    intro c q v t1 hc4 h0 h1 en f1 hq hiq o1
    apply bX8_figure_52
    unfold figR at k
    by_cases c0 : c = 0
    · obtain ⟨q1, q2⟩ := h0 c0
      subst q2
      rw [if_neg q1] at k
      refine br_t (by rw [c0]; rfl) (badp q v t1 f1 (Nat.le_refl _) hq o1 (fun t' f' w => k t' f' ⟨fun q => (by cases q), fun _ => w⟩))
    · rw [if_pos (h1 c0)] at k
      unfold opN at k
      rw [en] at k
      have hck := chr_le hO.2 q
      refine br_f (fun w => c0 (nI_inj (b := 0) (by omega) (by decide) w)) (sr_look (hT.rd f1) hO hq o1.1 (sr_dig hck (fun hd => br_f (by decide) ?_) (fun hd => br_t rfl ?_)))
      · rw [if_pos hd] at k
        exact badp q v t1 f1 hiq hq o1 (fun t' f' w => k t' f' ⟨fun q => (by cases q), fun _ => w⟩)
      · rw [if_neg hd] at k
        exact good q v t1 f1 hq o1 (fun t' f' w => k t' f' ⟨fun _ => w, fun q => (by cases q)⟩)
  have key : ∀ f c q v t1, c + f = 4 → (c = 0 → q = i) → (c ≠ 0 → isD (chr T i)) → nmb T 4 i 0 = nmb T f q v → Fr RdM t t1 → q ≤ T.1 → i ≤ q → OkM toks oo q t1 → Rt g (d + 2) mX8_figure 4 [some (.ref 57), some (.int (nI v)), some (.int (nI c))] [] t1 (QV P) := by
    intro f
    induction f with
    | zero =>
      intro c q v t1 hc h0 h1 en f1 hq hiq o1
      have : c = 4 := by omega
      subst this
      apply bX8_figure_4
      exact br_t (nI_le (a := 4) (by omega) (by decide)) (fin 4 q v t1 (by decide) (fun w => by omega) h1 en f1 hq hiq o1)
    | succ f ih =>
      intro c q v t1 hc h0 h1 en f1 hq hiq o1
      have hck := chr_le hO.2 q
      apply bX8_figure_4
      refine br_f (nI_ge (b := 4) (by omega) (by decide)) (sr_look (hT.rd f1) hO hq o1.1 (sr_dig hck (fun hd => br_f (by decide) ?_) (fun hd => br_t rfl ?_)))
      · have es : nmb T (f + 1) q v = nmb T f (q + 1) (10 * v + (chr T q - 48)) := by simp only [nmb]; rw [if_pos hd]
        rw [es] at en
        have hl := chr_lt (T := T) (i := q) (by omega)
        refine sr_look (hT.rd f1) hO hq o1.1 ?_
        intro z9 e9
        have e9' : z9 = nI (10 * v + (chr T q - 48)) := by
          rw [e9, rV_lo (by omega), l10, pk_mul, nI_add, show (48 : Int32) = nI 48 from rfl, pk_sub (by omega)]
          congr 1
          omega
        rw [e9', o1.1, nI_1, nI_1]
        refine ih (c + 1) (q + 1) _ _ (by omega) (fun w => by omega) (fun _ => ?_) en (f1.pI _ (Or.inl (by omega))) hl (by omega) o1.here
        by_cases c0 : c = 0
        · rw [← h0 c0]; exact hd
        · exact h1 c0
      · have es : nmb T (f + 1) q v = (q, v) := by simp only [nmb]; rw [if_neg hd]
        rw [es] at en
        refine fin c q v t1 (by omega) (fun w => ⟨by rw [← h0 w]; exact hd, h0 w⟩) h1 en f1 hq hiq o1
  exact key 4 0 i 0 t rfl (fun _ => rfl) (fun w => absurd rfl w) rfl (Fr.rf _ _) hi (Nat.le_refl _) hok
end P72
