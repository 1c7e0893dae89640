/-! PURE LAYER: the reference reads lines and the whole text -/
section P74
variable {g : Gt} {d : Nat} {t t1 : Tt} {a : Aa}
def ptk : Prog → List Tok
  | [] => []
  | (te, va) :: r => te ++ va ++ ptk r
theorem ptk_app (p q : Prog) : ptk (p ++ q) = ptk p ++ ptk q := by
  induction p with
  | nil => simp [ptk]
  | cons x p ih => obtain ⟨te, va⟩ := x; simp [ptk, ih]
theorem ptk_len (p : Prog) : (ptk p).length = mlen p := by
  induction p with
  | nil => rfl
  | cons x p ih => obtain ⟨te, va⟩ := x; simp only [ptk, mlen, List.length_append, ih]
def LnN (t : Tt) : Nat → Nat → Prog → Prop
  | _, _, [] => True
  | l, s, (te, va) :: r => t.1 70 (61 + l) = nI (s + te.length) ∧ t.1 71 (61 + l) = nI (s + te.length + va.length) ∧ LnN t (l + 1) (s + te.length + va.length) r
theorem LnN.cg : ∀ (p : Prog) (l s : Nat), (∀ q, l ≤ q → q < l + p.length → t1.1 70 (61 + q) = t.1 70 (61 + q) ∧ t1.1 71 (61 + q) = t.1 71 (61 + q)) → LnN t l s p → LnN t1 l s p := by
  intro p
  induction p with
  | nil => intro l s _ _; trivial
  | cons x p ih =>
    intro l s hq h
    obtain ⟨te, va⟩ := x
    have h0 := hq l (Nat.le_refl _) (by simp)
    exact ⟨h0.1.trans h.1, h0.2.trans h.2.1, ih _ _ (fun q q1 q2 => hq q (by omega) (by simp at q2 ⊢; omega)) h.2.2⟩
theorem LnN.snoc : ∀ (p : Prog) (l s : Nat) (te va : List Tok), LnN t l s p → t.1 70 (61 + (l + p.length)) = nI (s + mlen p + te.length) → t.1 71 (61 + (l + p.length)) = nI (s + mlen p + te.length + va.length) → LnN t l s (p ++ [(te, va)]) := by
  intro p
  induction p with
  | nil => intro l s te va _ h1 h2; exact ⟨h1, h2, trivial⟩
  | cons x p ih =>
    intro l s te va h h1 h2
    obtain ⟨te', va'⟩ := x
    refine ⟨h.1, h.2.1, ih _ _ _ _ h.2.2 ?_ ?_⟩
    · simp only [mlen, List.length_cons] at h1
      rw [show l + 1 + p.length = l + (p.length + 1) by omega, h1]
      congr 1; omega
    · simp only [mlen, List.length_cons] at h2
      rw [show l + 1 + p.length = l + (p.length + 1) by omega, h2]
      congr 1; omega
theorem sho_tab : ∀ k, k < 300 → vp_nar .short ((nI k).toInt16.toInt32) = nI k ∧ vp_nar .short (nI k) = nI k := by decide +kernel
theorem byt2_tab : ∀ k, k < 128 → vp_nar .byte (nI k) = nI k := by decide +kernel
def RdX (o j : Nat) : Prop := RdM o j ∨ (o = 69 ∧ j = 1) ∨ ((o = 70 ∨ o = 71) ∧ 61 ≤ j)
theorem RdM_X (o j : Nat) (h : RdM o j) : RdX o j := Or.inl h
def LiF (L : Nat) (o j : Nat) : Prop := RdM o j ∨ (o = 69 ∧ j = 1) ∨ ((o = 70 ∨ o = 71) ∧ j = 61 + L)
theorem LiF_X (L o j : Nat) (h : LiF L o j) : RdX o j := by
  rcases h with q | q | q
  · exact Or.inl q
  · exact Or.inr (Or.inl q)
  · exact Or.inr (Or.inr ⟨q.1, by omega⟩)
theorem AtM.oth {b o j : Nat} {xs : List Tok} {x : Int32} (h : AtM t b xs) (h1 : o ≠ 67) (h2 : o ≠ 68) : AtM (pI t o j x) b xs := by
  intro i y hy
  rw [pI_o _ _ _ _ (Ne.symm h1), pI_o _ _ _ _ (Ne.symm h2)]
  exact h i y hy
theorem OkM.oth {toks : List Tok} {oo i o j : Nat} {x : Int32} (h : OkM toks oo i t) (h0 : o ≠ 57) (h1 : o ≠ 67) (h2 : o ≠ 68) : OkM toks oo i (pI t o j x) := by
  refine ⟨?_, ?_, ?_, ?_, h.2.2.2.2.oth h1 h2⟩
  · rw [pI_o _ _ _ _ (Ne.symm h0)]; exact h.1
  · rw [pI_o _ _ _ _ (Ne.symm h0)]; exact h.2.1
  · rw [pI_o _ _ _ _ (Ne.symm h0)]; exact h.2.2.1
  · rw [pI_o _ _ _ _ (Ne.symm h0)]; exact h.2.2.2.1
/-- behind a line -/
def OutN (toks : List Tok) (L : Nat) (z : Rl) (t : Tt) : Prop := (z.1 = true → OkM (toks ++ (z.2.2.1 ++ z.2.2.2)) 0 z.2.1 t ∧ t.1 69 1 = nI (L + 1) ∧ t.1 70 (61 + L) = nI (toks.length + z.2.2.1.length) ∧ t.1 71 (61 + L) = nI (toks.length + z.2.2.1.length + z.2.2.2.length)) ∧ (z.1 = false → t.1 57 15 = nI z.2.1 ∧ t.1 57 16 = nI z.2.1)
theorem tpM.rx {T : Tp} {L : Nat} (h : tpM t T) (f : Fr (LiF L) t t1) : tpM t1 T := m_tp h f (fun o j q => by unfold LiF RdM at q; omega)
theorem rs_line {T : Tp} {ex : Nat → Rz} {toks : List Tok} {i L : Nat} {P : Tt → Prop} (hO : TpO T) (hs : Sp T ex) (h : RS T 0 ex (fun t P => Rt g d mX8_either 0 [some (.ref 57)] [] t (QV P))) (hin : InM T toks 0 i t) (hL : L ≤ 60) (h69 : t.1 69 1 = nI L) (k : ∀ t', Fr (LiF L) t t' → OutN toks L (lnR T ex i) t' → P t') : Rt g (d + 1) mX8_line 0 [some (.ref 57), none] [] t (QV P) := by
  have hin' := hin
  obtain ⟨hT, hi, hlen, hok⟩ := hin'
  have h120 := hO.1
  apply bX8_line_0
  intro z1 e1
  rw [h69, show (61 : Int32) = nI 61 from rfl, nI_add] at e1
  subst e1
  have n1 : (nI (61 + L)).toNatClampNeg = 61 + L := ncl (by omega)
  rw [hok.2.2.2.1, (sho_tab toks.length (by omega)).1, n1]
  refine ⟨vpn (by omega), ?_⟩
  have f0 : Fr (LiF L) t (pI t 70 (61 + L) (nI toks.length)) := (Fr.rf (LiF L) t).pI _ (Or.inr (Or.inr ⟨Or.inl rfl, rfl⟩))
  have hin0 : InM T toks 0 i (pI t 70 (61 + L) (nI toks.length)) := ⟨hT.rx f0, hi, hlen, hok.oth (by decide) (by decide) (by decide)⟩
  refine h _ _ _ _ hin0 (fun t2 f2 o2 => ?_)
  have f02 := f0.tr (f2.mo (fun o j q => Or.inl q))
  have hsp := hs i hi
  have e70 : t2.1 70 (61 + L) = nI toks.length := by rw [f2.1 _ _ (by unfold RdM; omega), pI_s]
  have e69 : t2.1 69 1 = nI L := by rw [f2.1 _ _ (by unfold RdM; omega), pI_o _ _ _ _ (by decide)]; exact h69
  -- the line's end
  have bad : ∀ q t3, (lnR T ex i).1 = false → (lnR T ex i).2.1 = q → Fr (LiF L) t t3 → t3.1 57 15 = nI q → t3.1 57 16 = nI q → Rt g (d + 1) mX8_line 66 [some (.ref 57), some (.int (nI (61 + L)))] [] t3 (QV P) := by
    intro q t3 hz hq f3 b1 b2
    apply bX8_line_66
    rw [n1]
    refine ⟨vpn (by omega), qv (k _ ((f3.pI _ (Or.inr (Or.inr ⟨Or.inr rfl, rfl⟩))).pI _ (Or.inr (Or.inl ⟨rfl, rfl⟩))) ⟨fun w => (by rw [hz] at w; cases w), fun _ => ?_⟩)⟩
    rw [hq, pI_o _ _ _ _ (show 57 ≠ 69 by decide), pI_o _ _ _ _ (show 57 ≠ 71 by decide)]
    exact ⟨b1, b2⟩
  have good : ∀ q te va t3, lnR T ex i = (true, q, (te, va)) → q ≤ T.1 → toks.length + te.length + va.length ≤ q → Fr (LiF L) t t3 → OkM (toks ++ (te ++ va)) 0 q t3 → t3.1 70 (61 + L) = nI (toks.length + te.length) → t3.1 69 1 = nI L → Rt g (d + 1) mX8_line 66 [some (.ref 57), some (.int (nI (61 + L)))] [] t3 (QV P) := by
    intro q te va t3 el hq hlen f3 o3 b1 b2
    have elen : (toks ++ (te ++ va)).length = toks.length + te.length + va.length := by rw [List.length_append, List.length_append]; omega
    apply bX8_line_66
    rw [n1, o3.2.2.2.1, elen, (sho_tab _ (by omega)).1, pI_o _ _ _ _ (show 69 ≠ 71 by decide), b2, nI_1]
    refine ⟨vpn (by omega), qv (k _ ((f3.pI _ (Or.inr (Or.inr ⟨Or.inr rfl, rfl⟩))).pI _ (Or.inr (Or.inl ⟨rfl, rfl⟩))) ?_)⟩
    rw [el]
    refine ⟨fun _ => ⟨(o3.oth (by decide) (by decide) (by decide)).oth (by decide) (by decide) (by decide), pI_s _ _ _ _, ?_, ?_⟩, fun w => (by cases w)⟩
    · rw [pI_o _ _ _ _ (by decide), pI_o _ _ _ _ (by decide)]; exact b1
    · rw [pI_o _ _ _ _ (by decide)]; exact pI_s _ _ _ _
  cases hz : (ex i).1 with
  | false =>
    obtain ⟨b1, b2, -⟩ := o2.2 hz
    have el : lnR T ex i = (false, (ex i).2.1, ([], [])) := by unfold lnR; rw [if_neg (by rw [hz]; decide)]
    have := hsp.2.1
    rw [b2]
    exact br_t (nI_pos' (by omega)) (bad _ t2 (by rw [el]) (by rw [el]) f02 b1 b2)
  | true =>
    have q := o2.1 hz
    obtain ⟨w1, w2, w3⟩ := hsp.2.2 hz
    have hpl := hsp.2.1
    have hcz := chr_le hO.2 (ex i).2.1
    have q63 : rV (chr T (ex i).2.1) = 63 ↔ chr T (ex i).2.1 = 63 := rV_eq (c := 63) hcz (by decide)
    rw [q.2.1]
    refine br_f (by decide) (sr_look (hT.rx f02) hO hpl q.1 ?_)
    rw [q63]
    refine ⟨fun n63 => ?_, fun e63 => ⟨vpn (by omega), ?_⟩⟩
    · have el : lnR T ex i = (true, (ex i).2.1, ([], (ex i).2.2)) := by unfold lnR; rw [if_pos hz, if_neg n63]
      exact good _ [] (ex i).2.2 t2 el hpl (by simp; omega) f02 q e70 e69
    · have hl := chr_lt (T := T) (i := (ex i).2.1) (by omega)
      have elen : (toks ++ (ex i).2.2).length = toks.length + (ex i).2.2.length := List.length_append
      rw [q.1, nI_1, pI_n _ _ _ (show 18 ≠ 15 by decide), q.2.2.2.1, elen, (sho_tab _ (by omega)).1]
      have f2' : Fr (LiF L) t (pI t2 57 15 (nI ((ex i).2.1 + 1))) := f02.pI _ (Or.inl (Or.inl ⟨rfl, by omega⟩))
      have f3' : Fr (LiF L) t (pI (pI t2 57 15 (nI ((ex i).2.1 + 1))) 70 (61 + L) (nI (toks.length + (ex i).2.2.length))) := f2'.pI _ (Or.inr (Or.inr ⟨Or.inl rfl, rfl⟩))
      have hin2 : InM T (toks ++ (ex i).2.2) 0 ((ex i).2.1 + 1) (pI (pI t2 57 15 (nI ((ex i).2.1 + 1))) 70 (61 + L) (nI (toks.length + (ex i).2.2.length))) := ⟨hT.rx f3', hl, by rw [elen]; omega, (q.here).oth (by decide) (by decide) (by decide)⟩
      refine h _ _ _ _ hin2 (fun t4 f4 o4 => ?_)
      have f04 := f3'.tr (f4.mo (fun o j q => Or.inl q))
      have hsp2 := hs ((ex i).2.1 + 1) hl
      have g70 : t4.1 70 (61 + L) = nI (toks.length + (ex i).2.2.length) := by rw [f4.1 _ _ (by unfold RdM; omega), pI_s]
      have g69 : t4.1 69 1 = nI L := by rw [f4.1 _ _ (by unfold RdM; omega), pI_o _ _ _ _ (by decide), pI_o _ _ _ _ (by decide)]; exact e69
      cases hz2 : (ex ((ex i).2.1 + 1)).1 with
      | false =>
        obtain ⟨b1, b2, -⟩ := o4.2 hz2
        have el : lnR T ex i = (false, (ex ((ex i).2.1 + 1)).2.1, ([], [])) := by unfold lnR; rw [if_pos hz, if_pos e63, if_neg (by rw [hz2]; decide)]
        exact bad _ t4 (by rw [el]) (by rw [el]) f04 b1 b2
      | true =>
        have q4 := o4.1 hz2
        obtain ⟨x1, x2, x3⟩ := hsp2.2.2 hz2
        have el : lnR T ex i = (true, (ex ((ex i).2.1 + 1)).2.1, ((ex i).2.2, (ex ((ex i).2.1 + 1)).2.2)) := by unfold lnR; rw [if_pos hz, if_pos e63, if_pos hz2]
        refine good _ (ex i).2.2 (ex ((ex i).2.1 + 1)).2.2 t4 el hsp2.2.1 (by omega) f04 ?_ g70 g69
        rw [← List.append_assoc]
        exact q4
/-- behind lines -/
def OutY (z : Rt3) (t : Tt) : Prop := (z.1 = true → OkM (ptk z.2.2) 0 z.2.1 t ∧ t.1 69 1 = nI z.2.2.length ∧ LnN t 0 0 z.2.2) ∧ (z.1 = false → t.1 57 15 = nI z.2.1 ∧ t.1 57 16 = nI z.2.1)
theorem OutN.Y {p : Prog} {z : Rl} (h : OutN (ptk p) p.length z t1) (hl : LnN t 0 0 p) (f : Fr (LiF p.length) t t1) : OutY (cml p z) t1 := by
  unfold cml
  cases hz : z.1 with
  | true =>
    rw [if_pos rfl]
    obtain ⟨h1, h2, h3, h4⟩ := h.1 hz
    refine ⟨fun _ => ⟨?_, ?_, ?_⟩, fun w => (by cases w)⟩
    · show OkM (ptk (p ++ [z.2.2])) 0 z.2.1 t1
      rw [ptk_app]
      have e : ptk [z.2.2] = z.2.2.1 ++ z.2.2.2 := by obtain ⟨a, b, c, d⟩ := z; simp [ptk]
      rw [e]; exact h1
    · show t1.1 69 1 = nI (p ++ [z.2.2]).length
      rw [h2]; congr 1; simp
    · show LnN t1 0 0 (p ++ [z.2.2])
      have hl1 : LnN t1 0 0 p := LnN.cg p 0 0 (fun q q1 q2 => ⟨f.1 _ _ (by unfold LiF RdM; omega), f.1 _ _ (by unfold LiF RdM; omega)⟩) hl
      rw [ptk_len] at h3 h4
      obtain ⟨a, b, te, va⟩ := z
      refine LnN.snoc p 0 0 te va hl1 ?_ ?_
      · rw [Nat.zero_add, Nat.zero_add]; exact h3
      · rw [Nat.zero_add, Nat.zero_add]; exact h4
  | false =>
    rw [if_neg (by decide)]
    exact ⟨fun w => (by cases w), fun _ => h.2 hz⟩
theorem rs_exT {T : Tp} (hO : TpO T) : RS T 0 (exT T) (fun t P => Rt g (d + 45) mX8_either 0 [some (.ref 57)] [] t (QV P)) := rs_ex (d := d + 40) hO (opd_Sp T 6) (rs_operand hO 6 d 0 rfl)
theorem sr_lines31 {T : Tp} {P : Int32 → Tt → Prop} (hO : TpO T) (hT : tpM t T) : ∀ f z t1, 120 ≤ f + z.2.1 → SpT T z → Fr RdX t t1 → OutY z t1 → (∀ t', Fr RdX t t' → OutY (txL T (lnR T (exT T)) f z) t' → Rt g (d + 47) mX8_readText 64 [some (.ref 57), some (.int 0), none] [] t' (QI P)) → Rt g (d + 47) mX8_readText 31 [some (.ref 57), some (.int 0), none] [] t1 (QI P) := by
  have h120 := hO.1
  have rx : ∀ t1, Fr RdX t t1 → tpM t1 T := fun t1 f => m_tp hT f (fun o j q => by unfold RdX RdM at q; omega)
  intro f
  induction f with
  | zero =>
    intro z t1 hf hsp f1 ho k
    have k := k t1 f1 ho
    have hcz := chr_le hO.2 z.2.1
    have c256 : chr T z.2.1 = 256 := by unfold chr; rw [if_neg (by omega)]
    have q59 : rV (chr T z.2.1) = 59 ↔ chr T z.2.1 = 59 := rV_eq (c := 59) hcz (by decide)
    have hpl : t1.1 57 15 = nI z.2.1 := by
      cases hz : z.1 with
      | true => exact (ho.1 hz).1.1
      | false => exact (ho.2 hz).1
    apply bX8_readText_31
    exact ⟨fun _ => k, fun _ => sr_look (rx t1 f1) hO hsp.1 hpl (br_n (fun e => by have := q59.mp e; omega) k)⟩
  | succ f ih =>
    intro z t1 hf hsp f1 ho k
    have hcz := chr_le hO.2 z.2.1
    have q59 : rV (chr T z.2.1) = 59 ↔ chr T z.2.1 = 59 := rV_eq (c := 59) hcz (by decide)
    have es : txL T (lnR T (exT T)) (f + 1) z = if z.1 = true ∧ chr T z.2.1 = 59 then txL T (lnR T (exT T)) f (cml z.2.2 (lnR T (exT T) (z.2.1 + 1))) else z := by rw [txL]
    rw [es] at k
    apply bX8_readText_31
    cases hz : z.1 with
    | false =>
      rw [if_neg (fun w => by rw [hz] at w; cases w.1)] at k
      have := hsp.1
      rw [(ho.2 hz).2]
      exact br_t (nI_pos' (by omega)) (k t1 f1 ho)
    | true =>
      obtain ⟨o1, o2, o3⟩ := ho.1 hz
      rw [o1.2.1]
      refine br_f (by decide) (sr_look (rx t1 f1) hO hsp.1 o1.1 ?_)
      rw [q59]
      refine ⟨fun n59 => ?_, fun e59 => ?_⟩
      · rw [if_neg (fun w => n59 w.2)] at k
        exact k t1 f1 ho
      · rw [if_pos ⟨hz, e59⟩] at k
        have hl := chr_lt (T := T) (i := z.2.1) (by omega)
        obtain ⟨w1, w2, w3, w4, w5⟩ := hsp.2 hz
        rw [o1.1, nI_1]
        have f1' : Fr RdX t (pI t1 57 15 (nI (z.2.1 + 1))) := f1.pI _ (Or.inl (Or.inl ⟨rfl, by omega⟩))
        have hin : InM T (ptk z.2.2) 0 (z.2.1 + 1) (pI t1 57 15 (nI (z.2.1 + 1))) := ⟨rx _ f1', hl, by rw [ptk_len]; omega, o1.here⟩
        have hspn := cml_Sp (lnR_Sp (exT_Sp T) hl) w1 w3 (by omega) w5
        refine rs_line (d := d + 45) (L := z.2.2.length) hO (exT_Sp T) (rs_exT (d := d) hO) hin (by omega) (by rw [pI_o _ _ _ _ (by decide)]; exact o2) (fun t2 f2 on => ?_)
        refine ih _ t2 ?_ hspn (f1'.tr (f2.mo (LiF_X _))) (OutN.Y on (LnN.cg z.2.2 0 0 (fun q q1 q2 => ⟨by rw [pI_o _ _ _ _ (by decide)], by rw [pI_o _ _ _ _ (by decide)]⟩) o3) f2) k
        have : z.2.1 + 1 ≤ (lnR T (exT T) (z.2.1 + 1)).2.1 := (lnR_Sp (exT_Sp T) hl).1
        unfold cml
        split
        · show 120 ≤ f + (lnR T (exT T) (z.2.1 + 1)).2.1; omega
        · show 120 ≤ f + (lnR T (exT T) (z.2.1 + 1)).2.1; omega
end P74
