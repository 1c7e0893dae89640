/-! PURE LAYER: the class reads the law's text: bytes, names, steps, numbers -/
section P68
variable {g : Gt} {d : Nat} {t t1 : Tt}
def cV (k : Nat) : Int32 := if k = 256 then -1 else nI k
def rV (k : Nat) : Int32 := if k = 256 then -1 else vp_nar .byte (nI k)
theorem chr_le {T : Tp} (h : ∀ i, i < T.1 → T.2 i < 256) (i : Nat) : chr T i ≤ 256 := by
  unfold chr
  split
  · rename_i c; exact Nat.le_of_lt (h i c)
  · exact Nat.le_refl _
def TpO (T : Tp) : Prop := T.1 ≤ 120 ∧ ∀ i, i < T.1 → T.2 i < 256
theorem cV_i {k : Nat} (h : k ≤ 256) : (cV k).toInt = if k = 256 then -1 else (k : Int) := by
  unfold cV
  split
  · rfl
  · exact tI (by omega)
theorem cV_eq {k c : Nat} (h : k ≤ 256) (hc : c < 128) : cV k = nI c ↔ k = c := by
  rw [← Int32.toInt_inj, cV_i h, tI (by omega)]
  split <;> omega
theorem sp_next {T : Tp} {i : Nat} {P : Int32 → Tt → Prop} (hT : tpC t T) (hO : TpO T) (hi : i ≤ T.1) (hp : t.1 33 3 = nI i) (k : P (cV (chr T i)) t) : Rt g d mX4_next 0 [some (.ref 33)] [] t (QI P) := by
  have h120 := hO.1
  unfold chr cV at k
  apply bX4_next_0
  rw [hT.1, hp]
  by_cases c : i < T.1
  · rw [if_pos c] at k
    refine br_f (nI_ge c (by omega)) ⟨vpn (by omega), qi ?_⟩
    rw [ncl (by omega), hT.2 i c]
    have := hO.2 i c
    rw [if_neg (by omega)] at k
    exact k
  · rw [if_neg c, if_pos rfl] at k
    exact br_t (nI_le (by omega) (by omega)) (qi k)
theorem sp_isDigit {k : Nat} {P : Int32 → Tt → Prop} (hk : k ≤ 256) (k1 : isD k → P 1 t) (k0 : ¬ isD k → P 0 t) : Rt g d mX4_isDigit 0 [some (.int (cV k))] [] t (QI P) := by
  have e := cV_i hk
  have e48 : (48 : Int32).toInt = 48 := rfl
  have e57 : (57 : Int32).toInt = 57 := rfl
  apply bX4_isDigit_0
  refine ⟨fun c => qi (k0 (fun q => ?_)), fun c => ⟨fun c2 => qi (k0 (fun q => ?_)), fun c2 => qi (k1 ?_)⟩⟩
  · rw [lt_i, e, e48, if_neg (by omega)] at c; omega
  · rw [lt_i, e, e57, if_neg (by omega)] at c2; omega
  · rw [lt_i, e, e48] at c
    rw [lt_i, e, e57] at c2
    split at c <;> omega
theorem u16_tab : ∀ k, k < 256 → ((nI k).toUInt32 % 65536).toInt32 = nI k := by decide +kernel
theorem nam_tab : ∀ k, k < 256 → (tabN 0 = (nI k).toInt8.toInt32 ↔ k = 122) ∧ (tabN 1 = (nI k).toInt8.toInt32 ↔ k = 108) ∧ (tabN 2 = (nI k).toInt8.toInt32 ↔ k = 119) ∧ (tabN 3 = (nI k).toInt8.toInt32 ↔ k = 116) ∧ (tabN 4 = (nI k).toInt8.toInt32 ↔ k = 99) ∧ (tabN 5 = (nI k).toInt8.toInt32 ↔ k = 102) := by decide +kernel
def nmI (k : Nat) : Int32 := match nmK k with
  | some j => nI j
  | none => -1
theorem sp_indexOf {k : Nat} {P : Int32 → Tt → Prop} (hk : k < 256) (h : P (nmI k) t) : Rt g (d + 6) mJ0_indexOf_0f7a4 0 [some (.ref 1003), some (.int (nI k))] [] t (QI P) := by
  have len : ∀ {P' : Int32 → Tt → Prop}, P' 6 t → Rt g (d + 4) mJ0_length_8abf5 0 [some (.ref 1003)] [] t (QI P') := fun {P'} q => bJ0_length_8abf5_0 (bJ0_coder_7d493_0 (br_f (by decide) (qi (qi q))))
  apply bJ0_indexOf_0f7a4_0
  apply bJ0_indexOf_7cf53_0
  apply bJ0_isLatin1_aae02_0
  refine br_f (by decide) (br_p rfl (qi (br_f (by decide) (len ?_))))
  apply bJ1_indexOf_4cfef_0
  apply bJ1_canEncode_9a6ad_0
  refine br_f (nI_pos (by omega)) (br_f (nI_nlt (a := 255) (by omega) (by decide)) (qi (br_n (by decide) ?_)))
  intro z4 e4 z5 e5
  have e4 : z4 = nI 0 := e4.trans (by decide)
  have e5 : z5 = 6 := e5.trans (by decide)
  subst e4 e5
  refine br_t (by decide) ?_
  apply bJ1_indexOfChar_4cfef_0
  intro z1 e1
  subst e1
  obtain ⟨a0, a1, a2, a3, a4, a5⟩ := nam_tab k hk
  unfold nmI nmK at h
  have step : ∀ (j : Nat) (c : Nat) (B : Prop), j < 6 → (tabN j = (nI k).toInt8.toInt32 ↔ k = c) → (k = c → P (nI j) t) → (k ≠ c → Rt g (d + 3) mJ1_indexOfChar_4cfef 7 [some (.ref 1004), none, none, some (.int 6), some (.int ((nI k).toInt8.toInt32)), some (.int (nI (j + 1)))] [] t (QI (fun v8 t7 => QI (fun v9 t8 => QI (fun v2 t1 => QI P (some (.int v2)) t1) (some (.int v9)) t8) (some (.int v8)) t7))) → Rt g (d + 3) mJ1_indexOfChar_4cfef 7 [some (.ref 1004), none, none, some (.int 6), some (.int ((nI k).toInt8.toInt32)), some (.int (nI j))] [] t (QI (fun v8 t7 => QI (fun v9 t8 => QI (fun v2 t1 => QI P (some (.int v2)) t1) (some (.int v9)) t8) (some (.int v8)) t7)) := by
    intro j c B hj ht k1 k0
    apply bJ1_indexOfChar_4cfef_7
    refine br_f (nI_ge (b := 6) hj (by decide)) ⟨vpn hj, ?_⟩
    rw [ncl (by omega), ht, nI_1]
    exact ⟨k0, fun e => qi (qi (qi (qi (k1 e))))⟩
  refine step 0 122 True (by decide) a0 (fun e => ?_) (fun n0 => step 1 108 True (by decide) a1 (fun e => ?_) (fun n1 => step 2 119 True (by decide) a2 (fun e => ?_) (fun n2 => step 3 116 True (by decide) a3 (fun e => ?_) (fun n3 => step 4 99 True (by decide) a4 (fun e => ?_) (fun n4 => step 5 102 True (by decide) a5 (fun e => ?_) (fun n5 => bJ1_indexOfChar_4cfef_7 (br_t (by decide) (qi (qi (qi (qi ?_)))))))))))
  · rw [if_pos e] at h; exact h
  · rw [if_neg n0, if_pos e] at h; exact h
  · rw [if_neg n0, if_neg n1, if_pos e] at h; exact h
  · rw [if_neg n0, if_neg n1, if_neg n2, if_pos e] at h; exact h
  · rw [if_neg n0, if_neg n1, if_neg n2, if_neg n3, if_pos e] at h; exact h
  · rw [if_neg n0, if_neg n1, if_neg n2, if_neg n3, if_neg n4, if_pos e] at h; exact h
  · rw [if_neg n0, if_neg n1, if_neg n2, if_neg n3, if_neg n4, if_neg n5] at h; exact h
def AdS (r : Nat) (o j : Nat) : Prop := (o = r ∧ j = 4) ∨ o = r + 1 ∨ o = r + 2
def RdS (r : Nat) (o j : Nat) : Prop := (o = 33 ∧ j = 3) ∨ (o = r ∧ j = 4) ∨ o = r + 1 ∨ o = r + 2
theorem Ad_Rd (r o j : Nat) (h : AdS r o j) : RdS r o j := Or.inr h
theorem sp_add {r : Nat} {code : List (Int32 × Int32)} {p0 p1 : Int32} {P : Tt → Prop} (hr : isLw r) (h4 : t.1 r 4 = nI code.length) (hl : code.length < 128) (hat : At t r 0 code) (k : ∀ t', Fr (AdS r) t t' → t'.1 r 4 = nI (code ++ [(p0, p1)]).length → At t' r 0 (code ++ [(p0, p1)]) → P t') : Rt g d mX3_add 0 [some (.ref r), some (.int p0), some (.int p1)] [] t (QV P) := by
  have hr' := hr
  unfold isLw at hr'
  apply bX3_add_0 hr
  have e1 : (pI t (r + 1) code.length p0).1 r 4 = nI code.length := by rw [pI_o _ _ _ _ (by omega)]; exact h4
  have e2 : (pI (pI t (r + 1) code.length p0) (r + 2) code.length p1).1 r 4 = nI code.length := by rw [pI_o _ _ _ _ (by omega)]; exact e1
  have n1 : (nI code.length).toNatClampNeg = code.length := ncl (by omega)
  rw [h4, n1, e1, n1, e2, nI_1]
  refine br_f (nI_ge (b := 128) hl (by decide)) ⟨vpn hl, vpn hl, qv (k _ ?_ ?_ (fun i x hx => ?_))⟩
  · exact (((Fr.rf (AdS r) t).pI _ (Or.inr (Or.inl rfl))).pI _ (Or.inr (Or.inr rfl))).pI _ (Or.inl ⟨rfl, rfl⟩)
  · rw [pI_s]; congr 1; simp
  · rw [Nat.zero_add, pI_o _ _ _ _ (show r + 1 ≠ r by omega), pI_o _ _ _ _ (show r + 2 ≠ r by omega), pI_o _ _ _ _ (show r + 1 ≠ r + 2 by omega), pI_a, pI_a]
    by_cases c : i < code.length
    · rw [List.getElem?_append_left c] at hx
      have := hat i x hx
      rw [Nat.zero_add] at this
      rw [if_neg (by omega), if_neg (by omega), pI_o _ _ _ _ (show r + 2 ≠ r + 1 by omega)]
      exact this
    · rw [List.getElem?_append_right (by omega)] at hx
      have h2 := (List.getElem?_eq_some_iff.mp hx).1
      simp at h2
      have e : i = code.length := by omega
      subst e
      simp at hx
      subst hx
      simp
theorem sp_addw {r l : Nat} {p0 p1 : Int32} {P : Tt → Prop} (hr : isLw r) (h4 : t.1 r 4 = nI l) (hl : l ≤ 128) (k : ∀ t', Fr (AdS r) t t' → (∃ l', l' ≤ 128 ∧ t'.1 r 4 = nI l') → P t') : Rt g d mX3_add 0 [some (.ref r), some (.int p0), some (.int p1)] [] t (QV P) := by
  have hr' := hr
  unfold isLw at hr'
  apply bX3_add_0 hr
  have e1 : (pI t (r + 1) l p0).1 r 4 = nI l := by rw [pI_o _ _ _ _ (by omega)]; exact h4
  have e2 : (pI (pI t (r + 1) l p0) (r + 2) l p1).1 r 4 = nI l := by rw [pI_o _ _ _ _ (by omega)]; exact e1
  have n1 : (nI l).toNatClampNeg = l := ncl (by omega)
  rw [h4, n1, e1, n1, e2, nI_1]
  by_cases c : l < 128
  · refine br_f (nI_ge (b := 128) c (by decide)) ⟨vpn c, vpn c, qv (k _ ?_ ⟨l + 1, by omega, pI_s _ _ _ _⟩)⟩
    exact (((Fr.rf (AdS r) t).pI _ (Or.inr (Or.inl rfl))).pI _ (Or.inr (Or.inr rfl))).pI _ (Or.inl ⟨rfl, rfl⟩)
  · exact br_t (nI_le (a := 128) (by omega) (by omega)) (qv (k t (Fr.rf _ _) ⟨l, hl, h4⟩))
def OkC (r : Nat) (code : List (Int32 × Int32)) (i : Nat) (t : Tt) : Prop := t.1 33 3 = nI i ∧ t.1 r 4 = nI code.length ∧ At t r 0 code
def FlC (r q : Nat) (t : Tt) : Prop := t.1 33 3 = nI q ∧ ∃ l, l ≤ 128 ∧ t.1 r 4 = nI l
def OutC (T : Tp) (r : Nat) (code : List (Int32 × Int32)) (z : Rz) (v : Int32) (t : Tt) : Prop := (z.1 = true → v = 1 ∧ OkC r (code ++ enc z.2.2) z.2.1 t) ∧ (z.1 = false → (v = 0 ∨ v = 1 ∧ isD (chr T z.2.1)) ∧ FlC r z.2.1 t)
/-- where the class's reader stands -/
def InC (T : Tp) (r : Nat) (code : List (Int32 × Int32)) (i : Nat) (t : Tt) : Prop := isLw r ∧ t.2.2.2 = r ∧ tpC t T ∧ i ≤ T.1 ∧ code.length ≤ i ∧ OkC r code i t
theorem tpC.rd {T : Tp} {r : Nat} (h : tpC t T) (hr : isLw r) (f : Fr (RdS r) t t1) : tpC t1 T := by
  unfold isLw at hr
  exact c_tp h f (fun o j q => by unfold RdS at q; omega)
theorem At.p3 {r b : Nat} {code : List (Int32 × Int32)} {x : Int32} (h : At t r b code) (hr : isLw r) : At (pI t 33 3 x) r b code := by
  unfold isLw at hr
  intro i y hy
  rw [pI_o _ _ _ _ (by omega), pI_o _ _ _ _ (by omega)]
  exact h i y hy
theorem OkC.p3 {r i i' : Nat} {code : List (Int32 × Int32)} (h : OkC r code i t) (hr : isLw r) : OkC r code i' (pI t 33 3 (nI i')) := by
  have hr' := hr
  unfold isLw at hr'
  refine ⟨pI_s _ _ _ _, ?_, h.2.2.p3 hr⟩
  rw [pI_o _ _ _ _ (by omega)]; exact h.2.1
theorem frP3 {r : Nat} (x : Int32) (h : Fr (RdS r) t t1) : Fr (RdS r) t (pI t1 33 3 x) := h.pI _ (Or.inl ⟨rfl, rfl⟩)
theorem OkC.ad {r i : Nat} {code : List (Int32 × Int32)} (h : OkC r code i t) (hr : isLw r) (f : Fr (AdS r) t t1) {code' : List (Int32 × Int32)} (h4 : t1.1 r 4 = nI code'.length) (hat : At t1 r 0 code') : OkC r code' i t1 := by
  unfold isLw at hr
  exact ⟨(f.1 _ _ (by unfold AdS; omega)).trans h.1, h4, hat⟩
theorem FlC.ad {r q : Nat} (h : FlC r q t) (hr : isLw r) (f : Fr (AdS r) t t1) (h4 : ∃ l, l ≤ 128 ∧ t1.1 r 4 = nI l) : FlC r q t1 := by
  unfold isLw at hr
  exact ⟨(f.1 _ _ (by unfold AdS; omega)).trans h.1, h4⟩
theorem sp_readNumber {T : Tp} {r i : Nat} {code : List (Int32 × Int32)} {P : Tt → Prop} (hT : TpO T) (h : InC T r code i t) (k : ∀ t', Fr (RdS r) t t' → OkC r (code ++ [(0, nI (nmb T 4 i 0).2)]) (nmb T 4 i 0).1 t' → P t') : Rt g (d + 2) mX4_readNumber 0 [some (.ref 33), none, none] [] t (QV P) := by
  obtain ⟨hr, h2, h3, h4, h5, h6⟩ := h
  have hr' := hr
  unfold isLw at hr'
  have h120 := hT.1
  apply bX4_readNumber_0
  have fin : ∀ q v t1, q ≤ T.1 → Fr (RdS r) t t1 → OkC r code q t1 → (∀ t', Fr (RdS r) t t' → OkC r (code ++ [(0, nI v)]) q t' → P t') → Rt g (d + 2) mX4_readNumber 48 [some (.ref 33), some (.int (nI v)), none] [] t1 (QV P) := by
    intro q v t1 hq f1 o1 k
    apply bX4_readNumber_48
    have e2 : t1.2.2.2 = r := by rw [f1.2]; exact h2
    rw [e2]
    refine ⟨hr, sp_add hr o1.2.1 (by omega) o1.2.2 (fun t2 f2 q1 q2 => qv (k t2 (f1.tr (f2.mo (Ad_Rd r))) (o1.ad hr f2 q1 q2)))⟩
  have key : ∀ f c i v t1, c + f = 4 → i ≤ T.1 → Fr (RdS r) t t1 → OkC r code i t1 → (∀ t', Fr (RdS r) t t' → OkC r (code ++ [(0, nI (nmb T f i v).2)]) (nmb T f i v).1 t' → P t') → Rt g (d + 2) mX4_readNumber 4 [some (.ref 33), some (.int (nI v)), some (.int (nI c))] [] t1 (QV P) := by
    intro f
    induction f with
    | zero =>
      intro c i v t1 hc hi f1 o1 k
      have : c = 4 := by omega
      subst this
      apply bX4_readNumber_4
      exact br_t (nI_le (a := 4) (by omega) (by decide)) (fin i v t1 hi f1 o1 k)
    | succ f ih =>
      intro c i v t1 hc hi f1 o1 k
      have hck := chr_le hT.2 i
      apply bX4_readNumber_4
      refine br_f (nI_ge (b := 4) (by omega) (by decide)) ?_
      refine sp_next (h3.rd hr f1) hT hi o1.1 (sp_isDigit hck (fun hd => br_f (by decide) ?_) (fun hd => br_t rfl ?_))
      · have es : nmb T (f + 1) i v = nmb T f (i + 1) (10 * v + (chr T i - 48)) := by simp only [nmb]; rw [if_pos hd]
        rw [es] at k
        have hl := chr_lt (T := T) (i := i) (by omega)
        refine sp_next (h3.rd hr f1) hT hi o1.1 ?_
        intro z9 e9
        have e9' : z9 = nI (10 * v + (chr T i - 48)) := by
          rw [e9, show cV (chr T i) = nI (chr T i) from if_neg (by omega), l10, pk_mul, nI_add, show (48 : Int32) = nI 48 from rfl, pk_sub (by omega)]
          congr 1
          omega
        rw [e9', o1.1, nI_1, nI_1]
        exact ih (c + 1) (i + 1) _ _ (by omega) hl (frP3 _ f1) (o1.p3 hr) k
      · have es : nmb T (f + 1) i v = (i, v) := by simp only [nmb]; rw [if_neg hd]
        rw [es] at k
        exact fin i v t1 hi f1 o1 k
  exact key 4 0 i 0 t rfl h4 (Fr.rf _ _) h6 k
end P68
