/-! PURE LAYER: the reference reads the law's text: all E -/
section P73
variable {g : Gt} {d : Nat} {t t1 : Tt}
theorem OutM.pl {toks : List Tok} {oo i : Nat} {z : Rz} (h : OutM toks oo i z t) : t.1 57 15 = nI z.2.1 := by
  cases hz : z.1 with
  | true => exact (h.1 hz).1
  | false => exact (h.2 hz).1
theorem sr_cadd {T : Tp} {toks ts : List Tok} {oo i p k : Nat} {z : Rz} {p0 : Int32} {P : Tt → Prop} (hO : TpO T) (h : OutM (toks ++ ts) oo (p + 1) z t) (hsp : SpR T (p + 1) z) (hip : ts.length + i ≤ p) (htl : toks.length ≤ i) (h0 : p0 = nI k) (hk : k < 128) (hk1 : k ≠ 1) (hk2 : k ≠ 2) (K : ∀ t', Fr AdM t t' → OutM toks oo i (cmb ts k z) t' → P t') : Rt g d mX8_addStep 0 [some (.ref 57), some (.int p0), some (.int 0)] [] t (QV P) := by
  have h120 := hO.1
  obtain ⟨s1, s2, s3⟩ := hsp
  unfold cmb at K
  cases hz : z.1 with
  | true =>
    rw [if_pos hz] at K
    have q := h.1 hz
    obtain ⟨e1, e2, e3⟩ := s3 hz
    have hv : (0 : Int32) = vlu (k, 0) := by unfold vlu; rw [if_neg (by omega)]
    refine sr_add (x := (k, 0)) q.2.2.2.1 ?_ q.2.2.2.2 h0 hk hv (fun t1 f1 a1 a2 => K t1 f1 ⟨fun _ => ?_, fun w => (by cases w)⟩)
    · rw [List.length_append, List.length_append]; omega
    · have e : toks ++ ts ++ z.2.2 ++ [(k, 0)] = toks ++ (ts ++ z.2.2 ++ [(k, 0)]) := by simp
      rw [e] at a1 a2
      exact q.ad f1 a1 a2
  | false =>
    rw [if_neg (by rw [hz]; decide)] at K
    obtain ⟨q1, q2, l, q3, q4⟩ := h.2 hz
    rw [List.length_append] at q3
    refine sr_addw q4 (by omega) (fun t1 f1 a1 => K t1 f1 ⟨fun w => (by cases w), fun _ => ⟨?_, ?_, l + 1, ?_, a1⟩⟩)
    · rw [f1.1 _ _ (by unfold AdM; omega)]; exact q1
    · rw [f1.1 _ _ (by unfold AdM; omega)]; exact q2
    · show l + 1 ≤ toks.length + (z.2.1 - i) + 1
      omega
def RS (T : Tp) (oo : Nat) (op : Nat → Rz) (call : Tt → (Tt → Prop) → Prop) : Prop := ∀ t toks i P, InM T toks oo i t → (∀ t', Fr RdM t t' → OutM toks oo i (op i) t' → P t') → call t P
theorem lp_st {T : Tp} {sub : Nat → Rz} {op : Nat → Bool} {z : Rz} (h : ¬ (z.1 = true ∧ op (chr T z.2.1) = true)) : ∀ f, lp T sub op f z = z := by
  intro f
  cases f with
  | zero => rfl
  | succ f => exact lp_n h
theorem InM.go {T : Tp} {toks : List Tok} {oo i : Nat} {z : Rz} (hin : InM T toks oo i t) (f1 : Fr RdM t t1) (hz : z.1 = true) (hsp : SpR T i z) (ho : OutM toks oo i z t1) (hl : z.2.1 < T.1) : InM T (toks ++ z.2.2) oo (z.2.1 + 1) (pI t1 57 15 (nI (z.2.1 + 1))) := by
  obtain ⟨hT, hi, hlen, hok⟩ := hin
  obtain ⟨e1, e2, e3⟩ := hsp.2.2 hz
  refine ⟨hT.rd (f1.pI _ (Or.inl (by omega))), hl, ?_, (ho.1 hz).here⟩
  rw [List.length_append]; omega
theorem frM {j : Nat} (x : Int32) (h : Fr RdM t t1) (hj : 15 ≤ j ∧ j ≤ 18) : Fr RdM t (pI t1 57 j x) := h.pI _ (Or.inl ⟨rfl, hj⟩)

theorem rs_product {T : Tp} {op : Nat → Rz} {oo : Nat} (hO : TpO T) (hs : Sp T op) (h : RS T oo op (fun t P => Rt g d mX8_operand 0 [some (.ref 57), none] [] t (QV P))) : RS T oo (prF T op) (fun t P => Rt g (d + 1) mX8_product 0 [some (.ref 57), none] [] t (QV P)) := by
  intro t toks i P hin k
  have hin' := hin
  obtain ⟨hT, hi, hlen, hok⟩ := hin'
  have h120 := hO.1
  have key : ∀ f z t1, 120 ≤ f + z.2.1 → SpR T i z → Fr RdM t t1 → OutM toks oo i z t1 → (∀ t', Fr RdM t t' → OutM toks oo i (lp T op iqP f z) t' → P t') → Rt g (d + 1) mX8_product 4 [some (.ref 57), none] [] t1 (QV P) := by
    intro f
    induction f with
    | zero =>
      intro z t1 hf hsp f1 ho k
      have k := k t1 f1 ho
      have hck := chr_le hO.2 z.2.1
      have c256 : chr T z.2.1 = 256 := by unfold chr; rw [if_neg (by omega)]
      apply bX8_product_4
      refine ⟨fun _ => qv k, fun _ => ?_⟩
      have q42 : rV (chr T z.2.1) = 42 ↔ chr T z.2.1 = 42 := rV_eq (c := 42) hck (by decide)
      have q47 : rV (chr T z.2.1) = 47 ↔ chr T z.2.1 = 47 := rV_eq (c := 47) hck (by decide)
      have q37 : rV (chr T z.2.1) = 37 ↔ chr T z.2.1 = 37 := rV_eq (c := 37) hck (by decide)
      exact sr_look (hT.rd f1) hO hsp.2.1 ho.pl (br_f (fun e => by have := q42.mp e; omega) (sr_look (hT.rd f1) hO hsp.2.1 ho.pl (br_f (fun e => by have := q47.mp e; omega) (sr_look (hT.rd f1) hO hsp.2.1 ho.pl (br_n (fun e => by have := q37.mp e; omega) (qv k))))))
    | succ f ih =>
      intro z t1 hf hsp f1 ho k
      have hck := chr_le hO.2 z.2.1
      have q42 : rV (chr T z.2.1) = 42 ↔ chr T z.2.1 = 42 := rV_eq (c := 42) hck (by decide)
      have q47 : rV (chr T z.2.1) = 47 ↔ chr T z.2.1 = 47 := rV_eq (c := 47) hck (by decide)
      have q37 : rV (chr T z.2.1) = 37 ↔ chr T z.2.1 = 37 := rV_eq (c := 37) hck (by decide)
      apply bX8_product_4
      by_cases hop : z.1 = true ∧ iqP (chr T z.2.1) = true
      · have hisop := iqP_op _ hop.2
        have hlt := isOp_lt hisop
        have hge := isOp_ge hisop
        have hl := chr_lt (T := T) (i := z.2.1) (by omega)
        have hgo := hin.go f1 hop.1 hsp ho hl
        have hsp2 := hs (z.2.1 + 1) hl
        obtain ⟨e1, e2, e3⟩ := hsp.2.2 hop.1
        rw [lp_y hop.1 hop.2] at k
        have hspn : SpR T i (cmb z.2.2 (chr T z.2.1) (op (z.2.1 + 1))) := cmb_Sp hsp2 hsp.1 e3 (fun xs hx => WE.bin e2 hx hisop)
        have hpl2 : 120 ≤ f + (cmb z.2.2 (chr T z.2.1) (op (z.2.1 + 1))).2.1 := by
          have := hsp2.1
          unfold cmb
          split
          · show 120 ≤ f + (op (z.2.1 + 1)).2.1; omega
          · show 120 ≤ f + (op (z.2.1 + 1)).2.1; omega
        have hop2 := of_decide_eq_true hop.2
        rw [(ho.1 hop.1).2.1]
        refine br_f (by decide) ?_
        have A : Rt g (d + 1) mX8_product 38 [some (.ref 57), none] [] t1 (QV P) := by
          apply bX8_product_38
          refine sr_look (hT.rd f1) hO hsp.2.1 ho.pl ?_
          rw [ho.pl, nI_1]
          refine h _ _ _ _ hgo (fun t2 f2 o2 => ?_)
          refine sr_cadd (k := chr T z.2.1) hO o2 hsp2 e3 hlen (rV_lo hlt) hlt (by omega) (by omega) (fun t3 f3 o3 => ?_)
          have f12 : Fr RdM t t2 := (frM _ f1 (by omega)).tr f2
          exact ih _ t3 hpl2 hspn (f12.tr (f3.mo AdM_R)) o3 k
        exact sr_look (hT.rd f1) hO hsp.2.1 ho.pl ⟨fun _ => A, fun e0 => (have e0' : ¬ chr T z.2.1 = 42 := fun w => e0 (q42.mpr w); sr_look (hT.rd f1) hO hsp.2.1 ho.pl ⟨fun _ => A, fun e1 => (have e1' : ¬ chr T z.2.1 = 47 := fun w => e1 (q47.mpr w); sr_look (hT.rd f1) hO hsp.2.1 ho.pl ⟨fun e => by exfalso; have e' : ¬ chr T z.2.1 = 37 := fun w => e (q37.mpr w); omega, fun _ => A⟩)⟩)⟩
      · rw [lp_n hop] at k
        have k := k t1 f1 ho
        refine ⟨fun _ => qv k, fun hz0 => ?_⟩
        have hz : z.1 = true := by
          cases hz : z.1 with
          | true => rfl
          | false => rw [(ho.2 hz).2.1] at hz0; exact absurd (nI_pos' (by have := hsp.2.1; omega)) hz0
        have hno : ¬ (chr T z.2.1 = 42 ∨ chr T z.2.1 = 47 ∨ chr T z.2.1 = 37) := fun w => hop ⟨hz, decide_eq_true (by omega)⟩
        exact sr_look (hT.rd f1) hO hsp.2.1 ho.pl (br_f (fun e => hno (by have := q42.mp e; omega)) (sr_look (hT.rd f1) hO hsp.2.1 ho.pl (br_f (fun e => hno (by have := q47.mp e; omega)) (sr_look (hT.rd f1) hO hsp.2.1 ho.pl (br_n (fun e => hno (by have := q37.mp e; omega)) (qv k))))))
  apply bX8_product_0
  exact h t toks i _ hin (fun t1 f1 o1 => key 120 (op i) t1 (by omega) (hs i hi) f1 o1 k)
theorem rs_sum {T : Tp} {op : Nat → Rz} {oo : Nat} (hO : TpO T) (hs : Sp T op) (h : RS T oo op (fun t P => Rt g d mX8_product 0 [some (.ref 57), none] [] t (QV P))) : RS T oo (suF T op) (fun t P => Rt g (d + 1) mX8_sum 0 [some (.ref 57), none] [] t (QV P)) := by
  intro t toks i P hin k
  have hin' := hin
  obtain ⟨hT, hi, hlen, hok⟩ := hin'
  have h120 := hO.1
  have key : ∀ f z t1, 120 ≤ f + z.2.1 → SpR T i z → Fr RdM t t1 → OutM toks oo i z t1 → (∀ t', Fr RdM t t' → OutM toks oo i (lp T op iqS f z) t' → P t') → Rt g (d + 1) mX8_sum 4 [some (.ref 57), none] [] t1 (QV P) := by
    intro f
    induction f with
    | zero =>
      intro z t1 hf hsp f1 ho k
      have k := k t1 f1 ho
      have hck := chr_le hO.2 z.2.1
      have c256 : chr T z.2.1 = 256 := by unfold chr; rw [if_neg (by omega)]
      apply bX8_sum_4
      refine ⟨fun _ => qv k, fun _ => ?_⟩
      have q43 : rV (chr T z.2.1) = 43 ↔ chr T z.2.1 = 43 := rV_eq (c := 43) hck (by decide)
      have q45 : rV (chr T z.2.1) = 45 ↔ chr T z.2.1 = 45 := rV_eq (c := 45) hck (by decide)
      exact sr_look (hT.rd f1) hO hsp.2.1 ho.pl (br_f (fun e => by have := q43.mp e; omega) (sr_look (hT.rd f1) hO hsp.2.1 ho.pl (br_n (fun e => by have := q45.mp e; omega) (qv k))))
    | succ f ih =>
      intro z t1 hf hsp f1 ho k
      have hck := chr_le hO.2 z.2.1
      have q43 : rV (chr T z.2.1) = 43 ↔ chr T z.2.1 = 43 := rV_eq (c := 43) hck (by decide)
      have q45 : rV (chr T z.2.1) = 45 ↔ chr T z.2.1 = 45 := rV_eq (c := 45) hck (by decide)
      apply bX8_sum_4
      by_cases hop : z.1 = true ∧ iqS (chr T z.2.1) = true
      · have hisop := iqS_op _ hop.2
        have hlt := isOp_lt hisop
        have hge := isOp_ge hisop
        have hl := chr_lt (T := T) (i := z.2.1) (by omega)
        have hgo := hin.go f1 hop.1 hsp ho hl
        have hsp2 := hs (z.2.1 + 1) hl
        obtain ⟨e1, e2, e3⟩ := hsp.2.2 hop.1
        rw [lp_y hop.1 hop.2] at k
        have hspn : SpR T i (cmb z.2.2 (chr T z.2.1) (op (z.2.1 + 1))) := cmb_Sp hsp2 hsp.1 e3 (fun xs hx => WE.bin e2 hx hisop)
        have hpl2 : 120 ≤ f + (cmb z.2.2 (chr T z.2.1) (op (z.2.1 + 1))).2.1 := by
          have := hsp2.1
          unfold cmb
          split
          · show 120 ≤ f + (op (z.2.1 + 1)).2.1; omega
          · show 120 ≤ f + (op (z.2.1 + 1)).2.1; omega
        have hop2 := of_decide_eq_true hop.2
        rw [(ho.1 hop.1).2.1]
        refine br_f (by decide) ?_
        have A : Rt g (d + 1) mX8_sum 29 [some (.ref 57), none] [] t1 (QV P) := by
          apply bX8_sum_29
          refine sr_look (hT.rd f1) hO hsp.2.1 ho.pl ?_
          rw [ho.pl, nI_1]
          refine h _ _ _ _ hgo (fun t2 f2 o2 => ?_)
          refine sr_cadd (k := chr T z.2.1) hO o2 hsp2 e3 hlen (rV_lo hlt) hlt (by omega) (by omega) (fun t3 f3 o3 => ?_)
          have f12 : Fr RdM t t2 := (frM _ f1 (by omega)).tr f2
          exact ih _ t3 hpl2 hspn (f12.tr (f3.mo AdM_R)) o3 k
        exact sr_look (hT.rd f1) hO hsp.2.1 ho.pl ⟨fun _ => A, fun e0 => (have e0' : ¬ chr T z.2.1 = 43 := fun w => e0 (q43.mpr w); sr_look (hT.rd f1) hO hsp.2.1 ho.pl ⟨fun e => by exfalso; have e' : ¬ chr T z.2.1 = 45 := fun w => e (q45.mpr w); omega, fun _ => A⟩)⟩
      · rw [lp_n hop] at k
        have k := k t1 f1 ho
        refine ⟨fun _ => qv k, fun hz0 => ?_⟩
        have hz : z.1 = true := by
          cases hz : z.1 with
          | true => rfl
          | false => rw [(ho.2 hz).2.1] at hz0; exact absurd (nI_pos' (by have := hsp.2.1; omega)) hz0
        have hno : ¬ (chr T z.2.1 = 43 ∨ chr T z.2.1 = 45) := fun w => hop ⟨hz, decide_eq_true (by omega)⟩
        exact sr_look (hT.rd f1) hO hsp.2.1 ho.pl (br_f (fun e => hno (by have := q43.mp e; omega)) (sr_look (hT.rd f1) hO hsp.2.1 ho.pl (br_n (fun e => hno (by have := q45.mp e; omega)) (qv k))))
  apply bX8_sum_0
  exact h t toks i _ hin (fun t1 f1 o1 => key 120 (op i) t1 (by omega) (hs i hi) f1 o1 k)
theorem rs_both {T : Tp} {op : Nat → Rz} {oo : Nat} (hO : TpO T) (hs : Sp T op) (h : RS T oo op (fun t P => Rt g d mX8_compared 0 [some (.ref 57), none] [] t (QV P))) : RS T oo (alF T op) (fun t P => Rt g (d + 1) mX8_both 0 [some (.ref 57)] [] t (QV P)) := by
  intro t toks i P hin k
  have hin' := hin
  obtain ⟨hT, hi, hlen, hok⟩ := hin'
  have h120 := hO.1
  have key : ∀ f z t1, 120 ≤ f + z.2.1 → SpR T i z → Fr RdM t t1 → OutM toks oo i z t1 → (∀ t', Fr RdM t t' → OutM toks oo i (lp T op iqA f z) t' → P t') → Rt g (d + 1) mX8_both 4 [some (.ref 57)] [] t1 (QV P) := by
    intro f
    induction f with
    | zero =>
      intro z t1 hf hsp f1 ho k
      have k := k t1 f1 ho
      have hck := chr_le hO.2 z.2.1
      have c256 : chr T z.2.1 = 256 := by unfold chr; rw [if_neg (by omega)]
      apply bX8_both_4
      refine ⟨fun _ => qv k, fun _ => ?_⟩
      have q38 : rV (chr T z.2.1) = 38 ↔ chr T z.2.1 = 38 := rV_eq (c := 38) hck (by decide)
      exact sr_look (hT.rd f1) hO hsp.2.1 ho.pl (br_n (fun e => by have := q38.mp e; omega) (qv k))
    | succ f ih =>
      intro z t1 hf hsp f1 ho k
      have hck := chr_le hO.2 z.2.1
      have q38 : rV (chr T z.2.1) = 38 ↔ chr T z.2.1 = 38 := rV_eq (c := 38) hck (by decide)
      apply bX8_both_4
      by_cases hop : z.1 = true ∧ iqA (chr T z.2.1) = true
      · have hisop := iqA_op _ hop.2
        have hlt := isOp_lt hisop
        have hge := isOp_ge hisop
        have hl := chr_lt (T := T) (i := z.2.1) (by omega)
        have hgo := hin.go f1 hop.1 hsp ho hl
        have hsp2 := hs (z.2.1 + 1) hl
        obtain ⟨e1, e2, e3⟩ := hsp.2.2 hop.1
        rw [lp_y hop.1 hop.2] at k
        have hspn : SpR T i (cmb z.2.2 (chr T z.2.1) (op (z.2.1 + 1))) := cmb_Sp hsp2 hsp.1 e3 (fun xs hx => WE.bin e2 hx hisop)
        have hpl2 : 120 ≤ f + (cmb z.2.2 (chr T z.2.1) (op (z.2.1 + 1))).2.1 := by
          have := hsp2.1
          unfold cmb
          split
          · show 120 ≤ f + (op (z.2.1 + 1)).2.1; omega
          · show 120 ≤ f + (op (z.2.1 + 1)).2.1; omega
        have hop2 := of_decide_eq_true hop.2
        rw [(ho.1 hop.1).2.1]
        refine br_f (by decide) ?_
        · refine sr_look (hT.rd f1) hO hsp.2.1 ho.pl (br_p (q38.mpr hop2) ?_)
          rw [ho.pl, nI_1]
          refine h _ _ _ _ hgo (fun t2 f2 o2 => ?_)
          refine sr_cadd (k := chr T z.2.1) hO o2 hsp2 e3 hlen (by rw [hop2]; rfl) hlt (by omega) (by omega) (fun t3 f3 o3 => ?_)
          have f12 : Fr RdM t t2 := (frM _ f1 (by omega)).tr f2
          exact ih _ t3 hpl2 hspn (f12.tr (f3.mo AdM_R)) o3 k
      · rw [lp_n hop] at k
        have k := k t1 f1 ho
        refine ⟨fun _ => qv k, fun hz0 => ?_⟩
        have hz : z.1 = true := by
          cases hz : z.1 with
          | true => rfl
          | false => rw [(ho.2 hz).2.1] at hz0; exact absurd (nI_pos' (by have := hsp.2.1; omega)) hz0
        have hno : ¬ (chr T z.2.1 = 38) := fun w => hop ⟨hz, decide_eq_true (by omega)⟩
        exact sr_look (hT.rd f1) hO hsp.2.1 ho.pl (br_n (fun e => hno (by have := q38.mp e; omega)) (qv k))
  apply bX8_both_0
  exact h t toks i _ hin (fun t1 f1 o1 => key 120 (op i) t1 (by omega) (hs i hi) f1 o1 k)
theorem rs_either {T : Tp} {op : Nat → Rz} {oo : Nat} (hO : TpO T) (hs : Sp T op) (h : RS T oo op (fun t P => Rt g d mX8_both 0 [some (.ref 57)] [] t (QV P))) : RS T oo (anF T op) (fun t P => Rt g (d + 1) mX8_either 0 [some (.ref 57)] [] t (QV P)) := by
  intro t toks i P hin k
  have hin' := hin
  obtain ⟨hT, hi, hlen, hok⟩ := hin'
  have h120 := hO.1
  have key : ∀ f z t1, 120 ≤ f + z.2.1 → SpR T i z → Fr RdM t t1 → OutM toks oo i z t1 → (∀ t', Fr RdM t t' → OutM toks oo i (lp T op iqO f z) t' → P t') → Rt g (d + 1) mX8_either 4 [some (.ref 57)] [] t1 (QV P) := by
    intro f
    induction f with
    | zero =>
      intro z t1 hf hsp f1 ho k
      have k := k t1 f1 ho
      have hck := chr_le hO.2 z.2.1
      have c256 : chr T z.2.1 = 256 := by unfold chr; rw [if_neg (by omega)]
      apply bX8_either_4
      refine ⟨fun _ => qv k, fun _ => ?_⟩
      have q124 : rV (chr T z.2.1) = 124 ↔ chr T z.2.1 = 124 := rV_eq (c := 124) hck (by decide)
      exact sr_look (hT.rd f1) hO hsp.2.1 ho.pl (br_n (fun e => by have := q124.mp e; omega) (qv k))
    | succ f ih =>
      intro z t1 hf hsp f1 ho k
      have hck := chr_le hO.2 z.2.1
      have q124 : rV (chr T z.2.1) = 124 ↔ chr T z.2.1 = 124 := rV_eq (c := 124) hck (by decide)
      apply bX8_either_4
      by_cases hop : z.1 = true ∧ iqO (chr T z.2.1) = true
      · have hisop := iqO_op _ hop.2
        have hlt := isOp_lt hisop
        have hge := isOp_ge hisop
        have hl := chr_lt (T := T) (i := z.2.1) (by omega)
        have hgo := hin.go f1 hop.1 hsp ho hl
        have hsp2 := hs (z.2.1 + 1) hl
        obtain ⟨e1, e2, e3⟩ := hsp.2.2 hop.1
        rw [lp_y hop.1 hop.2] at k
        have hspn : SpR T i (cmb z.2.2 (chr T z.2.1) (op (z.2.1 + 1))) := cmb_Sp hsp2 hsp.1 e3 (fun xs hx => WE.bin e2 hx hisop)
        have hpl2 : 120 ≤ f + (cmb z.2.2 (chr T z.2.1) (op (z.2.1 + 1))).2.1 := by
          have := hsp2.1
          unfold cmb
          split
          · show 120 ≤ f + (op (z.2.1 + 1)).2.1; omega
          · show 120 ≤ f + (op (z.2.1 + 1)).2.1; omega
        have hop2 := of_decide_eq_true hop.2
        rw [(ho.1 hop.1).2.1]
        refine br_f (by decide) ?_
        · refine sr_look (hT.rd f1) hO hsp.2.1 ho.pl (br_p (q124.mpr hop2) ?_)
          rw [ho.pl, nI_1]
          refine h _ _ _ _ hgo (fun t2 f2 o2 => ?_)
          refine sr_cadd (k := chr T z.2.1) hO o2 hsp2 e3 hlen (by rw [hop2]; rfl) hlt (by omega) (by omega) (fun t3 f3 o3 => ?_)
          have f12 : Fr RdM t t2 := (frM _ f1 (by omega)).tr f2
          exact ih _ t3 hpl2 hspn (f12.tr (f3.mo AdM_R)) o3 k
      · rw [lp_n hop] at k
        have k := k t1 f1 ho
        refine ⟨fun _ => qv k, fun hz0 => ?_⟩
        have hz : z.1 = true := by
          cases hz : z.1 with
          | true => rfl
          | false => rw [(ho.2 hz).2.1] at hz0; exact absurd (nI_pos' (by have := hsp.2.1; omega)) hz0
        have hno : ¬ (chr T z.2.1 = 124) := fun w => hop ⟨hz, decide_eq_true (by omega)⟩
        exact sr_look (hT.rd f1) hO hsp.2.1 ho.pl (br_n (fun e => hno (by have := q124.mp e; omega)) (qv k))
  apply bX8_either_0
  exact h t toks i _ hin (fun t1 f1 o1 => key 120 (op i) t1 (by omega) (hs i hi) f1 o1 k)
theorem rs_compared {T : Tp} {op : Nat → Rz} {oo : Nat} (hO : TpO T) (hs : Sp T op) (h : RS T oo op (fun t P => Rt g d mX8_sum 0 [some (.ref 57), none] [] t (QV P))) : RS T oo (coF T op) (fun t P => Rt g (d + 1) mX8_compared 0 [some (.ref 57), none] [] t (QV P)) := by
  intro t toks i P hin k
  have hin' := hin
  obtain ⟨hT, hi, hlen, hok⟩ := hin'
  have h120 := hO.1
  apply bX8_compared_0
  refine h t toks i _ hin (fun t1 f1 ho => ?_)
  have hsp := hs i hi
  unfold coF at k
  generalize op i = z at ho hsp k
  have hck := chr_le hO.2 z.2.1
  have q60 : rV (chr T z.2.1) = 60 ↔ chr T z.2.1 = 60 := rV_eq (c := 60) hck (by decide)
  have q61 : rV (chr T z.2.1) = 61 ↔ chr T z.2.1 = 61 := rV_eq (c := 61) hck (by decide)
  have q62 : rV (chr T z.2.1) = 62 ↔ chr T z.2.1 = 62 := rV_eq (c := 62) hck (by decide)
  refine sr_look (hT.rd f1) hO hsp.2.1 ho.pl ?_
  by_cases hop : z.1 = true ∧ iqC (chr T z.2.1) = true
  · have hisop := iqC_op _ hop.2
    have hlt := isOp_lt hisop
    have hge := isOp_ge hisop
    have hl := chr_lt (T := T) (i := z.2.1) (by omega)
    have hgo := hin.go f1 hop.1 hsp ho hl
    have hsp2 := hs (z.2.1 + 1) hl
    obtain ⟨e1, e2, e3⟩ := hsp.2.2 hop.1
    rw [lp_y hop.1 hop.2] at k
    have hop2 := of_decide_eq_true hop.2
    have A : Rt g (d + 1) mX8_compared 35 [some (.ref 57), some (.int (rV (chr T z.2.1)))] [] t1 (QV P) := by
      apply bX8_compared_35
      rw [ho.pl, nI_1]
      refine h _ _ _ _ hgo (fun t2 f2 o2 => ?_)
      refine sr_cadd (k := chr T z.2.1) hO o2 hsp2 e3 hlen (rV_lo hlt) hlt (by omega) (by omega) (fun t3 f3 o3 => qv ?_)
      have f12 : Fr RdM t t2 := (frM _ f1 (by omega)).tr f2
      exact k t3 (f12.tr (f3.mo AdM_R)) o3
    rw [(ho.1 hop.1).2.1]
    refine br_f (by decide) ?_
    rw [q60, q61, q62]
    exact ⟨fun _ => A, fun n0 => ⟨fun _ => A, fun n1 => ⟨fun _ => A, fun n2 => by exfalso; omega⟩⟩⟩
  · rw [lp_n hop] at k
    have k := k t1 f1 ho
    refine ⟨fun _ => qv k, fun hz0 => ?_⟩
    have hz : z.1 = true := by
      cases hz : z.1 with
      | true => rfl
      | false => rw [(ho.2 hz).2.1] at hz0; exact absurd (nI_pos' (by have := hsp.2.1; omega)) hz0
    have hno : ¬ (chr T z.2.1 = 60 ∨ chr T z.2.1 = 61 ∨ chr T z.2.1 = 62) := fun w => hop ⟨hz, decide_eq_true (by omega)⟩
    rw [q60, q61, q62]
    exact ⟨fun e => absurd (by omega) hno, fun n0 => ⟨fun e => absurd (by omega) hno, fun n1 => ⟨fun e => absurd (by omega) hno, fun n2 => qv k⟩⟩⟩
theorem rs_ex {T : Tp} {op : Nat → Rz} {oo : Nat} (hO : TpO T) (hs : Sp T op) (h : RS T oo op (fun t P => Rt g d mX8_operand 0 [some (.ref 57), none] [] t (QV P))) : RS T oo (exF T op) (fun t P => Rt g (d + 5) mX8_either 0 [some (.ref 57)] [] t (QV P)) :=
  rs_either hO (alF_Sp (coF_Sp (suF_Sp (prF_Sp hs)))) (rs_both hO (coF_Sp (suF_Sp (prF_Sp hs))) (rs_compared hO (suF_Sp (prF_Sp hs)) (rs_sum hO (prF_Sp hs) (rs_product hO hs h))))
theorem sr_opStart {T : Tp} {toks : List Tok} {oo i : Nat} {P : Tt → Prop} (hO : TpO T) (hin : InM T toks oo i t) (kn : ∀ k, nmK (chr T i) = some k → ∀ t', Fr RdM t t' → OutM toks oo i (true, i + 1, [(2, k)]) t' → P t') (k33 : nmK (chr T i) = none → chr T i = 33 → Rt g (d + 3) mX8_operand 46 [some (.ref 57), some (.int 33)] [] t (QV P)) (k45 : nmK (chr T i) = none → chr T i = 45 → Rt g (d + 3) mX8_operand 46 [some (.ref 57), some (.int 45)] [] t (QV P)) (k40 : nmK (chr T i) = none → chr T i = 40 → Rt g (d + 2) mX8_opens 0 [some (.ref 57)] [] t (QI (fun v11 t10 => (¬ v11 = 0 → Rt g (d + 2) mX8_either 0 [some (.ref 57)] [] t10 (QV (fun t13 => ((t13.1 57 16) < 0 → Rt g (d + 2) mX8_look 0 [some (.ref 57)] [] t13 (QI (fun v16 t15 => (v16 = 41 → QV P none (pI (pI t15 57 15 ((t15.1 57 15) + 1)) 57 17 (((pI t15 57 15 ((t15.1 57 15) + 1)).1 57 17) - 1))) ∧ (¬ v16 = 41 → Rt g (d + 2) mX8_wrong 0 [some (.ref 57)] [] t15 (QV (fun t18 => QV P none t18)))))) ∧ (¬ (t13.1 57 16) < 0 → QV P none t13)))) ∧ (v11 = 0 → QV P none t10)))) (kf : nmK (chr T i) = none → chr T i ≠ 33 → chr T i ≠ 45 → chr T i ≠ 40 → ∀ t', Fr RdM t t' → OutM toks oo i (figR T i) t' → P t') : Rt g (d + 3) mX8_operand 0 [some (.ref 57), none] [] t (QV P) := by
  have hin' := hin
  obtain ⟨hT, hi, hlen, hok⟩ := hin'
  have h120 := hO.1
  have hck := chr_le hO.2 i
  have q33 : rV (chr T i) = 33 ↔ chr T i = 33 := rV_eq (c := 33) hck (by decide)
  have q45 : rV (chr T i) = 45 ↔ chr T i = 45 := rV_eq (c := 45) hck (by decide)
  have q40 : rV (chr T i) = 40 ↔ chr T i = 40 := rV_eq (c := 40) hck (by decide)
  apply bX8_operand_0
  refine sr_look hT hO hi hok.1 (sr_nameOf hck ?_)
  cases hn : nmK (chr T i) with
  | some k =>
    have hk := nmK_lt hn
    have e : nmI (chr T i) = nI k := by unfold nmI; rw [hn]
    rw [e]
    refine br_f (nI_pos (by omega)) (sr_nameOf hck ?_)
    rw [e]
    have hl := chr_lt (T := T) (i := i) (by omega)
    refine sr_add (x := (2, k)) hok.2.2.2.1 (by omega) hok.2.2.2.2 rfl (show 2 < 128 by decide) rfl (fun t2 f2 a1 a2 => qv ?_)
    have o2 := hok.ad f2 a1 a2
    rw [o2.1, nI_1]
    exact kn k hn _ (frM _ (f2.mo AdM_R) (by omega)) ⟨fun _ => o2.here, fun w => (by cases w)⟩
  | none =>
    have e : nmI (chr T i) = -1 := by unfold nmI; rw [hn]
    rw [e]
    refine br_t (by decide) ⟨fun c => ?_, fun n33 => ⟨fun n45 => ⟨fun n40 => ?_, fun c => k40 hn (q40.mp c)⟩, fun c => ?_⟩⟩
    · rw [c]; exact k33 hn (q33.mp c)
    · exact sr_figure (d := d) hO hin (fun t' f' o' => qv (kf hn (fun w => n33 (q33.mpr w)) (fun w => n45 (q45.mpr w)) (fun w => n40 (q40.mpr w)) t' f' o'))
    · rw [c]; exact k45 hn (q45.mp c)
theorem sr_opens {T : Tp} {toks : List Tok} {oo i : Nat} {P : Int32 → Tt → Prop} (hO : TpO T) (hin : InM T toks oo i t) (ho6 : oo ≤ 6) (k1 : oo < 6 → P 1 (pI (pI t 57 17 (nI (oo + 1))) 57 15 (nI (i + 1)))) (k0 : oo = 6 → ∀ t', Fr RdM t t' → OutM toks oo i (false, i, []) t' → P 0 t') : Rt g (d + 1) mX8_opens 0 [some (.ref 57)] [] t (QI P) := by
  obtain ⟨hT, hi, hlen, hok⟩ := hin
  apply bX8_opens_0
  rw [hok.2.2.1]
  by_cases c : oo = 6
  · refine br_p (by rw [c]; rfl) (sr_wrong hok (fun t' f' b1 b2 b3 => qi (k0 c t' f' ⟨fun w => (by cases w), fun _ => ⟨b1, b2, toks.length, by omega, b3⟩⟩)))
  · refine br_n (fun w => c (nI_inj (b := 6) (by omega) (by decide) w)) (qi ?_)
    rw [nI_1, pI_n _ _ _ (show 15 ≠ 17 by decide), hok.1, nI_1]
    exact k1 (by omega)
theorem opd_no {T : Tp} {m i : Nat} (hn : nmK (chr T i) = none) : opd T (m + 1) i = if isD (chr T i) then opN T i else if chr T i = 40 then prn T (exF T (opd T m) (i + 1)) else if chr T i = 33 then cmb [] 3 (opd T m (i + 1)) else if chr T i = 45 then cmb [] 4 (opd T m (i + 1)) else (false, i, []) := by
  rw [opd]
  rw [hn]
theorem opd_no0 {T : Tp} {i : Nat} (hn : nmK (chr T i) = none) : opd T 0 i = if isD (chr T i) then opN T i else (false, i, []) := by
  rw [opd]
  rw [hn]
theorem opd_so {T : Tp} {m i k : Nat} (hn : nmK (chr T i) = some k) : opd T m i = (true, i + 1, [(2, k)]) := by
  have := (nmK_lt hn).2.2
  cases m with
  | zero => rw [opd, if_neg this, hn]
  | succ m => rw [opd, if_neg this, hn]
theorem rs_operand {T : Tp} (hO : TpO T) : ∀ (m d oo : Nat), oo + m = 6 → RS T oo (opd T m) (fun t P => Rt g (d + 6 * m + 4) mX8_operand 0 [some (.ref 57), none] [] t (QV P)) := by
  intro m
  induction m with
  | zero =>
    intro d oo ho t toks i P hin k
    have : oo = 6 := by omega
    subst this
    have h46 : ∀ x : Int32, ¬ isD (chr T i) → nmK (chr T i) = none → Rt g (d + 4) mX8_operand 46 [some (.ref 57), some (.int x)] [] t (QV P) := by
      intro x hd hn
      rw [opd_no0 hn, if_neg hd] at k
      apply bX8_operand_46
      exact sr_opens (d := d + 2) hO hin (by decide) (fun w => by omega) (fun _ t' f' o' => br_p rfl (qv (k t' f' o')))
    refine sr_opStart (d := d + 1) hO hin (fun kk hn t' f' o' => ?_) (fun hn hc => h46 33 (by omega) hn) (fun hn hc => h46 45 (by omega) hn) (fun hn hc => ?_) (fun hn n1 n2 n3 t' f' o' => ?_)
    · rw [opd_so hn] at k; exact k t' f' o'
    · rw [opd_no0 hn, if_neg (by omega)] at k
      exact sr_opens (d := d + 2) hO hin (by decide) (fun w => by omega) (fun _ t' f' o' => br_p rfl (qv (k t' f' o')))
    · rw [opd_no0 hn] at k
      exact k t' f' o'
  | succ m ih =>
    intro d oo ho t toks i P hin k
    have hin' := hin
    obtain ⟨hT, hi, hlen, hok⟩ := hin'
    have h120 := hO.1
    have ed : d + 6 * (m + 1) + 4 = d + 6 * m + 7 + 3 := by omega
    rw [ed]
    have nxt' : i < T.1 → InM T toks (oo + 1) (i + 1) (pI (pI t 57 17 (nI (oo + 1))) 57 15 (nI (i + 1))) := fun hl => ⟨hT.rd (frM _ (frM _ (Fr.rf _ t) (by omega)) (by omega)), hl, by omega, hok.opn.here⟩
    have fn : Fr RdM t (pI (pI t 57 17 (nI (oo + 1))) 57 15 (nI (i + 1))) := frM _ (frM _ (Fr.rf _ t) (by omega)) (by omega)
    -- a one-place sign
    have un : ∀ (c tk : Nat) (x : Int32), chr T i = c → c < 128 → (tk = 3 ∧ x = 33 ∨ tk = 4 ∧ x = 45) → (∀ t', Fr RdM t t' → OutM toks oo i (cmb [] tk (opd T m (i + 1))) t' → P t') → Rt g (d + 6 * m + 7 + 3) mX8_operand 46 [some (.ref 57), some (.int x)] [] t (QV P) := by
      intro c tk x hc hc128 htk k
      have hl := chr_lt (T := T) (i := i) (by omega)
      apply bX8_operand_46
      refine sr_opens (d := d + 6 * m + 8) hO hin (by omega) (fun _ => br_n (by decide) ?_) (fun w => by omega)
      refine (ih (d + 5) (oo + 1) (by omega)) _ _ _ (fun t4 => _) (nxt' hl) (fun t4 f4 o4 => ?_) |>.dp (by omega)
      have hsp := opd_Sp T m (i + 1) hl
      have f04 := fn.tr f4
      have o5 : OutM (toks ++ []) oo (i + 1) (opd T m (i + 1)) (pI t4 57 17 ((t4.1 57 17) - 1)) := by
        rw [List.append_nil]
        refine ⟨fun hz => ?_, fun hz => ?_⟩
        · have q := o4.1 hz
          rw [q.2.2.1, nI_pred]
          exact q.opn
        · obtain ⟨b1, b2, l, b3, b4⟩ := o4.2 hz
          exact ⟨(pI_n _ _ _ (by decide)).trans b1, (pI_n _ _ _ (by decide)).trans b2, l, b3, (pI_n _ _ _ (by decide)).trans b4⟩
      have e80 : ∀ s0 : Int32, s0 = nI tk → Rt g (d + 6 * m + 7 + 3) mX8_operand 80 [none, none] [.int s0, .ref 57] (pI t4 57 17 ((t4.1 57 17) - 1)) (QV P) := by
        intro s0 hs0
        apply bX8_operand_80
        exact sr_cadd (k := tk) hO o5 hsp (by simp) hlen hs0 (by omega) (by omega) (by omega) (fun t6 f6 o6 => qv (k t6 ((frM _ f04 (by omega)).tr (f6.mo AdM_R)) o6))
      rcases htk with ⟨h1, h2⟩ | ⟨h1, h2⟩
      · subst h2; exact ⟨fun w => absurd rfl w, fun _ => e80 3 (by rw [h1]; rfl)⟩
      · subst h2; exact ⟨fun _ => e80 4 (by rw [h1]; rfl), fun w => absurd w (by decide)⟩
    refine sr_opStart (d := d + 6 * m + 7) hO hin (fun kk hn t' f' o' => ?_) (fun hn hc => ?_) (fun hn hc => ?_) (fun hn hc => ?_) (fun hn n1 n2 n3 t' f' o' => ?_)
    · rw [opd_so hn] at k; exact k t' f' o'
    · rw [opd_no hn, if_neg (by omega), if_neg (by omega), if_pos hc] at k
      exact un 33 3 33 hc (by decide) (Or.inl ⟨rfl, rfl⟩) k
    · rw [opd_no hn, if_neg (by omega), if_neg (by omega), if_neg (by omega), if_pos hc] at k
      exact un 45 4 45 hc (by decide) (Or.inr ⟨rfl, rfl⟩) k
    · rw [opd_no hn, if_neg (by omega), if_pos hc] at k
      have hl := chr_lt (T := T) (i := i) (by omega)
      refine sr_opens (d := d + 6 * m + 8) hO hin (by omega) (fun _ => br_n (by decide) ?_) (fun w => by omega)
      have hrs := rs_ex (g := g) (d := d + 6 * m + 4) hO (opd_Sp T m) (ih d (oo + 1) (by omega))
      refine hrs _ _ _ _ (nxt' hl) (fun t4 f4 o4 => ?_)
      have hsp := exF_Sp (opd_Sp T m) (i + 1) hl
      generalize exF T (opd T m) (i + 1) = z at o4 hsp k
      have f04 := fn.tr f4
      have hcz := chr_le hO.2 z.2.1
      have q41 : rV (chr T z.2.1) = 41 ↔ chr T z.2.1 = 41 := rV_eq (c := 41) hcz (by decide)
      unfold prn at k
      cases hz : z.1 with
      | true =>
        have q := o4.1 hz
        obtain ⟨e1, e2, e3⟩ := hsp.2.2 hz
        have hsp2 := hsp.2.1
        rw [q.2.1]
        refine br_t (by decide) (sr_look (hT.rd f04) hO hsp2 q.1 ?_)
        rw [q41]
        refine ⟨fun e41 => qv ?_, fun n41 => ?_⟩
        · rw [if_pos ⟨hz, e41⟩] at k
          rw [q.1, nI_1, pI_n _ _ _ (show 17 ≠ 15 by decide), q.2.2.1, nI_pred]
          exact k _ (frM _ (frM _ f04 (by omega)) (by omega)) ⟨fun _ => q.here.opn, fun w => (by cases w)⟩
        · rw [if_neg (fun w => n41 w.2)] at k
          refine sr_wrong q (fun t5 f5 b1 b2 b3 => qv (k t5 (f04.tr f5) ⟨fun w => (by cases w), fun _ => ⟨b1, b2, _, ?_, b3⟩⟩))
          show (toks ++ z.2.2).length ≤ toks.length + (z.2.1 - i) + 1
          rw [List.length_append]; omega
      | false =>
        rw [if_neg (fun w => by rw [hz] at w; cases w.1)] at k
        obtain ⟨b1, b2, l, b3, b4⟩ := o4.2 hz
        have hsp1 := hsp.1
        have hsp2 := hsp.2.1
        rw [b2]
        refine br_f (nI_pos (by omega)) (qv (k t4 f04 ⟨fun w => (by cases w), fun _ => ⟨b1, b2, l, ?_, b4⟩⟩))
        show l ≤ toks.length + (z.2.1 - i) + 1
        omega
    · rw [opd_no hn, if_neg n3, if_neg n1, if_neg n2] at k
      exact k t' f' o'
end P73
