/-! PURE LAYER: the class reads the law's text: sums, products, all E -/
section P69
variable {g : Gt} {d : Nat} {t t1 : Tt}
theorem OutC.v01 {T : Tp} {r : Nat} {code : List (Int32 × Int32)} {z : Rz} {v : Int32} (h : OutC T r code z v t) : v = 0 ∨ v = 1 := by
  cases hz : z.1 with
  | true => exact Or.inr (h.1 hz).1
  | false => rcases (h.2 hz).1 with q | q; exact Or.inl q; exact Or.inr q.1
theorem OutC.pl {T : Tp} {r : Nat} {code : List (Int32 × Int32)} {z : Rz} {v : Int32} (h : OutC T r code z v t) : t.1 33 3 = nI z.2.1 := by
  cases hz : z.1 with
  | true => exact (h.1 hz).2.1
  | false => exact (h.2 hz).2.1
theorem enc_app (a b : List Tok) : enc (a ++ b) = enc a ++ enc b := List.map_append
theorem enc_len (a : List Tok) : (enc a).length = a.length := List.length_map _
theorem sp_cadd {T : Tp} {r k : Nat} {code : List (Int32 × Int32)} {ts : List Tok} {z : Rz} {v sg : Int32} {P : Tt → Prop} (hr : isLw r) (h : OutC T r (code ++ enc ts) z v t) (hlen : z.1 = true → (code ++ enc ts ++ enc z.2.2).length < 128) (hs : sgn (k, 0) = sg) (hv : vlu (k, 0) = 0) (K : ∀ t', Fr (AdS r) t t' → OutC T r code (cmb ts k z) v t' → P t') : Rt g d mX3_add 0 [some (.ref r), some (.int sg), some (.int 0)] [] t (QV P) := by
  cases hz : z.1 with
  | true =>
    obtain ⟨q1, q2⟩ := h.1 hz
    refine sp_add hr q2.2.1 (hlen hz) q2.2.2 (fun t1 f1 a1 a2 => K t1 f1 ?_)
    unfold cmb
    rw [if_pos hz]
    refine ⟨fun _ => ⟨q1, q2.ad hr f1 ?_ ?_⟩, fun q => by cases q⟩
    · rw [a1]
      show nI (code ++ enc ts ++ enc z.2.2 ++ [(sg, 0)]).length = nI (code ++ enc (ts ++ z.2.2 ++ [(k, 0)])).length
      congr 1
      simp [enc]
    · show At t1 r 0 (code ++ enc (ts ++ z.2.2 ++ [(k, 0)]))
      rw [enc_app, enc_app, ← List.append_assoc, ← List.append_assoc]
      rw [show enc [(k, 0)] = [(sg, 0)] from by show [(sgn (k, 0), vlu (k, 0))] = _; rw [hs, hv]]
      exact a2
  | false =>
    obtain ⟨q1, q2⟩ := h.2 hz
    obtain ⟨l, hl, h4⟩ := q2.2
    refine sp_addw hr h4 hl (fun t1 f1 a1 => K t1 f1 ?_)
    unfold cmb
    rw [if_neg (by rw [hz]; decide)]
    exact ⟨fun q => (by cases q), fun _ => ⟨q1, q2.ad hr f1 a1⟩⟩
def CS (T : Tp) (op : Nat → Rz) (call : Tt → (Int32 → Tt → Prop) → Prop) : Prop := ∀ t code i r P, InC T r code i t → (∀ v t', Fr (RdS r) t t' → OutC T r code (op i) v t' → P v t') → call t P
theorem op_sgn {k : Nat} (h : isOp k) : sgn (k, 0) = nI k ∧ vlu (k, 0) = 0 := by
  have := isOp_ge h
  unfold sgn vlu
  simp only
  refine ⟨?_, ?_⟩
  · rw [if_neg (by omega), if_neg (by omega), if_neg (by omega), if_neg (by omega)]
  · rw [if_neg (by omega)]
theorem InC.go {T : Tp} {r i : Nat} {code : List (Int32 × Int32)} {z : Rz} {v : Int32} (hr : isLw r) (h2 : t.2.2.2 = r) (h3 : tpC t T) (h5 : code.length ≤ i) (f1 : Fr (RdS r) t t1) (hz : z.1 = true) (hsp : SpR T i z) (ho : OutC T r code z v t1) (hl : z.2.1 < T.1) : InC T r (code ++ enc z.2.2) (z.2.1 + 1) (pI t1 33 3 (nI (z.2.1 + 1))) := by
  refine ⟨hr, ?_, (h3.rd hr (frP3 _ f1)), hl, ?_, (ho.1 hz).2.p3 hr⟩
  · show t1.2.2.2 = r
    rw [f1.2]; exact h2
  · obtain ⟨e1, e2, e3⟩ := hsp.2.2 hz
    rw [List.length_append, enc_len]; omega
theorem lp_n {T : Tp} {sub : Nat → Rz} {op : Nat → Bool} {f : Nat} {z : Rz} (h : ¬ (z.1 = true ∧ op (chr T z.2.1) = true)) : lp T sub op (f + 1) z = z := by simp only [lp]; rw [if_neg h]
theorem lp_y {T : Tp} {sub : Nat → Rz} {op : Nat → Bool} {f : Nat} {z : Rz} (h1 : z.1 = true) (h2 : op (chr T z.2.1) = true) : lp T sub op (f + 1) z = lp T sub op f (cmb z.2.2 (chr T z.2.1) (sub (z.2.1 + 1))) := by simp only [lp]; rw [if_pos ⟨h1, h2⟩]

theorem cs_product {T : Tp} {op : Nat → Rz} {oo : Nat} (hT : TpO T) (hs : Sp T op) (h : CS T op (fun t P => Rt g d mX4_readOperand 0 [some (.ref 33), some (.int (nI oo)), none, none] [] t (QI P))) : CS T (prF T op) (fun t P => Rt g (d + 1) mX4_readProduct 0 [some (.ref 33), some (.int (nI oo)), none, none, none] [] t (QI P)) := by
  intro t code i r P hin k
  have hin' := hin
  obtain ⟨hr, h2, h3, h4, h5, h6⟩ := hin'
  have h120 := hT.1
  have key : ∀ f c z v t1, c + f = 120 → SpR T i z → Fr (RdS r) t t1 → OutC T r code z v t1 → (∀ v t', Fr (RdS r) t t' → OutC T r code (lp T op iqP f z) v t' → P v t') → Rt g (d + 1) mX4_readProduct 14 [some (.ref 33), some (.int (nI oo)), some (.int v), some (.int (cV (chr T z.2.1))), some (.int (nI c))] [] t1 (QI P) := by
    intro f
    induction f with
    | zero =>
      intro c z v t1 hc hsp f1 ho k
      have : c = 120 := by omega
      subst this
      apply bX4_readProduct_14
      exact br_t (nI_le (a := 120) (by omega) (by decide)) ⟨ho.v01, qi (k v t1 f1 ho)⟩
    | succ f ih =>
      intro c z v t1 hc hsp f1 ho k
      have hck := chr_le hT.2 z.2.1
      have hpl := ho.pl
      have q42 : cV (chr T z.2.1) = 42 ↔ chr T z.2.1 = 42 := cV_eq (c := 42) hck (by decide)
      have q47 : cV (chr T z.2.1) = 47 ↔ chr T z.2.1 = 47 := cV_eq (c := 47) hck (by decide)
      have q37 : cV (chr T z.2.1) = 37 ↔ chr T z.2.1 = 37 := cV_eq (c := 37) hck (by decide)
      have ex : ¬ (z.1 = true ∧ iqP (chr T z.2.1) = true) → P v t1 := fun hb => by rw [lp_n hb] at k; exact k v t1 f1 ho
      apply bX4_readProduct_14
      refine br_f (nI_ge (b := 120) (by omega) (by decide)) ?_
      by_cases hop : z.1 = true ∧ iqP (chr T z.2.1) = true
      · have hisop := iqP_op _ hop.2
        have hlt := isOp_lt hisop
        have hl := chr_lt (T := T) (i := z.2.1) (by omega)
        have hv := (ho.1 hop.1).1
        have hgo := InC.go hr h2 h3 h5 f1 hop.1 hsp ho hl
        have hsp2 := hs (z.2.1 + 1) hl
        obtain ⟨e1, e2, e3⟩ := hsp.2.2 hop.1
        rw [lp_y hop.1 hop.2] at k
        have hspn : SpR T i (cmb z.2.2 (chr T z.2.1) (op (z.2.1 + 1))) := cmb_Sp hsp2 hsp.1 e3 (fun xs hx => WE.bin e2 hx hisop)
        have hop2 := of_decide_eq_true hop.2
        have hsg := op_sgn hisop
        have hcv : cV (chr T z.2.1) = nI (chr T z.2.1) := if_neg (by omega)
        have A : Rt g (d + 1) mX4_readProduct 43 [some (.ref 33), some (.int (nI oo)), none, some (.int (cV (chr T z.2.1))), some (.int (nI c))] [] t1 (QI P) := by
          apply bX4_readProduct_43
          rw [hpl, nI_1, nI_1]
          refine h _ _ _ r _ hgo (fun v2 t2 f2 o2 => ?_)
          have f12 : Fr (RdS r) t t2 := (frP3 _ f1).tr f2
          have e22 : t2.2.2.2 = r := by rw [f12.2]; exact h2
          rw [e22]
          refine ⟨hr, sp_cadd (k := chr T z.2.1) hr o2 (fun q => ?_) (hsg.1.trans hcv.symm) hsg.2 (fun t3 f3 o3 => ?_)⟩
          · obtain ⟨w1, w2, w3⟩ := hsp2.2.2 q
            rw [List.length_append, List.length_append, enc_len, enc_len]
            have := hsp2.2.1
            omega
          · have f13 := f12.tr (f3.mo (Ad_Rd r))
            exact sp_next (h3.rd hr f13) hT hspn.2.1 o3.pl (ih (c + 1) _ _ _ (by omega) hspn f13 o3 k)
        refine br_f (by rw [hv]; decide) ?_
        rw [q42, q47, q37]
        exact ⟨fun _ => A, fun n0 => ⟨fun _ => A, fun n1 => ⟨fun n2 => by exfalso; omega, fun _ => A⟩⟩⟩
      · refine ⟨fun _ => ⟨ho.v01, qi (ex hop)⟩, fun hv0 => ?_⟩
        rw [q42, q47, q37]
        have hno : ¬ (chr T z.2.1 = 42 ∨ chr T z.2.1 = 47 ∨ chr T z.2.1 = 37) := fun w => ?_
        · exact ⟨fun e => absurd (by omega) hno, fun n0 => ⟨fun e => absurd (by omega) hno, fun n1 => ⟨fun _ => ⟨ho.v01, qi (ex hop)⟩, fun e => absurd (by omega) hno⟩⟩⟩
        · cases hz : z.1 with
          | true => exact hop ⟨hz, decide_eq_true (by omega)⟩
          | false =>
            rcases (ho.2 hz).1 with q | q
            · exact hv0 q
            · have := q.2; omega
  apply bX4_readProduct_0
  refine h t code i r _ hin (fun v t1 f1 o1 => ?_)
  refine sp_next (h3.rd hr f1) hT (hs i h4).2.1 o1.pl ?_
  exact key 120 0 (op i) v t1 rfl (hs i h4) f1 o1 k
theorem cs_sum {T : Tp} {op : Nat → Rz} {oo : Nat} (hT : TpO T) (hs : Sp T op) (h : CS T op (fun t P => Rt g d mX4_readProduct 0 [some (.ref 33), some (.int (nI oo)), none, none, none] [] t (QI P))) : CS T (suF T op) (fun t P => Rt g (d + 1) mX4_readSum 0 [some (.ref 33), some (.int (nI oo)), none, none, none] [] t (QI P)) := by
  intro t code i r P hin k
  have hin' := hin
  obtain ⟨hr, h2, h3, h4, h5, h6⟩ := hin'
  have h120 := hT.1
  have key : ∀ f c z v t1, c + f = 120 → SpR T i z → Fr (RdS r) t t1 → OutC T r code z v t1 → (∀ v t', Fr (RdS r) t t' → OutC T r code (lp T op iqS f z) v t' → P v t') → Rt g (d + 1) mX4_readSum 14 [some (.ref 33), some (.int (nI oo)), some (.int v), some (.int (cV (chr T z.2.1))), some (.int (nI c))] [] t1 (QI P) := by
    intro f
    induction f with
    | zero =>
      intro c z v t1 hc hsp f1 ho k
      have : c = 120 := by omega
      subst this
      apply bX4_readSum_14
      exact br_t (nI_le (a := 120) (by omega) (by decide)) ⟨ho.v01, qi (k v t1 f1 ho)⟩
    | succ f ih =>
      intro c z v t1 hc hsp f1 ho k
      have hck := chr_le hT.2 z.2.1
      have hpl := ho.pl
      have q43 : cV (chr T z.2.1) = 43 ↔ chr T z.2.1 = 43 := cV_eq (c := 43) hck (by decide)
      have q45 : cV (chr T z.2.1) = 45 ↔ chr T z.2.1 = 45 := cV_eq (c := 45) hck (by decide)
      have ex : ¬ (z.1 = true ∧ iqS (chr T z.2.1) = true) → P v t1 := fun hb => by rw [lp_n hb] at k; exact k v t1 f1 ho
      apply bX4_readSum_14
      refine br_f (nI_ge (b := 120) (by omega) (by decide)) ?_
      by_cases hop : z.1 = true ∧ iqS (chr T z.2.1) = true
      · have hisop := iqS_op _ hop.2
        have hlt := isOp_lt hisop
        have hl := chr_lt (T := T) (i := z.2.1) (by omega)
        have hv := (ho.1 hop.1).1
        have hgo := InC.go hr h2 h3 h5 f1 hop.1 hsp ho hl
        have hsp2 := hs (z.2.1 + 1) hl
        obtain ⟨e1, e2, e3⟩ := hsp.2.2 hop.1
        rw [lp_y hop.1 hop.2] at k
        have hspn : SpR T i (cmb z.2.2 (chr T z.2.1) (op (z.2.1 + 1))) := cmb_Sp hsp2 hsp.1 e3 (fun xs hx => WE.bin e2 hx hisop)
        have hop2 := of_decide_eq_true hop.2
        have hsg := op_sgn hisop
        have hcv : cV (chr T z.2.1) = nI (chr T z.2.1) := if_neg (by omega)
        have A : Rt g (d + 1) mX4_readSum 37 [some (.ref 33), some (.int (nI oo)), none, some (.int (cV (chr T z.2.1))), some (.int (nI c))] [] t1 (QI P) := by
          apply bX4_readSum_37
          rw [hpl, nI_1, nI_1]
          refine h _ _ _ r _ hgo (fun v2 t2 f2 o2 => ?_)
          have f12 : Fr (RdS r) t t2 := (frP3 _ f1).tr f2
          have e22 : t2.2.2.2 = r := by rw [f12.2]; exact h2
          rw [e22]
          refine ⟨hr, sp_cadd (k := chr T z.2.1) hr o2 (fun q => ?_) (hsg.1.trans hcv.symm) hsg.2 (fun t3 f3 o3 => ?_)⟩
          · obtain ⟨w1, w2, w3⟩ := hsp2.2.2 q
            rw [List.length_append, List.length_append, enc_len, enc_len]
            have := hsp2.2.1
            omega
          · have f13 := f12.tr (f3.mo (Ad_Rd r))
            exact sp_next (h3.rd hr f13) hT hspn.2.1 o3.pl (ih (c + 1) _ _ _ (by omega) hspn f13 o3 k)
        refine br_f (by rw [hv]; decide) ?_
        rw [q43, q45]
        exact ⟨fun _ => A, fun n0 => ⟨fun n1 => by exfalso; omega, fun _ => A⟩⟩
      · refine ⟨fun _ => ⟨ho.v01, qi (ex hop)⟩, fun hv0 => ?_⟩
        rw [q43, q45]
        have hno : ¬ (chr T z.2.1 = 43 ∨ chr T z.2.1 = 45) := fun w => ?_
        · exact ⟨fun e => absurd (by omega) hno, fun n0 => ⟨fun _ => ⟨ho.v01, qi (ex hop)⟩, fun e => absurd (by omega) hno⟩⟩
        · cases hz : z.1 with
          | true => exact hop ⟨hz, decide_eq_true (by omega)⟩
          | false =>
            rcases (ho.2 hz).1 with q | q
            · exact hv0 q
            · have := q.2; omega
  apply bX4_readSum_0
  refine h t code i r _ hin (fun v t1 f1 o1 => ?_)
  refine sp_next (h3.rd hr f1) hT (hs i h4).2.1 o1.pl ?_
  exact key 120 0 (op i) v t1 rfl (hs i h4) f1 o1 k
theorem cs_all {T : Tp} {op : Nat → Rz} {oo : Nat} (hT : TpO T) (hs : Sp T op) (h : CS T op (fun t P => Rt g d mX4_readCompared 0 [some (.ref 33), some (.int (nI oo)), none, none] [] t (QI P))) : CS T (alF T op) (fun t P => Rt g (d + 1) mX4_readAll 0 [some (.ref 33), some (.int (nI oo)), none, none] [] t (QI P)) := by
  intro t code i r P hin k
  have hin' := hin
  obtain ⟨hr, h2, h3, h4, h5, h6⟩ := hin'
  have h120 := hT.1
  have key : ∀ f c z v t1, c + f = 120 → SpR T i z → Fr (RdS r) t t1 → OutC T r code z v t1 → (∀ v t', Fr (RdS r) t t' → OutC T r code (lp T op iqA f z) v t' → P v t') → Rt g (d + 1) mX4_readAll 8 [some (.ref 33), some (.int (nI oo)), some (.int v), some (.int (nI c))] [] t1 (QI P) := by
    intro f
    induction f with
    | zero =>
      intro c z v t1 hc hsp f1 ho k
      have : c = 120 := by omega
      subst this
      apply bX4_readAll_8
      exact br_t (nI_le (a := 120) (by omega) (by decide)) ⟨ho.v01, qi (k v t1 f1 ho)⟩
    | succ f ih =>
      intro c z v t1 hc hsp f1 ho k
      have hck := chr_le hT.2 z.2.1
      have hpl := ho.pl
      have q38 : cV (chr T z.2.1) = 38 ↔ chr T z.2.1 = 38 := cV_eq (c := 38) hck (by decide)
      have ex : ¬ (z.1 = true ∧ iqA (chr T z.2.1) = true) → P v t1 := fun hb => by rw [lp_n hb] at k; exact k v t1 f1 ho
      apply bX4_readAll_8
      refine br_f (nI_ge (b := 120) (by omega) (by decide)) ?_
      by_cases hop : z.1 = true ∧ iqA (chr T z.2.1) = true
      · have hisop := iqA_op _ hop.2
        have hlt := isOp_lt hisop
        have hl := chr_lt (T := T) (i := z.2.1) (by omega)
        have hv := (ho.1 hop.1).1
        have hgo := InC.go hr h2 h3 h5 f1 hop.1 hsp ho hl
        have hsp2 := hs (z.2.1 + 1) hl
        obtain ⟨e1, e2, e3⟩ := hsp.2.2 hop.1
        rw [lp_y hop.1 hop.2] at k
        have hspn : SpR T i (cmb z.2.2 (chr T z.2.1) (op (z.2.1 + 1))) := cmb_Sp hsp2 hsp.1 e3 (fun xs hx => WE.bin e2 hx hisop)
        have hop2 := of_decide_eq_true hop.2
        have hsg := op_sgn hisop
        have hcv : cV (chr T z.2.1) = nI (chr T z.2.1) := if_neg (by omega)
        refine br_f (by rw [hv]; decide) (sp_next (h3.rd hr f1) hT (Nat.le_of_lt hl) hpl ?_)
        rw [q38]
        refine ⟨fun n => absurd hop2 n, fun _ => ?_⟩
        have hsg1 : sgn (chr T z.2.1, 0) = 38 := by rw [hsg.1, hop2]; rfl
        rw [hpl, nI_1, nI_1]
        · refine h _ _ _ r _ hgo (fun v2 t2 f2 o2 => ?_)
          have f12 : Fr (RdS r) t t2 := (frP3 _ f1).tr f2
          have e22 : t2.2.2.2 = r := by rw [f12.2]; exact h2
          rw [e22]
          refine ⟨hr, sp_cadd (k := chr T z.2.1) hr o2 (fun q => ?_) hsg1 hsg.2 (fun t3 f3 o3 => ?_)⟩
          · obtain ⟨w1, w2, w3⟩ := hsp2.2.2 q
            rw [List.length_append, List.length_append, enc_len, enc_len]
            have := hsp2.2.1
            omega
          · have f13 := f12.tr (f3.mo (Ad_Rd r))
            exact ih (c + 1) _ _ _ (by omega) hspn f13 o3 k
      · refine ⟨fun _ => ⟨ho.v01, qi (ex hop)⟩, fun hv0 => sp_next (h3.rd hr f1) hT hsp.2.1 hpl ?_⟩
        rw [q38]
        have hno : ¬ (chr T z.2.1 = 38) := fun w => ?_
        · exact ⟨fun _ => ⟨ho.v01, qi (ex hop)⟩, fun e => absurd e hno⟩
        · cases hz : z.1 with
          | true => exact hop ⟨hz, decide_eq_true (by omega)⟩
          | false =>
            rcases (ho.2 hz).1 with q | q
            · exact hv0 q
            · have := q.2; omega
  apply bX4_readAll_0
  refine h t code i r _ hin (fun v t1 f1 o1 => ?_)
  exact key 120 0 (op i) v t1 rfl (hs i h4) f1 o1 k
theorem cs_any {T : Tp} {op : Nat → Rz} {oo : Nat} (hT : TpO T) (hs : Sp T op) (h : CS T op (fun t P => Rt g d mX4_readAll 0 [some (.ref 33), some (.int (nI oo)), none, none] [] t (QI P))) : CS T (anF T op) (fun t P => Rt g (d + 1) mX4_readAny 0 [some (.ref 33), some (.int (nI oo)), none, none] [] t (QI P)) := by
  intro t code i r P hin k
  have hin' := hin
  obtain ⟨hr, h2, h3, h4, h5, h6⟩ := hin'
  have h120 := hT.1
  have key : ∀ f c z v t1, c + f = 120 → SpR T i z → Fr (RdS r) t t1 → OutC T r code z v t1 → (∀ v t', Fr (RdS r) t t' → OutC T r code (lp T op iqO f z) v t' → P v t') → Rt g (d + 1) mX4_readAny 8 [some (.ref 33), some (.int (nI oo)), some (.int v), some (.int (nI c))] [] t1 (QI P) := by
    intro f
    induction f with
    | zero =>
      intro c z v t1 hc hsp f1 ho k
      have : c = 120 := by omega
      subst this
      apply bX4_readAny_8
      exact br_t (nI_le (a := 120) (by omega) (by decide)) ⟨ho.v01, qi (k v t1 f1 ho)⟩
    | succ f ih =>
      intro c z v t1 hc hsp f1 ho k
      have hck := chr_le hT.2 z.2.1
      have hpl := ho.pl
      have q124 : cV (chr T z.2.1) = 124 ↔ chr T z.2.1 = 124 := cV_eq (c := 124) hck (by decide)
      have ex : ¬ (z.1 = true ∧ iqO (chr T z.2.1) = true) → P v t1 := fun hb => by rw [lp_n hb] at k; exact k v t1 f1 ho
      apply bX4_readAny_8
      refine br_f (nI_ge (b := 120) (by omega) (by decide)) ?_
      by_cases hop : z.1 = true ∧ iqO (chr T z.2.1) = true
      · have hisop := iqO_op _ hop.2
        have hlt := isOp_lt hisop
        have hl := chr_lt (T := T) (i := z.2.1) (by omega)
        have hv := (ho.1 hop.1).1
        have hgo := InC.go hr h2 h3 h5 f1 hop.1 hsp ho hl
        have hsp2 := hs (z.2.1 + 1) hl
        obtain ⟨e1, e2, e3⟩ := hsp.2.2 hop.1
        rw [lp_y hop.1 hop.2] at k
        have hspn : SpR T i (cmb z.2.2 (chr T z.2.1) (op (z.2.1 + 1))) := cmb_Sp hsp2 hsp.1 e3 (fun xs hx => WE.bin e2 hx hisop)
        have hop2 := of_decide_eq_true hop.2
        have hsg := op_sgn hisop
        have hcv : cV (chr T z.2.1) = nI (chr T z.2.1) := if_neg (by omega)
        refine br_f (by rw [hv]; decide) (sp_next (h3.rd hr f1) hT (Nat.le_of_lt hl) hpl ?_)
        rw [q124]
        refine ⟨fun n => absurd hop2 n, fun _ => ?_⟩
        have hsg1 : sgn (chr T z.2.1, 0) = 124 := by rw [hsg.1, hop2]; rfl
        rw [hpl, nI_1, nI_1]
        · refine h _ _ _ r _ hgo (fun v2 t2 f2 o2 => ?_)
          have f12 : Fr (RdS r) t t2 := (frP3 _ f1).tr f2
          have e22 : t2.2.2.2 = r := by rw [f12.2]; exact h2
          rw [e22]
          refine ⟨hr, sp_cadd (k := chr T z.2.1) hr o2 (fun q => ?_) hsg1 hsg.2 (fun t3 f3 o3 => ?_)⟩
          · obtain ⟨w1, w2, w3⟩ := hsp2.2.2 q
            rw [List.length_append, List.length_append, enc_len, enc_len]
            have := hsp2.2.1
            omega
          · have f13 := f12.tr (f3.mo (Ad_Rd r))
            exact ih (c + 1) _ _ _ (by omega) hspn f13 o3 k
      · refine ⟨fun _ => ⟨ho.v01, qi (ex hop)⟩, fun hv0 => sp_next (h3.rd hr f1) hT hsp.2.1 hpl ?_⟩
        rw [q124]
        have hno : ¬ (chr T z.2.1 = 124) := fun w => ?_
        · exact ⟨fun _ => ⟨ho.v01, qi (ex hop)⟩, fun e => absurd e hno⟩
        · cases hz : z.1 with
          | true => exact hop ⟨hz, decide_eq_true (by omega)⟩
          | false =>
            rcases (ho.2 hz).1 with q | q
            · exact hv0 q
            · have := q.2; omega
  apply bX4_readAny_0
  refine h t code i r _ hin (fun v t1 f1 o1 => ?_)
  exact key 120 0 (op i) v t1 rfl (hs i h4) f1 o1 k
theorem cs_compared {T : Tp} {op : Nat → Rz} {oo : Nat} (hT : TpO T) (hs : Sp T op) (h : CS T op (fun t P => Rt g d mX4_readSum 0 [some (.ref 33), some (.int (nI oo)), none, none, none] [] t (QI P))) : CS T (coF T op) (fun t P => Rt g (d + 1) mX4_readCompared 0 [some (.ref 33), some (.int (nI oo)), none, none] [] t (QI P)) := by
  intro t code i r P hin k
  have hin' := hin
  obtain ⟨hr, h2, h3, h4, h5, h6⟩ := hin'
  have h120 := hT.1
  apply bX4_readCompared_0
  refine h t code i r _ hin (fun v t1 f1 ho => ?_)
  have hsp := hs i h4
  unfold coF at k
  generalize op i = z at ho hsp k
  have hck := chr_le hT.2 z.2.1
  have hpl := ho.pl
  have q60 : cV (chr T z.2.1) = 60 ↔ chr T z.2.1 = 60 := cV_eq (c := 60) hck (by decide)
  have q61 : cV (chr T z.2.1) = 61 ↔ chr T z.2.1 = 61 := cV_eq (c := 61) hck (by decide)
  have q62 : cV (chr T z.2.1) = 62 ↔ chr T z.2.1 = 62 := cV_eq (c := 62) hck (by decide)
  refine sp_next (h3.rd hr f1) hT hsp.2.1 hpl ?_
  by_cases hop : z.1 = true ∧ iqC (chr T z.2.1) = true
  · have hisop := iqC_op _ hop.2
    have hlt := isOp_lt hisop
    have hl := chr_lt (T := T) (i := z.2.1) (by omega)
    have hv := (ho.1 hop.1).1
    have hgo := InC.go hr h2 h3 h5 f1 hop.1 hsp ho hl
    have hsp2 := hs (z.2.1 + 1) hl
    obtain ⟨e1, e2, e3⟩ := hsp.2.2 hop.1
    rw [lp_y hop.1 hop.2] at k
    have hop2 := of_decide_eq_true hop.2
    have hsg := op_sgn hisop
    have hcv : cV (chr T z.2.1) = nI (chr T z.2.1) := if_neg (by omega)
    have A : Rt g (d + 1) mX4_readCompared 33 [some (.ref 33), some (.int (nI oo)), none, some (.int (cV (chr T z.2.1)))] [] t1 (QI P) := by
      apply bX4_readCompared_33
      rw [hpl, nI_1]
      refine h _ _ _ r _ hgo (fun v2 t2 f2 o2 => ?_)
      have f12 : Fr (RdS r) t t2 := (frP3 _ f1).tr f2
      have e22 : t2.2.2.2 = r := by rw [f12.2]; exact h2
      rw [e22]
      refine ⟨hr, sp_cadd (k := chr T z.2.1) hr o2 (fun q => ?_) (hsg.1.trans hcv.symm) hsg.2 (fun t3 f3 o3 => ⟨o3.v01, qi (k _ _ (f12.tr (f3.mo (Ad_Rd r))) o3)⟩)⟩
      obtain ⟨w1, w2, w3⟩ := hsp2.2.2 q
      rw [List.length_append, List.length_append, enc_len, enc_len]
      have := hsp2.2.1
      omega
    refine br_f (by rw [hv]; decide) ?_
    rw [q60, q61, q62]
    exact ⟨fun _ => A, fun n0 => ⟨fun _ => A, fun n1 => ⟨fun n2 => by exfalso; omega, fun _ => A⟩⟩⟩
  · have ex : P v t1 := by rw [lp_n hop] at k; exact k v t1 f1 ho
    refine ⟨fun _ => ⟨ho.v01, qi ex⟩, fun hv0 => ?_⟩
    rw [q60, q61, q62]
    have hno : ¬ (chr T z.2.1 = 60 ∨ chr T z.2.1 = 61 ∨ chr T z.2.1 = 62) := fun w => ?_
    · exact ⟨fun e => absurd (by omega) hno, fun n0 => ⟨fun e => absurd (by omega) hno, fun n1 => ⟨fun _ => ⟨ho.v01, qi ex⟩, fun e => absurd (by omega) hno⟩⟩⟩
    · cases hz : z.1 with
      | true => exact hop ⟨hz, decide_eq_true (by omega)⟩
      | false =>
        rcases (ho.2 hz).1 with q | q
        · exact hv0 q
        · have := q.2; omega
theorem cs_ex {T : Tp} {op : Nat → Rz} {oo : Nat} (hT : TpO T) (hs : Sp T op) (h : CS T op (fun t P => Rt g d mX4_readOperand 0 [some (.ref 33), some (.int (nI oo)), none, none] [] t (QI P))) : CS T (exF T op) (fun t P => Rt g (d + 5) mX4_readAny 0 [some (.ref 33), some (.int (nI oo)), none, none] [] t (QI P)) :=
  cs_any hT (alF_Sp (coF_Sp (suF_Sp (prF_Sp hs)))) (cs_all hT (coF_Sp (suF_Sp (prF_Sp hs))) (cs_compared hT (suF_Sp (prF_Sp hs)) (cs_sum hT (prF_Sp hs) (cs_product hT hs h))))
end P69
