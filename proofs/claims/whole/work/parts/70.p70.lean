/-! PURE LAYER: the class reads the law's text: operands; lines; the whole text -/
section P70
variable {g : Gt} {d : Nat} {t t1 : Tt}
theorem sp_opStart {T : Tp} {r i oo : Nat} {code : List (Int32 × Int32)} {P : Int32 → Tt → Prop} (hT : TpO T) (hin : InC T r code i t) (kd : isD (chr T i) → ∀ v t', Fr (RdS r) t t' → OutC T r code (opN T i) v t' → P v t') (kn : ∀ k, ¬ isD (chr T i) → nmK (chr T i) = some k → ∀ v t', Fr (RdS r) t t' → OutC T r code (true, i + 1, [(2, k)]) v t' → P v t') (ko : ¬ isD (chr T i) → nmK (chr T i) = none → Rt g (d + 8) mX4_readOperand 33 [some (.ref 33), some (.int (nI oo)), some (.int (cV (chr T i))), none] [.int (-1)] t (QI P)) : Rt g (d + 8) mX4_readOperand 0 [some (.ref 33), some (.int (nI oo)), none, none] [] t (QI P) := by
  have hin' := hin
  obtain ⟨hr, h2, h3, h4, h5, h6⟩ := hin'
  have h120 := hT.1
  have hck := chr_le hT.2 i
  apply bX4_readOperand_0
  refine sp_next h3 hT h4 h6.1 (sp_isDigit hck (fun hd => br_f (by decide) ?_) (fun hd => br_t rfl ?_))
  · refine sp_readNumber (d := d + 5) hT hin (fun t1 f1 o1 => qi (kd hd 1 t1 f1 ?_))
    have hb := nmb_ok T 4 i 0 h4
    have ha : i < (nmb T 4 i 0).1 := nmb_adv T (f := 3) (v := 0) hd h4
    unfold opN
    by_cases c : isD (chr T (nmb T 4 i 0).1)
    · rw [if_pos c]
      refine ⟨fun q => (by cases q), fun _ => ⟨Or.inr ⟨rfl, c⟩, o1.1, _, ?_, o1.2.1⟩⟩
      simp; omega
    · rw [if_neg c]
      exact ⟨fun _ => ⟨rfl, o1⟩, fun q => (by cases q)⟩
  · by_cases c256 : chr T i = 256
    · have e : cV (chr T i) = -1 := if_pos c256
      have hn : nmK (chr T i) = none := by rw [c256]; rfl
      have := ko hd hn
      rw [e] at this ⊢
      exact br_f (by decide) this
    · have e : cV (chr T i) = nI (chr T i) := if_neg c256
      rw [e]
      rw [e] at ko
      refine br_t (nI_pos' (by omega)) ?_
      rw [u16_tab _ (by omega)]
      refine sp_indexOf (d := d + 1) (by omega) ?_
      unfold nmI
      cases hn : nmK (chr T i) with
      | none => exact ko hd hn
      | some k =>
        have hk := nmK_lt hn
        apply bX4_readOperand_33
        refine br_f (nI_pos (by omega)) ?_
        rw [h2, h6.1, nI_1]
        have hl := chr_lt (T := T) (i := i) c256
        have o6 := h6.p3 (i' := i + 1) hr
        refine ⟨hr, sp_add hr o6.2.1 (by omega) o6.2.2 (fun t1 f1 a1 a2 => qi (kn k hd hn 1 t1 ((frP3 _ (Fr.rf _ t)).tr (f1.mo (Ad_Rd r))) ⟨fun _ => ⟨rfl, ?_⟩, fun q => (by cases q)⟩))⟩
        exact o6.ad hr f1 a1 a2
theorem fail_C {T : Tp} {r i : Nat} {code : List (Int32 × Int32)} (h : InC T r code i t) (hT : TpO T) : OutC T r code (false, i, []) 0 t := by
  obtain ⟨hr, h2, h3, h4, h5, h6⟩ := h
  have := hT.1
  exact ⟨fun q => (by cases q), fun _ => ⟨Or.inl rfl, h6.1, _, by omega, h6.2.1⟩⟩
theorem InC.p3 {T : Tp} {r i : Nat} {code : List (Int32 × Int32)} (h : InC T r code i t) (hl : i < T.1) : InC T r code (i + 1) (pI t 33 3 (nI (i + 1))) := by
  obtain ⟨hr, h2, h3, h4, h5, h6⟩ := h
  exact ⟨hr, h2, h3.rd hr (frP3 _ (Fr.rf _ t)), hl, by omega, h6.p3 hr⟩
theorem enc_nil (code : List (Int32 × Int32)) : code ++ enc [] = code := by simp [enc]
theorem cs_operand {T : Tp} (hT : TpO T) : ∀ (m d oo : Nat), oo + m = 6 → CS T (opd T m) (fun t P => Rt g (d + 7 * m + 8) mX4_readOperand 0 [some (.ref 33), some (.int (nI oo)), none, none] [] t (QI P)) := by
  intro m
  induction m with
  | zero =>
    intro d oo ho t code i r P hin k
    have : oo = 6 := by omega
    subst this
    have es : opd T 0 i = if isD (chr T i) then opN T i else match nmK (chr T i) with | some k => (true, i + 1, [(2, k)]) | none => (false, i, []) := by
      rw [opd]
      cases nmK (chr T i) <;> rfl
    rw [es] at k
    refine sp_opStart (d := d) hT hin (fun hd v t' f o => ?_) (fun kk hd hn v t' f o => ?_) (fun hd hn => ?_)
    · rw [if_pos hd] at k; exact k v t' f o
    · rw [if_neg hd, hn] at k; exact k v t' f o
    · rw [if_neg hd, hn] at k
      apply bX4_readOperand_33
      exact br_t (by decide) (br_t (by decide) (qi (k 0 t (Fr.rf _ _) (fail_C hin hT))))
  | succ m ih =>
    intro d oo ho t code i r P hin k
    have hin' := hin
    obtain ⟨hr, h2, h3, h4, h5, h6⟩ := hin'
    have h120 := hT.1
    have hck := chr_le hT.2 i
    have es : opd T (m + 1) i = if isD (chr T i) then opN T i else match nmK (chr T i) with | some k => (true, i + 1, [(2, k)]) | none => if chr T i = 40 then prn T (exF T (opd T m) (i + 1)) else if chr T i = 33 then cmb [] 3 (opd T m (i + 1)) else if chr T i = 45 then cmb [] 4 (opd T m (i + 1)) else (false, i, []) := by
      rw [opd]
      cases nmK (chr T i) <;> rfl
    rw [es] at k
    have ed : d + 7 * (m + 1) + 8 = d + 7 * m + 7 + 8 := by omega
    rw [ed]
    refine sp_opStart (d := d + 7 * m + 7) hT hin (fun hd v t' f o => ?_) (fun kk hd hn v t' f o => ?_) (fun hd hn => ?_)
    · rw [if_pos hd] at k; exact k v t' f o
    · rw [if_neg hd, hn] at k; exact k v t' f o
    · rw [if_neg hd, hn] at k
      apply bX4_readOperand_33
      refine br_t (by decide) (br_f (nI_ge (b := 6) (by omega) (by decide)) ?_)
      rw [nI_1]
      have q40 : cV (chr T i) = 40 ↔ chr T i = 40 := cV_eq (c := 40) hck (by decide)
      have q33 : cV (chr T i) = 33 ↔ chr T i = 33 := cV_eq (c := 33) hck (by decide)
      have q45 : cV (chr T i) = 45 ↔ chr T i = 45 := cV_eq (c := 45) hck (by decide)
      -- a one-place sign
      have un : ∀ (tk : Nat), (tk = 3 ∨ tk = 4) → chr T i ≠ 256 → sgn (tk, 0) = -(cV (chr T i)) → (∀ v t', Fr (RdS r) t t' → OutC T r code (cmb [] tk (opd T m (i + 1))) v t' → P v t') → Rt g (d + 7 * m + 14) mX4_readOpened 59 [some (.ref 33), some (.int (cV (chr T i))), some (.int (nI (oo + 1))), none] [] t (QI (fun v4 t3 => (v4 = 0 → QI P (some (.int 0)) t3) ∧ (¬ v4 = 0 → QI P (some (.int 1)) t3))) := by
        intro tk htk h256 hsg k
        have hl := chr_lt (T := T) (i := i) h256
        apply bX4_readOpened_59
        rw [h6.1, nI_1]
        have hgo := hin.p3 hl
        refine (ih (d + 5) (oo + 1) (by omega)) _ _ _ r (fun v2 t1 => _) hgo (fun v2 t2 f2 o2 => ?_) |>.dp (by omega)
        have f12 : Fr (RdS r) t t2 := (frP3 _ (Fr.rf _ t)).tr f2
        have e22 : t2.2.2.2 = r := by rw [f12.2]; exact h2
        rw [e22]
        rw [← enc_nil code] at o2
        refine ⟨hr, sp_cadd (k := tk) (ts := []) hr o2 (fun q => ?_) hsg ?_ (fun t3 f3 o3 => ⟨o3.v01, qi ?_⟩)⟩
        · have hs := opd_Sp T m (i + 1) hl
          obtain ⟨w1, w2, w3⟩ := hs.2.2 q
          have := hs.2.1
          rw [enc_nil, List.length_append, enc_len]
          omega
        · unfold vlu; rcases htk with rfl | rfl <;> rfl
        · have kk := k v2 t3 (f12.tr (f3.mo (Ad_Rd r))) o3
          rcases o3.v01 with q | q
          · subst q; exact br_t rfl (qi kk)
          · subst q; exact br_f (by decide) (qi kk)
      apply bX4_readOpened_0
      rw [q40, q33, q45]
      refine ⟨fun n40 => ⟨fun e33 => un 3 (Or.inl rfl) (by omega) ?_ (by rw [if_neg n40, if_pos e33] at k; exact k), fun n33 => ⟨fun n45 => qi (br_t rfl (qi ?_)), fun e45 => un 4 (Or.inr rfl) (by omega) ?_ (by rw [if_neg n40, if_neg n33, if_pos e45] at k; exact k)⟩⟩, fun e40 => ?_⟩
      · rw [e33]; rfl
      · rw [if_neg n40, if_neg n33, if_neg n45] at k
        exact k 0 t (Fr.rf _ _) (fail_C hin hT)
      · rw [e45]; rfl
      · rw [if_pos e40] at k
        have hl := chr_lt (T := T) (i := i) (by omega)
        have hgo := hin.p3 hl
        rw [h6.1, nI_1]
        have hcs := cs_ex (g := g) (d := d + 7 * m + 8) hT (opd_Sp T m) (ih d (oo + 1) (by omega))
        refine hcs _ _ _ r _ hgo (fun v2 t2 f2 o2 => ?_)
        have hsp := exF_Sp (opd_Sp T m) (i + 1) hl
        generalize exF T (opd T m) (i + 1) = z at o2 hsp k
        have f12 : Fr (RdS r) t t2 := (frP3 _ (Fr.rf _ t)).tr f2
        have hcz := chr_le hT.2 z.2.1
        have q41 : cV (chr T z.2.1) = 41 ↔ chr T z.2.1 = 41 := cV_eq (c := 41) hcz (by decide)
        have bad : ¬ (z.1 = true ∧ chr T z.2.1 = 41) → P 0 t2 := by
          intro hb
          unfold prn at k
          rw [if_neg hb] at k
          refine k 0 t2 f12 ⟨fun q => (by cases q), fun _ => ⟨Or.inl rfl, ?_⟩⟩
          cases hz : z.1 with
          | true =>
            have o3 := (o2.1 hz).2
            obtain ⟨w1, w2, w3⟩ := hsp.2.2 hz
            have := hsp.2.1
            refine ⟨o3.1, _, ?_, o3.2.1⟩
            rw [List.length_append, enc_len]; omega
          | false => exact (o2.2 hz).2
        refine ⟨fun hv => qi (br_t rfl (qi (bad (fun w => ?_)))), fun hv => sp_next (h3.rd hr f12) hT hsp.2.1 o2.pl ?_⟩
        · have := (o2.1 w.1).1; rw [hv] at this; exact absurd this (by decide)
        · rw [q41]
          refine ⟨fun e41 => qi (br_f (by decide) (qi ?_)), fun n41 => qi (br_t rfl (qi (bad (fun w => n41 w.2))))⟩
          cases hz : z.1 with
          | true =>
            unfold prn at k
            rw [if_pos ⟨hz, e41⟩] at k
            rw [o2.pl, nI_1]
            exact k 1 _ (frP3 _ f12) ⟨fun _ => ⟨rfl, (o2.1 hz).2.p3 hr⟩, fun q => (by cases q)⟩
          | false =>
            rcases (o2.2 hz).1 with q | q
            · exact absurd q hv
            · have := q.2; omega
end P70
