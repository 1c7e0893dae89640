/-! PURE LAYER: queries: left, enough, jury -/
section P37
variable {g : Gt} {d : Nat} {t : Tt} {a : Aa}
/-- so many lies, up to 99, until one is gone -/
def lft (pr : Prog) (p z : Nat) : Nat → Nat → Pp → Int32
  | 0, _, _ => -2
  | m + 1, k, a => if fsum (pf a p) 8 = 0 then nI k else lft pr p z m (k + 1) (lieA (prc pr a p 0 z) a p z)
theorem Fr5_C {t t' : Tt} (h : Fr (LieS 5) t t') : Fr CSc t t' := h.mo (fun o j q => by unfold LieS at q; unfold CSc; rcases q with q | q | q; exact Or.inr (Or.inr (Or.inl q)); omega; omega)
theorem cp5_C {t t' : Tt} (h : Fr (fun x _ => 5 ≤ x ∧ x ≤ 5 + 3) t t') : Fr CSc t t' := h.mo (fun o j q => by unfold CSc; omega)
theorem LiM_M (o j : Nat) (h : LiM o j) : MSc o j := by unfold LiM at h; unfold MSc; omega
theorem bg_M {t t' : Tt} (h : Fr (fun x _ => x = 74 ∨ x = 75) t t') : Fr MSc t t' := h.mo (fun o j q => by unfold MSc; omega)
/-- a lie of thought -/
theorem sp_lie5 {p f z : Nat} {b : Pp} {P : Int32 → Tt → Prop} (h : Rel t a) (hm : MoC t 5 b) (hw : PpW b) (hp : p < pn b) (hz : z < 10) (k : ∀ t', Rel t' a → MoC t' 5 (lieA (prc (aL a) b p f z) b p z) → P (nI (lieO (prc (aL a) b p f z) b p z)) t') : Rt g (d + 3) mX5_lie 0 [some (.ref 5), some (.ref t.2.2.1), some (.int (nI p)), some (.int (nI f)), some (.int (nI z)), none, none, none, none, none, none] [] t (QI P) :=
  sp_lie (d := d + 1) mo5 h.lw.1 hm hw hp hz (prc_le hz) (fun P' k' => sp_priceOf mo5 h.lw.1 hm hw hp hz h.lw.2.2.2 k') (fun t' hf hm' => k t' (h.c (Fr5_C hf)) hm')
theorem sr_lie5 {p f z : Nat} {b : Pp} {P : Int32 → Tt → Prop} (h : Rel t a) (hm : MoM t b) (hw : PpW b) (hp : p < pn b) (hz : z < 10) (k : ∀ t', Rel t' a → MoM t' (lieA (prc (aL a) b p f z) b p z) → P (nI (lieO (prc (aL a) b p f z) b p z)) t') : Rt g (d + 4) mX8_lieOf 0 [some (.ref 57), some (.int (nI p)), some (.int (nI f)), some (.int (nI z)), none, none, none, none, none] [] t (QI P) :=
  sr_lieOf hm hw hp hz h.lm (fun t' hf hm' => k t' (h.m (hf.mo LiM_M)) hm')
theorem sp_copy5 {P : Tt → Prop} (h : Rel t a) (k : ∀ t', Rel t' a → MoC t' 5 (aP a) → P t') : Rt g (d + 1) mX5_copyFrom 0 [some (.ref 5), some (.ref 1)] [] t (QV P) :=
  sp_copyFrom mo5 mo1 (by decide) h.2.1.1 h.pw (fun t' hf hm => k t' (h.c (cp5_C hf)) hm)
theorem sr_begin {P : Tt → Prop} (h : Rel t a) (k : ∀ t', Rel t' a → MoM t' (aP a) → P t') : Rt g d mX8_beginMouths 0 [some (.ref 57), none] [] t (QV P) :=
  sr_beginMouths h.2.2.1 h.pw (fun t' hf hm => k t' (h.m (bg_M hf)) hm)
theorem sp_left {p z : Nat} {P : Int32 → Tt → Prop} (hp : p < pn (aP a)) (hz : z < 10) : ∀ m i b t, i + m = 100 → Rel t a → MoC t 5 b → PpW b → pn b = pn (aP a) → (∀ t', Rel t' a → P (lft (aL a) p z m i b) t') → Rt g (d + 4) mX7_left 32 [some (.ref 0), some (.int (nI p)), some (.int (nI z)), some (.int (nI i))] [] t (QI P) := by
  intro m
  induction m with
  | zero =>
    intro i b t hi h hm hw hn k
    apply bX7_left_32
    exact br_t (nI_lt (a := 99) (by omega) (by omega)) (qi (k t h))
  | succ m ih =>
    intro i b t hi h hm hw hn k
    apply bX7_left_32
    refine br_f (nI_nlt (a := 99) (by omega) (by decide)) ?_
    refine sp_isGone mo5 hm hw (by omega) ?_
    simp only [lft] at k
    by_cases h0 : fsum (pf b p) 8 = 0
    · rw [if_pos h0] at k ⊢
      exact br_f (by decide) (qi (k t h))
    · rw [if_neg h0] at k ⊢
      refine br_t rfl ⟨h.lw.1, ?_⟩
      refine sp_lie5 (f := 0) h hm hw (by omega) hz (fun t' h' hm' => ?_)
      rw [nI_1]
      exact ih (i + 1) _ t' (by omega) h' hm' (lieA_W hw (by omega) _ _) hn k
theorem sr_left {p z : Nat} {P : Int32 → Tt → Prop} (hp : p < pn (aP a)) (hz : z < 10) : ∀ m i b t, i + m = 100 → Rel t a → MoM t b → PpW b → pn b = pn (aP a) → (∀ t', Rel t' a → P (lft (aL a) p z m i b) t') → Rt g (d + 5) mX8_left 26 [some (.ref 57), some (.int (nI p)), some (.int (nI z)), some (.int (nI i))] [] t (QI P) := by
  intro m
  induction m with
  | zero =>
    intro i b t hi h hm hw hn k
    apply bX8_left_26
    exact br_t (nI_lt (a := 99) (by omega) (by omega)) (qi (k t h))
  | succ m ih =>
    intro i b t hi h hm hw hn k
    apply bX8_left_26
    refine br_f (nI_nlt (a := 99) (by omega) (by decide)) ?_
    refine sr_isGone hm hw (by omega) ?_
    simp only [lft] at k
    by_cases h0 : fsum (pf b p) 8 = 0
    · rw [if_pos h0] at k ⊢
      exact br_f (by decide) (qi (k t h))
    · rw [if_neg h0] at k ⊢
      refine br_t rfl ?_
      refine sr_lie5 (f := 0) h hm hw (by omega) hz (fun t' h' hm' => ?_)
      rw [nI_1]
      exact ih (i + 1) _ t' (by omega) h' hm' (lieA_W hw (by omega) _ _) hn k
theorem both_left {x y : Int32} {Q : Int32 → Int32 → Tt → Prop} (h : Rel t a) (K : KK Q) : Rt g (d + 300) mX7_left 0 [some (.ref 0), some (.int x), some (.int y), none] [] t (QI (fun v t1 => Rt g (d + 300) mX8_left 0 [some (.ref 57), some (.int x), some (.int y), none] [] t1 (QI (fun w t2 => Q v w t2)))) := by
  have hn := h.n7
  apply bX7_left_0
  by_cases h1 : gd x (pn (aP a))
  · refine sp_nobody_g h.pc hn h1 (br_p rfl ?_)
    by_cases h2 : gd y 10
    · refine sp_out_g (n := 10) rfl (by decide) h2 (br_t rfl ?_)
      obtain ⟨p, hp, rfl⟩ := h1
      obtain ⟨z, hz, rfl⟩ := h2
      refine sp_copy5 h (fun t1 r1 m1 => ?_)
      refine sp_left hp hz 100 0 (aP a) t1 rfl r1 m1 h.pw rfl (fun t2 r2 => ?_)
      apply bX8_left_0
      refine sr_isPerson_g r2.pm hn ⟨p, hp, rfl⟩ (br_f (by decide) ?_)
      refine sr_in_g (n := 10) rfl (by decide) ⟨z, hz, rfl⟩ (br_n (by decide) ?_)
      refine sr_begin r2 (fun t3 r3 m3 => ?_)
      exact sr_left hp hz 100 0 (aP a) t3 rfl r3 m3 h.pw rfl (fun t4 r4 => K _ _ ⟨a, r4⟩)
    · refine sp_out_b (n := 10) rfl (by decide) h2 (br_f (by decide) (qi ?_))
      apply bX8_left_0
      exact sr_isPerson_g h.pm hn h1 (br_f (by decide) (sr_in_b (n := 10) rfl (by decide) h2 (br_p rfl (qi (K _ _ ⟨a, h⟩)))))
  · refine sp_nobody_b h.pc hn h1 (br_n (by decide) (qi ?_))
    apply bX8_left_0
    exact sr_isPerson_b h.pm hn h1 (br_t rfl (qi (K _ _ ⟨a, h⟩)))
-- enough
def wtg (b : Pp) (who : Nat) : Nat → Nat
  | 0 => 0
  | i + 1 => if capd who i = 1 then wtg b who i + worth b i else wtg b who i
theorem wtg_le {b : Pp} (hw : PpW b) (who : Nat) : ∀ i, i ≤ pn b → wtg b who i ≤ 162 * i := by
  intro i
  induction i with
  | zero => intro _; simp [wtg]
  | succ i ih =>
    intro hi
    have h1 := ih (by omega)
    have h2 := worth_le hw (p := i) (by omega)
    simp only [wtg]
    split <;> omega
def ebst (b : Pp) (x : Nat) : Nat → Option Nat
  | 0 => none
  | k + 1 => if x ≤ wtg b k (pn b) ∧ ∀ j, ebst b x k = some j → bits k < bits j then some k else ebst b x k
theorem ebst_lt {b : Pp} {x : Nat} : ∀ k j, ebst b x k = some j → j < k := by
  intro k
  induction k with
  | zero => intro j h; cases h
  | succ k ih =>
    intro j h
    simp only [ebst] at h
    split at h
    · cases h; omega
    · have := ih j h; omega
theorem bits_lt {x : Nat} (h : x < 1024) : bits x < 2 ^ 31 := by have := bits_le h; omega
theorem n7_pow {n : Nat} (h : n ≤ 7) : 2 ^ n ≤ 128 := by have := Nat.pow_le_pow_right (show 2 > 0 by decide) h; omega
theorem sp_wtg {who : Nat} {b : Pp} {P : Int32 → Tt → Prop} (hm : MoC t 1 b) (hw : PpW b) (hwho : who < 1024) (h : P (nI (wtg b who (pn b))) t) : Rt g (d + 2) mX5_worthTogether 0 [some (.ref 1), some (.int (nI who)), none, none] [] t (QI P) := by
  have hn := hw.1
  apply bX5_worthTogether_0 mo1
  have key : ∀ m i, i + m = pn b → Rt g (d + 2) mX5_worthTogether 4 [some (.ref 1), some (.int (nI who)), some (.int (nI (wtg b who i))), some (.int (nI i))] [] t (QI P) := by
    intro m
    induction m with
    | zero =>
      intro i hi
      have : i = pn b := by omega
      subst this
      apply bX5_worthTogether_4 mo1
      rw [hm.1]
      exact br_t (nI_le (Nat.le_refl _) (by omega)) (qi h)
    | succ m ih =>
      intro i hi
      apply bX5_worthTogether_4 mo1
      rw [hm.1]
      refine br_f (nI_ge (by omega) (by omega)) ?_
      rw [bit_tab i (by omega) who hwho]
      have step : ∀ x, wtg b who (i + 1) = x → Rt g (d + 2) mX5_worthTogether 29 [some (.ref 1), some (.int (nI who)), some (.int (nI x)), some (.int (nI i))] [] t (QI P) := by
        intro x hx
        apply bX5_worthTogether_29 mo1
        rw [nI_1, ← hx]
        exact ih (i + 1) (by omega)
      have ew : wtg b who (i + 1) = if capd who i = 1 then wtg b who i + worth b i else wtg b who i := rfl
      rcases capd_01 who i with e | e
      · rw [e] at ew ⊢
        exact br_n (by decide) (step _ ew)
      · rw [e] at ew ⊢
        rw [if_pos rfl] at ew
        refine br_p rfl (sp_worthOf mo1 hm hw (by omega) ?_)
        intro z5 e5
        rw [nI_add] at e5
        rw [e5]
        exact step _ ew
  exact key (pn b) 0 (Nat.zero_add _)
theorem gI_m2 {b : Pp} {x k : Nat} (hk : k ≤ 128) : gI (ebst b x k) = -2 ↔ ebst b x k = none := by
  constructor
  · intro e
    cases h : ebst b x k with
    | none => rfl
    | some j =>
      have := ebst_lt _ _ h
      rw [h] at e
      exact absurd e (n2_n (k := j) (by omega))
  · intro e; rw [e]; rfl
def eans (b : Pp) (x : Nat) (y : Nat) : Int32 := match ebst b x (2 ^ pn b) with
  | none => -2
  | some j => if y = 1 then nI j else nI (bits j)
theorem sp_enough {x y : Nat} {b : Pp} {P : Int32 → Tt → Prop} (hm : MoC t 1 b) (hw : PpW b) (hx : x < 1000) (hy : y < 2) (h : P (eans b x y) t) : Rt g (d + 3) mX7_enough 26 [some (.ref 0), some (.int (nI x)), some (.int (nI y)), some (.int (-2)), some (.int 0), none] [] t (QI P) := by
  have hn := hw.1
  have hp := n7_pow hn
  have key : ∀ m k, k + m = 2 ^ pn b → Rt g (d + 3) mX7_enough 26 [some (.ref 0), some (.int (nI x)), some (.int (nI y)), some (.int (gI (ebst b x k))), some (.int (nI k)), none] [] t (QI P) := by
    intro m
    induction m with
    | zero =>
      intro k hk
      have : k = 2 ^ pn b := by omega
      subst this
      apply bX7_enough_26
      rw [hm.1, shl_tab _ (by omega)]
      refine br_t (nI_le (Nat.le_refl _) (by omega)) ?_
      unfold eans at h
      refine ⟨fun c => ?_, fun c => ?_⟩
      · rw [(gI_m2 hp).mp c] at h ⊢
        exact bX7_enough_103 (qi h)
      · cases hb : ebst b x (2 ^ pn b) with
        | none => exact absurd ((gI_m2 hp).mpr hb) c
        | some j =>
          have hj := ebst_lt _ _ hb
          rw [hb] at h
          refine ⟨fun c2 => ?_, fun c2 => ?_⟩
          · have hy1 : y ≠ 1 := fun q => c2 (by rw [q]; rfl)
            dsimp only at h
            rw [if_neg hy1] at h
            exact sp_bitCount (by omega) (qi h)
          · have hy1 : y = 1 := nI_inj (b := 1) (by omega) (by decide) c2
            dsimp only at h
            rw [if_pos hy1] at h
            exact bX7_enough_103 (qi h)
    | succ m ih =>
      intro k hk
      apply bX7_enough_26
      rw [hm.1, shl_tab _ (by omega)]
      refine br_f (nI_ge (by omega) (by omega)) ?_
      have ew : ebst b x (k + 1) = if x ≤ wtg b k (pn b) ∧ ∀ j, ebst b x k = some j → bits k < bits j then some k else ebst b x k := rfl
      have step : ∀ q, ebst b x (k + 1) = q → Rt g (d + 3) mX7_enough 86 [some (.ref 0), some (.int (nI x)), some (.int (nI y)), some (.int (gI q)), some (.int (nI k)), none] [] t (QI P) := by
        intro q hq
        apply bX7_enough_86
        rw [nI_1, ← hq]
        exact ih (k + 1) (by omega)
      have hwl := wtg_le hw k (pn b) (Nat.le_refl _)
      have go : (∀ j, ebst b x k = some j → bits k < bits j) → Rt g (d + 3) mX7_enough 58 [some (.ref 0), some (.int (nI x)), some (.int (nI y)), some (.int (gI (ebst b x k))), some (.int (nI k)), none] [] t (QI P) := by
        intro hj
        apply bX7_enough_58
        apply bX7_enough_63
        refine br_f (by decide) (sp_wtg hm hw (by omega) ⟨fun c => ?_, fun c => ?_⟩)
        · have c' := (nI_ltI (by omega) (by omega)).mp c
          rw [if_neg (fun q => by omega)] at ew
          exact step _ ew
        · have c' : ¬ wtg b k (pn b) < x := fun q => c (nI_lt q (by omega))
          rw [if_pos ⟨by omega, hj⟩] at ew
          exact step (some k) ew
      refine ⟨fun c => go (fun j hj => by rw [(gI_m2 (by omega)).mp c] at hj; cases hj), fun c => ?_⟩
      cases hb : ebst b x k with
      | none => exact absurd ((gI_m2 (by omega)).mpr hb) c
      | some j =>
        have hj := ebst_lt _ _ hb
        rw [hb] at go ew
        refine sp_bitCount (by omega) (sp_bitCount (x := j) (by omega) ⟨fun c2 => ?_, fun c2 => ?_⟩)
        · have c3 := (nI_leI (bits_lt (by omega)) (bits_lt (by omega))).mp c2
          apply bX7_enough_63
          rw [if_neg (fun q => by have := q.2 j rfl; omega)] at ew
          exact br_t rfl (step _ ew)
        · have c3 : ¬ bits j ≤ bits k := fun q => c2 (nI_le q (bits_lt (by omega)))
          exact go (fun j' hj' => by cases hj'; omega)
  exact key (2 ^ pn b) 0 (Nat.zero_add _)
end P37
