/-! PURE LAYER: the sayings of a trial, as they lie in a row -/
section P30
variable {g : Gt} {d : Nat} {t : Tt}
abbrev Sy : Type := Nat × Nat × Nat × Nat
abbrev inB (x : Int64) (n : Nat) : Prop := 0 ≤ x.toInt ∧ x.toInt < n
def sC (c : Nat → Int64) (i : Nat) : Sy := ((c (4 * i)).toInt.toNat, (c (4 * i + 1)).toInt.toNat, (c (4 * i + 2)).toInt.toNat, (c (4 * i + 3)).toInt.toNat)
abbrev okS (n sz : Nat) (c : Nat → Int64) (i : Nat) : Prop := 4 * i + 4 ≤ sz ∧ inB (c (4 * i)) n ∧ inB (c (4 * i + 1)) 10 ∧ inB (c (4 * i + 2)) 2 ∧ inB (c (4 * i + 3)) 10
def tcn (n sz : Nat) (c : Nat → Int64) : Nat → Nat → Nat
  | 0, k => k
  | m + 1, k => if okS n sz c k then tcn n sz c m (k + 1) else k
abbrev Tr : Type := Nat × (Nat → Sy)
def trl (n sz : Nat) (c : Nat → Int64) : Tr := (tcn n sz c 15 0, sC c)
def okY (n : Nat) (s : Sy) : Prop := s.1 < n ∧ s.2.1 < 10 ∧ s.2.2.1 < 2 ∧ s.2.2.2 < 10
def trW (n : Nat) (r : Tr) : Prop := r.1 ≤ 15 ∧ ∀ i, i < r.1 → okY n (r.2 i)
theorem inB_n {x : Int64} {n : Nat} (h : inB x n) : x.toInt.toNat < n := by unfold inB at h; omega
theorem okS_Y {n sz : Nat} {c : Nat → Int64} {i : Nat} (h : okS n sz c i) : okY n (sC c i) := ⟨inB_n h.2.1, inB_n h.2.2.1, inB_n h.2.2.2.1, inB_n h.2.2.2.2⟩
theorem tcn_le (n sz : Nat) (c : Nat → Int64) : ∀ m k, tcn n sz c m k ≤ k + m := by
  intro m
  induction m with
  | zero => intro k; exact Nat.le_refl _
  | succ m ih =>
    intro k
    simp only [tcn]
    split
    · have := ih (k + 1); omega
    · omega
theorem tcn_ok (n sz : Nat) (c : Nat → Int64) : ∀ m k i, k ≤ i → i < tcn n sz c m k → okS n sz c i := by
  intro m
  induction m with
  | zero => intro k i h1 h2; simp only [tcn] at h2; omega
  | succ m ih =>
    intro k i h1 h2
    simp only [tcn] at h2
    split at h2
    · rename_i h
      by_cases hk : i = k
      · subst hk; exact h
      · exact ih (k + 1) i (by omega) h2
    · omega
theorem trl_W (n sz : Nat) (c : Nat → Int64) : trW n (trl n sz c) := ⟨by have := tcn_le n sz c 15 0; exact this, fun i hi => okS_Y (tcn_ok n sz c 15 0 i (Nat.zero_le _) hi)⟩
def TrC (t : Tt) (r : Tr) : Prop := t.1 13 0 = nI r.1 ∧ ∀ i, i < r.1 → t.1 14 i = nI (r.2 i).1 ∧ t.1 15 i = nI (2 * (r.2 i).2.1 + (r.2 i).2.2.1) ∧ t.1 16 i = nI (r.2 i).2.2.2
def TrM (t : Tt) (r : Tr) : Prop := t.1 57 33 = nI r.1 ∧ ∀ i, i < r.1 → t.1 76 i = nI (r.2 i).1 ∧ t.1 77 i = nI (r.2 i).2.1 ∧ t.1 78 i = nI (r.2 i).2.2.1 ∧ t.1 79 i = nI (r.2 i).2.2.2
def SuS (o j : Nat) : Prop := (o = 13 ∧ j = 0) ∨ o = 14 ∨ o = 15 ∨ o = 16
def LyS (o j : Nat) : Prop := (o = 57 ∧ j = 33) ∨ o = 76 ∨ o = 77 ∨ o = 78 ∨ o = 79
theorem lt_l (x y : Int64) : x < y ↔ x.toInt < y.toInt := Int64.lt_iff_toInt_lt
theorem le_l (x y : Int64) : x ≤ y ↔ x.toInt ≤ y.toInt := Int64.le_iff_toInt_le
theorem inB_of {x : Int64} {n : Nat} (h : inB x n) : x = Int64.ofNat x.toInt.toNat := by
  apply Int64.toInt_inj.mp
  have h1 := Int64.toInt_lt x
  rw [Int64.toInt_ofNat_of_lt (by unfold inB at h; omega)]
  unfold inB at h
  omega
theorem l3_tab : ∀ k, k < 10 → (Int64.ofNat k).toInt32 = nI k := by decide +kernel
theorem l2_tab : ∀ f, f < 10 → ∀ v, v < 2 → (Int64.ofNat f * 2 + Int64.ofNat v).toInt32 = nI (2 * f + v) := by decide +kernel
theorem inB_32 {x : Int64} {n : Nat} (h : inB x n) (hn : n ≤ 10) : x.toInt32 = nI x.toInt.toNat := by
  have h1 := inB_n h
  rw [inB_of h, l3_tab _ (by omega), ← inB_of h]
theorem nI_64 {n : Nat} (h : n < 2 ^ 31) : (nI n).toInt64.toInt = n := by rw [Int32.toInt_toInt64, tI h]
theorem sp_summon {s n sz : Nat} {c : Nat → Int64} {P : Tt → Prop} (hs : s < 6) (hn : n ≤ 7) (hsz : sz ≤ 60) (hZ : t.1 (45 + 2 * s) 1 = nI sz) (hJ : ∀ i, i < 60 → t.2.1 (45 + 2 * s + 1) i = c i)
    (h : ∀ t', Fr SuS t t' → TrC t' (trl n sz c) → P t') : Rt g d mX2_summon 0 [some (.ref 13), some (.ref (45 + 2 * s)), some (.int (nI n)), none, none, none, none, none, none, none, none, none, none, none] [] t (QV P) := by
  have ho : isSh (45 + 2 * s) := by unfold isSh; omega
  apply bX2_summon_0 ho
  obtain ⟨N, hN⟩ : ∃ N, tcn n sz c 15 0 = N := ⟨_, rfl⟩
  have h : ∀ t', Fr SuS t t' → TrC t' (N, sC c) → P t' := fun t' a b => h t' a (by unfold trl; rw [hN]; exact b)
  have key : ∀ m i t2, i + m = 15 → tcn n sz c m i = N → Fr SuS t t2 → t2.1 13 0 = nI i → (∀ q, q < i → okS n sz c q) → (∀ q, q < i → t2.1 14 q = nI (sC c q).1 ∧ t2.1 15 q = nI (2 * (sC c q).2.1 + (sC c q).2.2.1) ∧ t2.1 16 q = nI (sC c q).2.2.2) → Rt g d mX2_summon 7 [some (.ref 13), some (.ref (45 + 2 * s)), some (.int (nI n)), some (.int (nI (4 * i))), none, none, none, none, none, none, none, none, none, none] [] t2 (QV P) := by
    intro m
    induction m with
    | zero =>
      intro i t2 hi hc hf h13 hok hq
      have e : i = 15 := by omega
      subst e
      apply bX2_summon_7 ho
      have fin : P t2 := h t2 hf ⟨by rw [h13]; simp only [tcn] at hc; dsimp only; rw [hc], fun q hq' => hq q (by simp only [tcn] at hc; dsimp only at hq'; omega)⟩
      refine ⟨fun _ => qv fin, fun _ => br_t (by rw [h13]; exact nI_le (a := 15) (by omega) (by decide)) (qv fin)⟩
    | succ m ih =>
      intro i t2 hi hc hf h13 hok hq
      apply bX2_summon_7 ho
      have hZ2 : t2.1 (45 + 2 * s) 1 = nI sz := by rw [hf.1 _ _ (by unfold SuS; omega)]; exact hZ
      have hJ2 : ∀ q, q < 60 → t2.2.1 (45 + 2 * s + 1) q = c q := by rw [hf.2]; exact hJ
      simp only [tcn] at hc
      have stop : ¬ okS n sz c i → P t2 := by
        intro hno
        rw [if_neg hno] at hc
        exact h t2 hf ⟨by rw [h13, hc], fun q hq' => hq q (by dsimp only at hq'; omega)⟩
      rw [hZ2, show (4 : Int32) = nI 4 from rfl, nI_add]
      refine ⟨fun c1 => qv (stop (fun q => ?_)), fun c1 => ?_⟩
      · have := (nI_ltI (by omega) (by omega)).mp c1
        have := q.1
        omega
      · have hsz4 : 4 * i + 4 ≤ sz := Nat.le_of_not_lt (fun q => c1 (nI_lt q (by omega)))
        rw [h13]
        refine br_f (nI_ge (b := 15) (by omega) (by decide)) ⟨vpn (by omega), ?_⟩
        intro z4 e4
        rw [ncl (by omega), hJ2 _ (by omega)] at e4
        rw [show nI (4 * i) + 1 = nI (4 * i + 1) from by rw [nI_1], show nI (4 * i) + 2 = nI (4 * i + 2) from nI_add _ _, show nI (4 * i) + 3 = nI (4 * i + 3) from nI_add _ _]
        refine ⟨vpn (by omega), ?_⟩
        intro z6 e6
        rw [ncl (by omega), hJ2 _ (by omega)] at e6
        refine ⟨vpn (by omega), ?_⟩
        intro z8 e8
        rw [ncl (by omega), hJ2 _ (by omega)] at e8
        refine ⟨vpn (by omega), ?_⟩
        intro z10 e10
        rw [ncl (by omega), hJ2 _ (by omega)] at e10
        have z64 : (0 : Int64).toInt = 0 := rfl
        have t64 : (10 : Int64).toInt = 10 := rfl
        have o64 : (1 : Int64).toInt = 1 := rfl
        -- the last step
        have last : ∀ (x12 s0 : Int32), (x12 = 0 → ¬ okS n sz c i) → (s0 = 0 → ¬ okS n sz c i) → (¬ x12 = 0 → inB z4 n) → (¬ s0 = 0 → inB z6 10 ∧ inB z8 2) → Rt g d mX2_summon 121 [some (.ref 13), some (.ref (45 + 2 * s)), some (.int (nI n)), some (.int (nI (4 * i))), some (.long z4), none, some (.long z6), none, some (.long z8), none, some (.long z10), none, some (.int x12), none] [.int s0] t2 (QV P) := by
          intro x12 s0 a1 a2 a3 a4
          apply bX2_summon_121 ho
          refine ⟨fun c2 => qv (stop (a1 c2)), fun c2 => ⟨fun c3 => qv (stop (a2 c3)), fun c3 => ⟨fun c4 => qv (stop (fun q => ?_)), fun c4 => ⟨fun c5 => ?_, fun c5 => qv (stop (fun q => ?_))⟩⟩⟩⟩
          · have := q.2.2.2.2.1
            rw [← e10] at this
            rw [lt_l, z64] at c4
            omega
          · have hs1 := a3 c2
            have hs2 := (a4 c3).1
            have hs3 := (a4 c3).2
            have hs4 : inB z10 10 := by rw [lt_l, z64] at c4; rw [lt_l, t64] at c5; unfold inB; omega
            have hok' : okS n sz c i := ⟨hsz4, by rw [← e4]; exact hs1, by rw [← e6]; exact hs2, by rw [← e8]; exact hs3, by rw [← e10]; exact hs4⟩
            have k1 : z4.toInt32 = nI (sC c i).1 := by rw [inB_32 hs1 (by omega), e4]; rfl
            have k2 : ((z6 * 2) + z8).toInt32 = nI (2 * (sC c i).2.1 + (sC c i).2.2.1) := by
              rw [inB_of hs2, inB_of hs3, l2_tab _ (inB_n hs2) _ (inB_n hs3), e6, e8]; rfl
            have k3 : z10.toInt32 = nI (sC c i).2.2.2 := by rw [inB_32 hs4 (by omega), e10]; rfl
            rw [k1, k2, k3]
            have r1 : ∀ x, (pI t2 14 i x).1 13 0 = nI i := fun x => by rw [pI_o _ _ _ _ (by decide)]; exact h13
            have r2 : ∀ x y, (pI (pI t2 14 i x) 15 i y).1 13 0 = nI i := fun x y => by rw [pI_o _ _ _ _ (by decide)]; exact r1 x
            have r3 : ∀ x y w, (pI (pI (pI t2 14 i x) 15 i y) 16 i w).1 13 0 = nI i := fun x y w => by rw [pI_o _ _ _ _ (by decide)]; exact r2 x y
            rw [h13, ncl (by omega), r1, ncl (by omega), r2, ncl (by omega), r3]
            refine ⟨vpn (by omega), vpn (by omega), vpn (by omega), ?_⟩
            rw [nI_1, show (4 : Int32) = nI 4 from rfl, nI_add]
            rw [if_pos hok'] at hc
            refine ih (i + 1) _ (by omega) hc ?_ (pI_s _ _ _ _) (fun q hq' => ?_) (fun q hq' => ?_)
            · exact (((hf.pI _ (Or.inr (Or.inl rfl))).pI _ (Or.inr (Or.inr (Or.inl rfl)))).pI _ (Or.inr (Or.inr (Or.inr rfl)))).pI _ (Or.inl ⟨rfl, rfl⟩)
            · by_cases e : q = i
              · subst e; exact hok'
              · exact hok q (by omega)
            · by_cases e : q = i
              · subst e; simp [pI_a]
              · have := hq q (by omega)
                simpa [pI_a, e] using this
          · have := q.2.2.2.2.2
            rw [← e10] at this
            rw [lt_l, t64] at c5
            exact c5 (by exact_mod_cast this)
        have s2 : ∀ (x12 : Int32), (x12 = 0 → ¬ okS n sz c i) → (¬ x12 = 0 → inB z4 n) → Rt g d mX2_summon 84 [some (.ref 13), some (.ref (45 + 2 * s)), some (.int (nI n)), some (.int (nI (4 * i))), some (.long z4), none, some (.long z6), none, some (.long z8), none, some (.long z10), none, none, none] [.int x12] t2 (QV P) := by
          intro x12 a1 a3
          have bad : ¬ (inB z6 10 ∧ inB z8 2) → Rt g d mX2_summon 120 [some (.ref 13), some (.ref (45 + 2 * s)), some (.int (nI n)), some (.int (nI (4 * i))), some (.long z4), none, some (.long z6), none, some (.long z8), none, some (.long z10), none, some (.int x12), none] [] t2 (QV P) := by
            intro hb
            apply bX2_summon_120 ho
            exact last x12 0 a1 (fun _ q => hb ⟨by rw [e6]; exact q.2.2.1, by rw [e8]; exact q.2.2.2.1⟩) a3 (fun c => absurd rfl c)
          apply bX2_summon_84 ho
          refine ⟨fun c2 => bad (fun q => ?_), fun c2 => ⟨fun c3 => bad (fun q => ?_), fun c3 => ⟨fun c4 => bad (fun q => ?_), fun c4 => ⟨fun c5 => bad (fun q => ?_), fun c5 => ?_⟩⟩⟩⟩
          · rw [lt_l, z64] at c2; have := q.1.1; omega
          · rw [le_l, t64] at c3; have := q.1.2; omega
          · rw [lt_l, z64] at c4; have := q.2.1; omega
          · rw [lt_l, o64] at c5; have := q.2.2; omega
          · refine last x12 1 a1 (fun c => absurd c (by decide)) a3 (fun _ => ?_)
            rw [lt_l, z64] at c2 c4
            rw [le_l, t64] at c3
            rw [lt_l, o64] at c5
            unfold inB
            omega
        refine ⟨fun c2 => ?_, fun c2 => ⟨fun c3 => ?_, fun c3 => ?_⟩⟩
        · apply bX2_summon_83 ho
          refine s2 0 (fun _ q => ?_) (fun c => absurd rfl c)
          have := q.2.1.1
          rw [← e4] at this
          rw [lt_l, z64] at c2
          omega
        · apply bX2_summon_83 ho
          refine s2 0 (fun _ q => ?_) (fun c => absurd rfl c)
          have := q.2.1.2
          rw [← e4] at this
          rw [le_l, nI_64 (by omega)] at c3
          omega
        · refine s2 1 (fun c => absurd c (by decide)) (fun _ => ?_)
          rw [lt_l, z64] at c2
          rw [le_l, nI_64 (by omega)] at c3
          unfold inB
          omega
  exact key 15 0 (pI t 13 0 0) rfl hN ((Fr.rf SuS t).pI _ (Or.inl ⟨rfl, rfl⟩)) (pI_s _ _ _ _) (fun q hq => absurd hq (by omega)) (fun q hq => absurd hq (by omega))
-- the reference
theorem by32 {x : Int64} (h : -128 ≤ x.toInt ∧ x.toInt ≤ 127) : x.toInt32.toInt = x.toInt := by
  rw [Int64.toInt_toInt32]
  exact Int.bmod_eq_of_le (by omega) (by omega)
theorem gd_inB {x : Int64} {n : Nat} (hn : n < 2 ^ 31) (h : -128 ≤ x.toInt ∧ x.toInt ≤ 127) : gd x.toInt32 n ↔ inB x n := by
  rw [gd_iff hn, by32 h]
theorem sr_seenAt {s i : Nat} {x : Int64} {P : Int32 → Tt → Prop} (hs : s < 6) (hi : i < 60) (hx : t.2.1 91 (60 * s + i) = x) (h : P x.toInt32 t) : Rt g d mX8_seenAt 0 [some (.ref 57), some (.int (nI s)), some (.int (nI i))] [] t (QI P) := by
  apply bX8_seenAt_0
  have e : 60 * nI s + nI i = nI (60 * s + i) := by rw [show (60 : Int32) = nI 60 from rfl, pk_mul, nI_add]
  rw [e]
  refine ⟨vpn (by omega), qi ?_⟩
  rw [ncl (by omega), hx]
  exact h
theorem sr_layTrial {s n sz : Nat} {c : Nat → Int64} {P : Tt → Prop} (hs : s < 6) (hn : n ≤ 7) (hp : t.1 57 1 = nI n) (hsz : sz ≤ 60) (hZ : t.1 90 s = nI sz) (hJ : ∀ i, i < 60 → t.2.1 91 (60 * s + i) = c i) (hb : ∀ i, i < 60 → -128 ≤ (c i).toInt ∧ (c i).toInt ≤ 127)
    (h : ∀ t', Fr LyS t t' → TrM t' (trl n sz c) → P t') : Rt g (d + 2) mX8_layTrial 0 [some (.ref 57), some (.int (nI s)), none] [] t (QV P) := by
  apply bX8_layTrial_0
  obtain ⟨N, hN⟩ : ∃ N, tcn n sz c 15 0 = N := ⟨_, rfl⟩
  have h : ∀ t', Fr LyS t t' → TrM t' (N, sC c) → P t' := fun t' a b => h t' a (by unfold trl; rw [hN]; exact b)
  have key : ∀ m i t2, i + m = 15 → tcn n sz c m i = N → Fr LyS t t2 → t2.1 57 33 = nI i → (∀ q, q < i → t2.1 76 q = nI (sC c q).1 ∧ t2.1 77 q = nI (sC c q).2.1 ∧ t2.1 78 q = nI (sC c q).2.2.1 ∧ t2.1 79 q = nI (sC c q).2.2.2) → Rt g (d + 2) mX8_layTrial 7 [some (.ref 57), some (.int (nI s)), some (.int (nI i))] [] t2 (QV P) := by
    intro m
    induction m with
    | zero =>
      intro i t2 hi hc hf h33 hq
      have e : i = 15 := by omega
      subst e
      apply bX8_layTrial_7
      simp only [tcn] at hc
      have fin : P t2 := h t2 hf ⟨by rw [h33, hc], fun q hq' => hq q (by dsimp only at hq'; omega)⟩
      refine ⟨vpn hs, fun _ => qv fin, fun _ => br_t (nI_le (a := 15) (by omega) (by decide)) (qv fin)⟩
    | succ m ih =>
      intro i t2 hi hc hf h33 hq
      apply bX8_layTrial_7
      have hZ2 : t2.1 90 s = nI sz := by rw [hf.1 _ _ (by unfold LyS; omega)]; exact hZ
      have hJ2 : ∀ q, q < 60 → t2.2.1 91 (60 * s + q) = c q := by rw [hf.2]; exact hJ
      have hp2 : t2.1 57 1 = nI n := by rw [hf.1 _ _ (by unfold LyS; omega)]; exact hp
      simp only [tcn] at hc
      have stop : ¬ okS n sz c i → QV P none t2 := by
        intro hno
        rw [if_neg hno] at hc
        exact qv (h t2 hf ⟨by rw [h33, hc], fun q hq' => hq q (by dsimp only at hq'; omega)⟩)
      rw [show (4 : Int32) = nI 4 from rfl, show (3 : Int32) = nI 3 from rfl, show (2 : Int32) = nI 2 from rfl]
      simp only [pk_mul, nI_add, nI_1]
      refine ⟨vpn hs, ?_⟩
      rw [ncl (by omega), hZ2]
      refine ⟨fun c1 => stop (fun q => ?_), fun c1 => ?_⟩
      · have := (nI_leI (by omega) (by omega)).mp c1
        have := q.1
        omega
      · have hsz4 : 4 * i + 4 ≤ sz := Nat.le_of_not_lt (fun q => c1 (nI_le (by omega) (by omega)))
        refine br_f (nI_ge (b := 15) (by omega) (by decide)) ?_
        have hb0 := hb (4 * i) (by omega)
        have hb1 := hb (4 * i + 1) (by omega)
        have hb2 := hb (4 * i + 2) (by omega)
        have hb3 := hb (4 * i + 3) (by omega)
        refine sr_seenAt hs (by omega) (hJ2 _ (by omega)) ?_
        by_cases g0 : inB (c (4 * i)) n
        · refine sr_isPerson_g hp2 hn ((gd_inB (by omega) hb0).mpr g0) (br_f (by decide) ?_)
          refine sr_seenAt hs (by omega) (hJ2 _ (by omega)) ?_
          by_cases g1 : inB (c (4 * i + 1)) 10
          · refine sr_isFact_g ((gd_inB (by omega) hb1).mpr g1) (br_f (by decide) ?_)
            refine sr_seenAt hs (by omega) (hJ2 _ (by omega)) ?_
            by_cases g2 : inB (c (4 * i + 2)) 2
            · refine sr_in_g (n := 2) rfl (by decide) ((gd_inB (by omega) hb2).mpr g2) (br_f (by decide) ?_)
              refine sr_seenAt hs (by omega) (hJ2 _ (by omega)) ?_
              by_cases g3 : inB (c (4 * i + 3)) 10
              · refine sr_in_g (n := 10) rfl (by decide) ((gd_inB (by omega) hb3).mpr g3) (br_n (by decide) ?_)
                have hok : okS n sz c i := ⟨hsz4, g0, g1, g2, g3⟩
                rw [if_pos hok] at hc
                refine sr_seenAt hs (by omega) (hJ2 _ (by omega)) ⟨vpn (by omega), ?_⟩
                rw [ncl (by omega)]
                refine sr_seenAt hs (by omega) (hJ2 _ (by omega)) ⟨vpn (by omega), ?_⟩
                refine sr_seenAt hs (by omega) (hJ2 _ (by omega)) ⟨vpn (by omega), ?_⟩
                refine sr_seenAt hs (by omega) (hJ2 _ (by omega)) ⟨vpn (by omega), ?_⟩
                rw [inB_32 g0 (by omega), inB_32 g1 (by omega), inB_32 g2 (by omega), inB_32 g3 (by omega)]
                have r : ∀ x y w u, (pI (pI (pI (pI t2 76 i x) 77 i y) 78 i w) 79 i u).1 57 33 = nI i := fun x y w u => by rw [pI_o _ _ _ _ (by decide), pI_o _ _ _ _ (by decide), pI_o _ _ _ _ (by decide), pI_o _ _ _ _ (by decide)]; exact h33
                rw [r, nI_1]
                refine ih (i + 1) _ (by omega) hc ?_ (pI_s _ _ _ _) (fun q hq' => ?_)
                · exact ((((hf.pI _ (by unfold LyS; omega)).pI _ (by unfold LyS; omega)).pI _ (by unfold LyS; omega)).pI _ (by unfold LyS; omega)).pI _ (by unfold LyS; omega)
                · by_cases e : q = i
                  · subst e; simp [pI_a, sC]
                  · have := hq q (by omega)
                    simpa [pI_a, e] using this
              · exact sr_in_b (n := 10) rfl (by decide) (fun q => g3 ((gd_inB (by omega) hb3).mp q)) (br_p rfl (stop (fun q => g3 q.2.2.2.2)))
            · exact sr_in_b (n := 2) rfl (by decide) (fun q => g2 ((gd_inB (by omega) hb2).mp q)) (br_t rfl (stop (fun q => g2 q.2.2.2.1)))
          · exact sr_isFact_b (fun q => g1 ((gd_inB (by omega) hb1).mp q)) (br_t rfl (stop (fun q => g1 q.2.2.1)))
        · exact sr_isPerson_b hp2 hn (fun q => g0 ((gd_inB (by omega) hb0).mp q)) (br_t rfl (stop (fun q => g0 q.2.1)))
  exact key 15 0 (pI t 57 33 0) rfl hN ((Fr.rf LyS t).pI _ (Or.inl ⟨rfl, rfl⟩)) (pI_s _ _ _ _) (fun q hq => absurd hq (by omega))
end P30
