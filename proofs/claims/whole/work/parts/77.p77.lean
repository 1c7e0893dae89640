/-! PURE LAYER: the law -/
section P77
variable {g : Gt} {d : Nat} {t : Tt} {a : Aa}
theorem Rt.cl {M : Mt} {pc : Nat} {L : List (Option Value)} {S : List Value} {P P' : Int64 → Tt → Prop} (h : Rt g d M pc L S t (QL P)) (hq : ∀ v t', P v t' → P' v t') : Rt g d M pc L S t (QL P') := Rt.cq h (fun _ _ ⟨v, e, q⟩ => ⟨v, e, hq v _ q⟩)
def pp0 : Pp := (0, 3, fun _ _ => 0, fun _ => 0, fun _ => 0)
def a0 : Aa := (pp0, 0, (0, 0, fun _ => (0, 0, 0, 0)), (0, fun _ => 0), [], (false, pp0, fun _ => 0), fun _ => 0, (0, fun _ => 0, 0, fun _ => 0), (fun _ => (0, 0, 0), fun _ _ => 0))
theorem pp0_W : PpW pp0 := ⟨by decide, by decide, fun p hp => absurd hp (Nat.not_lt_zero p), fun p hp => absurd hp (Nat.not_lt_zero p)⟩
theorem capd_0 (f : Nat) : capd 0 f = 0 := by unfold capd; rw [Nat.zero_div]
theorem rel0 : Rel t0 a0 := by
  have n0 : ∀ {p : Nat}, p < pn (aP a0) → False := fun {p} hp => absurd hp (Nat.not_lt_zero p)
  refine ⟨⟨pp0_W, by decide, ⟨Nat.le_refl _, by decide, fun i hi => absurd hi (Nat.not_lt_zero i)⟩, ⟨by decide, fun i hi => absurd hi (Nat.not_lt_zero i)⟩, fun q => (by cases q), ⟨by decide, fun i hi => absurd hi (Nat.not_lt_zero i), by decide⟩, fun s hs => Or.inl rfl⟩, ⟨?_, rfl, ?_, ?_, ?_, Or.inl ⟨rfl, rfl⟩, ?_, ?_, ?_⟩, ⟨?_, ?_, ?_, ?_, Or.inl ⟨rfl, rfl⟩, Or.inl ⟨rfl, rfl⟩, ?_, ?_, ?_⟩⟩
  · exact ⟨rfl, rfl, fun p hp => (n0 hp).elim, fun p hp => (n0 hp).elim, fun p hp => (n0 hp).elim⟩
  · exact ⟨rfl, rfl, fun i hi => absurd hi (Nat.not_lt_zero i)⟩
  · exact ⟨rfl, fun i hi => absurd hi (Nat.not_lt_zero i)⟩
  · exact ⟨Or.inr rfl, Or.inl rfl, by decide, rfl, Nat.zero_le _, fun l hl => (by cases hl), fun i x hx => (by cases hx)⟩
  · exact fun k hk => rfl
  · exact ⟨rfl, rfl, fun i hi => absurd hi (Nat.not_lt_zero i), fun i _ hi => absurd hi (Nat.not_lt_zero i)⟩
  · intro s hs
    refine Or.inl ⟨rfl, ?_⟩
    match s, hs with
    | 0, _ => rfl
    | 1, _ => rfl
    | 2, _ => rfl
    | 3, _ => rfl
    | 4, _ => rfl
    | 5, _ => rfl
  · exact ⟨rfl, rfl, fun p hp => (n0 hp).elim, fun p hp => (n0 hp).elim, fun p hp => (n0 hp).elim⟩
  · intro f hf
    show t0.1 61 f = nI (capd 0 f)
    rw [capd_0]
    rfl
  · exact ⟨rfl, rfl, fun i hi => absurd hi (Nat.not_lt_zero i)⟩
  · exact ⟨rfl, fun i hi => absurd hi (Nat.not_lt_zero i)⟩
  · exact fun k hk => rfl
  · exact ⟨rfl, rfl, fun i hi => absurd hi (Nat.not_lt_zero i), fun i _ hi => absurd hi (Nat.not_lt_zero i)⟩
  · intro s hs
    refine Or.inl ⟨rfl, ?_⟩
    match s, hs with
    | 0, _ => rfl
    | 1, _ => rfl
    | 2, _ => rfl
    | 3, _ => rfl
    | 4, _ => rfl
    | 5, _ => rfl
theorem law_all (hL : gL g ≤ 3072) : Rt g (d + 301) mL_law 18 [some (.ref 1000), some (.ref 0), some (.ref 57), some (.int 0)] [] t0 (fun rv _ => rv = some (.int 1)) := by
  have e6 : ∀ i : Nat, i < 4000 → ((Int32.ofNat (gL g) - 6 : Int32) < nI i ↔ (gL g : Int) - 6 < i) := by
    intro i hi
    rw [lt_i, tI (by omega), show (Int32.ofNat (gL g) - 6 : Int32) = nI (gL g) - nI 6 from rfl, pk_sub_toInt (by omega) (by decide)]
    rfl
  have key : ∀ m i t a, gL g ≤ i + m → i ≤ gL g + 6 → Rel t a → Rt g (d + 301) mL_law 18 [some (.ref 1000), some (.ref 0), some (.ref 57), some (.int (nI i))] [] t (fun rv _ => rv = some (.int 1)) := by
    intro m
    induction m with
    | zero =>
      intro i t a hm hi h
      apply bL_law_18
      exact br_t ((e6 i (by omega)).mpr (by omega)) rfl
    | succ m ih =>
      intro i t a hm hi h
      by_cases hx : (gL g : Int) - 6 < i
      · apply bL_law_18
        exact br_t ((e6 i (by omega)).mpr hx) rfl
      have hi6 : i + 6 ≤ gL g := by omega
      have next : ∀ t', (∃ a', Rel t' a') → Rt g (d + 301) mL_law 1536 [some (.ref 1000), some (.ref 0), some (.ref 57), some (.int (nI i))] [] t' (fun rv _ => rv = some (.int 1)) := by
        intro t' ⟨a', h'⟩
        apply bL_law_1536
        rw [show (6 : Int32) = nI 6 from rfl, nI_add]
        exact ih (i + 6) t' a' (by omega) (by omega) h'
      have KI : KK (fun v w t5 => (v = w → Rt g (d + 301) mL_law 1536 [some (.ref 1000), some (.ref 0), some (.ref 57), some (.int (nI i))] [] t5 (fun rv _ => rv = some (.int 1))) ∧ (¬ v = w → (some (Value.int 0) : Option Value) = some (.int 1))) := fun v t' hr => ⟨fun _ => next t' hr, fun c => absurd rfl c⟩
      have KJ : KL (fun v w t5 => (v = w → Rt g (d + 301) mL_law 1536 [some (.ref 1000), some (.ref 0), some (.ref 57), some (.int (nI i))] [] t5 (fun rv _ => rv = some (.int 1))) ∧ (¬ v = w → (some (Value.int 0) : Option Value) = some (.int 1))) := fun v t' hr => ⟨fun _ => next t' hr, fun c => absurd rfl c⟩
      have gv : ∀ k : Nat, k < 6 → vp_in (nI i + nI k) (gL g) := fun k hk => by rw [nI_add]; exact vpn (by omega) (by omega)
      have g1 : vp_in (nI i + 1) (gL g) := gv 1 (by decide)
      have g2 : vp_in (nI i + 2) (gL g) := gv 2 (by decide)
      have g3 : vp_in (nI i + 3) (gL g) := gv 3 (by decide)
      have g4 : vp_in (nI i + 4) (gL g) := gv 4 (by decide)
      have g5 : vp_in (nI i + 5) (gL g) := gv 5 (by decide)
      apply bL_law_18
      refine br_f (fun c => hx ((e6 i (by omega)).mp c)) ⟨vpn (by omega) (by omega), ?_⟩
      intro z3 e3
      clear e3

      refine ⟨fun _ => bL_law_212 ⟨g1, (both_person (d := d) h KI).ci (fun v t' q => ⟨g1, q⟩)⟩, fun _ => ?_⟩
      refine ⟨fun _ => bL_law_235 ⟨g1, g2, g3, (both_people (d := d) h KI).ci (fun v t' q => ⟨g1, g2, g3, q⟩)⟩, fun _ => ?_⟩
      refine ⟨fun _ => bL_law_278 ⟨g1, g2, g3, (both_mend (d := d) h KI).ci (fun v t' q => ⟨g1, g2, g3, q⟩)⟩, fun _ => ?_⟩
      refine ⟨fun _ => bL_law_321 ⟨g1, g2, (both_of (d := d) h KI).ci (fun v t' q => ⟨g1, g2, q⟩)⟩, fun _ => ?_⟩
      refine ⟨fun _ => bL_law_354 ⟨g1, (both_feed (d := d) h KI).ci (fun v t' q => ⟨g1, q⟩)⟩, fun _ => ?_⟩
      refine ⟨fun _ => bL_law_377 ((both_law (d := d) h KI).ci (fun v t' q => q)), fun _ => ?_⟩
      refine ⟨fun _ => bL_law_390 ⟨g1, g2, (both_takes (d := d) h KI).ci (fun v t' q => ⟨g1, g2, q⟩)⟩, fun _ => ?_⟩
      refine ⟨fun _ => bL_law_423 ⟨g1, g2, g3, (both_trial (d := d) h KI).ci (fun v t' q => ⟨g1, g2, g3, q⟩)⟩, fun _ => ?_⟩
      refine ⟨fun _ => bL_law_466 ⟨g1, g2, (both_tooth (d := d) h KI).ci (fun v t' q => ⟨g1, g2, q⟩)⟩, fun _ => ?_⟩
      refine ⟨fun _ => bL_law_499 ⟨g1, (both_gone (d := d) h KI).ci (fun v t' q => ⟨g1, q⟩)⟩, fun _ => ?_⟩
      refine ⟨fun _ => bL_law_522 ⟨g1, g2, (both_believed (d := d) h KI).ci (fun v t' q => ⟨g1, g2, q⟩)⟩, fun _ => ?_⟩
      refine ⟨fun _ => bL_law_555 ⟨g1, g2, (both_told (d := d) h KI).ci (fun v t' q => ⟨g1, g2, q⟩)⟩, fun _ => ?_⟩
      refine ⟨fun _ => bL_law_588 ⟨g1, g2, g3, (both_have (d := d) h KI).ci (fun v t' q => ⟨g1, g2, g3, q⟩)⟩, fun _ => ?_⟩
      refine ⟨fun _ => bL_law_631 ⟨g1, g2, (both_left (d := d) h KI).ci (fun v t' q => ⟨g1, g2, q⟩)⟩, fun _ => ?_⟩
      refine ⟨fun _ => bL_law_664 ⟨g1, g2, (both_enough (d := d) h KI).ci (fun v t' q => ⟨g1, g2, q⟩)⟩, fun _ => ?_⟩
      refine ⟨fun _ => bL_law_697 ⟨g1, (both_jury (d := d) h KI).ci (fun v t' q => ⟨g1, q⟩)⟩, fun _ => ?_⟩
      refine ⟨fun _ => bL_law_720 ⟨g1, g2, g3, (both_bribe (d := d) h KI).ci (fun v t' q => ⟨g1, g2, g3, q⟩)⟩, fun _ => ?_⟩
      refine ⟨fun _ => bL_law_763 ⟨g1, g2, g3, (both_liesFor (d := d) h KI).ci (fun v t' q => ⟨g1, g2, g3, q⟩)⟩, fun _ => ?_⟩
      refine ⟨fun _ => bL_law_806 ⟨g1, g2, g3, (both_two (d := d) h KI).ci (fun v t' q => ⟨g1, g2, g3, q⟩)⟩, fun _ => ?_⟩
      refine ⟨fun _ => bL_law_849 ⟨g1, (both_others (d := d) h KI).ci (fun v t' q => ⟨g1, q⟩)⟩, fun _ => ?_⟩
      refine ⟨fun _ => bL_law_872 ⟨g1, g2, g3, (both_isSo (d := d) h KI).ci (fun v t' q => ⟨g1, g2, g3, q⟩)⟩, fun _ => ?_⟩
      refine ⟨fun _ => bL_law_915 ⟨g1, g2, g3, (both_drawn (d := d) h KI).ci (fun v t' q => ⟨g1, g2, g3, q⟩)⟩, fun _ => ?_⟩
      refine ⟨fun _ => bL_law_958 ⟨g1, g2, (both_say (d := d) h KI).ci (fun v t' q => ⟨g1, g2, q⟩)⟩, fun _ => ?_⟩
      refine ⟨fun _ => bL_law_991 ⟨g1, g2, (both_lend (d := d) h KI).ci (fun v t' q => ⟨g1, g2, q⟩)⟩, fun _ => ?_⟩
      refine ⟨fun _ => bL_law_1024 ⟨g1, g2, (both_cap (d := d) h KI).ci (fun v t' q => ⟨g1, g2, q⟩)⟩, fun _ => ?_⟩
      refine ⟨fun _ => bL_law_1057 ((both_year (d := d) h KI).ci (fun v t' q => q)), fun _ => ?_⟩
      refine ⟨fun _ => bL_law_1070 ⟨g1, (both_led (d := d) h KI).ci (fun v t' q => ⟨g1, q⟩)⟩, fun _ => ?_⟩
      refine ⟨fun _ => bL_law_1093 ((both_image (d := d) h KI).ci (fun v t' q => q)), fun _ => ?_⟩
      refine ⟨fun _ => bL_law_1106 ((both_back (d := d) h KI).ci (fun v t' q => q)), fun _ => ?_⟩
      refine ⟨fun _ => bL_law_1119 ((both_undo (d := d) h KI).ci (fun v t' q => q)), fun _ => ?_⟩
      refine ⟨fun _ => bL_law_1132 ((both_redo (d := d) h KI).ci (fun v t' q => q)), fun _ => ?_⟩
      refine ⟨fun _ => bL_law_1145 ⟨g1, (both_body (d := d) h KI).ci (fun v t' q => ⟨g1, q⟩)⟩, fun _ => ?_⟩
      refine ⟨fun _ => bL_law_1168 ⟨g1, g2, g3, (both_act (d := d) h KI).ci (fun v t' q => ⟨g1, g2, g3, q⟩)⟩, fun _ => ?_⟩
      refine ⟨fun _ => bL_law_1211 ⟨g1, (both_trace (d := d) h KI).ci (fun v t' q => ⟨g1, q⟩)⟩, fun _ => ?_⟩
      refine ⟨fun _ => bL_law_1234 ⟨g1, g2, (both_keep (d := d) h KI).ci (fun v t' q => ⟨g1, g2, q⟩)⟩, fun _ => ?_⟩
      refine ⟨fun _ => bL_law_1267 ⟨g1, g2, g3, (both_row (d := d) h KI).ci (fun v t' q => ⟨g1, g2, g3, q⟩)⟩, fun _ => ?_⟩
      refine ⟨fun _ => bL_law_1310 ⟨g1, g2, g3, g4, (both_put (d := d) h KI).ci (fun v t' q => ⟨g1, g2, g3, g4, q⟩)⟩, fun _ => ?_⟩
      refine ⟨fun _ => bL_law_1383 ⟨g1, g2, (both_element (d := d) h KJ).cl (fun v t' q => ⟨g1, g2, q⟩)⟩, fun _ => ?_⟩
      refine ⟨fun _ => bL_law_1417 ⟨g1, g2, g3, g4, g5, (both_shift (d := d) h KI).ci (fun v t' q => ⟨g1, g2, g3, g4, g5, q⟩)⟩, fun _ => ?_⟩
      refine ⟨fun _ => bL_law_1480 ⟨g1, g2, (both_taken (d := d) h KI).ci (fun v t' q => ⟨g1, g2, q⟩)⟩, fun _ => ?_⟩
      refine ⟨fun _ => bL_law_1513 ⟨g1, (both_count (d := d) h KI).ci (fun v t' q => ⟨g1, q⟩)⟩, fun _ => ?_⟩
      exact next t ⟨a, h⟩
  exact key (gL g) 0 t0 a0 (by omega) (Nat.zero_le _) rel0
end P77
