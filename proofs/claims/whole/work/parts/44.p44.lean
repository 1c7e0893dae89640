/-! PURE LAYER: two -/
section P44
variable {g : Gt} {d : Nat} {t : Tt} {a : Aa}
def twP (pr : Prog) (b : Pp) (p i : Nat) : Pp := lieA (prc pr (lieA (prc pr b p 0 (i / 10)) b p (i / 10)) p 0 (i % 10)) (lieA (prc pr b p 0 (i / 10)) b p (i / 10)) p (i % 10)
def twA (pr : Prog) (b : Pp) (p : Nat) (c : Nat → Int64) : Nat → Nat × Option Nat
  | 0 => (0, none)
  | i + 1 => if sees (twP pr b p i) p c then ((twA pr b p c i).1 + 1, if (twA pr b p c i).2 = none then some i else (twA pr b p c i).2) else twA pr b p c i
theorem twA_ok {pr : Prog} {b : Pp} {p : Nat} {c : Nat → Int64} : ∀ i, (twA pr b p c i).1 ≤ i ∧ ((twA pr b p c i).1 = 0 ↔ (twA pr b p c i).2 = none) ∧ ∀ j, (twA pr b p c i).2 = some j → j < i := by
  intro i
  induction i with
  | zero => exact ⟨Nat.le_refl _, ⟨fun _ => rfl, fun _ => rfl⟩, fun j h => by cases h⟩
  | succ i ih =>
    simp only [twA]
    split
    · refine ⟨by have := ih.1; dsimp only; omega, ⟨fun h => by dsimp only at h; omega, fun h => ?_⟩, fun j h => ?_⟩
      · dsimp only at h
        split at h
        · cases h
        · rename_i h1 h2; exact absurd h h2
      · dsimp only at h
        split at h
        · cases h; omega
        · have := ih.2.2 j h; omega
    · exact ⟨by have := ih.1; omega, ih.2.1, fun j h => by have := ih.2.2 j h; omega⟩
theorem both_two {x y z : Int32} {Q : Int32 → Int32 → Tt → Prop} (h : Rel t a) (K : KK Q) : Rt g (d + 300) mX7_two 0 [some (.ref 0), some (.int x), some (.int y), some (.int z), none, none, none, none] [] t (QI (fun v t1 => Rt g (d + 300) mX8_two 0 [some (.ref 57), some (.int x), some (.int y), some (.int z), none, none, none] [] t1 (QI (fun w t2 => Q v w t2)))) := by
  have hn := h.n7
  apply bX7_two_0
  by_cases h1 : gd x 6
  · refine sp_noShelf_g h1 (br_p rfl ?_)
    by_cases h2 : gd y (pn (aP a))
    · refine sp_nobody_g h.pc hn h2 (br_p rfl ?_)
      by_cases h3 : gd z 2
      · refine sp_out_g (n := 2) rfl (by decide) h3 (br_t rfl ?_)
        obtain ⟨s, hs, rfl⟩ := h1
        have md : ∀ (P : Int32 → Tt → Prop) t1, Rel t1 a → _ → Rt g (d + 300) mX8_two 0 [some (.ref 57), some (.int (nI s)), some (.int y), some (.int z), none, none, none] [] t1 (QI P) := fun P t1 r1 k => bX8_two_0 (sr_isShelf_g ⟨s, hs, rfl⟩ (br_f (by decide) (sr_isPerson_g r1.pm hn h2 (br_f (by decide) (sr_in_g (n := 2) rfl (by decide) h3 (br_n (by decide) k))))))
        refine sp_refusalOfMirror h hs ?_
        by_cases h4 : refM ((aH a).1 s) = 0
        · have hb := (refM_0 h4).1
          refine br_t h4 ?_
          obtain ⟨p, hp, rfl⟩ := h2
          obtain ⟨w, hw2, rfl⟩ := h3
          have hwP : ∀ i, PpW (twP (aL a) (aP a) p i) ∧ pn (twP (aL a) (aP a) p i) = pn (aP a) := fun i => ⟨lieA_W (lieA_W h.pw hp _ _) (show p < pn (lieA _ _ _ _) from hp) _ _, rfl⟩
          -- the reference
          have fin : ∀ r t1, Rel t1 a → (w = 0 → r = nI (twA (aL a) (aP a) p ((aH a).2 s) 100).1) → (w ≠ 0 → r = gI (twA (aL a) (aP a) p ((aH a).2 s) 100).2) → Rt g (d + 300) mX8_two 0 [some (.ref 57), some (.int (nI s)), some (.int (nI p)), some (.int (nI w)), none, none, none] [] t1 (QI (fun v t2 => Q r v t2)) := by
            intro r t1 r1 e0 e1
            refine md _ _ r1 ?_
            refine sr_mirror r1 hs (fun _ => ?_) (fun q => absurd h4 q)
            have key : ∀ m i t2, i + m = 100 → Rel t2 a → Rt g (d + 300) mX8_two 61 [some (.ref 57), some (.int (nI s)), some (.int (nI p)), some (.int (nI w)), some (.int (nI (twA (aL a) (aP a) p ((aH a).2 s) i).1)), some (.int (gI (twA (aL a) (aP a) p ((aH a).2 s) i).2)), some (.int (nI i))] [] t2 (QI (fun v t2 => Q r v t2)) := by
              intro m
              induction m with
              | zero =>
                intro i t2 hi r2
                have : i = 100 := by omega
                subst this
                apply bX8_two_61
                refine br_t (nI_le (a := 100) (by omega) (by decide)) ⟨fun c => qi ?_, fun c => qi ?_⟩
                · rw [e1 (fun q => c (by rw [q]; rfl))]; exact K _ _ ⟨a, r2⟩
                · rw [e0 (nI_inj (b := 0) (by omega) (by decide) c)]; exact K _ _ ⟨a, r2⟩
              | succ m ih =>
                intro i t2 hi r2
                have hok := twA_ok (pr := aL a) (b := aP a) (p := p) (c := (aH a).2 s) i
                apply bX8_two_61
                refine br_f (nI_ge (b := 100) (by omega) (by decide)) ?_
                refine sr_begin r2 (fun t3 r3 m3 => ?_)
                rw [l10, pk_div (by omega) (by decide) (by decide), jr_n (by omega) (by decide) (by decide)]
                refine sr_lie5 (f := 0) r3 m3 h.pw hp (by omega) (fun t4 r4 m4 => ?_)
                refine sr_lie5 (f := 0) r4 m4 (lieA_W h.pw hp _ _) hp (Nat.mod_lt _ (by decide)) (fun t5 r5 m5 => ?_)
                refine sr_isSeen m5 (hwP i).1 hp r5 hs hb ?_
                have ew : twA (aL a) (aP a) p ((aH a).2 s) (i + 1) = if sees (twP (aL a) (aP a) p i) p ((aH a).2 s) then ((twA (aL a) (aP a) p ((aH a).2 s) i).1 + 1, if (twA (aL a) (aP a) p ((aH a).2 s) i).2 = none then some i else (twA (aL a) (aP a) p ((aH a).2 s) i).2) else twA (aL a) (aP a) p ((aH a).2 s) i := rfl
                have step : ∀ u q, twA (aL a) (aP a) p ((aH a).2 s) (i + 1) = (u, q) → Rt g (d + 300) mX8_two 120 [some (.ref 57), some (.int (nI s)), some (.int (nI p)), some (.int (nI w)), some (.int (nI u)), some (.int (gI q)), some (.int (nI i))] [] t5 (QI (fun v t2 => Q r v t2)) := by
                  intro u q hq
                  apply bX8_two_120
                  have := ih (i + 1) t5 (by omega) r5
                  rw [hq] at this
                  rw [nI_1]
                  exact this
                by_cases h0 : sees (twP (aL a) (aP a) p i) p ((aH a).2 s)
                · rw [if_pos h0] at ew
                  rw [if_pos (show sees (lieA _ _ _ _) p _ from h0)]
                  refine br_n (by decide) ⟨fun c => ?_, fun c => ?_⟩
                  · have hne : (twA (aL a) (aP a) p ((aH a).2 s) i).2 ≠ none := fun q => c (by rw [hok.2.1.mpr q]; rfl)
                    rw [if_neg hne] at ew
                    apply bX8_two_117
                    rw [nI_1]
                    exact step _ _ ew
                  · have he : (twA (aL a) (aP a) p ((aH a).2 s) i).2 = none := hok.2.1.mp (nI_inj (b := 0) (by omega) (by decide) c)
                    rw [if_pos he] at ew
                    apply bX8_two_117
                    rw [nI_1]
                    exact step _ _ ew
                · rw [if_neg h0] at ew
                  rw [if_neg (show ¬ sees (lieA _ _ _ _) p _ from h0)]
                  exact br_p rfl (step _ _ ew)
            exact key 100 0 t1 rfl r1
          have key : ∀ m i t2, i + m = 100 → Rel t2 a → Rt g (d + 300) mX7_two 50 [some (.ref 0), some (.int (nI s)), some (.int (nI p)), some (.int (nI w)), none, some (.int (nI (twA (aL a) (aP a) p ((aH a).2 s) i).1)), some (.int (gI (twA (aL a) (aP a) p ((aH a).2 s) i).2)), some (.int (nI i))] [] t2 (QI (fun v t1 => Rt g (d + 300) mX8_two 0 [some (.ref 57), some (.int (nI s)), some (.int (nI p)), some (.int (nI w)), none, none, none] [] t1 (QI (fun w t2 => Q v w t2)))) := by
            intro m
            induction m with
            | zero =>
              intro i t2 hi r2
              have : i = 100 := by omega
              subst this
              apply bX7_two_50
              refine br_t (nI_le (a := 100) (by omega) (by decide)) ⟨fun c => qi (fin _ t2 r2 (fun q => absurd (by rw [q]; rfl) c) (fun _ => rfl)), fun c => qi (fin _ t2 r2 (fun _ => rfl) (fun q => absurd (nI_inj (b := 0) (by omega) (by decide) c) q))⟩
            | succ m ih =>
              intro i t2 hi r2
              have hok := twA_ok (pr := aL a) (b := aP a) (p := p) (c := (aH a).2 s) i
              apply bX7_two_50
              refine br_f (nI_ge (b := 100) (by omega) (by decide)) ?_
              refine sp_copy5 r2 (fun t3 r3 m3 => ⟨r3.lw.1, ?_⟩)
              rw [l10, pk_div (by omega) (by decide) (by decide), jr_n (by omega) (by decide) (by decide)]
              refine sp_lie5 (f := 0) r3 m3 h.pw hp (by omega) (fun t4 r4 m4 => ⟨r4.lw.1, ?_⟩)
              refine sp_lie5 (f := 0) r4 m4 (lieA_W h.pw hp _ _) hp (Nat.mod_lt _ (by decide)) (fun t5 r5 m5 => ⟨vpn hs, ?_⟩)
              rw [ncl (by omega)]
              refine sp_looksLike mo5 m5 (hwP i).1 hp r5 hs hb ?_
              have ew : twA (aL a) (aP a) p ((aH a).2 s) (i + 1) = if sees (twP (aL a) (aP a) p i) p ((aH a).2 s) then ((twA (aL a) (aP a) p ((aH a).2 s) i).1 + 1, if (twA (aL a) (aP a) p ((aH a).2 s) i).2 = none then some i else (twA (aL a) (aP a) p ((aH a).2 s) i).2) else twA (aL a) (aP a) p ((aH a).2 s) i := rfl
              have step : ∀ u q, twA (aL a) (aP a) p ((aH a).2 s) (i + 1) = (u, q) → Rt g (d + 300) mX7_two 142 [some (.ref 0), some (.int (nI s)), some (.int (nI p)), some (.int (nI w)), none, some (.int (nI u)), some (.int (gI q)), some (.int (nI i))] [] t5 (QI (fun v t1 => Rt g (d + 300) mX8_two 0 [some (.ref 57), some (.int (nI s)), some (.int (nI p)), some (.int (nI w)), none, none, none] [] t1 (QI (fun w t2 => Q v w t2)))) := by
                intro u q hq
                apply bX7_two_142
                have := ih (i + 1) t5 (by omega) r5
                rw [hq] at this
                rw [nI_1]
                exact this
              by_cases h0 : sees (twP (aL a) (aP a) p i) p ((aH a).2 s)
              · rw [if_pos h0] at ew
                rw [if_pos (show sees (lieA _ _ _ _) p _ from h0)]
                have gx := gI_x (o := (twA (aL a) (aP a) p ((aH a).2 s) i).2) (fun j hj => by have := hok.2.2 j hj; omega)
                refine br_f (by decide) ⟨fun c => ?_, fun c => ?_⟩
                · rw [if_neg (fun q => c (gx.mpr q))] at ew
                  apply bX7_two_140
                  rw [nI_1]
                  exact step _ _ ew
                · rw [if_pos (gx.mp c)] at ew
                  apply bX7_two_140
                  rw [nI_1]
                  exact step _ (some i) ew
              · rw [if_neg h0] at ew
                rw [if_neg (show ¬ sees (lieA _ _ _ _) p _ from h0)]
                exact br_t rfl (step _ _ ew)
          exact key 100 0 t rfl h
        · refine br_f h4 (qi (md _ _ h ?_))
          exact sr_mirror h hs (fun q => absurd q h4) (fun _ => K _ _ ⟨a, h⟩)
      · refine sp_out_b (n := 2) rfl (by decide) h3 (br_f (by decide) (qi ?_))
        exact bX8_two_0 (sr_isShelf_g h1 (br_f (by decide) (sr_isPerson_g h.pm hn h2 (br_f (by decide) (sr_in_b (n := 2) rfl (by decide) h3 (br_p rfl (qi (K _ _ ⟨a, h⟩))))))))
    · refine sp_nobody_b h.pc hn h2 (br_n (by decide) (qi ?_))
      exact bX8_two_0 (sr_isShelf_g h1 (br_f (by decide) (sr_isPerson_b h.pm hn h2 (br_t rfl (qi (K _ _ ⟨a, h⟩))))))
  · refine sp_noShelf_b h1 (br_n (by decide) (qi ?_))
    exact bX8_two_0 (sr_isShelf_b h1 (br_t rfl (qi (K _ _ ⟨a, h⟩))))
end P44
