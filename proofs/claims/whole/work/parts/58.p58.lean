/-! PURE LAYER: the reference notes changes; mend, undo, redo -/
section P58
variable {g : Gt} {d : Nat} {t t1 : Tt} {a : Aa}
def SnM (o j : Nat) : Prop := (o = 57 ∧ (j = 7 ∨ j = 8)) ∨ (62 ≤ o ∧ o ≤ 65)
def enM (t : Tt) (i : Nat) (e : Ce) : Prop := t.1 63 i = nI e.1 ∧ t.1 62 i = nI e.2.1 ∧ t.1 64 i = nI e.2.2.1 ∧ t.1 65 i = nI e.2.2.2
theorem RF.nt {c : Ch} (h : RF t a) (f : Fr SnM t t1) (hc : chM t1 c) : RF t1 (setC a c) := by
  have k : ∀ o j, SnM o j → (o = 57 ∧ (j = 7 ∨ j = 8)) ∨ (62 ≤ o ∧ o ≤ 65) := fun o j q => q
  obtain ⟨h1, h2, h3, h4, h5, h6, h7, h8, h9⟩ := h
  exact ⟨m_mo h1 f (fun o j q => by have := k o j q; omega), m_so h2 f (fun o j q => by have := k o j q; omega), hc, m_tp h4 f (fun o j q => by have := k o j q; omega), m_lw h5 f (fun o j q => by have := k o j q; omega), m_im h6 f (fun o j q => by have := k o j q; omega), m_dd h7 f (fun o j q => by have := k o j q; omega), m_bo h8 f (fun o j q => by have := k o j q; omega), m_sh h9 f (fun o j q => by have := k o j q; omega)⟩
theorem RC.nt {c : Ch} (h : RC t a) (f : Fr SnC t t1) (hc : chC t1 c) : RC t1 (setC a c) := by
  have k : ∀ o j, SnC o j → (o = 22 ∧ (j = 0 ∨ j = 1)) ∨ (23 ≤ o ∧ o ≤ 26) := fun o j q => q
  obtain ⟨h1, h2, h3, h4, h5, h6, h7, h8, h9⟩ := h
  exact ⟨c_mo h1 f (fun o j q => by have := k o j q; omega), c_so h2 f (fun o j q => by have := k o j q; omega), hc, c_tp h4 f (fun o j q => by have := k o j q; omega), c_lw h5 f (fun o j q => by have := k o j q; omega), c_im h6 f (fun o j q => by have := k o j q; omega), c_dd h7 f (fun o j q => by have := k o j q; omega), c_bo h8 f (fun o j q => by have := k o j q; omega), c_sh h9 f (fun o j q => by have := k o j q; omega)⟩
theorem sr_ch121 {t0 : Tt} {n : Nat} {es : Nat → Ce} {e : Ce} {P : Int32 → Tt → Prop} (g0 : RF t0 a) (f0 : Fr SnM t0 t) (h7 : t.1 57 7 = nI n) (h8 : t.1 57 8 = 0) (hn : n < 40) (hes : ∀ i, i < n → enM t i (es i)) (hw : AW a) (hcw : chW (pn (aP a)) (n + 1, n + 1, upN es n e)) (ok : okCh (pn (aP a)) e)
    (k : ∀ t', Fr MAl t0 t' → RF t' (mkA (setC a (n + 1, n + 1, upN es n e)) e.1 e.2.1 e.2.2.2) → P (nI e.2.2.1) t') : Rt g (d + 1) mX8_changes 121 [some (.ref 57), some (.int (nI e.2.1)), some (.int (nI e.1)), some (.int (nI e.2.2.2)), some (.int (nI e.2.2.1)), none] [] t (QI P) := by
  obtain ⟨o1, o2, o3, o4⟩ := okCh_of ok
  apply bX8_changes_121
  simp only [pI_o _ _ _ _ (show (57 : Nat) ≠ 62 by decide), pI_o _ _ _ _ (show (57 : Nat) ≠ 63 by decide), pI_o _ _ _ _ (show (57 : Nat) ≠ 64 by decide), pI_o _ _ _ _ (show (57 : Nat) ≠ 65 by decide), h7, nI_1]
  rw [ncl (by omega)]
  refine ⟨vpn hn, vpn hn, vpn hn, vpn hn, ?_⟩
  generalize e5 : pI (pI (pI (pI (pI t 62 n (nI e.2.1)) 63 n (nI e.1)) 64 n (nI e.2.2.1)) 65 n (nI e.2.2.2)) 57 7 (nI (n + 1)) = t5
  have f5 : Fr SnM t0 t5 := by rw [← e5]; exact (((((f0.pI _ (Or.inr (by omega))).pI _ (Or.inr (by omega))).pI _ (Or.inr (by omega))).pI _ (Or.inr (by omega))).pI _ (Or.inl (by omega)))
  have c5 : chM t5 (n + 1, n + 1, upN es n e) := by
    refine ⟨by rw [← e5, pI_s], ?_, fun i hi => ?_⟩
    · show _ = nI (n + 1 - (n + 1))
      rw [Nat.sub_self, ← e5, pI_n _ _ _ (by decide), pI_o _ _ _ _ (by decide), pI_o _ _ _ _ (by decide), pI_o _ _ _ _ (by decide), pI_o _ _ _ _ (by decide)]
      exact h8
    · have hi : i < n + 1 := hi
      show _ = nI (upN es n e i).1 ∧ _ = nI (upN es n e i).2.1 ∧ _ = nI (upN es n e i).2.2.1 ∧ _ = nI (upN es n e i).2.2.2
      rw [← e5]
      unfold upN
      by_cases c : i = n
      · rw [if_pos c, c]
        simp [pI_a]
      · rw [if_neg c]
        obtain ⟨a1, a2, a3, a4⟩ := hes i (by omega)
        simp [pI_a, c, a1, a2, a3, a4]
  have g5 : RF t5 (setC a (n + 1, n + 1, upN es n e)) := g0.nt f5 c5
  obtain ⟨w1, w2, w3, w4, w5, w6, w7⟩ := hw
  exact sr_lays g5 ⟨w1, w2, hcw, w4, w5, w6, w7⟩ o2 o1 o4 (fun t6 f6 g6 => qi (k t6 ((f5.mo (fun o j q => by unfold SnM at q; unfold MAl; omega)).tr (f6.mo (fun o j q => by unfold SmM at q; unfold MAl; omega))) g6))
theorem mst_lt (w : Nat) : mst w < 256 := by unfold mst; split <;> (try split) <;> omega
theorem sr_changes {nb w v : Nat} {P : Int32 → Tt → Prop} (h : RF t a) (hw : AW a) (ok : okN (pn (aP a)) nb w) (hw' : w < 11) (hv : v ≤ mst w) (k0 : nowV a nb w = v → P (nI (nowV a nb w)) t) (k1 : nowV a nb w ≠ v → ∀ t', Fr MAl t t' → RF t' (mkA (setC a (noteC (aC a) (nb, w, nowV a nb w, v))) nb w v) → P (nI (nowV a nb w)) t') : Rt g (d + 2) mX8_changes 0 [some (.ref 57), some (.int (nI w)), some (.int (nI nb)), some (.int (nI v)), none, none] [] t (QI P) := by
  have hnv := nowV_lt hw ok hw'
  have hm := mst_lt w
  have okc : okCh (pn (aP a)) (nb, w, nowV a nb w, v) := okCh_mk hw' ok hnv hv
  have hcW := noteC_W hw.2.2.1 okc
  have hch := h.2.2.1
  have hc1 := hw.2.2.1.1
  have hc2 := hw.2.2.1.2.1
  apply bX8_changes_0
  refine sr_valueAt h hw ok hw' ?_
  by_cases e : nowV a nb w = v
  · exact br_p (by rw [e]) (qi (k0 e))
  · have k1 := k1 e
    generalize nowV a nb w = was at *
    refine br_n (fun q => e (nI_inj (by omega) (by omega) q)) ?_
    rw [pI_n _ _ _ (show 7 ≠ 8 by decide), hch.1]
    have f0 : Fr SnM t (pI t 57 8 0) := (Fr.rf _ t).pI _ (Or.inl (by omega))
    unfold noteC at k1 hcW
    by_cases c40 : (aC a).1 < 40
    · rw [if_pos c40] at k1 hcW
      refine br_n (fun q => by have := nI_inj (b := 40) (by omega) (by decide) q; omega) ?_
      refine sr_ch121 (e := (nb, w, was, v)) (es := (aC a).2.2) h f0 ?_ (pI_s _ _ _ _) c40 (fun i hi => ?_) hw hcW okc k1
      · rw [pI_n _ _ _ (by decide)]; exact hch.1
      · unfold enM
        rw [pI_o _ _ _ _ (show 63 ≠ 57 by decide), pI_o _ _ _ _ (show 62 ≠ 57 by decide), pI_o _ _ _ _ (show 64 ≠ 57 by decide), pI_o _ _ _ _ (show 65 ≠ 57 by decide)]
        exact hch.2.2 i (by omega)
    · rw [if_neg c40] at k1 hcW
      have c40' : (aC a).1 = 40 := by omega
      refine br_p (by rw [c40']; rfl) ?_
      have key : ∀ m r t2, r + m = 39 → Fr SnM t t2 → t2.1 57 7 = nI 40 → t2.1 57 8 = 0 → (∀ i, i < r → enM t2 i ((aC a).2.2 (i + 1))) → (∀ i, r ≤ i → i < 40 → enM t2 i ((aC a).2.2 i)) → Rt g (d + 2) mX8_changes 34 [some (.ref 57), some (.int (nI w)), some (.int (nI nb)), some (.int (nI v)), some (.int (nI was)), some (.int (nI (r + 1)))] [] t2 (QI P) := by
        intro m
        induction m with
        | zero =>
          intro r t2 hr f2 h7 h8 h1 h2
          have : r = 39 := by omega
          subst this
          apply bX8_changes_34
          refine br_t (nI_le (a := 40) (by omega) (by decide)) ?_
          rw [h7, show nI 40 - 1 = nI 39 from rfl]
          refine sr_ch121 (e := (nb, w, was, v)) (es := fun i => (aC a).2.2 (i + 1)) h (f2.pI _ (Or.inl (by omega))) (pI_s _ _ _ _) ?_ (by decide) (fun i hi => ?_) hw hcW okc k1
          · rw [pI_n _ _ _ (by decide)]; exact h8
          · unfold enM
            rw [pI_o _ _ _ _ (show 63 ≠ 57 by decide), pI_o _ _ _ _ (show 62 ≠ 57 by decide), pI_o _ _ _ _ (show 64 ≠ 57 by decide), pI_o _ _ _ _ (show 65 ≠ 57 by decide)]
            exact h1 i hi
        | succ m ih =>
          intro r t2 hr f2 h7 h8 h1 h2
          apply bX8_changes_34
          obtain ⟨a1, a2, a3, a4⟩ := h2 (r + 1) (by omega) (by omega)
          have n1 : nI (r + 1) - 1 = nI r := nI_pred r
          have n2 : (nI (r + 1)).toNatClampNeg = r + 1 := ncl (by omega)
          have n3 : (nI r).toNatClampNeg = r := ncl (by omega)
          rw [n1, n2, n3]
          simp only [pI_o _ _ _ _ (show (63 : Nat) ≠ 62 by decide), pI_o _ _ _ _ (show (64 : Nat) ≠ 62 by decide), pI_o _ _ _ _ (show (64 : Nat) ≠ 63 by decide), pI_o _ _ _ _ (show (65 : Nat) ≠ 62 by decide), pI_o _ _ _ _ (show (65 : Nat) ≠ 63 by decide), pI_o _ _ _ _ (show (65 : Nat) ≠ 64 by decide), a1, a2, a3, a4, nI_1]
          refine br_f (nI_ge (b := 40) (by omega) (by decide)) ⟨vpn (by omega), vpn (by omega), vpn (by omega), vpn (by omega), vpn (by omega), vpn (by omega), vpn (by omega), vpn (by omega), ?_⟩
          refine ih (r + 1) _ (by omega) ((((f2.pI _ (Or.inr (by omega))).pI _ (Or.inr (by omega))).pI _ (Or.inr (by omega))).pI _ (Or.inr (by omega))) ?_ ?_ (fun i hi => ?_) (fun i hi hi' => ?_)
          · simp [pI_a, h7]
          · simp [pI_a, h8]
          · unfold enM
            by_cases c : i = r
            · rw [c]; simp [pI_a]
            · obtain ⟨b1, b2, b3, b4⟩ := h1 i (by omega)
              simp [pI_a, c, b1, b2, b3, b4]
          · have c : ¬ i = r := by omega
            obtain ⟨b1, b2, b3, b4⟩ := h2 i (by omega) hi'
            unfold enM
            simp [pI_a, c, b1, b2, b3, b4]
      refine key 39 0 _ rfl f0 ?_ (pI_s _ _ _ _) (fun i hi => absurd hi (by omega)) (fun i _ hi => ?_)
      · rw [pI_n _ _ _ (by decide), hch.1, c40']
      · unfold enM
        rw [pI_o _ _ _ _ (show 63 ≠ 57 by decide), pI_o _ _ _ _ (show 62 ≠ 57 by decide), pI_o _ _ _ _ (show 64 ≠ 57 by decide), pI_o _ _ _ _ (show 65 ≠ 57 by decide)]
        exact hch.2.2 i (by omega)
theorem sp_mostOf {w : Nat} {P : Int32 → Tt → Prop} (hw : w < 11) (k : P (nI (mst w)) t) : Rt g d mX7_mostOf 0 [some (.int (nI w))] [] t (QI P) := by
  unfold mst at k
  apply bX7_mostOf_0
  refine ⟨fun c => qi ?_, fun c => ⟨fun c2 => qi ?_, fun c2 => ⟨fun c3 => qi ?_, fun c3 => qi ?_⟩⟩⟩
  · rw [if_pos (nI_inj (by omega) (by decide) c)] at k; exact k
  · rw [if_neg (fun q => c (by rw [q]; rfl)), if_pos (nI_inj (by omega) (by decide) c2)] at k; exact k
  · rw [if_neg (fun q => c (by rw [q]; rfl)), if_neg (fun q => c2 (by rw [q]; rfl))] at k; exact k
  · rw [if_neg (fun q => c (by rw [q]; rfl)), if_neg (fun q => c2 (by rw [q]; rfl))] at k; exact k
theorem sr_mayBe {w : Nat} {z : Int32} {P : Int32 → Tt → Prop} (hw : w < 11) (k1 : gd z (mst w + 1) → P 1 t) (k0 : ¬ gd z (mst w + 1) → P 0 t) : Rt g (d + 1) mX8_mayBe 0 [some (.int (nI w)), some (.int z)] [] t (QI P) := by
  unfold mst at k1 k0
  apply bX8_mayBe_0
  have go : ∀ (m : Int32) (n : Nat), m.toInt = (n : Int) - 1 → n < 2 ^ 31 → (gd z n → P 1 t) → (¬ gd z n → P 0 t) → Rt g d mX8_in 0 [some (.int z), some (.int 0), some (.int m)] [] t (QI (fun v t' => (v = 0 ∨ v = 1) ∧ QI P (some (.int v)) t')) := by
    intro m n h1 h2 q1 q0
    by_cases hz : gd z n
    · exact sr_in_g h1 h2 hz ⟨Or.inr rfl, qi (q1 hz)⟩
    · exact sr_in_b h1 h2 hz ⟨Or.inl rfl, qi (q0 hz)⟩
  by_cases h8 : w = 8
  · rw [if_pos h8] at k1 k0
    exact br_p (by rw [h8]; rfl) (go 255 256 rfl (by decide) k1 k0)
  · rw [if_neg h8] at k1 k0
    refine br_n (wne (by omega) (by decide) h8) ?_
    by_cases h9 : w = 9
    · rw [if_pos h9] at k1 k0
      exact br_p (by rw [h9]; rfl) (go 1 2 rfl (by decide) k1 k0)
    · rw [if_neg h9] at k1 k0
      exact br_n (wne (by omega) (by decide) h9) (go 9 10 rfl (by decide) k1 k0)
theorem mkA_C (a : Aa) (nb w v : Nat) : aC (mkA a nb w v) = aC a := by
  unfold mkA
  split
  · rfl
  · split
    · rfl
    · split <;> rfl
theorem both_mend {x y z : Int32} {Q : Int32 → Int32 → Tt → Prop} (h : Rel t a) (K : KK Q) : Rt g (d + 300) mX7_mend 0 [some (.ref 0), some (.int x), some (.int y), some (.int z), none] [] t (QI (fun v t1 => Rt g (d + 300) mX8_mend 0 [some (.ref 57), some (.int x), some (.int y), some (.int z)] [] t1 (QI (fun w t2 => Q v w t2)))) := by
  have hn := h.n7
  apply bX7_mend_0
  by_cases hy : gd y 11
  · obtain ⟨w, hw, rfl⟩ := hy
    have hm := mst_lt w
    refine br_f (nI_nlt (a := 10) (by omega) (by decide)) ?_
    refine sp_noNumber (d := d + 296) h.pc hn (by omega) (fun ok => br_p rfl ?_) (fun ok => br_n (by decide) (qi ?_))
    · refine sp_mostOf hw ?_
      by_cases hz : gd z (mst w + 1)
      · refine sp_out_g (n := mst w + 1) (by rw [tI (by omega)]; omega) (by omega) hz (br_t rfl ?_)
        obtain ⟨v, hv, rfl⟩ := hz
        obtain ⟨nb, ok1, rfl⟩ := okX_N ok
        refine sp_now (d := d + 296) h.2.1 h.1 ok1 hw ?_
        have hnv := nowV_lt h.1 ok1 hw
        have mdl : ∀ {P : Int32 → Tt → Prop} {t1}, t1.1 57 1 = nI (pn (aP a)) → Rt g (d + 299) mX8_changes 0 [some (.ref 57), some (.int (nI w)), some (.int (nI nb)), some (.int (nI v)), none, none] [] t1 (QI (fun v8 t7 => QI P (some (.int v8)) t7)) → Rt g (d + 300) mX8_mend 0 [some (.ref 57), some (.int (nI nb)), some (.int (nI w)), some (.int (nI v))] [] t1 (QI P) := fun {P t1} e k => bX8_mend_0 (sr_isOne (d := d + 296) e hn hw (fun _ => br_f (by decide) (sr_mayBe (d := d + 298) hw (fun _ => br_f (by decide) k) (fun q => absurd ⟨v, hv, rfl⟩ q))) (fun q => absurd ok q))
        by_cases e : nowV a nb w = v
        · refine br_t (by rw [e]) (qi ?_)
          refine mdl h.pm (sr_changes (d := d + 297) h.2.2 h.1 ok1 hw (by omega) (fun _ => qi (K _ _ ⟨a, h⟩)) (fun q => absurd e q))
        · refine br_f (fun q => e (nI_inj (by omega) (by omega) q.symm)) ?_
          have okc : okCh (pn (aP a)) (nb, w, nowV a nb w, v) := okCh_mk hw ok1 hnv (by omega)
          have hcW := noteC_W h.1.2.2.1 okc
          refine sp_note (d := d + 297) (c := aC a) (e := (nb, w, nowV a nb w, v)) h.2.1.2.2.1 h.1.2.2.1.1 h.1.2.2.1.2.1 (fun t1 f1 c1 => ?_)
          have r1 := h.2.1.nt f1 c1
          have wA : AW (setC a (noteC (aC a) (nb, w, nowV a nb w, v))) := by
            obtain ⟨w1, w2, w3, w4, w5, w6, w7⟩ := h.1
            exact ⟨w1, w2, hcW, w4, w5, w6, w7⟩
          refine sp_make r1 wA ok1 hw (by omega) (fun t2 f2 r2 => qi ?_)
          have f12 : Fr CAl t t2 := (f1.mo (fun o j q => by unfold SnC at q; unfold CAl; omega)).tr (f2.mo (fun o j q => by unfold SmC at q; unfold CAl; omega))
          have g2 := h.2.2.al f12
          refine mdl g2.1.1 (sr_changes (d := d + 297) g2 h.1 ok1 hw (by omega) (fun q => absurd q e) (fun _ t3 f3 g3 => qi (K _ _ ⟨_, mkA_W wA ok1 hw (by omega), r2.al f3, g3⟩)))
      · refine sp_out_b (n := mst w + 1) (by rw [tI (by omega)]; omega) (by omega) hz (br_f (by decide) (qi ?_))
        exact bX8_mend_0 (sr_isOne (d := d + 296) h.pm hn hw (fun _ => br_f (by decide) (sr_mayBe (d := d + 298) hw (fun q => absurd q hz) (fun _ => br_t rfl (qi (K _ _ ⟨a, h⟩))))) (fun q => absurd ok q))
    · exact bX8_mend_0 (sr_isOne (d := d + 296) h.pm hn hw (fun q => absurd q ok) (fun _ => br_t rfl (qi (K _ _ ⟨a, h⟩))))
  · have mdl : Rt g (d + 300) mX8_mend 0 [some (.ref 57), some (.int x), some (.int y), some (.int z)] [] t (QI (fun w t2 => Q (-1) w t2)) := bX8_mend_0 (sr_isOne_b (d := d + 296) hy (br_t rfl (qi (K _ _ ⟨a, h⟩))))
    refine ⟨fun _ => qi mdl, fun c => sp_noNumber_b (d := d + 296) (fun q => hy ((gd_iff (by decide)).mpr ?_)) (br_n (by decide) (qi mdl))⟩
    have := (gd_iff (by decide)).mp q
    rw [lt_i, show (10 : Int32).toInt = 10 from rfl] at c
    omega
theorem both_undo {Q : Int32 → Int32 → Tt → Prop} (h : Rel t a) (K : KK Q) : Rt g (d + 300) mX7_undo 0 [some (.ref 0), none] [] t (QI (fun v t1 => Rt g (d + 300) mX8_undo 0 [some (.ref 57)] [] t1 (QI (fun w t2 => Q v w t2)))) := by
  have hc := h.2.1.2.2.1
  have hm := h.2.2.2.2.1
  obtain ⟨w1, w2, w3⟩ := h.1.2.2.1
  apply bX7_undo_0
  rw [hc.1]
  by_cases c0 : (aC a).1 = 0
  · refine br_f (fun q => by have := (nI_leI (a := 1) (by decide) (by omega)).mp q; omega) (qi ?_)
    apply bX8_undo_0
    rw [hm.1]
    exact br_p (by rw [c0]; rfl) (qi (K _ _ ⟨a, h⟩))
  · obtain ⟨n, en⟩ : ∃ n, (aC a).1 = n + 1 := ⟨(aC a).1 - 1, by omega⟩
    rw [en, pI_s, nI_pred]
    refine br_t (nI_le (a := 1) (by omega) (by omega)) ?_
    intro z2 e2
    subst e2
    obtain ⟨q1, q2, q3, q4⟩ := hc.2.2 n (by omega)
    obtain ⟨o1, o2, o3, o4⟩ := okCh_of (w3 n (by omega))
    refine ⟨vpn (by omega), vpn (by omega), vpn (by omega), ?_⟩
    rw [ncl (by omega), pI_o _ _ _ _ (show 23 ≠ 22 by decide), pI_o _ _ _ _ (show 24 ≠ 22 by decide), pI_o _ _ _ _ (show 25 ≠ 22 by decide), q1, q2, q3]
    have f1 : Fr SnC t (pI t 22 0 (nI n)) := (Fr.rf _ t).pI _ (Or.inl (by omega))
    have r1 : RC (pI t 22 0 (nI n)) (setC a (n, (aC a).2.1, (aC a).2.2)) := by
      refine h.2.1.nt f1 ⟨pI_s _ _ _ _, ?_, fun i hi => ?_⟩
      · rw [pI_n _ _ _ (by decide)]; exact hc.2.1
      · rw [pI_o _ _ _ _ (show 23 ≠ 22 by decide), pI_o _ _ _ _ (show 24 ≠ 22 by decide), pI_o _ _ _ _ (show 25 ≠ 22 by decide), pI_o _ _ _ _ (show 26 ≠ 22 by decide)]
        exact hc.2.2 i hi
    have wA : AW (setC a (n, (aC a).2.1, (aC a).2.2)) := by
      obtain ⟨w1', w2', _, w4, w5, w6, w7⟩ := h.1
      exact ⟨w1', w2', ⟨by show n ≤ (aC a).2.1; omega, w2, w3⟩, w4, w5, w6, w7⟩
    refine sp_make r1 wA o2 o1 o3 (fun t2 f2 r2 => qi ?_)
    have e22 : t2.1 22 0 = nI n := by
      have := r2.2.2.1.1
      rw [mkA_C] at this
      exact this
    rw [e22]
    have f12 : Fr CAl t t2 := (f1.mo (fun o j q => by unfold SnC at q; unfold CAl; omega)).tr (f2.mo (fun o j q => by unfold SmC at q; unfold CAl; omega))
    have g2 := h.2.2.al f12
    have hm2 := g2.2.2.1
    obtain ⟨p1, p2, p3, p4⟩ := hm2.2.2 n (by omega)
    apply bX8_undo_0
    rw [hm2.1, en]
    refine br_n (fun q => by have := nI_inj (b := 0) (by omega) (by decide) q; omega) ?_
    rw [nI_pred, pI_n _ _ _ (show 8 ≠ 7 by decide), hm2.2.1, nI_1]
    rw [show (aC a).2.1 - (aC a).1 + 1 = (aC a).2.1 - n by omega]
    rw [pI_n _ _ _ (show 7 ≠ 8 by decide), pI_s]
    refine ⟨vpn (by omega), vpn (by omega), vpn (by omega), ?_⟩
    rw [ncl (by omega)]
    have f3 : Fr SnM t2 (pI (pI t2 57 7 (nI n)) 57 8 (nI ((aC a).2.1 - n))) := ((Fr.rf _ t2).pI _ (Or.inl (by omega))).pI _ (Or.inl (by omega))
    rw [pI_o _ _ _ _ (show 62 ≠ 57 by decide), pI_o _ _ _ _ (show 62 ≠ 57 by decide), pI_o _ _ _ _ (show 63 ≠ 57 by decide), pI_o _ _ _ _ (show 63 ≠ 57 by decide), pI_o _ _ _ _ (show 64 ≠ 57 by decide), pI_o _ _ _ _ (show 64 ≠ 57 by decide), p1, p2, p3]
    have g3 : RF (pI (pI t2 57 7 (nI n)) 57 8 (nI ((aC a).2.1 - n))) (setC a (n, (aC a).2.1, (aC a).2.2)) := by
      refine g2.nt f3 ⟨?_, pI_s _ _ _ _, fun i hi => ?_⟩
      · rw [pI_n _ _ _ (by decide), pI_s]
      · rw [pI_o _ _ _ _ (show 62 ≠ 57 by decide), pI_o _ _ _ _ (show 62 ≠ 57 by decide), pI_o _ _ _ _ (show 63 ≠ 57 by decide), pI_o _ _ _ _ (show 63 ≠ 57 by decide), pI_o _ _ _ _ (show 64 ≠ 57 by decide), pI_o _ _ _ _ (show 64 ≠ 57 by decide), pI_o _ _ _ _ (show 65 ≠ 57 by decide), pI_o _ _ _ _ (show 65 ≠ 57 by decide)]
        exact hm2.2.2 i hi
    refine sr_lays g3 wA o2 o1 o3 (fun t6 f6 g6 => qi ?_)
    have e57 : t6.1 57 7 = nI n := by
      have := g6.2.2.1.1
      rw [mkA_C] at this
      exact this
    rw [e57]
    exact K _ _ ⟨_, mkA_W wA o2 o1 o3, r2.al ((f3.mo (fun o j q => by unfold SnM at q; unfold MAl; omega)).tr (f6.mo (fun o j q => by unfold SmM at q; unfold MAl; omega))), g6⟩
theorem both_redo {Q : Int32 → Int32 → Tt → Prop} (h : Rel t a) (K : KK Q) : Rt g (d + 300) mX7_redo 0 [some (.ref 0), none] [] t (QI (fun v t1 => Rt g (d + 300) mX8_redo 0 [some (.ref 57)] [] t1 (QI (fun w t2 => Q v w t2)))) := by
  have hc := h.2.1.2.2.1
  have hm := h.2.2.2.2.1
  obtain ⟨w1, w2, w3⟩ := h.1.2.2.1
  apply bX7_redo_0
  rw [hc.1, hc.2.1]
  generalize en : (aC a).1 = n at *
  generalize ek : (aC a).2.1 = kn at *
  by_cases c0 : n < kn
  · refine br_t (nI_lt c0 (by omega)) ?_
    intro z2 e2
    subst e2
    obtain ⟨q1, q2, q3, q4⟩ := hc.2.2 n (by omega)
    obtain ⟨o1, o2, o3, o4⟩ := okCh_of (w3 n (by omega))
    refine ⟨vpn (by omega), vpn (by omega), vpn (by omega), ?_⟩
    rw [ncl (by omega), q1, q2, q4]
    refine sp_make h.2.1 h.1 o2 o1 o4 (fun t2 f2 r2 => qi ?_)
    have hc2 : chC t2 (aC a) := by
      have := r2.2.2.1
      rw [mkA_C] at this
      exact this
    have g2 := h.2.2.al (f2.mo (fun o j q => by unfold SmC at q; unfold CAl; omega))
    rw [hc2.1, en, nI_1]
    rw [pI_n _ _ _ (show 1 ≠ 0 by decide), hc2.2.1, ek, pI_s, pk_sub (by omega)]
    have f3 : Fr SnC t2 (pI t2 22 0 (nI (n + 1))) := (Fr.rf _ t2).pI _ (Or.inl (by omega))
    have r3 : RC (pI t2 22 0 (nI (n + 1))) (setC (mkA a ((aC a).2.2 n).1 ((aC a).2.2 n).2.1 ((aC a).2.2 n).2.2.2) (n + 1, kn, (aC a).2.2)) := by
      refine r2.nt f3 ⟨pI_s _ _ _ _, ?_, fun i hi => ?_⟩
      · rw [pI_n _ _ _ (by decide), hc2.2.1, ek]
      · rw [pI_o _ _ _ _ (show 23 ≠ 22 by decide), pI_o _ _ _ _ (show 24 ≠ 22 by decide), pI_o _ _ _ _ (show 25 ≠ 22 by decide), pI_o _ _ _ _ (show 26 ≠ 22 by decide)]
        exact hc2.2.2 i (by rw [ek]; exact hi)
    have g3 : RF (pI t2 22 0 (nI (n + 1))) a := g2.al (f3.mo (fun o j q => by unfold SnC at q; unfold CAl; omega))
    have hm3 := g3.2.2.1
    obtain ⟨p1, p2, p3, p4⟩ := hm3.2.2 n (by omega)
    apply bX8_redo_0
    rw [hm3.1, hm3.2.1, en, ek]
    refine br_n (fun q => by have := nI_inj (b := 0) (by omega) (by decide) q; omega) ⟨vpn (by omega), vpn (by omega), vpn (by omega), ?_⟩
    rw [ncl (by omega), p1, p2, p4]
    refine sr_lays g3 h.1 o2 o1 o4 (fun t6 f6 g6 => qi ?_)
    have hm6 : chM t6 (aC a) := by
      have := g6.2.2.1
      rw [mkA_C] at this
      exact this
    rw [hm6.1, en, nI_1]
    rw [pI_n _ _ _ (show 8 ≠ 7 by decide), hm6.2.1, en, ek, pI_s]
    have e8 : nI (kn - n) - 1 = nI (kn - (n + 1)) := by rw [l1, pk_sub (by omega)]; congr 1
    rw [e8]
    have f7 : Fr SnM t6 (pI (pI t6 57 7 (nI (n + 1))) 57 8 (nI (kn - (n + 1)))) := ((Fr.rf _ t6).pI _ (Or.inl (by omega))).pI _ (Or.inl (by omega))
    have g7 := g6.nt (c := (n + 1, kn, (aC a).2.2)) f7 ⟨by rw [pI_n _ _ _ (by decide), pI_s], pI_s _ _ _ _, fun i hi => by
      rw [pI_o _ _ _ _ (show 62 ≠ 57 by decide), pI_o _ _ _ _ (show 62 ≠ 57 by decide), pI_o _ _ _ _ (show 63 ≠ 57 by decide), pI_o _ _ _ _ (show 63 ≠ 57 by decide), pI_o _ _ _ _ (show 64 ≠ 57 by decide), pI_o _ _ _ _ (show 64 ≠ 57 by decide), pI_o _ _ _ _ (show 65 ≠ 57 by decide), pI_o _ _ _ _ (show 65 ≠ 57 by decide)]
      exact hm6.2.2 i (by rw [ek]; exact hi)⟩
    refine K _ _ ⟨_, ?_, r3.al ((f6.mo (fun o j q => by unfold SmM at q; unfold MAl; omega)).tr (f7.mo (fun o j q => by unfold SnM at q; unfold MAl; omega))), g7⟩
    have wA := mkA_W h.1 o2 o1 o4
    have eC := mkA_C a ((aC a).2.2 n).1 ((aC a).2.2 n).2.1 ((aC a).2.2 n).2.2.2
    obtain ⟨u1, u2, u3, u4, u5, u6, u7⟩ := wA
    rw [eC] at u3
    exact ⟨u1, u2, ⟨by show n + 1 ≤ kn; omega, w2, fun i hi => u3.2.2 i (by rw [ek]; exact hi)⟩, u4, u5, u6, u7⟩
  · have e0 : kn - n = 0 := by omega
    refine br_f (nI_nlt (a := n) (b := kn) (by omega) (by omega)) (qi ?_)
    apply bX8_redo_0
    rw [hm.2.1, en, ek, e0]
    exact br_p rfl (qi (K _ _ ⟨a, h⟩))
end P58
