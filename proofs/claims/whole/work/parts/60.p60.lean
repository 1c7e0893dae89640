/-! PURE LAYER: put, element, taken -/
section P60
variable {g : Gt} {d : Nat} {t t1 : Tt} {a : Aa}
def hC (u : Nat × Nat × Nat) : Int32 := if u.1 = 0 then -2 else if u.1 = 1 then -1 else nI u.2.1
def hM (u : Nat × Nat × Nat) : Int32 := if u.1 = 0 then -1 else if u.1 = 1 then nI u.2.1 else -2 - nI u.2.1
theorem hC_0 {u : Nat × Nat × Nat} (h : u.1 = 0) : hC u = -2 := if_pos h
theorem hC_1 {u : Nat × Nat × Nat} (h : u.1 = 1) : hC u = -1 := by unfold hC; rw [if_neg (by omega), if_pos h]
theorem hC_2 {u : Nat × Nat × Nat} (h : u.1 = 2) : hC u = nI u.2.1 := by unfold hC; rw [if_neg (by omega), if_neg (by omega)]
theorem hM_0 {u : Nat × Nat × Nat} (h : u.1 = 0) : hM u = -1 := if_pos h
theorem hM_1 {u : Nat × Nat × Nat} (h : u.1 = 1) : hM u = nI u.2.1 := by unfold hM; rw [if_neg (by omega), if_pos h]
theorem hM_2 {u : Nat × Nat × Nat} (h : u.1 = 2) : hM u = -2 - nI u.2.1 := by unfold hM; rw [if_neg (by omega), if_neg (by omega)]
theorem c_hold {x : Sh} (h : shC t x) {s : Nat} (hs : s < 6) : t.1 (45 + 2 * s) 0 = hC (x.1 s) := by
  rcases h s hs with ⟨e1, e2⟩ | ⟨e1, e2, -⟩ | ⟨e1, e2, -⟩
  · rw [hC_0 e1]; exact e2
  · rw [hC_1 e1]; exact e2
  · rw [hC_2 e1]; exact e2
theorem m_hold {x : Sh} (h : shM t x) {s : Nat} (hs : s < 6) : t.1 89 s = hM (x.1 s) := by
  rcases h s hs with ⟨e1, e2⟩ | ⟨e1, e2⟩ | ⟨e1, e2, -⟩
  · rw [hM_0 e1]; exact e2
  · rw [hM_1 e1]; exact e2
  · rw [hM_2 e1]; exact e2
theorem c_row {x : Sh} (h : shC t x) {s : Nat} (hs : s < 6) (e : (x.1 s).1 = 2) : t.1 (45 + 2 * s) 1 = nI (x.1 s).2.2 ∧ ∀ i, i < 60 → t.2.1 (45 + 2 * s + 1) i = x.2 s i := by
  rcases h s hs with ⟨e1, -⟩ | ⟨e1, -⟩ | ⟨-, -, e3⟩
  · omega
  · omega
  · exact e3
theorem m_row {x : Sh} (h : shM t x) {s : Nat} (hs : s < 6) (e : (x.1 s).1 = 2) : t.1 90 s = nI (x.1 s).2.2 ∧ ∀ i, i < 60 → t.2.1 91 (60 * s + i) = x.2 s i := by
  rcases h s hs with ⟨e1, -⟩ | ⟨e1, -⟩ | ⟨-, -, e3⟩
  · omega
  · omega
  · exact e3
theorem w_row {nb : Nat} {x : Sh} (h : shW nb x) {s : Nat} (hs : s < 6) (e : (x.1 s).1 = 2) : (x.1 s).2.1 < 5 ∧ (x.1 s).2.2 ≤ 60 ∧ ((x.1 s).2.1 = 0 → ∀ i, i < 60 → -128 ≤ (x.2 s i).toInt ∧ (x.2 s i).toInt ≤ 127) := by
  rcases h s hs with e1 | ⟨e1, -⟩ | ⟨-, e3⟩
  · omega
  · omega
  · exact e3
theorem w_bod {nb : Nat} {x : Sh} (h : shW nb x) {s : Nat} (hs : s < 6) (e : (x.1 s).1 = 1) : (x.1 s).2.1 < nb := by
  rcases h s hs with e1 | ⟨-, e2⟩ | ⟨e1, -⟩
  · omega
  · exact e2
  · omega
theorem w_kind {nb : Nat} {x : Sh} (h : shW nb x) {s : Nat} (hs : s < 6) : (x.1 s).1 = 0 ∨ (x.1 s).1 = 1 ∨ (x.1 s).1 = 2 := by
  rcases h s hs with e1 | ⟨e1, -⟩ | ⟨e1, -⟩ <;> omega
theorem row_ne {w : Nat} (h : w < 5) : ¬ nI w = -2 ∧ ¬ nI w = -1 := ⟨fun q => nI_pos (n := w) (by omega) (by rw [q]; decide), fun q => nI_pos (n := w) (by omega) (by rw [q]; decide)⟩
theorem sort2_tab : ∀ k, k < 5 → (-2 - nI k : Int32) < 0 ∧ (-2 - (-2 - nI k : Int32)) = nI k := by decide
theorem sp_place_b {x i : Int32} {P : Int32 → Tt → Prop} (hx : ¬ gd x 6) (k : P (-1) t) : Rt g (d + 3) mX7_refusalOfPlace 0 [some (.ref 0), some (.int x), some (.int i), none] [] t (QI P) := by
  apply bX7_refusalOfPlace_0
  exact sp_noShelf_b hx (br_f (by decide) (qi k))
theorem sp_place {s : Nat} {i : Int32} {P : Int32 → Tt → Prop} (h : shC t (aH a)) (hw : AW a) (hs : s < 6) (k0 : ((aH a).1 s).1 = 0 → P (-11) t) (k1 : ((aH a).1 s).1 = 1 → P (-12) t) (k2 : ((aH a).1 s).1 = 2 → gd i ((aH a).1 s).2.2 → P 0 t) (k3 : ((aH a).1 s).1 = 2 → ¬ gd i ((aH a).1 s).2.2 → P (-13) t) : Rt g (d + 3) mX7_refusalOfPlace 0 [some (.ref 0), some (.int (nI s)), some (.int i), none] [] t (QI P) := by
  have w7 := hw.2.2.2.2.2.2
  apply bX7_refusalOfPlace_0
  refine sp_noShelf_g ⟨s, hs, rfl⟩ (br_t rfl ⟨vpn hs, ?_⟩)
  rw [ncl (by omega), c_hold h hs]
  intro z5 e5
  rcases w_kind w7 hs with e | e | e
  · rw [hC_0 e] at e5; subst e5
    exact br_p rfl (qi (k0 e))
  · rw [hC_1 e] at e5; subst e5
    exact br_n (by decide) (br_p rfl (qi (k1 e)))
  · obtain ⟨r1, r2, r3⟩ := w_row w7 hs e
    rw [hC_2 e] at e5; subst e5
    refine br_n (row_ne r1).1 (br_n (row_ne r1).2 ⟨vpn hs, ?_⟩)
    rw [(c_row h hs e).1]
    by_cases hi : gd i ((aH a).1 s).2.2
    · exact sp_out_g (m1_i (by omega)) (by omega) hi (br_t rfl (qi (k2 e hi)))
    · exact sp_out_b (m1_i (by omega)) (by omega) hi (br_f (by decide) (qi (k3 e hi)))
theorem sr_place_b {x i : Int32} {P : Int32 → Tt → Prop} (hx : ¬ gd x 6) (k : P (-1) t) : Rt g (d + 3) mX8_whyNoPlace 0 [some (.ref 57), some (.int x), some (.int i)] [] t (QI P) := by
  apply bX8_whyNoPlace_0
  exact sr_isShelf_b hx (br_p rfl (qi k))
theorem sr_place {s : Nat} {i : Int32} {P : Int32 → Tt → Prop} (h : shM t (aH a)) (hw : AW a) (hs : s < 6) (k0 : ((aH a).1 s).1 = 0 → P (-11) t) (k1 : ((aH a).1 s).1 = 1 → P (-12) t) (k2 : ((aH a).1 s).1 = 2 → gd i ((aH a).1 s).2.2 → P 0 t) (k3 : ((aH a).1 s).1 = 2 → ¬ gd i ((aH a).1 s).2.2 → P (-13) t) : Rt g (d + 3) mX8_whyNoPlace 0 [some (.ref 57), some (.int (nI s)), some (.int i)] [] t (QI P) := by
  have w7 := hw.2.2.2.2.2.2
  have hb : (aB a).1 ≤ 50 := hw.2.2.2.2.2.1.1
  apply bX8_whyNoPlace_0
  refine sr_isShelf_g ⟨s, hs, rfl⟩ (br_n (by decide) ⟨vpn hs, ?_⟩)
  rw [ncl (by omega), m_hold h hs]
  rcases w_kind w7 hs with e | e | e
  · rw [hM_0 e]
    exact br_p rfl (qi (k0 e))
  · have := w_bod w7 hs e
    rw [hM_1 e]
    exact br_n (body_tab _ (by omega)).1 ⟨vpn hs, br_f (nI_pos (by omega)) (qi (k1 e))⟩
  · obtain ⟨r1, r2, r3⟩ := w_row w7 hs e
    rw [hM_2 e]
    refine br_n (sort_tab _ r1).1 ⟨vpn hs, br_t (sort2_tab _ r1).1 ⟨vpn hs, ?_⟩⟩
    rw [(m_row h hs e).1]
    by_cases hi : gd i ((aH a).1 s).2.2
    · exact sr_in_g (m1_i (by omega)) (by omega) hi (br_f (by decide) (qi (k2 e hi)))
    · exact sr_in_b (m1_i (by omega)) (by omega) hi (br_t rfl (qi (k3 e hi)))
def nrw (w : Nat) (v : Int64) : Int64 := if w = 0 then v.toInt32.toInt8.toInt32.toInt64 else if w = 1 then v.toInt32.toInt16.toInt32.toInt64 else if w = 2 then v.toInt32.toInt64 else if w = 3 then v else if v = 0 then 0 else 1
theorem sp_narrowed {w : Nat} {v : Int64} {P : Int64 → Tt → Prop} (hw : w < 5) (k : P (nrw w v) t) : Rt g d mX6_narrowed 0 [some (.int (nI w)), some (.long v), none] [] t (QL P) := by
  unfold nrw at k
  apply bX6_narrowed_0
  have hh : w = 0 ∨ w = 1 ∨ w = 2 ∨ w = 3 ∨ w = 4 := by omega
  rcases hh with rfl | rfl | rfl | rfl | rfl
  · exact br_t rfl (ql k)
  · exact br_f (by decide) (br_t rfl (ql k))
  · exact br_f (by decide) (br_f (by decide) (br_t rfl (ql k)))
  · exact br_f (by decide) (br_f (by decide) (br_f (by decide) (br_t rfl (ql k))))
  · refine br_f (by decide) (br_f (by decide) (br_f (by decide) (br_f (by decide) ⟨fun c => ql ?_, fun c => ql ?_⟩)))
    · rw [if_neg (by decide), if_neg (by decide), if_neg (by decide), if_neg (by decide), if_pos c] at k; exact k
    · rw [if_neg (by decide), if_neg (by decide), if_neg (by decide), if_neg (by decide), if_neg c] at k; exact k
theorem nrw_byte (v : Int64) : -128 ≤ (nrw 0 v).toInt ∧ (nrw 0 v).toInt ≤ 127 := by
  show -128 ≤ (v.toInt32.toInt8.toInt32.toInt64).toInt ∧ (v.toInt32.toInt8.toInt32.toInt64).toInt ≤ 127
  rw [Int32.toInt_toInt64, Int8.toInt_toInt32]
  have h1 := Int8.le_toInt v.toInt32.toInt8
  have h2 := Int8.toInt_lt v.toInt32.toInt8
  omega
theorem both_put {x y : Int32} {v : Int64} {Q : Int32 → Int32 → Tt → Prop} (h : Rel t a) (K : KK Q) : Rt g (d + 300) mX7_put 0 [some (.ref 0), some (.int x), some (.int y), some (.long v), none, none] [] t (QI (fun v1 t1 => Rt g (d + 300) mX8_put 0 [some (.ref 57), some (.int x), some (.int y), some (.long v), none, none, none] [] t1 (QI (fun w t2 => Q v1 w t2)))) := by
  have w7 := h.sw
  apply bX7_put_0
  by_cases h1 : gd x 6
  · obtain ⟨s, hs, rfl⟩ := h1
    have mdl : ∀ {P : Int32 → Tt → Prop} (z : Int32), z < 0 → Rt g (d + 299) mX8_whyNoPlace 0 [some (.ref 57), some (.int (nI s)), some (.int y)] [] t (QI (fun v t' => v = z ∧ t' = t)) → P z t → Rt g (d + 300) mX8_put 0 [some (.ref 57), some (.int (nI s)), some (.int y), some (.long v), none, none, none] [] t (QI P) := by
      intro P z hz hr k
      apply bX8_put_0
      refine hr.ci (fun v t' ⟨e1, e2⟩ => ?_)
      subst e1 e2
      exact br_f (fun q => by rw [lt_i, z_i] at hz; rw [le_i, z_i] at q; omega) (qi k)
    refine sp_place (d := d + 296) h.sc h.1 hs (fun e => br_f (by decide) (qi (mdl (-11) (by decide) (sr_place (d := d + 296) h.sm h.1 hs (fun _ => ⟨rfl, rfl⟩) (fun q => by omega) (fun q => by omega) (fun q => by omega)) (K _ _ ⟨a, h⟩)))) (fun e => br_f (by decide) (qi (mdl (-12) (by decide) (sr_place (d := d + 296) h.sm h.1 hs (fun q => by omega) (fun _ => ⟨rfl, rfl⟩) (fun q => by omega) (fun q => by omega)) (K _ _ ⟨a, h⟩)))) (fun e hi => br_t rfl ?_) (fun e hi => br_f (by decide) (qi (mdl (-13) (by decide) (sr_place (d := d + 296) h.sm h.1 hs (fun q => by omega) (fun q => by omega) (fun _ q => absurd q hi) (fun _ _ => ⟨rfl, rfl⟩)) (K _ _ ⟨a, h⟩))))
    obtain ⟨r1, r2, r3⟩ := w_row w7 hs e
    obtain ⟨i, hi', rfl⟩ := hi
    refine ⟨vpn hs, vpn hs, ?_⟩
    rw [ncl (by omega), c_hold h.sc hs, hC_2 e]
    refine sp_narrowed r1 ⟨vpn (by omega), qi ?_⟩
    rw [ncl (by omega)]
    have f1 : Fj (fun _ _ => False) (fun o _ => o = 45 + 2 * s + 1) t (pJ t (45 + 2 * s + 1) i (nrw ((aH a).1 s).2.1 v)) := (Fj.rf _ _ t).pJ _ rfl
    have c1 : RC (pJ t (45 + 2 * s + 1) i (nrw ((aH a).1 s).2.1 v)) (setH a (shP (aH a) s ((aH a).1 s) (upN ((aH a).2 s) i (nrw ((aH a).1 s).2.1 v)))) := by
      refine h.2.1.sh f1 (fun o j q => q.elim) (shP_C h.sc f1 hs (fun o j q => q.elim) (fun o j q => q) (Or.inr (Or.inr ⟨e, ?_, ?_, fun k hk => ?_⟩)))
      · have := c_hold h.sc hs; rw [hC_2 e] at this; exact this
      · exact (c_row h.sc hs e).1
      · rw [pJ_a]
        unfold upN
        by_cases c : k = i
        · rw [if_pos ⟨rfl, c⟩, if_pos c]
        · rw [if_neg (fun q => c q.2), if_neg c]; exact (c_row h.sc hs e).2 k hk
    have g1 : RF (pJ t (45 + 2 * s + 1) i (nrw ((aH a).1 s).2.1 v)) a := h.2.2.aj (f1.mo (fun o j q => q.elim) (fun o j q => by unfold CAl; omega))
    generalize pJ t (45 + 2 * s + 1) i (nrw ((aH a).1 s).2.1 v) = t1 at c1 g1
    have sm1 : shM t1 (aH a) := g1.2.2.2.2.2.2.2.2
    apply bX8_put_0
    refine sr_place (d := d + 296) sm1 h.1 hs (fun q => by omega) (fun q => by omega) (fun _ _ => br_t (by decide) ⟨vpn hs, ?_⟩) (fun _ q => absurd ⟨i, hi', rfl⟩ q)
    intro z5 e5
    rw [ncl (by omega), m_hold sm1 hs, hM_2 e, (sort2_tab _ r1).2] at e5
    subst e5
    rw [show (60 : Int32) = nI 60 from rfl, pk_mul, nI_add, ncl (by omega)]
    have leaf : ∀ val, val = nrw ((aH a).1 s).2.1 v → vp_in (nI (60 * s + i)) 360 ∧ QI (fun w t2 => Q 1 w t2) (some (.int 1)) (pJ t1 91 (60 * s + i) val) := by
      intro val ev
      subst ev
      refine ⟨vpn (by omega), qi ?_⟩
      have f2 : Fj (fun _ _ => False) (fun o j => o = 91 ∧ 60 * s ≤ j ∧ j < 60 * s + 60) t1 (pJ t1 91 (60 * s + i) (nrw ((aH a).1 s).2.1 v)) := (Fj.rf _ _ t1).pJ _ (by omega)
      refine K _ _ ⟨_, ?_, c1.aj (f2.mo (fun o j q => q.elim) (fun o j q => by unfold MAl; omega)), ?_⟩
      · obtain ⟨w1, w2, w3, w4, w5, w6, w7⟩ := h.1
        refine ⟨w1, w2, w3, w4, w5, w6, shP_W w7 (Or.inr (Or.inr ⟨e, r1, r2, fun e0 k hk => ?_⟩))⟩
        unfold upN
        split
        · rw [e0]; exact nrw_byte v
        · exact r3 e0 k hk
      · refine g1.sh f2 (fun o j q => q.elim) (shP_M sm1 f2 hs (fun o j q => q.elim) (fun o j q => Or.inl q) (Or.inr (Or.inr ⟨e, ?_, ?_, fun k hk => ?_⟩)))
        · have := m_hold sm1 hs; rw [hM_2 e] at this; exact this
        · exact (m_row sm1 hs e).1
        · rw [pJ_a]
          unfold upN
          by_cases c : k = i
          · rw [if_pos ⟨rfl, by omega⟩, if_pos c]
          · rw [if_neg (fun q => c (by omega)), if_neg c]; exact (m_row sm1 hs e).2 k hk
    generalize ((aH a).1 s).2.1 = w at r1 leaf ⊢
    have hh : w = 0 ∨ w = 1 ∨ w = 2 ∨ w = 3 ∨ w = 4 := by omega
    rcases hh with rfl | rfl | rfl | rfl | rfl
    · exact br_p rfl (leaf _ rfl)
    · exact br_n (by decide) (br_p rfl (leaf _ rfl))
    · exact br_n (by decide) (br_n (by decide) (br_p rfl (leaf _ rfl)))
    · exact br_n (by decide) (br_n (by decide) (br_n (by decide) (br_p rfl (leaf _ rfl))))
    · refine br_n (by decide) (br_n (by decide) (br_n (by decide) (br_n (by decide) ⟨fun c => leaf _ ?_, fun c => leaf _ ?_⟩)))
      · unfold nrw; rw [if_neg (by decide), if_neg (by decide), if_neg (by decide), if_neg (by decide), if_pos c]
      · unfold nrw; rw [if_neg (by decide), if_neg (by decide), if_neg (by decide), if_neg (by decide), if_neg c]
  · refine sp_place_b (d := d + 296) h1 (br_f (by decide) (qi ?_))
    apply bX8_put_0
    exact sr_place_b (d := d + 296) h1 (br_f (by decide) (qi (K _ _ ⟨a, h⟩)))
abbrev KL (Q : Int64 → Int64 → Tt → Prop) : Prop := ∀ v t', (∃ a', Rel t' a') → Q v v t'
theorem both_element {x y : Int32} {Q : Int64 → Int64 → Tt → Prop} (h : Rel t a) (K : KL Q) : Rt g (d + 300) mX7_element 0 [some (.ref 0), some (.int x), some (.int y)] [] t (QL (fun v1 t1 => Rt g (d + 300) mX8_element 0 [some (.ref 57), some (.int x), some (.int y)] [] t1 (QL (fun w t2 => Q v1 w t2)))) := by
  have w7 := h.sw
  apply bX7_element_0
  by_cases h1 : gd x 6
  · obtain ⟨s, hs, rfl⟩ := h1
    have bad : ((aH a).1 s).1 ≠ 2 ∨ ¬ gd y ((aH a).1 s).2.2 → Rt g (d + 300) mX8_element 0 [some (.ref 57), some (.int (nI s)), some (.int y)] [] t (QL (fun w t2 => Q (-9223372036854775808) w t2)) := by
      intro hb
      apply bX8_element_0
      refine sr_place (d := d + 296) h.sm h.1 hs (fun _ => br_f (by decide) (ql (K _ _ ⟨a, h⟩))) (fun _ => br_f (by decide) (ql (K _ _ ⟨a, h⟩))) (fun e hi => ?_) (fun _ _ => br_f (by decide) (ql (K _ _ ⟨a, h⟩)))
      rcases hb with q | q
      · exact absurd e q
      · exact absurd hi q
    refine sp_place (d := d + 296) h.sc h.1 hs (fun e => br_f (by decide) (ql (bad (Or.inl (by omega))))) (fun e => br_f (by decide) (ql (bad (Or.inl (by omega))))) (fun e hi => br_t rfl ?_) (fun e hi => br_f (by decide) (ql (bad (Or.inr hi))))
    obtain ⟨r1, r2, r3⟩ := w_row w7 hs e
    obtain ⟨i, hi', rfl⟩ := hi
    refine ⟨vpn hs, vpn (by omega), ql ?_⟩
    rw [ncl (by omega), ncl (by omega), (c_row h.sc hs e).2 i (by omega)]
    apply bX8_element_0
    refine sr_place (d := d + 296) h.sm h.1 hs (fun q => by omega) (fun q => by omega) (fun _ _ => br_t (by decide) ?_) (fun _ q => absurd ⟨i, hi', rfl⟩ q)
    rw [show (60 : Int32) = nI 60 from rfl, pk_mul, nI_add]
    refine ⟨vpn (by omega), ql ?_⟩
    rw [ncl (by omega), (m_row h.sm hs e).2 i (by omega)]
    exact K _ _ ⟨a, h⟩
  · refine sp_place_b (d := d + 296) h1 (br_f (by decide) (ql ?_))
    apply bX8_element_0
    exact sr_place_b (d := d + 296) h1 (br_f (by decide) (ql (K _ _ ⟨a, h⟩)))
def undr (c k : Nat) : Prop := k = 0 ∨ c = k ∨ (k = 1 ∧ c = 4) ∨ (k = 2 ∧ (c = 3 ∨ c = 5)) ∨ (k = 3 ∧ c = 5) ∨ (k = 6 ∧ c = 7)
theorem sp_isUnder {c k : Nat} {P : Int32 → Tt → Prop} (hc : c < 8) (hk : k < 8) (k1 : undr c k → P 1 t) (k0 : ¬ undr c k → P 0 t) : Rt g d mX0_isUnder 0 [some (.int (nI c)), some (.int (nI k)), none, none] [] t (QI P) := by
  apply bX0_isUnder_0
  unfold undr at k1 k0
  have yes : (P 1 t) → Rt g d mX0_isUnder 31 [none, some (.int (nI k)), some (.int (nI k)), none] [] t (QI P) := fun q => bX0_isUnder_31 (br_p rfl (qi q))
  have stop : ∀ i : Int32, (P 0 t) → Rt g d mX0_isUnder 4 [none, some (.int (nI k)), some (.int (-1)), some (.int i)] [] t (QI P) := by
    intro i q
    have fin : Rt g d mX0_isUnder 31 [none, some (.int (nI k)), some (.int (-1)), none] [] t (QI P) := bX0_isUnder_31 (br_n (fun w => nI_pos (n := k) (by omega) (by rw [← w]; decide)) (qi q))
    exact bX0_isUnder_4 ⟨fun _ => fin, fun _ => ⟨fun _ => fin, fun w => absurd (by decide) w⟩⟩
  have step : ∀ (c : Nat) (z : Int32) (i : Nat), c < 8 → i < 8 → tabA c = z → (c = k → P 1 t) → (c ≠ k → Rt g d mX0_isUnder 4 [none, some (.int (nI k)), some (.int z), some (.int (nI (i + 1)))] [] t (QI P)) → Rt g d mX0_isUnder 4 [none, some (.int (nI k)), some (.int (nI c)), some (.int (nI i))] [] t (QI P) := by
    intro c z i hc hi hz q1 q2
    apply bX0_isUnder_4
    refine br_f (nI_ge (b := 8) (by omega) (by decide)) (br_f (nI_pos (by omega)) ?_)
    by_cases e : c = k
    · subst e
      exact br_t rfl (yes (q1 rfl))
    · refine br_f (fun w => e (nI_inj (by omega) (by omega) w)) ⟨vpn hc, ?_⟩
      intro z5 e5
      rw [ncl (by omega), hz] at e5
      subst e5
      rw [nI_1]
      exact q2 e
  have s0 : ∀ i, i < 8 → (0 = k → P 1 t) → (0 ≠ k → P 0 t) → Rt g d mX0_isUnder 4 [none, some (.int (nI k)), some (.int (nI 0)), some (.int (nI i))] [] t (QI P) := fun i hi q1 q2 => step 0 (-1) i (by decide) hi rfl q1 (fun e => stop _ (q2 e))
  have hh : c = 0 ∨ c = 1 ∨ c = 2 ∨ c = 3 ∨ c = 4 ∨ c = 5 ∨ c = 6 ∨ c = 7 := by omega
  rcases hh with rfl | rfl | rfl | rfl | rfl | rfl | rfl | rfl
  · exact s0 0 (by decide) (fun e => k1 (by omega)) (fun e => k0 (by omega))
  · exact step 1 (nI 0) 0 (by decide) (by decide) rfl (fun e => k1 (by omega)) (fun e => s0 1 (by decide) (fun e => k1 (by omega)) (fun e => k0 (by omega)))
  · exact step 2 (nI 0) 0 (by decide) (by decide) rfl (fun e => k1 (by omega)) (fun e => s0 1 (by decide) (fun e => k1 (by omega)) (fun e => k0 (by omega)))
  · exact step 3 (nI 2) 0 (by decide) (by decide) rfl (fun e => k1 (by omega)) (fun e => step 2 (nI 0) 1 (by decide) (by decide) rfl (fun e => k1 (by omega)) (fun e => s0 2 (by decide) (fun e => k1 (by omega)) (fun e => k0 (by omega))))
  · exact step 4 (nI 1) 0 (by decide) (by decide) rfl (fun e => k1 (by omega)) (fun e => step 1 (nI 0) 1 (by decide) (by decide) rfl (fun e => k1 (by omega)) (fun e => s0 2 (by decide) (fun e => k1 (by omega)) (fun e => k0 (by omega))))
  · exact step 5 (nI 3) 0 (by decide) (by decide) rfl (fun e => k1 (by omega)) (fun e => step 3 (nI 2) 1 (by decide) (by decide) rfl (fun e => k1 (by omega)) (fun e => step 2 (nI 0) 2 (by decide) (by decide) rfl (fun e => k1 (by omega)) (fun e => s0 3 (by decide) (fun e => k1 (by omega)) (fun e => k0 (by omega)))))
  · exact step 6 (nI 0) 0 (by decide) (by decide) rfl (fun e => k1 (by omega)) (fun e => s0 1 (by decide) (fun e => k1 (by omega)) (fun e => k0 (by omega)))
  · exact step 7 (nI 6) 0 (by decide) (by decide) rfl (fun e => k1 (by omega)) (fun e => step 6 (nI 0) 1 (by decide) (by decide) rfl (fun e => k1 (by omega)) (fun e => s0 2 (by decide) (fun e => k1 (by omega)) (fun e => k0 (by omega))))
theorem nI_iff {c : Nat} {k : Nat} (hc : c < 8) (hk : k < 8) : nI c = nI k ↔ c = k := nI_eq (by omega) (by omega)
theorem sr_isUnder {c k : Nat} {P : Int32 → Tt → Prop} (hc : c < 8) (hk : k < 8) (k1 : undr c k → P 1 t) (k0 : ¬ undr c k → P 0 t) : Rt g d mX8_isUnder 0 [some (.int (nI c)), some (.int (nI k))] [] t (QI P) := by
  unfold undr at k1 k0
  have y : P 1 t → Rt g d mX8_isUnder 56 [none, none] [] t (QI P) := fun q => bX8_isUnder_56 (qi q)
  have q0 : nI k = 0 ↔ k = 0 := nI_iff hk (k := 0) (by decide)
  have q1 : nI k = 1 ↔ k = 1 := nI_iff hk (k := 1) (by decide)
  have q2 : nI k = 2 ↔ k = 2 := nI_iff hk (k := 2) (by decide)
  have q3 : nI k = 3 ↔ k = 3 := nI_iff hk (k := 3) (by decide)
  have q6 : nI k = 6 ↔ k = 6 := nI_iff hk (k := 6) (by decide)
  have c3 : nI c = 3 ↔ c = 3 := nI_iff hc (k := 3) (by decide)
  have c4 : nI c = 4 ↔ c = 4 := nI_iff hc (k := 4) (by decide)
  have c5 : nI c = 5 ↔ c = 5 := nI_iff hc (k := 5) (by decide)
  have c7 : nI c = 7 ↔ c = 7 := nI_iff hc (k := 7) (by decide)
  have ck : nI c = nI k ↔ c = k := nI_iff hc hk
  have e44 : k ≠ 0 → c ≠ k → ¬ (k = 1 ∧ c = 4) → ¬ (k = 2 ∧ (c = 3 ∨ c = 5)) → ¬ (k = 3 ∧ c = 5) → Rt g d mX8_isUnder 44 [some (.int (nI c)), some (.int (nI k))] [] t (QI P) := by
    intro n1 n2 n3 n4 n5
    apply bX8_isUnder_44
    rw [q6, c7]
    exact ⟨fun e => qi (k0 (by omega)), fun e => ⟨fun e2 => qi (k0 (by omega)), fun e2 => y (k1 (by omega))⟩⟩
  have e34 : k ≠ 0 → c ≠ k → ¬ (k = 1 ∧ c = 4) → ¬ (k = 2 ∧ (c = 3 ∨ c = 5)) → Rt g d mX8_isUnder 34 [some (.int (nI c)), some (.int (nI k))] [] t (QI P) := by
    intro n1 n2 n3 n4
    apply bX8_isUnder_34
    rw [q3, c5]
    exact ⟨fun e => e44 n1 n2 n3 n4 (by omega), fun e => ⟨fun e2 => y (k1 (by omega)), fun e2 => e44 n1 n2 n3 n4 (by omega)⟩⟩
  have e19 : k ≠ 0 → c ≠ k → ¬ (k = 1 ∧ c = 4) → Rt g d mX8_isUnder 19 [some (.int (nI c)), some (.int (nI k))] [] t (QI P) := by
    intro n1 n2 n3
    apply bX8_isUnder_19
    rw [q2, c3, c5]
    exact ⟨fun e => e34 n1 n2 n3 (by omega), fun e => ⟨fun e2 => y (k1 (by omega)), fun e2 => ⟨fun e3 => y (k1 (by omega)), fun e3 => e34 n1 n2 n3 (by omega)⟩⟩⟩
  apply bX8_isUnder_0
  rw [q0, ck, q1, c4]
  exact ⟨fun e => y (k1 (by omega)), fun e => ⟨fun e2 => y (k1 (by omega)), fun e2 => ⟨fun e3 => e19 e e2 (by omega), fun e3 => ⟨fun e4 => y (k1 (by omega)), fun e4 => e19 e e2 (by omega)⟩⟩⟩⟩
theorem both_taken {x y : Int32} {Q : Int32 → Int32 → Tt → Prop} (h : Rel t a) (K : KK Q) : Rt g (d + 300) mX7_taken 0 [some (.ref 0), some (.int x), some (.int y), none, none] [] t (QI (fun v1 t1 => Rt g (d + 300) mX8_taken 0 [some (.ref 57), some (.int x), some (.int y)] [] t1 (QI (fun w t2 => Q v1 w t2)))) := by
  have w7 := h.sw
  have hb : (aB a).1 ≤ 50 := h.1.2.2.2.2.2.1.1
  have hkd := h.1.2.2.2.2.2.1.2.1
  apply bX7_taken_0
  by_cases h1 : gd x 6
  · refine sp_noShelf_g h1 (br_p rfl ?_)
    by_cases h2 : gd y 8
    · refine sp_out_g (n := 8) rfl (by decide) h2 (br_t rfl ?_)
      obtain ⟨s, hs, rfl⟩ := h1
      obtain ⟨k, hk, rfl⟩ := h2
      have mdl : ∀ {P : Int32 → Tt → Prop}, _ → Rt g (d + 300) mX8_taken 0 [some (.ref 57), some (.int (nI s)), some (.int (nI k))] [] t (QI P) := fun {P} kk => bX8_taken_0 (sr_isShelf_g ⟨s, hs, rfl⟩ (br_f (by decide) (sr_in_g (n := 8) rfl (by decide) ⟨k, hk, rfl⟩ (br_n (by decide) ⟨vpn hs, kk⟩))))
      refine ⟨vpn hs, ?_⟩
      have ns : (nI s).toNatClampNeg = s := ncl (by omega)
      rw [ns] at mdl ⊢
      rw [c_hold h.sc hs]
      rw [m_hold h.sm hs] at mdl
      rcases w_kind w7 hs with e | e | e
      · rw [hC_0 e]
        rw [hM_0 e] at mdl
        exact br_p rfl (qi (mdl (br_p rfl (qi (K _ _ ⟨a, h⟩)))))
      · have hbo := w_bod w7 hs e
        have e2 : t.1 (45 + 2 * s) 2 = nI ((aH a).1 s).2.1 := by
          rcases h.sc s hs with ⟨q, -⟩ | ⟨-, -, q⟩ | ⟨q, -⟩
          · omega
          · exact q
          · omega
        rw [hC_1 e, e2]
        rw [hM_1 e] at mdl
        generalize eb : ((aH a).1 s).2.1 = b at *
        have nb : (nI b).toNatClampNeg = b := ncl (by omega)
        rw [nb] at mdl ⊢
        have k1 : t.1 28 b = nI ((aB a).2.1 b) := h.2.1.2.2.2.2.2.2.2.1.2.2.1 b hbo
        have k2 : t.1 87 b = nI ((aB a).2.1 b) := h.2.2.2.2.2.2.2.2.2.1.2.2.1 b hbo
        have k8 := hkd b hbo
        rw [k1]
        rw [k2] at mdl
        refine br_n (by decide) (br_t rfl ⟨vpn (by omega), ?_⟩)
        intro z11 e11
        subst e11
        refine sp_isUnder k8 hk (fun hu => br_f (by decide) (qi ?_)) (fun hu => br_t rfl (qi ?_))
        · refine mdl (br_n (body_tab b (by omega)).1 ⟨vpn hs, br_f (nI_pos (by omega)) ⟨vpn hs, vpn (by omega), sr_isUnder k8 hk (fun _ => br_f (by decide) ⟨vpn hs, ?_⟩) (fun q => absurd hu q)⟩⟩)
          rw [m_hold h.sm hs, hM_1 e, eb, nb, k2]
          exact ⟨vpn (by omega), qi (K _ _ ⟨a, h⟩)⟩
        · exact mdl (br_n (body_tab b (by omega)).1 ⟨vpn hs, br_f (nI_pos (by omega)) ⟨vpn hs, vpn (by omega), sr_isUnder k8 hk (fun q => absurd q hu) (fun _ => br_t rfl (qi (K _ _ ⟨a, h⟩)))⟩⟩)
      · obtain ⟨r1, r2, r3⟩ := w_row w7 hs e
        rw [hC_2 e]
        rw [hM_2 e] at mdl
        exact br_n (row_ne r1).1 (br_f (row_ne r1).2 (qi (mdl (br_n (sort_tab _ r1).1 ⟨vpn hs, br_t (sort2_tab _ r1).1 (qi (K _ _ ⟨a, h⟩))⟩))))
    · refine sp_out_b (n := 8) rfl (by decide) h2 (br_f (by decide) (qi ?_))
      exact bX8_taken_0 (sr_isShelf_g h1 (br_f (by decide) (sr_in_b (n := 8) rfl (by decide) h2 (br_p rfl (qi (K _ _ ⟨a, h⟩))))))
  · refine sp_noShelf_b h1 (br_n (by decide) (qi ?_))
    exact bX8_taken_0 (sr_isShelf_b h1 (br_t rfl (qi (K _ _ ⟨a, h⟩))))
end P60
