/-! PURE LAYER: act: what a body does, by the class -/
section P64
variable {g : Gt} {d : Nat} {t t1 : Tt} {a : Aa}
theorem ix4 (p k : Nat) : nI p * 4 + nI k = nI (4 * p + k) := by rw [show (4 : Int32) = nI 4 from rfl, pk_mul, nI_add, Nat.mul_comm]
theorem sp_up {n c c' dd i dep : Nat} {x : Int32} {Q : Option Value → Tt → Prop} (hc : c < 8) (hd : dd < 4) (hi : i < 8) (e0 : tabO (4 * c + dd) = 0) (eA : tabA c = nI c') (k : Rt g (d + 1) mX0_run 6 [some (.ref 27), some (.int (nI n)), none, some (.int (nI dd)), some (.int x), some (.int (nI dep)), some (.int (nI c')), some (.int (nI (i + 1)))] [] t Q) : Rt g (d + 1) mX0_run 6 [some (.ref 27), some (.int (nI n)), none, some (.int (nI dd)), some (.int x), some (.int (nI dep)), some (.int (nI c)), some (.int (nI i))] [] t Q := by
  apply bX0_run_6
  rw [ix4, ncl (by omega), ncl (by omega), e0, eA]
  refine br_f (nI_ge (b := 8) (by omega) (by decide)) (br_f (nI_pos (by omega)) ⟨vpn (by omega), br_p rfl ⟨vpn hc, ?_⟩⟩)
  intro z6 e6
  subst e6
  rw [nI_1]
  exact k
theorem sp_mark {n c dd i dep b : Nat} {x : Int32} {l : List Int32} {Q : Option Value → Tt → Prop} (hc : c < 8) (hd : dd < 4) (hi : i < 8) (hb : tabO (4 * c + dd) = nI b) (hb1 : 0 < b) (hb2 : b < 100) (hdep : dep ≤ 40) (h : TrcC t l) (hl : l.length < 1000) (k : ∀ t', (∀ q, Fr FtC t (pI t' 27 2 q)) → t'.1 27 2 = nI l.length → TrcC (pI t' 27 2 (nI (l.length + 1))) (l ++ [nI b]) → Rt g (d + 1) mX0_run 91 [some (.ref 27), some (.int (nI n)), none, none, some (.int x), some (.int (nI dep)), some (.int (nI c)), some (.int (nI b))] [] t' Q) : Rt g (d + 1) mX0_run 6 [some (.ref 27), some (.int (nI n)), none, some (.int (nI dd)), some (.int x), some (.int (nI dep)), some (.int (nI c)), some (.int (nI i))] [] t Q := by
  apply bX0_run_6
  rw [ix4, ncl (by omega), hb]
  refine br_f (nI_ge (b := 8) (by omega) (by decide)) (br_f (nI_pos (by omega)) ⟨vpn (by omega), br_n (fun q => by have := nI_inj (b := 0) (by omega) (by decide) q; omega) ?_⟩)
  apply bX0_run_45
  rw [ix4, ncl (by omega), hb, h.1]
  refine br_f (nI_pos (by omega)) (br_t (nI_le (b := 40) hdep (by decide)) ⟨vpn (by omega), ?_⟩)
  intro z4 e4
  subst e4
  have e1 : (l ++ [nI b]).length = l.length + 1 := by simp
  by_cases c24 : 24 ≤ l.length
  · refine br_t (nI_le (a := 24) c24 (by omega)) (k t (fun q => (Fr.rf FtC t).pI _ (Or.inl ⟨rfl, rfl⟩)) h.1 ⟨by rw [pI_s, e1], fun i x hi hx => ?_⟩)
    rw [pI_o _ _ _ _ (by decide)]
    rcases ap_get hx with q | q
    · exact h.2 i x hi q
    · omega
  · refine br_f (nI_ge (b := 24) (by omega) (by decide)) ⟨vpn (by omega), ?_⟩
    rw [ncl (by omega)]
    refine k _ (fun q => ((Fr.rf FtC t).pI _ (Or.inr rfl)).pI _ (Or.inl ⟨rfl, rfl⟩)) ?_ ⟨by rw [pI_s, e1], fun i x hi hx => ?_⟩
    · rw [pI_o _ _ _ _ (by decide)]; exact h.1
    · rw [pI_o _ _ _ _ (by decide), pI_a]
      rcases ap_get hx with q | ⟨q1, q2⟩
      · have := get_lt q
        rw [if_neg (by omega)]; exact h.2 i x hi q
      · rw [if_pos ⟨rfl, q1⟩, q2]
theorem sp_atR {n dd i dep b : Nat} {x : Int32} {l : List Int32} {P : Int32 → Tt → Prop} (hd : dd < 4) (hi : i < 8) (hb : tabO dd = nI b) (hb1 : 0 < b) (hb2 : b < 100) (hdep : dep ≤ 40) (h : TrcC t l) (hl : l.length < 1000) (k : ∀ t', Fr FtC t t' → TrcC t' (l ++ [nI b]) → Rt g d mX0_rootWork 0 [some (.ref 27), some (.int (nI b)), some (.int (nI n)), some (.int x), some (.int (nI dep)), none, none] [] t' (QI P)) : Rt g (d + 1) mX0_run 6 [some (.ref 27), some (.int (nI n)), none, some (.int (nI dd)), some (.int x), some (.int (nI dep)), some (.int (nI 0)), some (.int (nI i))] [] t (QI P) := by
  refine sp_mark (c := 0) (by decide) hd hi (by rw [Nat.mul_zero, Nat.zero_add]; exact hb) hb1 hb2 hdep h hl (fun t' f e2 h' => ?_)
  apply bX0_run_91
  rw [e2, nI_1]
  exact ⟨vpn (by decide), br_f (by decide) ((k _ (f _) h').ci (fun v t' q => qi q))⟩
theorem sp_atW {n c up dd i dep b : Nat} {x : Int32} {l : List Int32} {P : Int32 → Tt → Prop} (hc : c < 8) (hup : up < 8) (hA : tabA c = nI up) (hd : dd < 4) (hi : i < 8) (hb : tabO (4 * c + dd) = nI b) (hb1 : 0 < b) (hb2 : b < 100) (hdep : dep ≤ 40) (h : TrcC t l) (hl : l.length < 1000) (k : ∀ t', Fr FtC t t' → TrcC t' (l ++ [nI b]) → Rt g d mX0_work 0 [some (.ref 27), some (.int (nI b)), some (.int (nI n)), some (.int (nI up)), some (.int x), some (.int (nI dep)), none, none] [] t' (QI P)) : Rt g (d + 1) mX0_run 6 [some (.ref 27), some (.int (nI n)), none, some (.int (nI dd)), some (.int x), some (.int (nI dep)), some (.int (nI c)), some (.int (nI i))] [] t (QI P) := by
  refine sp_mark hc hd hi hb hb1 hb2 hdep h hl (fun t' f e2 h' => ?_)
  apply bX0_run_91
  rw [e2, nI_1, ncl (by omega), hA]
  exact ⟨vpn hc, br_t (nI_pos' (by omega)) ⟨vpn hc, (k _ (f _) h').ci (fun v t' q => qi q)⟩⟩

theorem rB0 {n dep i : Nat} {x : Int32} {l : List Int32} {P : Int32 → Tt → Prop} (h : TrcC t l) (hl : l.length < 990) (hn : n < 50) (hdep : dep ≤ 40) (hi : i < 8) (k : ∀ t', Fr FtC t t' → TrcC t' (l ++ (eB0 n x).2) → P (eB0 n x).1 t') : Rt g (d + 2) mX0_run 6 [some (.ref 27), some (.int (nI n)), none, some (.int (nI 0)), some (.int x), some (.int (nI dep)), some (.int (nI 0)), some (.int (nI i))] [] t (QI P) := by
  refine sp_atR (b := 1) (by decide) hi rfl (by decide) (by decide) (by omega) h (by omega) (fun t1 f1 h1 => ?_)
  apply bX0_rootWork_0
  refine ⟨vpn hn, ?_⟩
  intro z2 e2 z3 e3
  rw [nI_1] at e3
  subst e3
  exact br_t rfl (qi (k t1 f1 h1))
theorem rB1 {n dep i : Nat} {x : Int32} {l : List Int32} {P : Int32 → Tt → Prop} (h : TrcC t l) (hl : l.length < 980) (hn : n < 50) (hdep : dep ≤ 39) (hi : i < 8) (k : ∀ t', Fr FtC t t' → TrcC t' (l ++ (eB1 n x).2) → P (eB1 n x).1 t') : Rt g (d + 4) mX0_run 6 [some (.ref 27), some (.int (nI n)), none, some (.int (nI 0)), some (.int x), some (.int (nI dep)), some (.int (nI 1)), some (.int (nI i))] [] t (QI P) := by
  refine sp_atW (c := 1) (up := 0) (b := 20) (by decide) (by decide) rfl (by decide) hi rfl (by decide) (by decide) (by omega) h (by omega) (fun t1 f1 h1 => ?_)
  apply bX0_work_0
  refine ⟨vpn hn, ?_⟩
  intro z2 e2 z3 e3
  rw [nI_1] at e3
  subst e3
  refine br_t rfl ?_
  refine bX0_run_0 (rB0 (d := d + 0) (i := 0) h1 (by simp; omega) hn (by omega) (by decide) (fun t2 f2 h2 => qi (k t2 (f1.tr f2) ?_)))
  unfold eB1
  rw [apc]; exact h2
theorem rB6 {n dep i : Nat} {x : Int32} {l : List Int32} {P : Int32 → Tt → Prop} (h : TrcC t l) (hl : l.length < 980) (hn : n < 50) (hdep : dep ≤ 39) (hi : i < 8) (k : ∀ t', Fr FtC t t' → TrcC t' (l ++ (eB6 n x).2) → P (eB6 n x).1 t') : Rt g (d + 4) mX0_run 6 [some (.ref 27), some (.int (nI n)), none, some (.int (nI 0)), some (.int x), some (.int (nI dep)), some (.int (nI 6)), some (.int (nI i))] [] t (QI P) := by
  refine sp_atW (c := 6) (up := 0) (b := 70) (by decide) (by decide) rfl (by decide) hi rfl (by decide) (by decide) (by omega) h (by omega) (fun t1 f1 h1 => ?_)
  apply bX0_work_0
  refine ⟨vpn hn, ?_⟩
  intro z2 e2 z3 e3
  rw [nI_1] at e3
  subst e3
  refine br_f (by decide) (br_f (by decide) (br_f (by decide) (br_f (by decide) (br_f (by decide) (br_f (by decide) (br_f (by decide) (br_t rfl ?_)))))))
  refine bX0_run_0 (rB0 (d := d + 0) (i := 0) h1 (by simp; omega) hn (by omega) (by decide) (fun t2 f2 h2 => qi (k t2 (f1.tr f2) ?_)))
  unfold eB6
  rw [apc]; exact h2
theorem rB7 {n dep i : Nat} {x : Int32} {l : List Int32} {P : Int32 → Tt → Prop} (h : TrcC t l) (hl : l.length < 970) (hn : n < 50) (hdep : dep ≤ 38) (hi : i < 8) (k : ∀ t', Fr FtC t t' → TrcC t' (l ++ (eB7 n x).2) → P (eB7 n x).1 t') : Rt g (d + 6) mX0_run 6 [some (.ref 27), some (.int (nI n)), none, some (.int (nI 0)), some (.int x), some (.int (nI dep)), some (.int (nI 7)), some (.int (nI i))] [] t (QI P) := by
  refine sp_atW (c := 7) (up := 6) (b := 81) (by decide) (by decide) rfl (by decide) hi rfl (by decide) (by decide) (by omega) h (by omega) (fun t1 f1 h1 => ?_)
  apply bX0_work_0
  refine ⟨vpn hn, ?_⟩
  intro z2 e2 z3 e3
  rw [nI_1] at e3
  subst e3
  refine br_f (by decide) (br_f (by decide) (br_f (by decide) (br_f (by decide) (br_f (by decide) (br_f (by decide) (br_f (by decide) (br_f (by decide) (br_f (by decide) (br_t rfl ?_)))))))))
  refine bX0_run_0 (rB6 (d := d + 0) (i := 0) h1 (by simp; omega) hn (by omega) (by decide) (fun t2 f2 h2 => qi (k t2 (f1.tr f2) ?_)))
  unfold eB7
  rw [apc]; exact h2
theorem cB {n dep c : Nat} {x : Int32} {l : List Int32} {P : Int32 → Tt → Prop} (hc : c < 8) (h : TrcC t l) (hl : l.length < 970) (hn : n < 50) (hdep : dep ≤ 38) (k : ∀ t', Fr FtC t t' → TrcC t' (l ++ (eB c n x).2) → P (eB c n x).1 t') : Rt g (d + 6) mX0_run 0 [some (.ref 27), some (.int (nI n)), some (.int (nI c)), some (.int (nI 0)), some (.int x), some (.int (nI dep)), none, none] [] t (QI P) := by
  have hh : c = 0 ∨ c = 1 ∨ c = 2 ∨ c = 3 ∨ c = 4 ∨ c = 5 ∨ c = 6 ∨ c = 7 := by omega
  rcases hh with rfl | rfl | rfl | rfl | rfl | rfl | rfl | rfl
  · exact bX0_run_0 (rB0 (d := d + 4) (i := 0) h (by omega) hn (by omega) (by decide) k)
  · exact bX0_run_0 (rB1 (d := d + 2) (i := 0) h (by omega) hn (by omega) (by decide) k)
  · exact bX0_run_0 (sp_up (c := 2) (c' := 0) (by decide) (by decide) (by decide) rfl rfl (rB0 (d := d + 4) (i := 1) h (by omega) hn (by omega) (by decide) k))
  · exact bX0_run_0 (sp_up (c := 3) (c' := 2) (by decide) (by decide) (by decide) rfl rfl (sp_up (c := 2) (c' := 0) (by decide) (by decide) (by decide) rfl rfl (rB0 (d := d + 4) (i := 2) h (by omega) hn (by omega) (by decide) k)))
  · exact bX0_run_0 (sp_up (c := 4) (c' := 1) (by decide) (by decide) (by decide) rfl rfl (rB1 (d := d + 2) (i := 1) h (by omega) hn (by omega) (by decide) k))
  · exact bX0_run_0 (sp_up (c := 5) (c' := 3) (by decide) (by decide) (by decide) rfl rfl (sp_up (c := 3) (c' := 2) (by decide) (by decide) (by decide) rfl rfl (sp_up (c := 2) (c' := 0) (by decide) (by decide) (by decide) rfl rfl (rB0 (d := d + 4) (i := 3) h (by omega) hn (by omega) (by decide) k))))
  · exact bX0_run_0 (rB6 (d := d + 2) (i := 0) h (by omega) hn (by omega) (by decide) k)
  · exact bX0_run_0 (rB7 (d := d + 0) (i := 0) h (by omega) hn (by omega) (by decide) k)
theorem rG0 {n dep i : Nat} {x : Int32} {l : List Int32} {P : Int32 → Tt → Prop} (h : TrcC t l) (hl : l.length < 990) (hn : n < 50) (hdep : dep ≤ 40) (hi : i < 8) (k : ∀ t', Fr FtC t t' → TrcC t' (l ++ (eG0 n x).2) → P (eG0 n x).1 t') : Rt g (d + 2) mX0_run 6 [some (.ref 27), some (.int (nI n)), none, some (.int (nI 2)), some (.int x), some (.int (nI dep)), some (.int (nI 0)), some (.int (nI i))] [] t (QI P) := by
  refine sp_atR (b := 11) (by decide) hi rfl (by decide) (by decide) (by omega) h (by omega) (fun t1 f1 h1 => ?_)
  apply bX0_rootWork_0
  refine ⟨vpn hn, ?_⟩
  intro z2 e2 z3 e3
  rw [nI_1] at e3
  subst e3
  exact br_f (by decide) (br_f (by decide) (br_f (by decide) (br_t rfl (qi (k t1 f1 h1)))))
theorem rG3 {n dep i : Nat} {x : Int32} {l : List Int32} {P : Int32 → Tt → Prop} (h : TrcC t l) (hl : l.length < 980) (hn : n < 50) (hdep : dep ≤ 39) (hi : i < 8) (k : ∀ t', Fr FtC t t' → TrcC t' (l ++ (eG3 n x).2) → P (eG3 n x).1 t') : Rt g (d + 4) mX0_run 6 [some (.ref 27), some (.int (nI n)), none, some (.int (nI 2)), some (.int x), some (.int (nI dep)), some (.int (nI 3)), some (.int (nI i))] [] t (QI P) := by
  refine sp_atW (c := 3) (up := 2) (b := 40) (by decide) (by decide) rfl (by decide) hi rfl (by decide) (by decide) (by omega) h (by omega) (fun t1 f1 h1 => ?_)
  apply bX0_work_0
  refine ⟨vpn hn, ?_⟩
  intro z2 e2 z3 e3
  rw [nI_1] at e3
  subst e3
  refine br_f (by decide) (br_f (by decide) (br_t rfl ?_))
  refine bX0_run_0 (sp_up (c := 2) (c' := 0) (by decide) (by decide) (by decide) rfl rfl (rG0 (d := d + 0) (i := 1) h1 (by simp; omega) hn (by omega) (by decide) (fun t2 f2 h2 => qi (k t2 (f1.tr f2) ?_))))
  unfold eG3
  rw [apc]; exact h2
theorem rG5 {n dep i : Nat} {x : Int32} {l : List Int32} {P : Int32 → Tt → Prop} (hk : t.1 28 n = nI 5) (h : TrcC t l) (hl : l.length < 950) (hn : n < 50) (hdep : dep ≤ 37) (hi : i < 8) (k : ∀ t', Fr FtC t t' → TrcC t' (l ++ (eG5 n x).2) → P (eG5 n x).1 t') : Rt g (d + 8) mX0_run 6 [some (.ref 27), some (.int (nI n)), none, some (.int (nI 2)), some (.int x), some (.int (nI dep)), some (.int (nI 5)), some (.int (nI i))] [] t (QI P) := by
  refine sp_atW (c := 5) (up := 3) (b := 60) (by decide) (by decide) rfl (by decide) hi rfl (by decide) (by decide) (by omega) h (by omega) (fun t1 f1 h1 => ?_)
  apply bX0_work_0
  refine ⟨vpn hn, ?_⟩
  intro z2 e2 z3 e3
  rw [nI_1] at e3
  subst e3
  rw [ncl (by omega), kC hk f1] at e2
  subst e2
  refine br_f (by decide) (br_f (by decide) (br_f (by decide) (br_f (by decide) (br_f (by decide) (br_t rfl ?_)))))
  refine bX0_run_0 (rG3 (d := d + 2) (i := 0) h1 (by simp; omega) hn (by omega) (by decide) (fun t2 f2 h2 => ?_))
  refine cB (d := d) (c := 5) (by decide) h2 (by simp [eG3_len]; omega) hn (by omega) (fun t3 f3 h3 => qi (k t3 ((f1.tr f2).tr f3) ?_))
  unfold eG5
  rw [apc, ← List.append_assoc]; exact h3
theorem cG {n dep c : Nat} {x : Int32} {l : List Int32} {P : Int32 → Tt → Prop} (hc : c < 8) (hk : t.1 28 n = nI c) (h : TrcC t l) (hl : l.length < 950) (hn : n < 50) (hdep : dep ≤ 37) (k : ∀ t', Fr FtC t t' → TrcC t' (l ++ (eG c n x).2) → P (eG c n x).1 t') : Rt g (d + 8) mX0_run 0 [some (.ref 27), some (.int (nI n)), some (.int (nI c)), some (.int (nI 2)), some (.int x), some (.int (nI dep)), none, none] [] t (QI P) := by
  have hh : c = 0 ∨ c = 1 ∨ c = 2 ∨ c = 3 ∨ c = 4 ∨ c = 5 ∨ c = 6 ∨ c = 7 := by omega
  rcases hh with rfl | rfl | rfl | rfl | rfl | rfl | rfl | rfl
  · exact bX0_run_0 (rG0 (d := d + 6) (i := 0) h (by omega) hn (by omega) (by decide) k)
  · exact bX0_run_0 (sp_up (c := 1) (c' := 0) (by decide) (by decide) (by decide) rfl rfl (rG0 (d := d + 6) (i := 1) h (by omega) hn (by omega) (by decide) k))
  · exact bX0_run_0 (sp_up (c := 2) (c' := 0) (by decide) (by decide) (by decide) rfl rfl (rG0 (d := d + 6) (i := 1) h (by omega) hn (by omega) (by decide) k))
  · exact bX0_run_0 (rG3 (d := d + 4) (i := 0) h (by omega) hn (by omega) (by decide) k)
  · exact bX0_run_0 (sp_up (c := 4) (c' := 1) (by decide) (by decide) (by decide) rfl rfl (sp_up (c := 1) (c' := 0) (by decide) (by decide) (by decide) rfl rfl (rG0 (d := d + 6) (i := 2) h (by omega) hn (by omega) (by decide) k)))
  · exact bX0_run_0 (rG5 (d := d + 0) (i := 0) hk h (by omega) hn (by omega) (by decide) k)
  · exact bX0_run_0 (sp_up (c := 6) (c' := 0) (by decide) (by decide) (by decide) rfl rfl (rG0 (d := d + 6) (i := 1) h (by omega) hn (by omega) (by decide) k))
  · exact bX0_run_0 (sp_up (c := 7) (c' := 6) (by decide) (by decide) (by decide) rfl rfl (sp_up (c := 6) (c' := 0) (by decide) (by decide) (by decide) rfl rfl (rG0 (d := d + 6) (i := 2) h (by omega) hn (by omega) (by decide) k)))
theorem rL0 {n dep i : Nat} {x : Int32} {l : List Int32} {P : Int32 → Tt → Prop} {c : Nat} (hc : c < 8) (hk : t.1 28 n = nI c) (h : TrcC t l) (hl : l.length < 940) (hn : n < 50) (hdep : dep ≤ 37) (hi : i < 8) (k : ∀ t', Fr FtC t t' → TrcC t' (l ++ (eL0 c n x).2) → P (eL0 c n x).1 t') : Rt g (d + 8) mX0_run 6 [some (.ref 27), some (.int (nI n)), none, some (.int (nI 1)), some (.int x), some (.int (nI dep)), some (.int (nI 0)), some (.int (nI i))] [] t (QI P) := by
  refine sp_atR (b := 10) (by decide) hi rfl (by decide) (by decide) (by omega) h (by omega) (fun t1 f1 h1 => ?_)
  apply bX0_rootWork_0
  refine ⟨vpn hn, ?_⟩
  intro z2 e2 z3 e3
  rw [nI_1] at e3
  subst e3
  rw [ncl (by omega), kC hk f1] at e2
  subst e2
  refine br_f (by decide) (br_f (by decide) (br_t rfl ?_))
  refine cB (d := d) hc h1 (by simp; omega) hn (by omega) (fun t2 f2 h2 => qi (k t2 (f1.tr f2) ?_))
  unfold eL0
  rw [apc]; exact h2
theorem rL2 {n dep i : Nat} {x : Int32} {l : List Int32} {P : Int32 → Tt → Prop} {c : Nat} (hc : c < 8) (hk : t.1 28 n = nI c) (h : TrcC t l) (hl : l.length < 930) (hn : n < 50) (hdep : dep ≤ 36) (hi : i < 8) (k : ∀ t', Fr FtC t t' → TrcC t' (l ++ (eL2 c n x).2) → P (eL2 c n x).1 t') : Rt g (d + 10) mX0_run 6 [some (.ref 27), some (.int (nI n)), none, some (.int (nI 1)), some (.int x), some (.int (nI dep)), some (.int (nI 2)), some (.int (nI i))] [] t (QI P) := by
  refine sp_atW (c := 2) (up := 0) (b := 30) (by decide) (by decide) rfl (by decide) hi rfl (by decide) (by decide) (by omega) h (by omega) (fun t1 f1 h1 => ?_)
  apply bX0_work_0
  refine ⟨vpn hn, ?_⟩
  intro z2 e2 z3 e3
  rw [nI_1] at e3
  subst e3
  refine br_f (by decide) (br_t rfl ?_)
  refine bX0_run_0 (rL0 (d := d + 0) (i := 0) hc (kC hk f1) h1 (by simp; omega) hn (by omega) (by decide) (fun t2 f2 h2 => qi (k t2 (f1.tr f2) ?_)))
  unfold eL2
  rw [apc]; exact h2
theorem rL3 {n dep i : Nat} {x : Int32} {l : List Int32} {P : Int32 → Tt → Prop} {c : Nat} (hc : c < 8) (hk : t.1 28 n = nI c) (h : TrcC t l) (hl : l.length < 920) (hn : n < 50) (hdep : dep ≤ 35) (hi : i < 8) (k : ∀ t', Fr FtC t t' → TrcC t' (l ++ (eL3 c n x).2) → P (eL3 c n x).1 t') : Rt g (d + 12) mX0_run 6 [some (.ref 27), some (.int (nI n)), none, some (.int (nI 1)), some (.int x), some (.int (nI dep)), some (.int (nI 3)), some (.int (nI i))] [] t (QI P) := by
  refine sp_atW (c := 3) (up := 2) (b := 41) (by decide) (by decide) rfl (by decide) hi rfl (by decide) (by decide) (by omega) h (by omega) (fun t1 f1 h1 => ?_)
  apply bX0_work_0
  refine ⟨vpn hn, ?_⟩
  intro z2 e2 z3 e3
  rw [nI_1] at e3
  subst e3
  refine br_f (by decide) (br_f (by decide) (br_f (by decide) (br_t rfl ?_)))
  refine bX0_run_0 (rL2 (d := d + 0) (i := 0) hc (kC hk f1) h1 (by simp; omega) hn (by omega) (by decide) (fun t2 f2 h2 => qi (k t2 (f1.tr f2) ?_)))
  unfold eL3
  rw [apc]; exact h2
theorem rL7 {n dep i : Nat} {x : Int32} {l : List Int32} {P : Int32 → Tt → Prop} (hk : t.1 28 n = nI 7) (h : TrcC t l) (hl : l.length < 920) (hn : n < 50) (hdep : dep ≤ 36) (hi : i < 8) (k : ∀ t', Fr FtC t t' → TrcC t' (l ++ (eL7 n x).2) → P (eL7 n x).1 t') : Rt g (d + 10) mX0_run 6 [some (.ref 27), some (.int (nI n)), none, some (.int (nI 1)), some (.int x), some (.int (nI dep)), some (.int (nI 7)), some (.int (nI i))] [] t (QI P) := by
  refine sp_atW (c := 7) (up := 6) (b := 80) (by decide) (by decide) rfl (by decide) hi rfl (by decide) (by decide) (by omega) h (by omega) (fun t1 f1 h1 => ?_)
  apply bX0_work_0
  refine ⟨vpn hn, ?_⟩
  intro z2 e2 z3 e3
  rw [nI_1] at e3
  subst e3
  rw [ncl (by omega), kC hk f1] at e2
  subst e2
  refine br_f (by decide) (br_f (by decide) (br_f (by decide) (br_f (by decide) (br_f (by decide) (br_f (by decide) (br_f (by decide) (br_f (by decide) (br_t rfl ?_))))))))
  refine bX0_run_0 (sp_up (c := 6) (c' := 0) (by decide) (by decide) (by decide) rfl rfl (rL0 (d := d + 0) (i := 1) (by decide : 7 < 8) (kC hk f1) h1 (by simp; omega) hn (by omega) (by decide) (fun t2 f2 h2 => ?_)))
  have hb := eB_len 7 n x
  refine cG (d := d) (c := 7) (by decide) (kC (kC hk f1) f2) h2 (by simp [eL0]; omega) hn (by omega) (fun t3 f3 h3 => qi (k t3 ((f1.tr f2).tr f3) ?_))
  unfold eL7
  rw [apc, ← List.append_assoc]; exact h3
theorem cL {n dep c : Nat} {x : Int32} {l : List Int32} {P : Int32 → Tt → Prop} (hc : c < 8) (hk : t.1 28 n = nI c) (h : TrcC t l) (hl : l.length < 900) (hn : n < 50) (hdep : dep ≤ 35) (k : ∀ t', Fr FtC t t' → TrcC t' (l ++ (eLy c n x).2) → P (eLy c n x).1 t') : Rt g (d + 12) mX0_run 0 [some (.ref 27), some (.int (nI n)), some (.int (nI c)), some (.int (nI 1)), some (.int x), some (.int (nI dep)), none, none] [] t (QI P) := by
  have hh : c = 0 ∨ c = 1 ∨ c = 2 ∨ c = 3 ∨ c = 4 ∨ c = 5 ∨ c = 6 ∨ c = 7 := by omega
  rcases hh with rfl | rfl | rfl | rfl | rfl | rfl | rfl | rfl
  · exact bX0_run_0 (rL0 (d := d + 4) (i := 0) hc hk h (by omega) hn (by omega) (by decide) k)
  · exact bX0_run_0 (sp_up (c := 1) (c' := 0) (by decide) (by decide) (by decide) rfl rfl (rL0 (d := d + 4) (i := 1) hc hk h (by omega) hn (by omega) (by decide) k))
  · exact bX0_run_0 (rL2 (d := d + 2) (i := 0) hc hk h (by omega) hn (by omega) (by decide) k)
  · exact bX0_run_0 (rL3 (d := d + 0) (i := 0) hc hk h (by omega) hn (by omega) (by decide) k)
  · exact bX0_run_0 (sp_up (c := 4) (c' := 1) (by decide) (by decide) (by decide) rfl rfl (sp_up (c := 1) (c' := 0) (by decide) (by decide) (by decide) rfl rfl (rL0 (d := d + 4) (i := 2) hc hk h (by omega) hn (by omega) (by decide) k)))
  · exact bX0_run_0 (sp_up (c := 5) (c' := 3) (by decide) (by decide) (by decide) rfl rfl (rL3 (d := d + 0) (i := 1) hc hk h (by omega) hn (by omega) (by decide) k))
  · exact bX0_run_0 (sp_up (c := 6) (c' := 0) (by decide) (by decide) (by decide) rfl rfl (rL0 (d := d + 4) (i := 1) hc hk h (by omega) hn (by omega) (by decide) k))
  · exact bX0_run_0 (rL7 (d := d + 2) (i := 0) hk h (by omega) hn (by omega) (by decide) k)
theorem rT0 {n dep i : Nat} {x : Int32} {l : List Int32} {P : Int32 → Tt → Prop} {c : Nat} (hc : c < 8) (hk : t.1 28 n = nI c) (h : TrcC t l) (hl : l.length < 850) (hn : n < 50) (hdep : dep ≤ 34) (hi : i < 8) (k : ∀ t', Fr FtC t t' → TrcC t' (l ++ (eT0 c n x).2) → P (eT0 c n x).1 t') : Rt g (d + 14) mX0_run 6 [some (.ref 27), some (.int (nI n)), none, some (.int (nI 3)), some (.int x), some (.int (nI dep)), some (.int (nI 0)), some (.int (nI i))] [] t (QI P) := by
  refine sp_atR (b := 2) (by decide) hi rfl (by decide) (by decide) (by omega) h (by omega) (fun t1 f1 h1 => ?_)
  apply bX0_rootWork_0
  refine ⟨vpn hn, ?_⟩
  intro z2 e2 z3 e3
  rw [nI_1] at e3
  subst e3
  rw [ncl (by omega), kC hk f1] at e2
  subst e2
  refine br_f (by decide) (br_t rfl ?_)
  refine cL (d := d) hc (kC hk f1) h1 (by simp; omega) hn (by omega) (fun t2 f2 h2 => ?_)
  have hb := eL_len c n x
  refine cG (d := d + 4) hc (kC (kC hk f1) f2) h2 (by simp; omega) hn (by omega) (fun t3 f3 h3 => qi (k t3 ((f1.tr f2).tr f3) ?_))
  unfold eT0
  rw [apc, ← List.append_assoc]; exact h3
theorem rT4 {n dep i : Nat} {x : Int32} {l : List Int32} {P : Int32 → Tt → Prop} {c : Nat} (hc : c < 8) (hk : t.1 28 n = nI c) (h : TrcC t l) (hl : l.length < 800) (hn : n < 50) (hdep : dep ≤ 33) (hi : i < 8) (k : ∀ t', Fr FtC t t' → TrcC t' (l ++ (((eT0 c n x).1 ^^^ 5, 50 :: (eT0 c n x).2)).2) → P (((eT0 c n x).1 ^^^ 5, 50 :: (eT0 c n x).2)).1 t') : Rt g (d + 16) mX0_run 6 [some (.ref 27), some (.int (nI n)), none, some (.int (nI 3)), some (.int x), some (.int (nI dep)), some (.int (nI 4)), some (.int (nI i))] [] t (QI P) := by
  refine sp_atW (c := 4) (up := 1) (b := 50) (by decide) (by decide) rfl (by decide) hi rfl (by decide) (by decide) (by omega) h (by omega) (fun t1 f1 h1 => ?_)
  apply bX0_work_0
  refine ⟨vpn hn, ?_⟩
  intro z2 e2 z3 e3
  rw [nI_1] at e3
  subst e3
  refine br_f (by decide) (br_f (by decide) (br_f (by decide) (br_f (by decide) (br_t rfl ?_))))
  refine bX0_run_0 (sp_up (c := 1) (c' := 0) (by decide) (by decide) (by decide) rfl rfl (rT0 (d := d + 0) (i := 1) hc (kC hk f1) h1 (by simp; omega) hn (by omega) (by decide) (fun t2 f2 h2 => qi (k t2 (f1.tr f2) ?_))))
  rw [apc]; exact h2
theorem rT5 {n dep i : Nat} {x : Int32} {l : List Int32} {P : Int32 → Tt → Prop} {c : Nat} (hc : c < 8) (hk : t.1 28 n = nI c) (h : TrcC t l) (hl : l.length < 800) (hn : n < 50) (hdep : dep ≤ 33) (hi : i < 8) (k : ∀ t', Fr FtC t t' → TrcC t' (l ++ (((eT0 c n x).1 + 1, 61 :: (eT0 c n x).2)).2) → P (((eT0 c n x).1 + 1, 61 :: (eT0 c n x).2)).1 t') : Rt g (d + 16) mX0_run 6 [some (.ref 27), some (.int (nI n)), none, some (.int (nI 3)), some (.int x), some (.int (nI dep)), some (.int (nI 5)), some (.int (nI i))] [] t (QI P) := by
  refine sp_atW (c := 5) (up := 3) (b := 61) (by decide) (by decide) rfl (by decide) hi rfl (by decide) (by decide) (by omega) h (by omega) (fun t1 f1 h1 => ?_)
  apply bX0_work_0
  refine ⟨vpn hn, ?_⟩
  intro z2 e2 z3 e3
  rw [nI_1] at e3
  subst e3
  refine br_f (by decide) (br_f (by decide) (br_f (by decide) (br_f (by decide) (br_f (by decide) (br_f (by decide) (br_t rfl ?_))))))
  refine bX0_run_0 (sp_up (c := 3) (c' := 2) (by decide) (by decide) (by decide) rfl rfl (sp_up (c := 2) (c' := 0) (by decide) (by decide) (by decide) rfl rfl (rT0 (d := d + 0) (i := 2) hc (kC hk f1) h1 (by simp; omega) hn (by omega) (by decide) (fun t2 f2 h2 => qi (k t2 (f1.tr f2) ?_)))))
  rw [apc]; exact h2
theorem cT {n dep c : Nat} {x : Int32} {l : List Int32} {P : Int32 → Tt → Prop} (hc : c < 8) (hk : t.1 28 n = nI c) (h : TrcC t l) (hl : l.length < 800) (hn : n < 50) (hdep : dep ≤ 33) (k : ∀ t', Fr FtC t t' → TrcC t' (l ++ (eT c n x).2) → P (eT c n x).1 t') : Rt g (d + 16) mX0_run 0 [some (.ref 27), some (.int (nI n)), some (.int (nI c)), some (.int (nI 3)), some (.int x), some (.int (nI dep)), none, none] [] t (QI P) := by
  have hh : c = 0 ∨ c = 1 ∨ c = 2 ∨ c = 3 ∨ c = 4 ∨ c = 5 ∨ c = 6 ∨ c = 7 := by omega
  rcases hh with rfl | rfl | rfl | rfl | rfl | rfl | rfl | rfl
  · exact bX0_run_0 (rT0 (d := d + 2) (i := 0) hc hk h (by omega) hn (by omega) (by decide) k)
  · exact bX0_run_0 (sp_up (c := 1) (c' := 0) (by decide) (by decide) (by decide) rfl rfl (rT0 (d := d + 2) (i := 1) hc hk h (by omega) hn (by omega) (by decide) k))
  · exact bX0_run_0 (sp_up (c := 2) (c' := 0) (by decide) (by decide) (by decide) rfl rfl (rT0 (d := d + 2) (i := 1) hc hk h (by omega) hn (by omega) (by decide) k))
  · exact bX0_run_0 (sp_up (c := 3) (c' := 2) (by decide) (by decide) (by decide) rfl rfl (sp_up (c := 2) (c' := 0) (by decide) (by decide) (by decide) rfl rfl (rT0 (d := d + 2) (i := 2) hc hk h (by omega) hn (by omega) (by decide) k)))
  · exact bX0_run_0 (rT4 (d := d + 0) (i := 0) hc hk h (by omega) hn (by omega) (by decide) k)
  · exact bX0_run_0 (rT5 (d := d + 0) (i := 0) hc hk h (by omega) hn (by omega) (by decide) k)
  · exact bX0_run_0 (sp_up (c := 6) (c' := 0) (by decide) (by decide) (by decide) rfl rfl (rT0 (d := d + 2) (i := 1) hc hk h (by omega) hn (by omega) (by decide) k))
  · exact bX0_run_0 (sp_up (c := 7) (c' := 6) (by decide) (by decide) (by decide) rfl rfl (sp_up (c := 6) (c' := 0) (by decide) (by decide) (by decide) rfl rfl (rT0 (d := d + 2) (i := 2) hc hk h (by omega) hn (by omega) (by decide) k)))
theorem both_act {x y z : Int32} {Q : Int32 → Int32 → Tt → Prop} (h : Rel t a) (K : KK Q) : Rt g (d + 300) mX7_act 0 [some (.ref 0), some (.int x), some (.int y), some (.int z)] [] t (QI (fun v t1 => Rt g (d + 300) mX8_act 0 [some (.ref 57), some (.int x), some (.int y), some (.int z)] [] t1 (QI (fun w t2 => Q v w t2)))) := by
  obtain ⟨hb1, hb2, hb3⟩ := h.1.2.2.2.2.2.1
  obtain ⟨c1, c2, c3, c4⟩ := h.2.1.2.2.2.2.2.2.2.1
  apply bX7_act_0
  apply bX0_perform_0
  rw [pI_n _ _ _ (show 0 ≠ 2 by decide), c1]
  generalize e1 : pI t 27 2 0 = t0
  have f0 : Fr (fun o j => o = 27 ∧ j = 2) t t0 := by rw [← e1]; exact (Fr.rf _ t).pI _ ⟨rfl, rfl⟩
  have l0 : TrcC t0 [] := ⟨by rw [← e1, pI_s]; rfl, fun i x hi hx => by cases hx⟩
  -- both sides behind what ran
  have done : ∀ (l : List Int32) t1 t2, l.length ≤ 20 → Fr FtC t t1 → TrcC t1 l → Fr FtM t1 t2 → TrcM t2 l → ∃ a', Rel t2 a' := by
    intro l t1 t2 hl f1 h1 f2 h2
    have r1 : RC t1 (setB a ((aB a).1, (aB a).2.1, l.length, fun i => (l[i]?).getD 0)) := by
      refine h.2.1.bo f1 (fun o j q => by unfold FtC at q; omega) ⟨(f1.1 _ _ (by unfold FtC; omega)).trans c1, h1.1, fun i hi => (f1.1 _ _ (by unfold FtC; omega)).trans (c3 i hi), fun i hi hr => ?_⟩
      have hr : i < l.length := hr
      show t1.1 29 i = (l[i]?).getD 0
      have e := List.getElem?_eq_getElem hr
      rw [e]
      exact h1.2 i _ hi e
    have g1 := h.2.2.al (f1.mo (fun o j q => by unfold FtC at q; unfold CAl; omega))
    obtain ⟨m1, m2, m3, m4⟩ := g1.2.2.2.2.2.2.2.1
    have g2 : RF t2 (setB a ((aB a).1, (aB a).2.1, l.length, fun i => (l[i]?).getD 0)) := by
      refine g1.bo f2 (fun o j q => by unfold FtM at q; omega) ⟨(f2.1 _ _ (by unfold FtM; omega)).trans m1, h2.1, fun i hi => (f2.1 _ _ (by unfold FtM; omega)).trans (m3 i hi), fun i hi hr => ?_⟩
      have hr : i < l.length := hr
      show t2.1 88 i = (l[i]?).getD 0
      have e := List.getElem?_eq_getElem hr
      rw [e]
      exact h2.2 i _ hi e
    refine ⟨_, ?_, r1.al (f2.mo (fun o j q => by unfold FtM at q; unfold MAl; omega)), g2⟩
    obtain ⟨w1, w2, w3, w4, w5, w6, w7⟩ := h.1
    exact ⟨w1, w2, w3, w4, w5, ⟨hb1, hb2, by show l.length ≤ 1000; omega⟩, w7⟩
  have f0' : Fr FtC t t0 := f0.mo (fun o j q => Or.inl q)
  -- the reference's start
  have start : ∀ (l : List Int32) t1 (P : Int32 → Tt → Prop), Fr FtC t t1 → (∀ t2, Fr FtM t1 t2 → TrcM t2 [] → (¬ (gd x (aB a).1 ∧ gd y 4) → P 0 t2) ∧ (gd x (aB a).1 → gd y 4 → (¬ y = 0 → (¬ y = 1 → (¬ y = 2 → Rt g (d + 299) mX8_telling 0 [some (.ref 57), some (.int x), some (.int z)] [] t2 (QI P)) ∧ (y = 2 → Rt g (d + 299) mX8_grinning 0 [some (.ref 57), some (.int x), some (.int z), none] [] t2 (QI P))) ∧ (y = 1 → Rt g (d + 299) mX8_lying 0 [some (.ref 57), some (.int x), some (.int z), none] [] t2 (QI P))) ∧ (y = 0 → Rt g (d + 299) mX8_biting 0 [some (.ref 57), some (.int x), some (.int z)] [] t2 (QI P)))) → Rt g (d + 300) mX8_act 0 [some (.ref 57), some (.int x), some (.int y), some (.int z)] [] t1 (QI P) := by
    intro l t1 P f1 kk
    have g1 := h.2.2.al (f1.mo (fun o j q => by unfold FtC at q; unfold CAl; omega))
    obtain ⟨m1, m2, m3, m4⟩ := g1.2.2.2.2.2.2.2.1
    apply bX8_act_0
    have f2 : Fr FtM t1 (pI t1 57 47 0) := (Fr.rf _ t1).pI _ (Or.inl ⟨rfl, rfl⟩)
    obtain ⟨k0, k1⟩ := kk _ f2 ⟨by rw [pI_s]; rfl, fun i x hi hx => by cases hx⟩
    refine sr_isBody (a := a) (by rw [pI_n _ _ _ (show 45 ≠ 47 by decide)]; exact m1) hb1 (fun hx => br_f (by decide) ?_) (fun hx => br_t rfl (qi (k0 (fun q => hx q.1))))
    by_cases hy : gd y 4
    · obtain ⟨q1, q2⟩ := k1 hx hy
      refine sr_in_g (n := 4) rfl (by decide) hy (br_n (by decide) ⟨fun n0 => ⟨fun n1 => ⟨fun n2 => ?_, fun n2 => ?_⟩, fun n1 => ?_⟩, fun n0 => ?_⟩)
      · exact (((q1 n0).1 n1).1 n2).ci (fun v t' q => qi q)
      · exact (((q1 n0).1 n1).2 n2).ci (fun v t' q => qi q)
      · exact ((q1 n0).2 n1).ci (fun v t' q => qi q)
      · exact (q2 n0).ci (fun v t' q => qi q)
    · exact sr_in_b (n := 4) rfl (by decide) hy (br_p rfl (qi (k0 (fun q => hy q.2))))
  have none' : ¬ (gd x (aB a).1 ∧ gd y 4) → Rt g (d + 300) mX8_act 0 [some (.ref 57), some (.int x), some (.int y), some (.int z)] [] t0 (QI (fun w t2 => Q 0 w t2)) := fun hb => start [] t0 _ f0' (fun t2 f2 h2 => ⟨fun _ => K _ _ (done [] t0 t2 (by simp) f0' l0 f2 h2), fun q1 q2 => absurd ⟨q1, q2⟩ hb⟩)
  by_cases hx : gd x (aB a).1
  · refine sp_out_g (m1_i (by omega)) (by omega) hx (br_p rfl ?_)
    by_cases hy : gd y 4
    · refine sp_out_g (n := 4) rfl (by decide) hy (br_t rfl ?_)
      obtain ⟨n, hn, rfl⟩ := hx
      obtain ⟨dd, hd, rfl⟩ := hy
      have hc := hb2 n hn
      have k28 : t0.1 28 n = nI ((aB a).2.1 n) := (f0.1 _ _ (by omega)).trans (c3 n hn)
      refine ⟨vpn (by omega), ?_⟩
      rw [ncl (by omega), k28]
      have k87 : ∀ t1 t2, Fr FtC t t1 → Fr FtM t1 t2 → t2.1 87 n = nI ((aB a).2.1 n) := by
        intro t1 t2 f1 f2
        have g1 := h.2.2.al (f1.mo (fun o j q => by unfold FtC at q; unfold CAl; omega))
        exact kM (g1.2.2.2.2.2.2.2.1.2.2.1 n hn) f2
      have hx : gd (nI n) (aB a).1 := ⟨n, hn, rfl⟩
      have hh : dd = 0 ∨ dd = 1 ∨ dd = 2 ∨ dd = 3 := by omega
      rcases hh with rfl | rfl | rfl | rfl

      · refine cB (d := d + 292) hc l0 (by simp) (by omega) (Nat.zero_le _) (fun t1 f1 h1 => qi (qi ?_))
        have f1' := f0'.tr f1
        have hl := eB_len ((aB a).2.1 n) n z
        refine start [] t1 _ f1' (fun t2 f2 h2 => ⟨fun q => absurd ⟨hx, ⟨0, by decide, rfl⟩⟩ q, fun _ _ => ⟨fun q => absurd rfl q, fun _ => ?_⟩⟩)
        refine sr_biting (d := d + 296) h2 (by simp) (by omega) hc (k87 t1 t2 f1' f2) (fun t3 f3 h3 => K _ _ (done _ t1 t3 (by rw [List.nil_append]; omega) f1' h1 (f2.tr f3) h3))
      · refine cL (d := d + 286) hc k28 l0 (by simp) (by omega) (Nat.zero_le _) (fun t1 f1 h1 => qi (qi ?_))
        have f1' := f0'.tr f1
        have hl := eL_len ((aB a).2.1 n) n z
        refine start [] t1 _ f1' (fun t2 f2 h2 => ⟨fun q => absurd ⟨hx, ⟨1, by decide, rfl⟩⟩ q, fun _ _ => ⟨fun _ => ⟨fun q => absurd rfl q, fun _ => ?_⟩, fun q => absurd q (by decide)⟩⟩)
        refine sr_lying (d := d + 293) h2 (by simp) (by omega) hc (k87 t1 t2 f1' f2) (fun t3 f3 h3 => K _ _ (done _ t1 t3 (by rw [List.nil_append]; omega) f1' h1 (f2.tr f3) h3))
      · refine cG (d := d + 290) hc k28 l0 (by simp) (by omega) (Nat.zero_le _) (fun t1 f1 h1 => qi (qi ?_))
        have f1' := f0'.tr f1
        have hl := eG_len ((aB a).2.1 n) n z
        refine start [] t1 _ f1' (fun t2 f2 h2 => ⟨fun q => absurd ⟨hx, ⟨2, by decide, rfl⟩⟩ q, fun _ _ => ⟨fun _ => ⟨fun _ => ⟨fun q => absurd rfl q, fun _ => ?_⟩, fun q => absurd q (by decide)⟩, fun q => absurd q (by decide)⟩⟩)
        refine sr_grinning (d := d + 295) h2 (by simp) (by omega) hc (k87 t1 t2 f1' f2) (fun t3 f3 h3 => K _ _ (done _ t1 t3 (by rw [List.nil_append]; omega) f1' h1 (f2.tr f3) h3))
      · refine cT (d := d + 282) hc k28 l0 (by simp) (by omega) (Nat.zero_le _) (fun t1 f1 h1 => qi (qi ?_))
        have f1' := f0'.tr f1
        have hl := eT_len ((aB a).2.1 n) n z
        refine start [] t1 _ f1' (fun t2 f2 h2 => ⟨fun q => absurd ⟨hx, ⟨3, by decide, rfl⟩⟩ q, fun _ _ => ⟨fun _ => ⟨fun _ => ⟨fun _ => ?_, fun q => absurd q (by decide)⟩, fun q => absurd q (by decide)⟩, fun q => absurd q (by decide)⟩⟩)
        refine sr_telling (d := d + 291) h2 (by simp) (by omega) hc (k87 t1 t2 f1' f2) (fun t3 f3 h3 => K _ _ (done _ t1 t3 (by rw [List.nil_append]; omega) f1' h1 (f2.tr f3) h3))
    · exact sp_out_b (n := 4) rfl (by decide) hy (br_f (by decide) (qi (qi (none' (fun q => hy q.2)))))
  · exact sp_out_b (m1_i (by omega)) (by omega) hx (br_n (by decide) (qi (qi (none' (fun q => hx q.1)))))
end P64
