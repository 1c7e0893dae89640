section CALC3
variable {g : Gt} {d z zf : Nat} {M : Mt} {pc : Nat} {L : List (Option Value)} {S : List Value} {st : St} {Q : Option Value → St → Prop}
def putI (st : St) (o j : Nat) (x : Int32) : St := (fun a => if a = o then upd (st.1 a) j x else st.1 a, st.2)
def putJ (st : St) (o j : Nat) (x : Int64) : St := (st.1, fun a => if a = o then vp_updL (st.2.1 a) j x else st.2.1 a, st.2.2)
def putR (st : St) (o j : Nat) (x : Option Nat) : St := (st.1, st.2.1, fun a => if a = o then va_up (st.2.2 a) j x else st.2.2 a)
theorem cellE_obj {o ci n : Nat} (h : kd o = (0, ci, n)) : cellE g st o (kd o) = .inr (ci, (List.range n).map (fVal g st o ci)) := by rw [h]; rfl
theorem cellE_arr {o c n : Nat} (h : kd o = (1, c, n)) : cellE g st o (kd o) = .inl (gA g c, n, .inl (st.1 o)) := by rw [h]; rfl
theorem cellE_lng {o c n : Nat} (h : kd o = (2, c, n)) : cellE g st o (kd o) = .inl (gA g 3, n, .inr (.inl (st.2.1 o))) := by rw [h]; rfl
theorem cellE_rfs {o c n : Nat} (h : kd o = (3, c, n)) : cellE g st o (kd o) = .inl (gA g 4, n, .inr (.inr (.inr (.inr (fun j => (st.2.2 o j).map (ad g)))))) := by rw [h]; rfl
theorem wsO_k {o : Nat} {x : va_E} (ho : o < z) (hx : cellE g st o (kd o) = x) : (wsO g z st)[o]? = some (gb g + o, x) := by rw [wsO_at ho, hx]
theorem ref_cv {o a b c : Nat} (h : kd o = (a, b, c)) (ha : a < 9) : cv g (.ref o) = .ref (gb g + o) := by
  show Value.ref (ad g o) = _
  rw [ad_lo (kd_1000 h ha)]
/-- the value of a field, read -/
theorem get_any {o ci n j idx : Nat} {v : Value} (hd : decode (mcc M) pc = .ok (.getfield idx, 3)) (hf : Fl (my M).cls idx ci j) (hk : kd o = (0, ci, n)) (ho : o < z) (hv : fVal g st o ci j = cv g v)
    (k : Rn g d z zf M (pc + 3) L (v :: S) st Q) : Rn g d z zf M pc L (.ref o :: S) st Q := by
  intro p e R s m args below meth c H locs cells slots Q0 ls C E hl hr hk0
  obtain ⟨hci, hj, hdc, hlk⟩ := hf
  have hn := (kd_cls hk).2
  subst hn
  have he := wsO_k (g := g) (st := st) ho (cellE_obj hk)
  have hfs : ((List.range (clN ci)).map (fVal g st o ci))[j]? = some (cv g v) := by rw [List.getElem?_map, List.getElem?_range hj, ← hv]; rfl
  have kk := k p e R s m args below meth c H locs cells slots Q0 ls C E hl hr hk0
  have key : W p g.1 e R s m args below meth c H locs cells slots Q0 (F0 m pc ls (.ref (gb g + o) :: S.map (cv g))) := by
    rcases hlk with h1 | ⟨host, h1⟩
    · exact va_get C.1 C.2.1 C.2.2.2.2.1 (cf_in hci) C.2.2.2.1 C.2.2.2.2.2.2.1 E.1 o he (cl_at hci) j hj (C.2.2.2.2.1 _ h1) (fun x hx => by rw [hdc] at hx; exact hx) hfs hd kk
    · exact va_getN C.1 C.2.1 C.2.2.2.2.1 (cf_in hci) C.2.2.2.1 C.2.2.2.2.2.2.1 E.1 o he (cl_at hci) j hj (va_Nw.use rfl (C.2.2.2.2.2.2.2.1.2.2.2.2.1 _ h1)) (fun x hx => by rw [hdc] at hx; exact hx) hfs hd kk
  have e : (Value.ref o :: S).map (cv g) = .ref (gb g + o) :: S.map (cv g) := by rw [List.map_cons, ref_cv hk (by omega)]
  rw [e]; exact key
theorem s_getI {o ci n j idx : Nat} (hd : decode (mcc M) pc = .ok (.getfield idx, 3)) (hf : Fl (my M).cls idx ci j) (hk : kd o = (0, ci, n)) (ho : o < z) (hr : isRf (fTy ci j) = false)
    (k : Rn g d z zf M (pc + 3) L (.int (st.1 o j) :: S) st Q) : Rn g d z zf M pc L (.ref o :: S) st Q :=
  get_any hd hf hk ho (by unfold fVal; rw [hr]; rfl) k
theorem s_getR {o o' ci n j idx : Nat} (hd : decode (mcc M) pc = .ok (.getfield idx, 3)) (hf : Fl (my M).cls idx ci j) (hk : kd o = (0, ci, n)) (ho : o < z) (hr : isRf (fTy ci j) = true) (hv : st.2.2 o j = some o')
    (k : Rn g d z zf M (pc + 3) L (.ref o' :: S) st Q) : Rn g d z zf M pc L (.ref o :: S) st Q :=
  get_any hd hf hk ho (by unfold fVal; rw [hr, hv]; rfl) k
theorem rng_set {n j : Nat} {f f' : Nat → Value} {x : Value} (hx : f' j = x) (hf : ∀ i, i ≠ j → f' i = f i) : ((List.range n).map f).set j x = (List.range n).map f' := by
  apply List.ext_getElem?
  intro i
  rw [List.getElem?_set]
  by_cases hij : j = i
  · subst hij
    rw [if_pos rfl]
    by_cases hl : j < n
    · rw [if_pos (by simpa using hl), List.getElem?_map, List.getElem?_range hl, ← hx]; rfl
    · rw [if_neg (by simpa using hl), List.getElem?_map, List.getElem?_eq_none (by simpa using hl)]; rfl
  · rw [if_neg hij, List.getElem?_map, List.getElem?_map]
    by_cases hl : i < n
    · rw [List.getElem?_range hl]
      exact congrArg some (hf i (fun q => hij q.symm)).symm
    · rw [List.getElem?_eq_none (by simpa using hl)]; rfl
theorem put_any {st' : St} {o ci n j idx : Nat} {v : Value} (hd : decode (mcc M) pc = .ok (.putfield idx, 3)) (hf : Fl (my M).cls idx ci j) (hk : kd o = (0, ci, n)) (ho : o < z)
    (hfin : (clT ci j).2.2.2 = false ∨ ((clT ci j).2.2.2 = true ∧ (my M).name = "<init>" ∧ clR ci = (my M).cls ∧ Cond.fieldLink (my M).cls idx (clR ci) (clT ci j).2.1 (clT ci j).2.2.1 ∈ gwl))
    (hnr : narrow (fTy ci j) (cv g v) = cv g v) (hft : fits (fTy ci j) (cv g v) = true)
    (hv : fVal g st' o ci j = cv g v) (hother : ∀ i, i ≠ j → fVal g st' o ci i = fVal g st o ci i) (hs : ∀ a, a ≠ o → st'.1 a = st.1 a ∧ st'.2.1 a = st.2.1 a ∧ st'.2.2 a = st.2.2 a)
    (k : Rn g d z zf M (pc + 3) L S st' Q) : Rn g d z zf M pc L (v :: .ref o :: S) st Q := by
  intro p e R s m args below meth c H locs cells slots Q0 ls C E hl hr hk0
  obtain ⟨hci, hj, hdc, hlk⟩ := hf
  have hn := (kd_cls hk).2
  subst hn
  have he := wsO_k (g := g) (st := st) ho (cellE_obj hk)
  have hset : (wsO g z st).set o (gb g + o, .inr (ci, ((List.range (clN ci)).map (fVal g st o ci)).set j (cv g v))) = wsO g z st' :=
    wsO_set ho (by rw [cellE_obj hk, rng_set hv hother]) hs
  have kk : ∀ (H1 : Heap) (locs1 : List Loc), va_P (gD g) vwCl ((wsO g z st).set o (gb g + o, .inr (ci, ((List.range (clN ci)).map (fVal g st o ci)).set j (cv g v)))) H1 → va_D (AA g) ((wsO g z st).set o (gb g + o, .inr (ci, ((List.range (clN ci)).map (fVal g st o ci)).set j (cv g v)))) → va_S (AA g) s.heap H1 locs1 → H1.size = H.size → W p g.1 e R s m args below meth c H1 locs1 cells slots Q0 (F0 m (pc + 3) ls (S.map (cv g))) := by
    intro H1 locs1 hP1 hD1 hS1 hz1
    rw [hset] at hP1
    exact k p e R s m args below meth c H1 locs1 cells slots Q0 ls C ⟨hP1, hS1, fun hh => hz1.trans (E.2.2 hh)⟩ hl hr hk0
  have key : W p g.1 e R s m args below meth c H locs cells slots Q0 (F0 m pc ls (cv g v :: .ref (gb g + o) :: S.map (cv g))) := by
    have hap := va_apart (own := (my M).cls) (C.2.2.2.2.1) (cf_in hci) (fTy ci) (cf_ty hci) (cf_nm hci) C.2.2.2.2.2.2.1 (cl_at hci)
    obtain ⟨r, h1, cell, q1, q2, q3, q4⟩ := E.1 o _ he
    have hr' : r = (clR ci, clT ci, clN ci) := Option.some.inj (h1.symm.trans (cl_at hci))
    subst hr'
    obtain ⟨hSl, hfc, kC, hkC, hkind⟩ := C.2.2.2.2.2.2.1.1 ci _ (cl_at hci)
    obtain ⟨cf, kf, fi, f, hi, hsl⟩ := hSl j hj
    have hD := wsO_D g z st
    have hlay := C.2.2.2.2.1 _ (cf_in hci _ (u_in_lay hj))
    have hst := (u_facts hfc hkC (u_lays C.2.2.2.2.1 (cf_in hci) hj) hi).1
    have hsame : s.fieldFound? (clR ci) (clT ci j).2.1 (clT ci j).2.2.1 = some (cf, kf, fi, f) := by rw [← hdc]; exact hi
    have fin : ∀ (H' : Heap), H'[gb g + o]? = some (cell.setSlot (gD g |>.2 ci j) (cv g v)) → H'.size = H.size → (∀ q, q ≠ gb g + o → H'[q]? = H[q]?) → W p g.1 e R s m args below meth c H' (locs ++ [⟨gb g + o, (gD g).2 ci j⟩]) cells slots Q0 (F0 m (pc + 3) ls (S.map (cv g))) := by
      intro H' e1 e2 e3
      refine kk H' _ (E.1.set hD he ⟨_, cl_at hci, t_OB.to (V := updV (vp_V _) j (cv g v)) ⟨_, e1, q2, q3, t_set q4 hap hj (cv g v)⟩ (fun i _ => vp_updV_set (by simpa using hj) (cv g v) i)⟩ e3) (hD.set he) (E.2.1.put e2 e3 (hD.2 o _ he)) e2
    rcases hfin with hfin | ⟨hfin, hin, hcl, h1⟩
    · unfold u_lay at hlay
      rw [if_neg (by rw [hfin]; decide)] at hlay
      have h6 := u_store hfc hkC hkind hlay hi (cf_ty hci j hj) hnr hft
      rcases hlk with h1 | ⟨host, h1⟩
      · refine W.putK C.1 C.2.1 (f := f) ⟨C.2.2.2.1, C.2.2.2.2.1 _ h1, ⟨_, _, _, hsame⟩, hst⟩ (by rw [q2]; exact h6) q1 q3 (by rw [hsl]; exact k2_hasslot (q4 j hj)) rfl rfl hd fun H' e1 e2 e3 => ?_
        rw [hsl] at e1 ⊢
        exact fin H' e1 e2 e3
      · refine va_WputK C.1 C.2.1 (f := f) C.2.2.2.1 (va_Nw.use rfl (C.2.2.2.2.2.2.2.1.2.2.2.2.1 _ h1)) hsame hst (by rw [q2]; exact h6) q1 q3 (by rw [hsl]; exact k2_hasslot (q4 j hj)) rfl rfl hd fun H' e1 e2 e3 => ?_
        rw [hsl] at e1 ⊢
        exact fin H' e1 e2 e3
    · unfold u_lay at hlay
      rw [if_pos hfin] at hlay
      have hcf : m.cls = cf := by
        obtain ⟨_, _, c', _, _, _, -, -, hf', -, -, -, hown2, -⟩ := Cond.laysFinal_spec hlay
        have e1 : c' = cf := by have := hi.symm.trans hf'; simp at this; exact this.1.symm
        rw [hdc, hcl] at hown2
        rw [← e1]; exact Option.some.inj (C.2.2.2.1.symm.trans hown2)
      have h6 := u_fits hfc hkC hkind (Or.inr hlay) hi (cf_ty hci j hj) hnr hft
      refine W.putFinK C.1 C.2.1 C.2.2.2.1 (C.2.2.2.2.1 _ h1) hsame hst hcf (C.2.2.2.2.2.1 hin) (by rw [q2]; exact h6) q1 q3 (by rw [hsl]; exact k2_hasslot (q4 j hj)) rfl rfl hd fun H' e1 e2 e3 => ?_
      rw [hsl] at e1 ⊢
      exact fin H' e1 e2 e3
  have e : (v :: Value.ref o :: S).map (cv g) = cv g v :: .ref (gb g + o) :: S.map (cv g) := by rw [List.map_cons, List.map_cons, ref_cv hk (by omega)]
  rw [e]; exact key
theorem s_putI {o ci n j idx : Nat} {x : Int32} (hd : decode (mcc M) pc = .ok (.putfield idx, 3)) (hf : Fl (my M).cls idx ci j) (hk : kd o = (0, ci, n)) (ho : o < z) (hr : isRf (fTy ci j) = false) (hfin : (clT ci j).2.2.2 = false)
    (hnr : narrow (fTy ci j) (.int x) = .int x) (hft : fits (fTy ci j) (.int x) = true) (k : Rn g d z zf M (pc + 3) L S (putI st o j x) Q) : Rn g d z zf M pc L (.int x :: .ref o :: S) st Q := by
  refine put_any hd hf hk ho (Or.inl hfin) hnr hft ?_ (fun i hi => ?_) (fun a ha => ?_) k
  · simp [fVal, hr, putI, upd, cv]
  · simp [fVal, putI, upd, hi]
  · simp [putI, ha]
theorem s_putR {o o' ci n j idx : Nat} (hd : decode (mcc M) pc = .ok (.putfield idx, 3)) (hf : Fl (my M).cls idx ci j) (hk : kd o = (0, ci, n)) (ho : o < z) (hr : isRf (fTy ci j) = true)
    (hfin : (clT ci j).2.2.2 = false ∨ ((clT ci j).2.2.2 = true ∧ (my M).name = "<init>" ∧ clR ci = (my M).cls ∧ Cond.fieldLink (my M).cls idx (clR ci) (clT ci j).2.1 (clT ci j).2.2.1 ∈ gwl)) (k : Rn g d z zf M (pc + 3) L S (putR st o j (some o')) Q) : Rn g d z zf M pc L (.ref o' :: .ref o :: S) st Q := by
  refine put_any hd hf hk ho hfin ?_ ?_ ?_ (fun i hi => ?_) (fun a ha => ?_) k
  · revert hr; unfold isRf; split <;> first | (rename_i h; intro _; rw [h]; rfl) | (intro h; cases h)
  · revert hr; unfold isRf; split <;> first | (rename_i h; intro _; rw [h]; rfl) | (intro h; cases h)
  · simp [fVal, hr, putR, va_up, cv, va_rf]
  · simp [fVal, putR, va_up, hi]
  · simp [putR, ha]
end CALC3
