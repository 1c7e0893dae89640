section CALC5
variable {g : Gt} {d z zf : Nat} {M : Mt} {pc : Nat} {L : List (Option Value)} {S : List Value} {st : St} {Q : Option Value → St → Prop}
theorem SX.warm {s U : State} {H : Heap} (hW : s.WarmedH U.vm) (h : SX g s H) : SX g U H := by
  have hvm := hW.alike
  obtain ⟨h1, h2, ⟨h3, h4⟩, ⟨h5, h6⟩, h7, h8, h9, h10, h11⟩ := h
  refine ⟨h1.moved hvm, h2, ⟨h3.moved hvm, h4.moved hvm⟩, ⟨h5.moved hvm, h6.moved hvm⟩, fun w hw => ?_, h8.moved hvm, h9.warm hW, h10.moved hvm, h11.moved hvm⟩
  have hn := (List.mem_filter.mp hw).2
  have hz := h7 w hw
  revert hn hz
  cases w <;> intro hn hz <;> first | exact va_Nw.warmF hW hz | exact va_Nw.warmM hW hz | (cases hn)
theorem SX.same {s U : State} {H : Heap} (hv : U.vm = s.vm) (h : SX g s H) : SX g U H := by
  have hvm : s.vm.Alike U.vm := by rw [hv]; exact Vm.Alike.refl _
  obtain ⟨h1, h2, ⟨h3, h4⟩, ⟨h5, h6⟩, h7, h8, h9, h10, h11⟩ := h
  refine ⟨h1.moved hvm, h2, ⟨h3.moved hvm, h4.moved hvm⟩, ⟨h5.moved hvm, h6.moved hvm⟩, fun w hw => ?_, h8.moved hvm, h9.same hv, h10.moved hvm, h11.moved hvm⟩
  have hn := (List.mem_filter.mp hw).2
  have hz := h7 w hw
  revert hn hz
  cases w <;> intro hn hz <;> first | exact va_Nw.same rfl hv.symm hz | (cases hn)
theorem SX.kept {U : State} {H H1 : Heap} (h : SX g U H) (hq : ∀ a : Nat, a < H.size → ¬ AA g a → H1[a]? = H[a]?) (hs : gb g ≤ H.size) : SX g U H1 := by
  obtain ⟨h1, h2, ⟨h3, h4⟩, ⟨h5, h6⟩, h7, h8, h9, h10, h11⟩ := h
  exact ⟨h1.kept (hq _ (Nat.lt_of_lt_of_le h2 hs) (Nat.not_le.mpr h2)), h2, ⟨h3.kept hq, h4.kept hq⟩, ⟨h5.kept hq, h6.kept hq⟩, h7, h8, h9, h10.kept hq, h11.kept hq⟩
theorem CX.blind {a : Array Value} {U : State} {gg : JFrame} {mk : MethodId} (h : CX g z st U) : CX g z st (U.calling gg mk a) :=
  ⟨h.1, h.2.1, va_K.moved (u := U) (U := U.calling gg mk a) (Vm.Alike.refl U.vm) h.2.2.1, SX.same (s := U) (U := U.calling gg mk a) rfl h.2.2.2.1, h.2.2.2.2⟩
def Qm (g : Gt) (z : Nat) (Q : Option Value → St → Prop) : Array Value → State → Outcome → State → Prop := fun _ s o t => ∃ rv st', o = .returned (rv.map (cv g)) ∧ Q rv st' ∧ CX g z st' t ∧ va_F (AA g) s t
def eL (As : List Value) : List (Option Value) := match As with
  | [] => []
  | v :: vs => if v.category = 2 then some v :: none :: eL vs else some v :: eL vs
theorem eL_args (As : List Value) : ∀ (k i : Nat) (v : Value), (eL As)[i]? = some (some v) → (k + i, cv g v) ∈ lv_args k (As.map (cv g)) := by
  induction As with
  | nil => intro k i v h; simp [eL] at h
  | cons w ws ih =>
    intro k i v h
    unfold eL at h
    rw [List.map_cons, lv_args]
    by_cases hc : w.category = 2
    · rw [if_pos hc] at h
      match i, h with
      | 0, h => simp at h; subst h; exact List.mem_cons_self
      | 1, h => simp at h
      | i + 2, h =>
        have h' : (eL ws)[i]? = some (some v) := by simpa using h
        refine List.mem_cons_of_mem _ ?_
        rw [cv_cat, if_pos hc]
        have := ih (k + 2) i v h'
        rwa [show k + 2 + i = k + (i + 2) by omega] at this
    · rw [if_neg hc] at h
      match i, h with
      | 0, h => simp at h; subst h; exact List.mem_cons_self
      | i + 1, h =>
        have h' : (eL ws)[i]? = some (some v) := by simpa using h
        refine List.mem_cons_of_mem _ ?_
        rw [cv_cat, if_neg hc]
        have := ih (k + 1) i v h'
        rwa [show k + 1 + i = k + (i + 1) by omega] at this
def wsM (M : Mt) : List Cond := Cond.code (my M) (mcc M) (mml M) (mret M) :: gwl
def rmM (d z zf : Nat) : Room := { frames := d, cells := zf - z, slots := slb z zf, locals := d * 64 }
theorem met_of {As : List Value} {n : Nat} (h : Rn g d z zf M 0 (eL As ++ List.replicate n none) [] st Q) (hp : plainName (my M).cls = true) (hz : z ≤ zf) (hl : (lg_sl (As.map (cv g))).length ≤ mml M) :
    Met g.1 (my M) (wsM M) (rmM d z zf) (va_Pc (As.map (cv g)) (CX g z st)) (Qm g zf Q) (zf - z) (slb z zf) (AA g) := by
  refine Met.ofW (cc := mcc M) (maxL := mml M) (ret := mret M) hp rfl ?_
  intro p e s m args below meth c s₁ B hml hv
  obtain ⟨rfl, hP, hsz, hK, hSX, hge⟩ := hv
  have hts := atoms_spec (ws := wsM M) B.pre
  have hown : s.vm.findClass (my M).cls = some m.cls := findClass_of_methodNamed B.named
  have hlocks := B.notSynchronized
  have hin : meth.name = (my M).name := (name_of_methodNamed B.named B.method).1
  rw [lg_entry_eq]
  have hl0 := lv_entry (As.map (cv g)) (n := mml M) hl
  refine h p e _ s m _ below meth c s.heap [] 0 0 _ _ ⟨B.exec, B.bytes, hml, hown, fun w hw => hts w (List.mem_cons_of_mem _ hw), fun q => hin.trans q, hK, hSX, hge⟩ ⟨hP, va_S.rf, hsz⟩ ⟨hl0.1, hl0.2.1, fun i v hv => ?_⟩ ⟨Nat.le_refl d, Nat.le_refl _, by rw [Nat.zero_add]; exact Nat.le_refl _, by rw [Nat.zero_add]; exact Nat.le_refl _, hz⟩ ?_
  · by_cases hi : i < (eL As).length
    · rw [List.getElem?_append_left hi] at hv
      have := eL_args (g := g) As 0 i v hv
      rw [Nat.zero_add] at this
      exact hl0.2.2 _ this
    · rw [List.getElem?_append_right (by omega)] at hv
      have := List.mem_of_getElem? hv
      have := (List.mem_replicate.mp this).2
      cases this
  · intro rv st' H' locs' cells' slots' pc' ls' hQ E hc hs hrt
    refine W.widen (k := zf - z) (n := slb z zf) (by omega) (by omega) ?_
    have hr := B.returns
    have fin : ∀ t : State, t.heap = H' → s.WarmedH t.vm → Qm g zf Q (As.map (cv g)).toArray s (.returned (rv.map (cv g))) t := by
      intro t ht hW
      refine ⟨rv, st', rfl, hQ, ⟨by rw [ht]; exact E.1, by rw [ht]; exact E.2.2, va_K.moved hW.alike hK, ?_, by rw [ht]; exact Nat.le_trans hge E.2.1.1⟩, E.2.1.F ht⟩
      rw [ht]
      exact SX.warm hW (hSX.kept E.2.1.2.1 hge)
    rcases hrt with ⟨hd, v, rfl, ty, hty, hnr⟩ | ⟨hd, rfl, hty⟩ | ⟨hd, ⟨v, rfl⟩, hty⟩ | ⟨hd, ⟨o, rfl⟩, nm, hty⟩
    · exact W.zret B.exec B.bytes (hr.trans hty) hnr (fun t ht hW => fin t ht hW) E.2.1.2.2 hd
    · exact W.vret B.exec B.bytes (hr.trans hty) (fun t ht hW => fin t ht hW) E.2.1.2.2 hd
    · exact W.lret B.exec B.bytes (hr.trans hty) (fun t ht hW => fin t ht hW) E.2.1.2.2 hd
    · exact W.aret (v := .ref (ad g o)) B.exec B.bytes (hr.trans hty) (Or.inl ⟨nm, rfl⟩) (Or.inr ⟨_, rfl⟩) (fun t ht hW => fin t ht hW) E.2.1.2.2 hd
theorem call_g {p : Program} {e : Env} {R : Room} {s : State} {m : MethodId} {args a : Array Value} {below : List Frame} {meth : Method} {c : Code} {H : Heap} {locs : List Loc} {cells slots mc ms z1 : Nat} {Q0 : State → Prop} {ls : Array Slot} {rest st0 : List Value}
    (hr : va_Run p g.1 e R s m args below meth c H locs cells slots mc ms (F0 m pc ls st0) rest (Qm g z1 Q a) (AA g)) (hS : va_S (AA g) s.heap H locs)
    (kk : ∀ (rv : Option Value) (st' : St) (t : State) (H1 : Heap) (locs1 : List Loc), t.heap = H1 → s.vm.Alike t.vm → Q rv st' → CX g z1 st' t → va_S (AA g) s.heap H1 locs1 → W p g.1 e R s m args below meth c H1 locs1 (cells + mc) (slots + ms) Q0 (F0 m (pc + 3) ls ((rv.map (cv g)).toList ++ rest))) : W p g.1 e R s m args below meth c H locs cells slots Q0 (F0 m pc ls st0) := by
  intro T hT X
  obtain ⟨v, st₀, t, T', L, h0, X', hL, e1, e2, ⟨rv, st', hv, hp, hb, hz, hk⟩, st⟩ := hr T hT X
  cases hv
  rw [h0] at hz hk
  obtain ⟨t2, a1, b1⟩ := kk rv st' t T'.heap (locs ++ L) e1.symm (by rw [← e2]; exact X'.warmed.alike) hp hb
    ⟨Nat.le_trans hS.1 (by rw [e1]; exact hz), fun q h1 h2 => by rw [e1, hk q (Nat.lt_of_lt_of_le h1 hS.1) h2]; exact hS.2.1 q h1 h2, fun q hq => by
      rcases List.mem_append.mp hq with h | h
      · exact hS.2.2 q h
      · exact hL q h⟩ T' rfl X'
  exact ⟨t2, st t2 a1, b1⟩
theorem pre_mono {a b : Nat} (h : a ≤ b) : pre a ≤ pre b := by
  induction h with
  | refl => exact Nat.le_refl _
  | step _ ih => refine Nat.le_trans ih ?_; unfold pre; rw [List.range_succ, List.map_append, List.sum_append]; exact Nat.le_add_right _ _
theorem pre_succ (n : Nat) : pre (n + 1) = pre n + (kd n).2.2 := by unfold pre; rw [List.range_succ, List.map_append, List.sum_append]; simp
/-- a method's link from the class own, number idx -/
def Ml (own : String) (idx : Nat) (M' : Mt) (n : Nat) : Prop := plainName (my M').cls = true ∧ Cond.code (my M') (mcc M') (mml M') (mret M') ∈ gwl ∧ Cond.initialized (my M').cls ∈ gwl ∧ mml M' ≤ 40 ∧
  ((my M').cls ≠ "java/lang/invoke/MethodHandle" ∧ (my M').cls ≠ "java/lang/invoke/VarHandle" ∧ (parseMethodDescriptor (my M').desc).map (fun d => d.parameters.length) = some n) ∧ (Cond.methodLink own idx (my M') ∈ gwl ∨ ∃ host, Cond.methodLinkNest own idx (my M') host ∈ nwl)
theorem gwl_good : ∀ w ∈ gwl, (w.onTables && w.keeps) = true ∨ ∃ ty, w = .arrayClass ty := fun w h => good_of_word (List.mem_filter.mp h).2
theorem wsM_in (h : Cond.code (my M) (mcc M) (mml M) (mret M) ∈ gwl) : GoodIn gwl (wsM M) := by
  intro w hw
  rcases List.mem_cons.mp hw with rfl | hw
  · exact ⟨h, gwl_good _ h⟩
  · exact ⟨hw, gwl_good _ hw⟩
theorem blindCX {As : List Value} : FrameBlind (va_Pc (As.map (cv g)) (CX g z st)) := fun _ _ _ _ h => ⟨h.1, h.2.blind⟩
theorem CX.at {p : Program} {s : State} {m : MethodId} {args : Array Value} {meth : Method} {c : Code} {H : Heap} {locs : List Loc} (C : CT g M p s m args meth c) (E : HS g z st s H locs) {U : State} (hU : U.heap = H) (hW : s.WarmedH U.vm) : CX g z st U :=
  ⟨by rw [hU]; exact E.1, by rw [hU]; exact E.2.2, va_K.moved hW.alike C.2.2.2.2.2.2.1, SX.warm hW (by rw [hU]; exact C.2.2.2.2.2.2.2.1.kept E.2.1.2.1 C.2.2.2.2.2.2.2.2), by rw [hU]; exact Nat.le_trans C.2.2.2.2.2.2.2.2 E.2.1.1⟩
theorem rest_cat (rest : List Value) : ((rest.map (cv g)).map fun v => v.category).sum = (rest.map fun v => v.category).sum := by
  rw [List.map_map]; congr 1; apply List.map_congr_left; intro v _; exact cv_cat g v
theorem aft {rv : Option Value} {rest : List Value} : (rv.map (cv g)).toList ++ rest.map (cv g) = (rv.toList ++ rest).map (cv g) := by cases rv <;> simp
theorem s_callV {M' : Mt} {o ci n idx z1 k : Nat} {As rest S' : List Value} (hd : decode (mcc M) pc = .ok (.invokevirtual idx, 3)) (hm : Ml (my M).cls idx M' As.length) (hin : Cond.instanceMethod (my M') ∈ gwl) (hsel : Cond.selects (my M').cls (my M') (my M') ∈ gwl) (hk : kd o = (0, ci, n)) (ho : o < z) (hc : clR ci = (my M').cls)
    (hS : S' = As.reverse ++ .ref o :: rest) (hw : (rest.map fun v => v.category).sum ≤ 8) (hz1 : z ≤ z1) (hz2 : z1 ≤ zf) (hla : (lg_sl ((Value.ref o :: As).map (cv g))).length ≤ mml M')
    (hR : Rn g d z z1 M' 0 (eL (.ref o :: As) ++ List.replicate k none) [] st (fun rv st' => Rn g (d + 1) z1 zf M (pc + 3) L (rv.toList ++ rest) st' Q)) : Rn g (d + 1) z zf M pc L S' st Q := by
  intro p e R s m args below meth c H locs cells slots Q0 ls C E hl hr hk0
  subst hS
  obtain ⟨hp, hcode, hini, hml, hde, hlk⟩ := hm
  have hM := met_of hR hp hz1 hla
  have hci := (kd_cls hk).1
  have hn := (kd_cls hk).2
  subst hn
  have he := wsO_k (g := g) (st := st) ho (cellE_obj hk)
  obtain ⟨r1, r2, r3, r4, r5⟩ := hr
  have m1 := pre_mono hz1
  have m2 := pre_mono hz2
  have b1 : cells + (z1 - z) ≤ R.cells := by omega
  have b2 : slots + slb z z1 ≤ R.slots := by unfold slb at r4 ⊢; omega
  have hfr : (rmM d z z1).frames + 1 ≤ R.frames ∧ 8 + (mml M' + 11) + (rmM d z z1).locals ≤ R.locals := ⟨r1, by show 8 + (mml M' + 11) + d * 64 ≤ R.locals; omega⟩
  have hrecv := va_recv C.2.2.2.2.2.2.1 E.1 (cl_at hci) he
  have hpre : PreV s H (my M').cls (gb g + o) (va_Pc ((Value.ref o :: As).map (cv g)) (CX g z st)) (As.map (cv g)) :=
    ⟨blindCX, by rw [← hc]; exact hrecv, fun U hU hW => ⟨by rw [List.map_cons, ref_cv hk (by omega)], CX.at C E hU hW⟩⟩
  have est : ((As.reverse ++ .ref o :: rest).map (cv g)) = (As.map (cv g)).reverse ++ .ref (gb g + o) :: rest.map (cv g) := by rw [List.map_append, List.map_reverse, List.map_cons, ref_cv hk (by omega)]
  have hwr : 2 * (F0 m pc ls ((As.reverse ++ .ref o :: rest).map (cv g))).monitorRoom + ((rest.map (cv g)).map fun v => v.category).sum ≤ 8 := by rw [rest_cat]; exact lv_room hw
  have run : va_Run p g.1 e R s m args below meth c H locs cells slots (z1 - z) (slb z z1) (F0 m pc ls ((As.reverse ++ .ref o :: rest).map (cv g))) (rest.map (cv g)) (Qm g z1 (fun rv st' => Rn g (d + 1) z1 zf M (pc + 3) L (rv.toList ++ rest) st' Q) (Value.ref (gb g + o) :: As.map (cv g)).toArray) (AA g) := by
    rcases hlk with h1 | ⟨host, h1⟩
    · exact va_runV (As := As.map (cv g)) (C := (my M').cls) ⟨C.1, C.2.1, C.2.2.1, C.2.2.2.1, C.2.2.2.2.1⟩ hM ⟨callB_of As.length C.2.2.2.2.1 (wsM_in hcode) rfl rfl rfl (C.2.2.2.2.1 _ hini) (C.2.2.2.2.1 _ h1) hde hfr, C.2.2.2.2.1 _ hin, C.2.2.2.2.1 _ hsel⟩ hpre rfl (by simp) hl.1 est hwr hd ⟨b1, b2⟩
    · exact va_runVN (As := As.map (cv g)) (C := (my M').cls) ⟨C.1, C.2.1, C.2.2.1, C.2.2.2.1, C.2.2.2.2.1⟩ hM ⟨va_cnB As.length C.2.2.2.2.1 (wsM_in hcode) rfl rfl rfl (C.2.2.2.2.2.2.2.1.2.2.2.2.1 _ h1) (C.2.2.2.2.1 _ hini) hde hfr, C.2.2.2.2.1 _ hin, C.2.2.2.2.1 _ hsel⟩ hpre rfl (by simp) hl.1 est hwr hd ⟨b1, b2⟩
  refine call_g run E.2.1 (fun rv st' t H1 locs1 ht hvm hQ hCX hS1 => ?_)
  rw [aft]
  refine hQ p e R s m args below meth c H1 locs1 _ _ Q0 ls C ⟨by rw [← ht]; exact hCX.1, hS1, by rw [← ht]; exact hCX.2.1⟩ hl ⟨r1, r2, by omega, by unfold slb at r4 ⊢; omega, hz2⟩ ?_
  intro rv' st'' H'' locs'' cells'' slots'' pc'' ls'' hQ'' hE'' hc'' hs'' hrt''
  refine hk0 rv' st'' H'' locs'' cells'' slots'' pc'' ls'' hQ'' hE'' (by omega) (by unfold slb at hs'' ⊢; omega) hrt''
theorem s_callS {M' : Mt} {idx z1 k : Nat} {As rest S' : List Value} (hd : decode (mcc M) pc = .ok (.invokestatic idx, 3)) (hm : Ml (my M).cls idx M' As.length) (hst : Cond.static (my M') ∈ gwl)
    (hS : S' = As.reverse ++ rest) (hw : (rest.map fun v => v.category).sum ≤ 8) (hz1 : z ≤ z1) (hz2 : z1 ≤ zf) (hla : (lg_sl (As.map (cv g))).length ≤ mml M')
    (hR : Rn g d z z1 M' 0 (eL As ++ List.replicate k none) [] st (fun rv st' => Rn g (d + 1) z1 zf M (pc + 3) L (rv.toList ++ rest) st' Q)) : Rn g (d + 1) z zf M pc L S' st Q := by
  intro p e R s m args below meth c H locs cells slots Q0 ls C E hl hr hk0
  subst hS
  obtain ⟨hp, hcode, hini, hml, hde, hlk⟩ := hm
  have hM := met_of hR hp hz1 hla
  obtain ⟨r1, r2, r3, r4, r5⟩ := hr
  have m1 := pre_mono hz1
  have m2 := pre_mono hz2
  have b1 : cells + (z1 - z) ≤ R.cells := by omega
  have b2 : slots + slb z z1 ≤ R.slots := by unfold slb at r4 ⊢; omega
  have hfr : (rmM d z z1).frames + 1 ≤ R.frames ∧ 8 + (mml M' + 11) + (rmM d z z1).locals ≤ R.locals := ⟨r1, by show 8 + (mml M' + 11) + d * 64 ≤ R.locals; omega⟩
  have hpre : PreS s H (va_Pc (As.map (cv g)) (CX g z st)) (As.map (cv g)) :=
    ⟨blindCX, fun U hU hW => ⟨rfl, CX.at C E hU hW⟩⟩
  have est : ((As.reverse ++ rest).map (cv g)) = (As.map (cv g)).reverse ++ rest.map (cv g) := by rw [List.map_append, List.map_reverse]
  have hwr : 2 * (F0 m pc ls ((As.reverse ++ rest).map (cv g))).monitorRoom + ((rest.map (cv g)).map fun v => v.category).sum ≤ 8 := by rw [rest_cat]; exact lv_room hw
  have run : va_Run p g.1 e R s m args below meth c H locs cells slots (z1 - z) (slb z z1) (F0 m pc ls ((As.reverse ++ rest).map (cv g))) (rest.map (cv g)) (Qm g z1 (fun rv st' => Rn g (d + 1) z1 zf M (pc + 3) L (rv.toList ++ rest) st' Q) (As.map (cv g)).toArray) (AA g) := by
    rcases hlk with h1 | ⟨host, h1⟩
    · exact va_runS (As := As.map (cv g)) ⟨C.1, C.2.1, C.2.2.1, C.2.2.2.1, C.2.2.2.2.1⟩ hM ⟨callB_of As.length C.2.2.2.2.1 (wsM_in hcode) rfl rfl rfl (C.2.2.2.2.1 _ hini) (C.2.2.2.2.1 _ h1) hde hfr, C.2.2.2.2.1 _ hst⟩ hpre rfl (by simp) hl.1 est hwr hd ⟨b1, b2⟩
    · exact va_runSN (As := As.map (cv g)) ⟨C.1, C.2.1, C.2.2.1, C.2.2.2.1, C.2.2.2.2.1⟩ hM ⟨va_cnB As.length C.2.2.2.2.1 (wsM_in hcode) rfl rfl rfl (C.2.2.2.2.2.2.2.1.2.2.2.2.1 _ h1) (C.2.2.2.2.1 _ hini) hde hfr, C.2.2.2.2.1 _ hst, trivial⟩ hpre rfl (by simp) hl.1 est hwr hd ⟨b1, b2⟩
  refine call_g run E.2.1 (fun rv st' t H1 locs1 ht hvm hQ hCX hS1 => ?_)
  rw [aft]
  refine hQ p e R s m args below meth c H1 locs1 _ _ Q0 ls C ⟨by rw [← ht]; exact hCX.1, hS1, by rw [← ht]; exact hCX.2.1⟩ hl ⟨r1, r2, by omega, by unfold slb at r4 ⊢; omega, hz2⟩ ?_
  intro rv' st'' H'' locs'' cells'' slots'' pc'' ls'' hQ'' hE'' hc'' hs'' hrt''
  refine hk0 rv' st'' H'' locs'' cells'' slots'' pc'' ls'' hQ'' hE'' (by omega) (by unfold slb at hs'' ⊢; omega) hrt''
theorem s_callI {M' : Mt} {o ci n idx z1 k : Nat} {As rest S' : List Value} (hd : decode (mcc M) pc = .ok (.invokespecial idx, 3)) (hm : Ml (my M).cls idx M' As.length) (hin : Cond.instanceMethod (my M') ∈ gwl) (hnm : (my M').name = "<init>") (hrt : mret M' = none) (hk : kd o = (0, ci, n)) (ho : o < z) 
    (hS : S' = As.reverse ++ .ref o :: rest) (hw : (rest.map fun v => v.category).sum ≤ 8) (hz1 : z ≤ z1) (hz2 : z1 ≤ zf) (hla : (lg_sl ((Value.ref o :: As).map (cv g))).length ≤ mml M')
    (hR : Rn g d z z1 M' 0 (eL (.ref o :: As) ++ List.replicate k none) [] st (fun rv st' => Rn g (d + 1) z1 zf M (pc + 3) L (rv.toList ++ rest) st' Q)) : Rn g (d + 1) z zf M pc L S' st Q := by
  intro p e R s m args below meth c H locs cells slots Q0 ls C E hl hr hk0
  subst hS
  obtain ⟨hp, hcode, hini, hml, hde, hlk⟩ := hm
  have hM := met_of hR hp hz1 hla
  have hci := (kd_cls hk).1
  have hn := (kd_cls hk).2
  subst hn
  have he := wsO_k (g := g) (st := st) ho (cellE_obj hk)
  obtain ⟨r1, r2, r3, r4, r5⟩ := hr
  have m1 := pre_mono hz1
  have m2 := pre_mono hz2
  have b1 : cells + (z1 - z) ≤ R.cells := by omega
  have b2 : slots + slb z z1 ≤ R.slots := by unfold slb at r4 ⊢; omega
  have hfr : (rmM d z z1).frames + 1 ≤ R.frames ∧ 8 + (mml M' + 11) + (rmM d z z1).locals ≤ R.locals := ⟨r1, by show 8 + (mml M' + 11) + d * 64 ≤ R.locals; omega⟩
  have hpre : PreS s H (va_Pc ((Value.ref o :: As).map (cv g)) (CX g z st)) (.ref (gb g + o) :: As.map (cv g)) :=
    ⟨blindCX, fun U hU hW => ⟨by rw [List.map_cons, ref_cv hk (by omega)], CX.at C E hU hW⟩⟩
  have est : ((As.reverse ++ .ref o :: rest).map (cv g)) = (As.map (cv g)).reverse ++ .ref (gb g + o) :: rest.map (cv g) := by rw [List.map_append, List.map_reverse, List.map_cons, ref_cv hk (by omega)]
  have hwr : 2 * (F0 m pc ls ((As.reverse ++ .ref o :: rest).map (cv g))).monitorRoom + ((rest.map (cv g)).map fun v => v.category).sum ≤ 8 := by rw [rest_cat]; exact lv_room hw
  have run : va_Run p g.1 e R s m args below meth c H locs cells slots (z1 - z) (slb z z1) (F0 m pc ls ((As.reverse ++ .ref o :: rest).map (cv g))) (rest.map (cv g)) (Qm g z1 (fun rv st' => Rn g (d + 1) z1 zf M (pc + 3) L (rv.toList ++ rest) st' Q) (Value.ref (gb g + o) :: As.map (cv g)).toArray) (AA g) := by
    have hcode' : Cond.code (my M') (mcc M') (mml M') none ∈ gwl := by rw [← hrt]; exact hcode
    have hw' : wsM M' = Cond.code (my M') (mcc M') (mml M') none :: gwl := by unfold wsM; rw [hrt]
    rcases hlk with h1 | ⟨host, h1⟩
    · exact va_runI (As := As.map (cv g)) ⟨C.1, C.2.1, C.2.2.1, C.2.2.2.1, C.2.2.2.2.1⟩ hM ⟨callB_of As.length C.2.2.2.2.1 (wsM_in hcode) hw' rfl rfl (C.2.2.2.2.1 _ hini) (C.2.2.2.2.1 _ h1) hde hfr, hnm, C.2.2.2.2.1 _ hin⟩ hpre rfl (by simp) hl.1 est hwr hd ⟨b1, b2⟩
    · exact va_runIN (As := As.map (cv g)) ⟨C.1, C.2.1, C.2.2.1, C.2.2.2.1, C.2.2.2.2.1⟩ hM ⟨va_cnB As.length C.2.2.2.2.1 (wsM_in hcode) hw' rfl rfl (C.2.2.2.2.2.2.2.1.2.2.2.2.1 _ h1) (C.2.2.2.2.1 _ hini) hde hfr, hnm, C.2.2.2.2.1 _ hin⟩ hpre rfl (by simp) hl.1 est hwr hd ⟨b1, b2⟩
  refine call_g run E.2.1 (fun rv st' t H1 locs1 ht hvm hQ hCX hS1 => ?_)
  rw [aft]
  refine hQ p e R s m args below meth c H1 locs1 _ _ Q0 ls C ⟨by rw [← ht]; exact hCX.1, hS1, by rw [← ht]; exact hCX.2.1⟩ hl ⟨r1, r2, by omega, by unfold slb at r4 ⊢; omega, hz2⟩ ?_
  intro rv' st'' H'' locs'' cells'' slots'' pc'' ls'' hQ'' hE'' hc'' hs'' hrt''
  refine hk0 rv' st'' H'' locs'' cells'' slots'' pc'' ls'' hQ'' hE'' (by omega) (by unfold slb at hs'' ⊢; omega) hrt''
end CALC5
