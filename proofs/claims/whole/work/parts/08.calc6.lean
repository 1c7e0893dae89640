section CALC6
variable {g : Gt} {d z zf : Nat} {M : Mt} {pc : Nat} {L : List (Option Value)} {S : List Value} {st : St} {Q : Option Value → St → Prop}
theorem s_iret {v : Int32} (hd : decode (mcc M) pc = .ok (.ireturn, 1)) (hn : NR M v) (hq : Q (some (.int v)) st) : Rn g d z z M pc L [.int v] st Q := by
  intro p e R s m args below meth c H locs cells slots Q0 ls C E hl hr hk0
  exact hk0 (some (.int v)) st H locs cells slots pc ls hq E (Nat.le_add_right _ _) (Nat.le_add_right _ _) (Or.inl ⟨hd, v, rfl, hn⟩)
theorem s_vret (hd : decode (mcc M) pc = .ok (.return_, 1)) (hn : mret M = none) (hq : Q none st) : Rn g d z z M pc L [] st Q := by
  intro p e R s m args below meth c H locs cells slots Q0 ls C E hl hr hk0
  exact hk0 none st H locs cells slots pc ls hq E (Nat.le_add_right _ _) (Nat.le_add_right _ _) (Or.inr (Or.inl ⟨hd, rfl, hn⟩))
theorem s_lret {v : Int64} (hd : decode (mcc M) pc = .ok (.lreturn, 1)) (hn : mret M = some .long) (hq : Q (some (.long v)) st) : Rn g d z z M pc L [.long v] st Q := by
  intro p e R s m args below meth c H locs cells slots Q0 ls C E hl hr hk0
  exact hk0 (some (.long v)) st H locs cells slots pc ls hq E (Nat.le_add_right _ _) (Nat.le_add_right _ _) (Or.inr (Or.inr (Or.inl ⟨hd, ⟨v, rfl⟩, hn⟩)))
theorem s_aret {o : Nat} {nm : String} (hd : decode (mcc M) pc = .ok (.areturn, 1)) (hn : mret M = some (.object nm)) (hq : Q (some (.ref o)) st) : Rn g d z z M pc L [.ref o] st Q := by
  intro p e R s m args below meth c H locs cells slots Q0 ls C E hl hr hk0
  exact hk0 (some (.ref o)) st H locs cells slots pc ls hq E (Nat.le_add_right _ _) (Nat.le_add_right _ _) (Or.inr (Or.inr (Or.inr ⟨hd, ⟨o, rfl⟩, nm, hn⟩)))
/-- Object.<init> -/
theorem s_oinit {o a b c0 idx : Nat} (hd : decode (mcc M) pc = .ok (.invokespecial idx, 3)) (hlk : Cond.methodLink (my M).cls idx objectInit ∈ gwl) (hin : Cond.instanceMethod objectInit ∈ gwl) (hco : Cond.code objectInit ⟨#[0xb1]⟩ 1 none ∈ gwl) (hk : kd o = (a, b, c0)) (ha : a < 9) (hw : (S.map fun v => v.category).sum ≤ 8) (hd1 : 1 ≤ d)
    (k : Rn g d z zf M (pc + 3) L S st Q) : Rn g d z zf M pc L (.ref o :: S) st Q := by
  intro p e R s m args below meth c H locs cells slots Q0 ls C E hl hr hk0
  have e0 : (Value.ref o :: S).map (cv g) = .ref (gb g + o) :: S.map (cv g) := by rw [List.map_cons, ref_cv hk ha]
  rw [e0]
  refine W.objInit C.1 C.2.1 C.2.2.2.1 (C.2.2.2.2.1 _ hlk) (C.2.2.2.2.1 _ hin) (C.2.2.2.2.1 _ hco) rfl (by rw [C.2.2.1]; exact hl.1) rfl hd (Nat.le_trans hd1 hr.1) ?_ (k p e R s m args below meth c H locs cells slots Q0 ls C E hl hr hk0)
  have h2 : d * 64 ≤ R.locals := hr.2.1
  have h3 : 2 * (F0 m pc ls (.ref (gb g + o) :: S.map (cv g))).monitorRoom + ((S.map (cv g)).map fun v => v.category).sum ≤ 8 := by rw [rest_cat]; exact lv_room hw
  omega
/-- what is made: the next number, everything in it 0 -/
def zeroAt (st : St) (z : Nat) : St := (fun a => if a = z then fun _ => 0 else st.1 a, fun a => if a = z then fun _ => 0 else st.2.1 a, fun a => if a = z then fun _ => none else st.2.2 a)
theorem wsO_push {x : va_E} (hx : x = cellE g (zeroAt st z) z (kd z)) : wsO g z st ++ [(gb g + z, x)] = wsO g (z + 1) (zeroAt st z) := by
  unfold wsO
  rw [List.range_succ, List.map_append, hx]
  congr 1
  apply List.map_congr_left
  intro o ho
  have ho' : o ≠ z := by have := List.mem_range.mp ho; omega
  have e1 : (zeroAt st z).1 o = st.1 o := by simp [zeroAt, ho']
  have e2 : (zeroAt st z).2.1 o = st.2.1 o := by simp [zeroAt, ho']
  have e3 : (zeroAt st z).2.2 o = st.2.2 o := by simp [zeroAt, ho']
  have : cellE g st o (kd o) = cellE g (zeroAt st z) o (kd o) := by
    rcases hk : kd o with ⟨t, c, n⟩
    have ef : fVal g st o c = fVal g (zeroAt st z) o c := by funext j; simp only [fVal, e1, e3]
    unfold cellE
    split <;> first | (simp only [e1, e2, e3, *]; done) | skip
    next ci n' hk' => cases hk'; rw [ef]
  rw [this]
theorem grow {p : Program} {s : State} {m : MethodId} {args : Array Value} {meth : Method} {c : Code} {H H' : Heap} {locs : List Loc} {x : va_E} (C : CT g M p s m args meth c) (E : HS g z st s H locs) (hzl : z < kdL.length) (hx : x = cellE g (zeroAt st z) z (kd z)) (hz : H'.size = H.size + 1) (ho : ∀ q, q < H.size → H'[q]? = H[q]?) (hat : va_at (gD g) vwCl (gb g + z, x) H') : HS g (z + 1) (zeroAt st z) s H' locs := by
  refine ⟨?_, ⟨Nat.le_trans E.2.1.1 (by omega), fun q h1 h2 => (ho q (Nat.lt_of_lt_of_le h1 E.2.1.1)).trans (E.2.1.2.1 q h1 h2), E.2.1.2.2⟩, fun _ => by have := E.2.2 hzl; omega⟩
  rw [← wsO_push hx]
  refine (E.1.kept (fun k q hk => ho q.1 ((E.1 k q hk).lt))).app (fun k q hk => ?_)
  have hk1 : k < 1 := (List.getElem?_eq_some_iff.mp hk).1
  rw [show k = 0 by omega] at hk
  cases hk
  exact hat
theorem dfl_ok : ∀ ci, ci < 9 → ∀ j, j < clN ci → defaultValue (fTy ci j) = if isRf (fTy ci j) = true then .null else .int 0 := by decide +kernel
theorem s_new {ci n idx : Nat} (hd : decode (mcc M) pc = .ok (.new idx, 3)) (hk : kd z = (0, ci, n)) (hcl : Cond.classLink (my M).cls idx (clR ci) ∈ gwl) (hins : Cond.instantiable (clR ci) n ∈ gwl) (hini : Cond.initialized (clR ci) ∈ gwl) (hz : z < zf)
    (k : Rn g d (z + 1) zf M (pc + 3) L (.ref z :: S) (zeroAt st z) Q) : Rn g d z zf M pc L S st Q := by
  intro p e R s m args below meth c H locs cells slots Q0 ls C E hl hr hk0
  obtain ⟨hci, hn⟩ := kd_cls hk
  subst hn
  obtain ⟨r1, r2, r3, r4, r5⟩ := hr
  have hsz := E.2.2 (kd_lt hk (by omega))
  have m1 := pre_mono (show z + 1 ≤ zf by omega)
  have m0 := pre_succ z
  rw [hk] at m0
  dsimp only at m0
  have hKn := C.2.2.2.2.2.2.1.1 ci _ (cl_at hci)
  refine W.newcK C.1 C.2.1 C.2.2.2.1 (C.2.2.2.2.1 _ hcl) (C.2.2.2.2.1 _ hins) (C.2.2.2.2.1 _ hini) rfl hd (by omega) (by unfold slb at r4; omega) hKn.2.1 hsz fun H1 kC hkC e1 z1 o1 => ?_
  have e9 : (.ref (gb g + z) :: S.map (cv g)) = (Value.ref z :: S).map (cv g) := by rw [List.map_cons, ref_cv hk (by omega)]
  rw [show (F0 m pc ls (S.map (cv g))).stack = S.map (cv g) from rfl, e9]
  refine k p e R s m args below meth c H1 locs _ _ Q0 ls C (grow C E (kd_lt hk (by omega)) rfl (by rw [z1, hsz]) (fun q hq => o1 q (by rw [← hsz]; exact hq)) ?_) hl ⟨r1, r2, by omega, by unfold slb at r4 ⊢; omega, by omega⟩ ?_
  · rw [cellE_obj hk]
    refine ⟨_, cl_at hci, (u_born (fTy ci) C.2.2.2.2.1 (cf_in hci) hKn hkC e1 (cf_ty hci)).to (fun j hj => ?_)⟩
    rw [dfl_ok ci hci j hj]
    unfold vp_V
    rw [List.getD_eq_getElem?_getD, List.getElem?_map, List.getElem?_range hj]
    simp only [Option.map_some, Option.getD_some, fVal, zeroAt, if_true]
    cases isRf (fTy ci j) <;> rfl
  · intro rv' st'' H'' locs'' cells'' slots'' pc'' ls'' hQ'' hE'' hc'' hs'' hrt''
    exact hk0 rv' st'' H'' locs'' cells'' slots'' pc'' ls'' hQ'' hE'' (by omega) (by unfold slb at hs'' ⊢; omega) hrt''
theorem gA_eq {s : State} {args : Array Value} {p : Program} {m : MethodId} {meth : Method} {c : Code} (C : CT g M p s m args meth c) {i : Nat} (hi : i < 4) {cA : ClassId} (h : s.vm.findClass ("[" ++ (aT i).toString) = some cA) : cA = gA g i := by
  have : ∃ x, (tysG g)[i]? = some x ∧ x = (gA g i, aT i) := by rcases (show i = 0 ∨ i = 1 ∨ i = 2 ∨ i = 3 by omega) with rfl | rfl | rfl | rfl <;> exact ⟨_, rfl, rfl⟩
  obtain ⟨x, hx, rfl⟩ := this
  have h2 := (C.2.2.2.2.2.2.1.2 i _ hx).2
  have h3 : s.vm.findClass ("[" ++ (aT i).toString) = some (gA g i) := by rcases (show i = 0 ∨ i = 1 ∨ i = 2 ∨ i = 3 by omega) with rfl | rfl | rfl | rfl <;> exact h2
  exact Option.some.inj (h.symm.trans h3)
theorem s_newa {c0 n : Nat} {atype : ArrayType} {i : Int32} (hd : decode (mcc M) pc = .ok (.newarray atype, 2)) (hk : kd z = (1, c0, n)) (hc : c0 < 3) (hty : newarray.typeOf atype = aT c0) (hw : Cond.arrayClass (aT c0) ∈ gwl) (hi : ¬ i < 0) (hn : i.toNatClampNeg = n) (hb : n * componentBytes (aT c0) ≤ 536870912) (hz : z < zf)
    (k : Rn g d (z + 1) zf M (pc + 2) L (.ref z :: S) (zeroAt st z) Q) : Rn g d z zf M pc L (.int i :: S) st Q := by
  intro p e R s m args below meth c H locs cells slots Q0 ls C E hl hr hk0
  obtain ⟨r1, r2, r3, r4, r5⟩ := hr
  have hsz := E.2.2 (kd_lt hk (by omega))
  have m1 := pre_mono (show z + 1 ≤ zf by omega)
  have m0 := pre_succ z
  rw [hk] at m0
  dsimp only at m0
  rw [← hty] at hb hw
  refine va_newaK C.1 C.2.1 (C.2.2.2.2.1 _ hw) rfl hd rfl hi hn hb (by omega) (by unfold slb at r4; omega) hsz fun H1 cA e1 z1 o1 hAr hNm => ?_
  have e9 : (.ref (gb g + z) :: S.map (cv g)) = (Value.ref z :: S).map (cv g) := by rw [List.map_cons, ref_cv hk (by omega)]
  rw [e9]
  rw [hty] at hNm e1
  have hcA := gA_eq C (show c0 < 4 by omega) hNm
  subst hcA
  refine k p e R s m args below meth c H1 locs _ _ Q0 ls C (grow C E (kd_lt hk (by omega)) rfl (by rw [z1, hsz]) (fun q hq => o1 q (by rw [← hsz]; exact hq)) ?_) hl ⟨r1, r2, by omega, by unfold slb at r4 ⊢; omega, by omega⟩ ?_
  · rw [cellE_arr hk]
    show H1[_]? = some (vp_cell _ _)
    rw [e1, vp_cell_i]
    congr 2
    funext j
    rcases (show c0 = 0 ∨ c0 = 1 ∨ c0 = 2 by omega) with rfl | rfl | rfl <;> simp [zeroAt, aT, defaultValue]
  · intro rv' st'' H'' locs'' cells'' slots'' pc'' ls'' hQ'' hE'' hc'' hs'' hrt''
    exact hk0 rv' st'' H'' locs'' cells'' slots'' pc'' ls'' hQ'' hE'' (by omega) (by unfold slb at hs'' ⊢; omega) hrt''
theorem s_newl {c0 n : Nat} {i : Int32} (hd : decode (mcc M) pc = .ok (.newarray .long, 2)) (hk : kd z = (2, c0, n)) (hw : Cond.arrayClass .long ∈ gwl) (hi : ¬ i < 0) (hn : i.toNatClampNeg = n) (hb : n * componentBytes .long ≤ 536870912) (hz : z < zf)
    (k : Rn g d (z + 1) zf M (pc + 2) L (.ref z :: S) (zeroAt st z) Q) : Rn g d z zf M pc L (.int i :: S) st Q := by
  intro p e R s m args below meth c H locs cells slots Q0 ls C E hl hr hk0
  obtain ⟨r1, r2, r3, r4, r5⟩ := hr
  have hsz := E.2.2 (kd_lt hk (by omega))
  have m1 := pre_mono (show z + 1 ≤ zf by omega)
  have m0 := pre_succ z
  rw [hk] at m0
  dsimp only at m0
  refine va_newaK C.1 C.2.1 (atype := .long) (C.2.2.2.2.1 _ hw) rfl hd rfl hi hn hb (by omega) (by unfold slb at r4; omega) hsz fun H1 cA e1 z1 o1 hAr hNm => ?_
  have e9 : (.ref (gb g + z) :: S.map (cv g)) = (Value.ref z :: S).map (cv g) := by rw [List.map_cons, ref_cv hk (by omega)]
  rw [e9]
  have hcA := gA_eq (i := 3) C (by omega) hNm
  subst hcA
  refine k p e R s m args below meth c H1 locs _ _ Q0 ls C (grow C E (kd_lt hk (by omega)) rfl (by rw [z1, hsz]) (fun q hq => o1 q (by rw [← hsz]; exact hq)) ?_) hl ⟨r1, r2, by omega, by unfold slb at r4 ⊢; omega, by omega⟩ ?_
  · rw [cellE_lng hk]
    show H1[_]? = some (vp_cell _ _)
    rw [e1, vp_cell_l]
    congr 2
    funext j
    simp [zeroAt, newarray.typeOf, defaultValue]
  · intro rv' st'' H'' locs'' cells'' slots'' pc'' ls'' hQ'' hE'' hc'' hs'' hrt''
    exact hk0 rv' st'' H'' locs'' cells'' slots'' pc'' ls'' hQ'' hE'' (by omega) (by unfold slb at hs'' ⊢; omega) hrt''
theorem s_newq {c0 n idx : Nat} {i : Int32} (hd : decode (mcc M) pc = .ok (.anewarray idx, 3)) (hk : kd z = (3, c0, n)) (hcl : Cond.classLink (my M).cls idx RX6 ∈ gwl) (hi : ¬ i < 0) (hn : i.toNatClampNeg = n) (hb : n * 4 ≤ 536870912) (hz : z < zf)
    (k : Rn g d (z + 1) zf M (pc + 3) L (.ref z :: S) (zeroAt st z) Q) : Rn g d z zf M pc L (.int i :: S) st Q := by
  intro p e R s m args below meth c H locs cells slots Q0 ls C E hl hr hk0
  subst hn
  obtain ⟨r1, r2, r3, r4, r5⟩ := hr
  have hsz := E.2.2 (kd_lt hk (by omega))
  have m1 := pre_mono (show z + 1 ≤ zf by omega)
  have m0 := pre_succ z
  rw [hk] at m0
  dsimp only at m0
  refine W.anew C.1 C.2.1 C.2.2.2.1 (C.2.2.2.2.1 _ hcl) (va_AO.use C.2.2.2.2.2.2.2.1.2.2.2.2.2.1) rfl hd rfl hi hb (by omega) (by unfold slb at r4; omega) fun cA kA comp f1 f2 f3 f4 => ?_
  rw [hsz]
  have e9 : (.ref (gb g + z) :: S.map (cv g)) = (Value.ref z :: S).map (cv g) := by rw [List.map_cons, ref_cv hk (by omega)]
  rw [e9]
  obtain ⟨_, _, _, _, _, k4⟩ := (C.2.2.2.2.2.2.1.2 4 _ rfl).2
  have hcA : cA = gA g 4 := Option.some.inj (f1.symm.trans k4)
  subst hcA
  have e1 : (H.push ({ cls := gA g 4, slots := Array.replicate i.toNatClampNeg .null, vm := .none } : Cell))[gb g + z]? = some (arrV (gA g 4) i.toNatClampNeg (fun _ => .null)) := by rw [← hsz, Array.getElem?_push_size, ← arrV_new]
  refine k p e R s m args below meth c _ locs _ _ Q0 ls C (grow C E (kd_lt hk (by omega)) rfl (by rw [Array.size_push]) (fun q hq => by rw [Array.getElem?_push, if_neg (Nat.ne_of_lt hq)]) ?_) hl ⟨r1, r2, by omega, by unfold slb at r4 ⊢; omega, by omega⟩ ?_
  · rw [cellE_rfs hk]
    show (H.push _)[_]? = some (vp_cell _ _)
    rw [e1, vp_cell_q]
    congr 2
    funext j
    simp [zeroAt, va_rf]
  · intro rv' st'' H'' locs'' cells'' slots'' pc'' ls'' hQ'' hE'' hc'' hs'' hrt''
    exact hk0 rv' st'' H'' locs'' cells'' slots'' pc'' ls'' hQ'' hE'' (by omega) (by unfold slb at hs'' ⊢; omega) hrt''
end CALC6
