section CALC4
variable {g : Gt} {d z zf : Nat} {M : Mt} {pc : Nat} {L : List (Option Value)} {S : List Value} {st : St} {Q : Option Value → St → Prop}
theorem cv2 {o a b c : Nat} (h : kd o = (a, b, c)) (ha : a < 9) (i : Int32) : (Value.int i :: .ref o :: S).map (cv g) = .int i :: .ref (gb g + o) :: S.map (cv g) := by rw [List.map_cons, List.map_cons, ref_cv h ha]; rfl
theorem s_iald {o n : Nat} {i : Int32} (hd : decode (mcc M) pc = .ok (.iaload, 1)) (hk : kd o = (1, 0, n)) (ho : o < z) (hin : vp_in i n) (k : Rn g d z zf M (pc + 1) L (.int (st.1 o i.toNatClampNeg) :: S) st Q) : Rn g d z zf M pc L (.int i :: .ref o :: S) st Q := by
  intro p e R s m args below meth c H locs cells slots Q0 ls C E hl hr hk0
  rw [cv2 hk (by omega)]
  exact va_iald C.1 C.2.1 C.2.2.2.2.2.2.1 E.1 o 0 (wsO_k ho (cellE_arr hk)) rfl hin hd (k p e R s m args below meth c H locs cells slots Q0 ls C E hl hr hk0)
theorem s_bald {o n : Nat} {i : Int32} (hd : decode (mcc M) pc = .ok (.baload, 1)) (hk : kd o = (1, 1, n)) (ho : o < z) (hin : vp_in i n) (k : Rn g d z zf M (pc + 1) L (.int (st.1 o i.toNatClampNeg) :: S) st Q) : Rn g d z zf M pc L (.int i :: .ref o :: S) st Q := by
  intro p e R s m args below meth c H locs cells slots Q0 ls C E hl hr hk0
  rw [cv2 hk (by omega)]
  exact va_bald C.1 C.2.1 C.2.2.2.2.2.2.1 E.1 o 1 (wsO_k ho (cellE_arr hk)) rfl hin hd (k p e R s m args below meth c H locs cells slots Q0 ls C E hl hr hk0)
theorem s_sald {o n : Nat} {i : Int32} (hd : decode (mcc M) pc = .ok (.saload, 1)) (hk : kd o = (1, 2, n)) (ho : o < z) (hin : vp_in i n) (k : Rn g d z zf M (pc + 1) L (.int (st.1 o i.toNatClampNeg) :: S) st Q) : Rn g d z zf M pc L (.int i :: .ref o :: S) st Q := by
  intro p e R s m args below meth c H locs cells slots Q0 ls C E hl hr hk0
  rw [cv2 hk (by omega)]
  exact va_sald C.1 C.2.1 C.2.2.2.2.2.2.1 E.1 o 2 (wsO_k ho (cellE_arr hk)) rfl hin hd (k p e R s m args below meth c H locs cells slots Q0 ls C E hl hr hk0)
theorem s_lald {o c0 n : Nat} {i : Int32} (hd : decode (mcc M) pc = .ok (.laload, 1)) (hk : kd o = (2, c0, n)) (ho : o < z) (hin : vp_in i n) (k : Rn g d z zf M (pc + 1) L (.long (st.2.1 o i.toNatClampNeg) :: S) st Q) : Rn g d z zf M pc L (.int i :: .ref o :: S) st Q := by
  intro p e R s m args below meth c H locs cells slots Q0 ls C E hl hr hk0
  rw [cv2 hk (by omega)]
  exact va_lald C.1 C.2.1 C.2.2.2.2.2.2.1 E.1 o 3 (wsO_k ho (cellE_lng hk)) rfl hin hd (k p e R s m args below meth c H locs cells slots Q0 ls C E hl hr hk0)
theorem s_aald {o o' c0 n : Nat} {i : Int32} (hd : decode (mcc M) pc = .ok (.aaload, 1)) (hk : kd o = (3, c0, n)) (ho : o < z) (hin : vp_in i n) (hv : st.2.2 o i.toNatClampNeg = some o') (k : Rn g d z zf M (pc + 1) L (.ref o' :: S) st Q) : Rn g d z zf M pc L (.int i :: .ref o :: S) st Q := by
  intro p e R s m args below meth c H locs cells slots Q0 ls C E hl hr hk0
  rw [cv2 hk (by omega)]
  refine va_aldq C.1 C.2.1 C.2.2.2.2.2.2.1 E.1 o 4 (wsO_k ho (cellE_rfs hk)) rfl hin hd ?_
  rw [hv]
  exact k p e R s m args below meth c H locs cells slots Q0 ls C E hl hr hk0
theorem putI_set {o c n j : Nat} {x : Int32} (hk : kd o = (1, c, n)) (ho : o < z) : (wsO g z st).set o (gb g + o, .inl (gA g c, n, .inl (upd (st.1 o) j x))) = wsO g z (putI st o j x) :=
  wsO_set ho (by rw [cellE_arr hk]; simp [putI]) (fun a ha => by simp [putI, ha])
theorem cv3 {o a b c : Nat} (h : kd o = (a, b, c)) (ha : a < 9) (i : Int32) (v : Value) : (v :: Value.int i :: .ref o :: S).map (cv g) = cv g v :: .int i :: .ref (gb g + o) :: S.map (cv g) := by rw [List.map_cons, cv2 h ha]
theorem s_iast {o n : Nat} {i x : Int32} (hd : decode (mcc M) pc = .ok (.iastore, 1)) (hk : kd o = (1, 0, n)) (ho : o < z) (hin : vp_in i n) (k : Rn g d z zf M (pc + 1) L S (putI st o i.toNatClampNeg x) Q) : Rn g d z zf M pc L (.int x :: .int i :: .ref o :: S) st Q := by
  intro p e R s m args below meth c H locs cells slots Q0 ls C E hl hr hk0
  rw [cv3 hk (by omega)]
  have he := wsO_k (g := g) (st := st) ho (cellE_arr hk)
  have hD := wsO_D g z st
  refine W.iast C.1 C.2.1 (E.1 o _ he) ((C.2.2.2.2.2.2.1.2 0 _ rfl).1 n (fun j => .int (st.1 o j))) (fun q => by cases q) (by show ¬ (i < 0 ∨ (arrV _ _ _).slots.size ≤ _); rw [arrV_size]; exact hin) rfl rfl hd fun H1 e1 z1 oq => ?_
  refine k p e R s m args below meth c H1 _ cells slots Q0 ls C ⟨?_, E.2.1.put z1 oq (hD.2 o _ he), fun hh => z1.trans (E.2.2 hh)⟩ hl hr hk0
  rw [← putI_set hk ho]
  refine E.1.set hD he ?_ oq
  show H1[_]? = some (vp_cell _ _)
  rw [e1, vp_cell_i, vp_cell_i, arrV_store]
  congr 2
  funext q
  by_cases hq : q = i.toNatClampNeg
  · subst hq; simp [updV, upd]
  · simp [updV, upd, hq]
theorem s_bast {o n : Nat} {i x : Int32} (hd : decode (mcc M) pc = .ok (.bastore, 1)) (hk : kd o = (1, 1, n)) (ho : o < z) (hin : vp_in i n) (k : Rn g d z zf M (pc + 1) L S (putI st o i.toNatClampNeg (vp_nar .byte x)) Q) : Rn g d z zf M pc L (.int x :: .int i :: .ref o :: S) st Q := by
  intro p e R s m args below meth c H locs cells slots Q0 ls C E hl hr hk0
  rw [cv3 hk (by omega)]
  have he := wsO_k (g := g) (st := st) ho (cellE_arr hk)
  have hD := wsO_D g z st
  refine W.bast C.1 C.2.1 (E.1 o _ he) ((C.2.2.2.2.2.2.1.2 1 _ rfl).1 n (fun j => .int (st.1 o j))) (fun q => by cases q) (by show ¬ (i < 0 ∨ (arrV _ _ _).slots.size ≤ _); rw [arrV_size]; exact hin) rfl rfl hd fun H1 e1 z1 oq => ?_
  refine k p e R s m args below meth c H1 _ cells slots Q0 ls C ⟨?_, E.2.1.put z1 oq (hD.2 o _ he), fun hh => z1.trans (E.2.2 hh)⟩ hl hr hk0
  rw [← putI_set hk ho]
  refine E.1.set hD he ?_ oq
  show H1[_]? = some (vp_cell _ _)
  rw [e1, vp_cell_i, vp_cell_i, arrV_store]
  congr 2
  funext q
  by_cases hq : q = i.toNatClampNeg
  · subst hq
    simp [updV, upd, vp_nar]
    try rfl
  · simp [updV, upd, hq]
theorem s_sast {o n : Nat} {i x : Int32} (hd : decode (mcc M) pc = .ok (.sastore, 1)) (hk : kd o = (1, 2, n)) (ho : o < z) (hin : vp_in i n) (k : Rn g d z zf M (pc + 1) L S (putI st o i.toNatClampNeg (vp_nar .short x)) Q) : Rn g d z zf M pc L (.int x :: .int i :: .ref o :: S) st Q := by
  intro p e R s m args below meth c H locs cells slots Q0 ls C E hl hr hk0
  rw [cv3 hk (by omega)]
  have he := wsO_k (g := g) (st := st) ho (cellE_arr hk)
  have hD := wsO_D g z st
  refine W.sast C.1 C.2.1 (E.1 o _ he) ((C.2.2.2.2.2.2.1.2 2 _ rfl).1 n (fun j => .int (st.1 o j))) (fun q => by cases q) (by show ¬ (i < 0 ∨ (arrV _ _ _).slots.size ≤ _); rw [arrV_size]; exact hin) rfl rfl hd fun H1 e1 z1 oq => ?_
  refine k p e R s m args below meth c H1 _ cells slots Q0 ls C ⟨?_, E.2.1.put z1 oq (hD.2 o _ he), fun hh => z1.trans (E.2.2 hh)⟩ hl hr hk0
  rw [← putI_set hk ho]
  refine E.1.set hD he ?_ oq
  show H1[_]? = some (vp_cell _ _)
  rw [e1, vp_cell_i, vp_cell_i, arrV_store]
  congr 2
  funext q
  by_cases hq : q = i.toNatClampNeg
  · subst hq
    simp [updV, upd, vp_nar]
    try rfl
  · simp [updV, upd, hq]
theorem s_last {o c0 n : Nat} {i : Int32} {x : Int64} (hd : decode (mcc M) pc = .ok (.lastore, 1)) (hk : kd o = (2, c0, n)) (ho : o < z) (hin : vp_in i n) (k : Rn g d z zf M (pc + 1) L S (putJ st o i.toNatClampNeg x) Q) : Rn g d z zf M pc L (.long x :: .int i :: .ref o :: S) st Q := by
  intro p e R s m args below meth c H locs cells slots Q0 ls C E hl hr hk0
  rw [cv3 hk (by omega)]
  have he := wsO_k (g := g) (st := st) ho (cellE_lng hk)
  have hD := wsO_D g z st
  refine W.last C.1 C.2.1 (E.1 o _ he) ((C.2.2.2.2.2.2.1.2 3 _ rfl).1 n (fun j => .long (st.2.1 o j))) (fun q => by cases q) (by show ¬ (i < 0 ∨ (arrV _ _ _).slots.size ≤ _); rw [arrV_size]; exact hin) rfl rfl hd fun H1 e1 z1 oq => ?_
  refine k p e R s m args below meth c H1 _ cells slots Q0 ls C ⟨?_, E.2.1.put z1 oq (hD.2 o _ he), fun hh => z1.trans (E.2.2 hh)⟩ hl hr hk0
  have hset : (wsO g z st).set o (gb g + o, .inl (gA g 3, n, .inr (.inl (vp_updL (st.2.1 o) i.toNatClampNeg x)))) = wsO g z (putJ st o i.toNatClampNeg x) :=
    wsO_set ho (by rw [cellE_lng hk]; simp [putJ]) (fun a ha => by simp [putJ, ha])
  rw [← hset]
  refine E.1.set hD he ?_ oq
  show H1[_]? = some (vp_cell _ _)
  rw [e1, vp_cell_l, vp_cell_l, arrV_store]
  congr 2
  funext q
  by_cases hq : q = i.toNatClampNeg
  · subst hq; simp [updV, vp_updL]
  · simp [updV, vp_updL, hq]
theorem s_aast {o o' c0 n nn : Nat} {i : Int32} (hd : decode (mcc M) pc = .ok (.aastore, 1)) (hk : kd o = (3, c0, n)) (ho : o < z) (hk' : kd o' = (0, 6, nn)) (ho' : o' < z) (hin : vp_in i n) (k : Rn g d z zf M (pc + 1) L S (putR st o i.toNatClampNeg (some o')) Q) : Rn g d z zf M pc L (.ref o' :: .int i :: .ref o :: S) st Q := by
  intro p e R s m args below meth c H locs cells slots Q0 ls C E hl hr hk0
  rw [cv3 hk (by omega), ref_cv hk' (by omega)]
  have he := wsO_k (g := g) (st := st) ho (cellE_rfs hk)
  have he' := wsO_k (g := g) (st := st) ho' (cellE_obj hk')
  have hD := wsO_D g z st
  have hlt : i.toNatClampNeg < n := Nat.not_le.mp fun q => hin (Or.inr q)
  have h0 : ¬ i < 0 := fun q => hin (Or.inl q)
  obtain ⟨r', hr', cellV, g1, g2, g3, -⟩ := E.1 o' _ he'
  have hcls := (C.2.2.2.2.2.2.1.1 6 _ (cl_at (by omega))).2
  obtain ⟨kA, comp, k1, k2, k3, -⟩ := (C.2.2.2.2.2.2.1.2 4 _ rfl).2
  have hcomp : comp = (gD g).1 6 := Option.some.inj (k3.symm.trans hcls.1)
  subst hcomp
  obtain ⟨kC, hkC, -⟩ := hcls.2
  refine W.aast C.1 C.2.1 (E.1 o _ he) (fun q h => by cases h) (fun h => by cases h) k1 k2 rfl hkC ⟨h0, by show _ < (arrV _ _ _).slots.size; rw [arrV_size]; exact hlt⟩ g1 (fun q h => by rw [g3] at h; cases h) (by rw [g2]; exact hkC) (by rw [g2]; exact va_assign hcls) rfl rfl hd fun H1 e1 z1 oq => ?_
  refine k p e R s m args below meth c H1 _ cells slots Q0 ls C ⟨?_, E.2.1.put z1 oq (hD.2 o _ he), fun hh => z1.trans (E.2.2 hh)⟩ hl hr hk0
  have hset : (wsO g z st).set o (gb g + o, .inl (gA g 4, n, .inr (.inr (.inr (.inr (va_up (fun j => (st.2.2 o j).map (ad g)) i.toNatClampNeg (some (gb g + o')))))))) = wsO g z (putR st o i.toNatClampNeg (some o')) := by
    refine wsO_set ho (by
      rw [cellE_rfs hk]
      have e9 : va_up (fun j => (st.2.2 o j).map (ad g)) i.toNatClampNeg (some (gb g + o')) = fun j => ((putR st o i.toNatClampNeg (some o')).2.2 o j).map (ad g) := by
        funext j
        by_cases hj : j = i.toNatClampNeg
        · simp [putR, va_up, hj, ad_lo (kd_1000 hk' (by omega))]
        · simp [putR, va_up, hj]
      rw [e9]) (fun a ha => by simp [putR, ha])
  rw [← hset]
  refine E.1.set hD he ?_ oq
  show H1[_]? = some (vp_cell _ _)
  rw [e1, vp_cell_q, vp_cell_q, arrV_store]
  congr 2
  funext q
  by_cases hq : q = i.toNatClampNeg
  · subst hq
    simp [updV, va_up, va_rf]
  · simp [updV, va_up, hq]
theorem s_alen {o t c0 n : Nat} {v : Int32} (hd : decode (mcc M) pc = .ok (.arraylength, 1)) (hk : kd o = (t, c0, n)) (ht : t = 1 ∧ c0 < 3 ∨ t = 2 ∨ t = 3) (ho : o < z) (hv : Int32.ofNat n = v) (k : Rn g d z zf M (pc + 1) L (.int v :: S) st Q) : Rn g d z zf M pc L (.ref o :: S) st Q := by
  intro p e R s m args below meth c H locs cells slots Q0 ls C E hl hr hk0
  have e0 : (Value.ref o :: S).map (cv g) = .ref (gb g + o) :: S.map (cv g) := by rw [List.map_cons, ref_cv hk (by omega)]
  rw [e0]
  have kk := k p e R s m args below meth c H locs cells slots Q0 ls C E hl hr hk0
  rcases ht with ⟨rfl, hc⟩ | rfl | rfl
  · rcases (show c0 = 0 ∨ c0 = 1 ∨ c0 = 2 by omega) with rfl | rfl | rfl
    · exact va_alen C.1 C.2.1 C.2.2.2.2.2.2.1 E.1 o 0 (wsO_k ho (cellE_arr hk)) rfl hv hd kk
    · exact va_alen C.1 C.2.1 C.2.2.2.2.2.2.1 E.1 o 1 (wsO_k ho (cellE_arr hk)) rfl hv hd kk
    · exact va_alen C.1 C.2.1 C.2.2.2.2.2.2.1 E.1 o 2 (wsO_k ho (cellE_arr hk)) rfl hv hd kk
  · exact va_alen C.1 C.2.1 C.2.2.2.2.2.2.1 E.1 o 3 (wsO_k ho (cellE_lng hk)) rfl hv hd kk
  · exact va_alen C.1 C.2.1 C.2.2.2.2.2.2.1 E.1 o 4 (wsO_k ho (cellE_rfs hk)) rfl hv hd kk
end CALC4
