section CALC7
variable {g : Gt} {d z zf : Nat} {M : Mt} {pc : Nat} {L : List (Option Value)} {S : List Value} {st : St} {Q : Option Value → St → Prop}
theorem cvS {i : Nat} {v : List Value} : (Value.ref (1000 + i) :: v).map (cv g) = .ref (gs g i) :: v.map (cv g) := by
  rw [List.map_cons]; show Value.ref (ad g (1000 + i)) :: _ = _; unfold ad; rw [if_neg (by omega), Nat.add_sub_cancel_left]
theorem s_scr {i : Int32} (hd : decode (mcc M) pc = .ok (.iaload, 1)) (hin : vp_in i (gL g)) (k : Rn g d z zf M (pc + 1) L (.int (gX g i.toNatClampNeg) :: S) st Q) : Rn g d z zf M pc L (.int i :: .ref 1000 :: S) st Q := by
  intro p e R s m args below meth c H locs cells slots Q0 ls C E hl hr hk0
  have e9 : (Value.int i :: .ref 1000 :: S).map (cv g) = .int i :: .ref (gs g 0) :: S.map (cv g) := by rw [List.map_cons, cvS (i := 0)]; rfl
  rw [e9]
  have X := C.2.2.2.2.2.2.2.1
  exact va_sld C.1 C.2.1 X.1 (Nat.lt_of_lt_of_le X.2.1 C.2.2.2.2.2.2.2.2) (Nat.not_le.mpr X.2.1) E.2.1 hin hd (k p e R s m args below meth c H locs cells slots Q0 ls C E hl hr hk0)
theorem s_slen (hd : decode (mcc M) pc = .ok (.arraylength, 1)) (k : Rn g d z zf M (pc + 1) L (.int (Int32.ofNat (gL g)) :: S) st Q) : Rn g d z zf M pc L (.ref 1000 :: S) st Q := by
  intro p e R s m args below meth c H locs cells slots Q0 ls C E hl hr hk0
  rw [cvS (i := 0)]
  have X := C.2.2.2.2.2.2.2.1
  exact va_slen C.1 C.2.1 X.1 (Nat.lt_of_lt_of_le X.2.1 C.2.2.2.2.2.2.2.2) (Nat.not_le.mpr X.2.1) E.2.1 hd (k p e R s m args below meth c H locs cells slots Q0 ls C E hl hr hk0)
theorem s_gsA {idx : Nat} (hd : decode (mcc M) pc = .ok (.getstatic idx, 3)) (hw : Cond.fieldLink (my M).cls idx RX0 "ABOVE" "[I" ∈ gwl) (k : Rn g d z zf M (pc + 3) L (.ref 1001 :: S) st Q) : Rn g d z zf M pc L S st Q := by
  intro p e R s m args below meth c H locs cells slots Q0 ls C E hl hr hk0
  have kk := k p e R s m args below meth c H locs cells slots Q0 ls C E hl hr hk0
  rw [cvS (i := 1)] at kk
  exact va_gets C.1 C.2.1 C.2.2.2.2.2.2.2.1.2.2.1.1 E.2.1 C.2.2.2.1 (C.2.2.2.2.1 _ hw) (fun _ h => h) hd kk
theorem s_gsO {idx : Nat} (hd : decode (mcc M) pc = .ok (.getstatic idx, 3)) (hw : Cond.fieldLink (my M).cls idx RX0 "OWN" "[I" ∈ gwl) (k : Rn g d z zf M (pc + 3) L (.ref 1002 :: S) st Q) : Rn g d z zf M pc L S st Q := by
  intro p e R s m args below meth c H locs cells slots Q0 ls C E hl hr hk0
  have kk := k p e R s m args below meth c H locs cells slots Q0 ls C E hl hr hk0
  rw [cvS (i := 2)] at kk
  exact va_gets C.1 C.2.1 C.2.2.2.2.2.2.2.1.2.2.2.1.1 E.2.1 C.2.2.2.1 (C.2.2.2.2.1 _ hw) (fun _ h => h) hd kk
theorem s_tabA {i : Int32} (hd : decode (mcc M) pc = .ok (.iaload, 1)) (hin : vp_in i 8) (k : Rn g d z zf M (pc + 1) L (.int (tabA i.toNatClampNeg) :: S) st Q) : Rn g d z zf M pc L (.int i :: .ref 1001 :: S) st Q := by
  intro p e R s m args below meth c H locs cells slots Q0 ls C E hl hr hk0
  have e9 : (Value.int i :: .ref 1001 :: S).map (cv g) = .int i :: .ref (gs g 1) :: S.map (cv g) := by rw [List.map_cons, cvS (i := 1)]; rfl
  rw [e9]
  exact va_ti C.1 C.2.1 C.2.2.2.2.2.2.2.1.2.2.1.2 E.2.1 hin rfl hd (k p e R s m args below meth c H locs cells slots Q0 ls C E hl hr hk0)
theorem s_tabO {i : Int32} (hd : decode (mcc M) pc = .ok (.iaload, 1)) (hin : vp_in i 32) (k : Rn g d z zf M (pc + 1) L (.int (tabO i.toNatClampNeg) :: S) st Q) : Rn g d z zf M pc L (.int i :: .ref 1002 :: S) st Q := by
  intro p e R s m args below meth c H locs cells slots Q0 ls C E hl hr hk0
  have e9 : (Value.int i :: .ref 1002 :: S).map (cv g) = .int i :: .ref (gs g 2) :: S.map (cv g) := by rw [List.map_cons, cvS (i := 2)]; rfl
  rw [e9]
  exact va_ti C.1 C.2.1 C.2.2.2.2.2.2.2.1.2.2.2.1.2 E.2.1 hin rfl hd (k p e R s m args below meth c H locs cells slots Q0 ls C E hl hr hk0)
/-- the text of the reader's names -/
theorem s_ldcS (hd : decode (mcc M) pc = .ok (.ldc 73, 2)) (hc : (my M).cls = RX4) (k : Rn g d z zf M (pc + 2) L (.ref 1003 :: S) st Q) : Rn g d z zf M pc L S st Q := by
  intro p e R s m args below meth c H locs cells slots Q0 ls C E hl hr hk0
  have kk := k p e R s m args below meth c H locs cells slots Q0 ls C E hl hr hk0
  rw [cvS (i := 3)] at kk
  exact va_ldcS C.1 C.2.1 (by rw [← hc]; exact C.2.2.2.1) C.2.2.2.2.2.2.2.1.2.2.2.2.2.2.1 hd kk
theorem s_strV {idx : Nat} (hd : decode (mcc M) pc = .ok (.getfield idx, 3)) (hw : Cond.fieldLink (my M).cls idx "java/lang/String" "value" "[B" ∈ gwl) (k : Rn g d z zf M (pc + 3) L (.ref 1004 :: S) st Q) : Rn g d z zf M pc L (.ref 1003 :: S) st Q := by
  intro p e R s m args below meth c H locs cells slots Q0 ls C E hl hr hk0
  have kk := k p e R s m args below meth c H locs cells slots Q0 ls C E hl hr hk0
  rw [cvS (i := 4)] at kk
  rw [cvS (i := 3)]
  exact vk_getf C.1 C.2.1 (C.2.2.2.2.2.2.2.1.2.2.2.2.2.2.2.1.1 0 (by omega)).2.2.1 E.2.1 C.2.2.2.1 (C.2.2.2.2.1 _ hw) (fun _ h => h) hd kk
theorem s_strC {idx : Nat} (hd : decode (mcc M) pc = .ok (.getfield idx, 3)) (hw : Cond.fieldLink (my M).cls idx "java/lang/String" "coder" "B" ∈ gwl) (k : Rn g d z zf M (pc + 3) L (.int 0 :: S) st Q) : Rn g d z zf M pc L (.ref 1003 :: S) st Q := by
  intro p e R s m args below meth c H locs cells slots Q0 ls C E hl hr hk0
  have kk := k p e R s m args below meth c H locs cells slots Q0 ls C E hl hr hk0
  rw [cvS (i := 3)]
  exact vk_getf C.1 C.2.1 (C.2.2.2.2.2.2.2.1.2.2.2.2.2.2.2.1.1 0 (by omega)).2.1 E.2.1 C.2.2.2.1 (C.2.2.2.2.1 _ hw) (fun _ h => h) hd kk
theorem s_gsC {idx : Nat} (hd : decode (mcc M) pc = .ok (.getstatic idx, 3)) (hw : Cond.fieldLink (my M).cls idx "java/lang/String" "COMPACT_STRINGS" "Z" ∈ gwl) (k : Rn g d z zf M (pc + 3) L (.int 1 :: S) st Q) : Rn g d z zf M pc L S st Q := by
  intro p e R s m args below meth c H locs cells slots Q0 ls C E hl hr hk0
  exact va_gets C.1 C.2.1 C.2.2.2.2.2.2.2.1.2.2.2.2.2.2.2.2 E.2.1 C.2.2.2.1 (C.2.2.2.2.1 _ hw) (fun _ h => h) hd (k p e R s m args below meth c H locs cells slots Q0 ls C E hl hr hk0)
def tabN (j : Nat) : Int32 := ([122, 108, 119, 116, 99, 102] : List Int32).getD j 0
theorem s_tabN {i : Int32} (hd : decode (mcc M) pc = .ok (.baload, 1)) (hin : vp_in i 6) (k : Rn g d z zf M (pc + 1) L (.int (tabN i.toNatClampNeg) :: S) st Q) : Rn g d z zf M pc L (.int i :: .ref 1004 :: S) st Q := by
  intro p e R s m args below meth c H locs cells slots Q0 ls C E hl hr hk0
  have e9 : (Value.int i :: .ref 1004 :: S).map (cv g) = .int i :: .ref (gs g 4) :: S.map (cv g) := by rw [List.map_cons, cvS (i := 4)]; rfl
  rw [e9]
  exact va_tb C.1 C.2.1 (C.2.2.2.2.2.2.2.1.2.2.2.2.2.2.2.1.1 0 (by omega)).2.2.2 E.2.1 hin rfl hd (k p e R s m args below meth c H locs cells slots Q0 ls C E hl hr hk0)
theorem s_tabNl (hd : decode (mcc M) pc = .ok (.arraylength, 1)) (k : Rn g d z zf M (pc + 1) L (.int 6 :: S) st Q) : Rn g d z zf M pc L (.ref 1004 :: S) st Q := by
  intro p e R s m args below meth c H locs cells slots Q0 ls C E hl hr hk0
  rw [cvS (i := 4)]
  exact va_tlen C.1 C.2.1 (C.2.2.2.2.2.2.2.1.2.2.2.2.2.2.2.1.1 0 (by omega)).2.2.2 E.2.1 rfl hd (k p e R s m args below meth c H locs cells slots Q0 ls C E hl hr hk0)
theorem nfw : nativeFrameWords "java/lang/System" "arraycopy" 5 + 19 ≤ 64 := by decide +kernel
def acW (own : String) (idx : Nat) : Prop := Cond.methodLink own idx arraycopyName ∈ gwl ∧ Cond.native arraycopyName ∈ gwl ∧ Cond.static arraycopyName ∈ gwl ∧ Cond.initialized "java/lang/System" ∈ gwl
def cpyI (st : St) (o o' : Nat) (sp dp n : Nat) : St := (fun a => if a = o' then va_cpy (st.1 o) (st.1 o') sp dp n else st.1 a, st.2)
def cpyJ (st : St) (o o' : Nat) (sp dp n : Nat) : St := (st.1, fun a => if a = o' then va_cpy (st.2.1 o) (st.2.1 o') sp dp n else st.2.1 a, st.2.2)
theorem cv5 {o o' a b c a' b' c' : Nat} (h : kd o = (a, b, c)) (ha : a < 9) (h' : kd o' = (a', b', c')) (ha' : a' < 9) (n dp sp : Int32) : (Value.int n :: .int dp :: .ref o' :: .int sp :: .ref o :: S).map (cv g) = .int n :: .int dp :: .ref (gb g + o') :: .int sp :: .ref (gb g + o) :: S.map (cv g) := by
  simp only [List.map_cons]; rw [ref_cv h ha, ref_cv h' ha']; rfl
theorem s_cpyI {o o' idx n0 n1 : Nat} {sp dp n : Int32} (hd : decode (mcc M) pc = .ok (.invokestatic idx, 3)) (hw : acW (my M).cls idx) (hk : kd o = (1, 0, n0)) (ho : o < z) (hk' : kd o' = (1, 0, n1)) (ho' : o' < z) (h1 : ¬ sp < 0) (h2 : ¬ dp < 0) (h3 : ¬ n < 0) (h4 : sp.toNatClampNeg + n.toNatClampNeg ≤ n0) (h5 : dp.toNatClampNeg + n.toNatClampNeg ≤ n1) (hc : (S.map fun v => v.category).sum ≤ 8) (hd1 : 1 ≤ d) (hz : kdL.length ≤ z)
    (k : Rn g d z zf M (pc + 3) L S (cpyI st o o' sp.toNatClampNeg dp.toNatClampNeg n.toNatClampNeg) Q) : Rn g d z zf M pc L (.int n :: .int dp :: .ref o' :: .int sp :: .ref o :: S) st Q := by
  intro p e R s m args below meth c H locs cells slots Q0 ls C E hl hr hk0
  rw [cv5 hk (by omega) hk' (by omega)]
  have h2' : d * 64 ≤ R.locals := hr.2.1
  have hn := nfw
  have hset : (wsO g z st).set o' (gb g + o', .inl (gA g 0, n1, .inl (va_cpy (st.1 o) (st.1 o') sp.toNatClampNeg dp.toNatClampNeg n.toNatClampNeg))) = wsO g z (cpyI st o o' sp.toNatClampNeg dp.toNatClampNeg n.toNatClampNeg) :=
    wsO_set ho' (by rw [cellE_arr hk']; simp [cpyI]) (fun a ha => by simp [cpyI, ha])
  refine va_copyi C.1 C.2.1 (by rw [C.2.2.1]; exact hl.1.symm) C.2.2.2.1 (C.2.2.2.2.1 _ hw.1) (C.2.2.2.2.1 _ hw.2.1) (C.2.2.2.2.1 _ hw.2.2.1) (C.2.2.2.2.1 _ hw.2.2.2) C.2.2.2.2.2.2.1 E.1 (wsO_D g z st) E.2.1 o o' 0 0 (wsO_k ho (cellE_arr hk)) (wsO_k ho' (cellE_arr hk')) rfl rfl rfl h1 h2 h3 h4 h5 (fun i _ => rfl) (Nat.le_trans hd1 hr.1) (by rw [rest_cat]; omega) hd (fun H1 locs1 hP1 _ hS1 => ?_)
  rw [hset] at hP1
  exact k p e R s m args below meth c H1 locs1 cells slots Q0 ls C ⟨hP1, hS1, fun hh => absurd hh (by omega)⟩ hl hr hk0
theorem s_cpyJ {o o' idx c0 c1 n0 n1 : Nat} {sp dp n : Int32} (hd : decode (mcc M) pc = .ok (.invokestatic idx, 3)) (hw : acW (my M).cls idx) (hk : kd o = (2, c0, n0)) (ho : o < z) (hk' : kd o' = (2, c1, n1)) (ho' : o' < z) (h1 : ¬ sp < 0) (h2 : ¬ dp < 0) (h3 : ¬ n < 0) (h4 : sp.toNatClampNeg + n.toNatClampNeg ≤ n0) (h5 : dp.toNatClampNeg + n.toNatClampNeg ≤ n1) (hc : (S.map fun v => v.category).sum ≤ 8) (hd1 : 1 ≤ d) (hz : kdL.length ≤ z)
    (k : Rn g d z zf M (pc + 3) L S (cpyJ st o o' sp.toNatClampNeg dp.toNatClampNeg n.toNatClampNeg) Q) : Rn g d z zf M pc L (.int n :: .int dp :: .ref o' :: .int sp :: .ref o :: S) st Q := by
  intro p e R s m args below meth c H locs cells slots Q0 ls C E hl hr hk0
  rw [cv5 hk (by omega) hk' (by omega)]
  have h2' : d * 64 ≤ R.locals := hr.2.1
  have hn := nfw
  have hset : (wsO g z st).set o' (gb g + o', .inl (gA g 3, n1, .inr (.inl (va_cpy (st.2.1 o) (st.2.1 o') sp.toNatClampNeg dp.toNatClampNeg n.toNatClampNeg)))) = wsO g z (cpyJ st o o' sp.toNatClampNeg dp.toNatClampNeg n.toNatClampNeg) :=
    wsO_set ho' (by rw [cellE_lng hk']; simp [cpyJ]) (fun a ha => by simp [cpyJ, ha])
  refine va_copyl C.1 C.2.1 (by rw [C.2.2.1]; exact hl.1.symm) C.2.2.2.1 (C.2.2.2.2.1 _ hw.1) (C.2.2.2.2.1 _ hw.2.1) (C.2.2.2.2.1 _ hw.2.2.1) (C.2.2.2.2.1 _ hw.2.2.2) C.2.2.2.2.2.2.1 E.1 (wsO_D g z st) E.2.1 o o' 3 3 (wsO_k ho (cellE_lng hk)) (wsO_k ho' (cellE_lng hk')) rfl rfl rfl h1 h2 h3 h4 h5 (fun i _ => rfl) (Nat.le_trans hd1 hr.1) (by rw [rest_cat]; omega) hd (fun H1 locs1 hP1 _ hS1 => ?_)
  rw [hset] at hP1
  exact k p e R s m args below meth c H1 locs1 cells slots Q0 ls C ⟨hP1, hS1, fun hh => absurd hh (by omega)⟩ hl hr hk0
theorem s_min {idx : Nat} {x y : Int32} (hd : decode (mcc M) pc = .ok (.invokestatic idx, 3)) (hw : Cond.methodLink (my M).cls idx Lib.Math.min.name ∈ gwl) (hw2 : Cond.static Lib.Math.min.name ∈ gwl) (hw3 : Cond.initialized "java/lang/Math" ∈ gwl) (hw4 : Cond.code Lib.Math.min.name Lib.Math.min.code 2 (some .int) ∈ gwl) (hc : (S.map fun v => v.category).sum ≤ 8) (hd1 : 1 ≤ d)
    (k : Rn g d z zf M (pc + 3) L (.int (if y < x then y else x) :: S) st Q) : Rn g d z zf M pc L (.int y :: .int x :: S) st Q := by
  intro p e R s m args below meth c H locs cells slots Q0 ls C E hl hr hk0
  have h2' : d * 64 ≤ R.locals := hr.2.1
  exact va_mmin C.1 C.2.1 (by rw [C.2.2.1]; exact hl.1.symm) C.2.2.2.1 (C.2.2.2.2.1 _ hw) (C.2.2.2.2.1 _ hw2) (C.2.2.2.2.1 _ hw3) (C.2.2.2.2.1 _ hw4) (Nat.le_trans hd1 hr.1) (by rw [rest_cat]; omega) (by have := hr.2.2.1; omega) (by have := hr.2.2.2.1; omega) hd (k p e R s m args below meth c H locs cells slots Q0 ls C E hl hr hk0)
theorem s_max {idx : Nat} {x y : Int32} (hd : decode (mcc M) pc = .ok (.invokestatic idx, 3)) (hw : Cond.methodLink (my M).cls idx Lib.Math.max.name ∈ gwl) (hw2 : Cond.static Lib.Math.max.name ∈ gwl) (hw3 : Cond.initialized "java/lang/Math" ∈ gwl) (hw4 : Cond.code Lib.Math.max.name Lib.Math.max.code 2 (some .int) ∈ gwl) (hc : (S.map fun v => v.category).sum ≤ 8) (hd1 : 1 ≤ d)
    (k : Rn g d z zf M (pc + 3) L (.int (if x < y then y else x) :: S) st Q) : Rn g d z zf M pc L (.int y :: .int x :: S) st Q := by
  intro p e R s m args below meth c H locs cells slots Q0 ls C E hl hr hk0
  have h2' : d * 64 ≤ R.locals := hr.2.1
  exact va_mmax C.1 C.2.1 (by rw [C.2.2.1]; exact hl.1.symm) C.2.2.2.1 (C.2.2.2.2.1 _ hw) (C.2.2.2.2.1 _ hw2) (C.2.2.2.2.1 _ hw3) (C.2.2.2.2.1 _ hw4) (Nat.le_trans hd1 hr.1) (by rw [rest_cat]; omega) (by have := hr.2.2.1; omega) (by have := hr.2.2.2.1; omega) hd (k p e R s m args below meth c H locs cells slots Q0 ls C E hl hr hk0)
end CALC7
