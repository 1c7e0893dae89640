section T2
variable {g : Gt} {d : Nat} {M : Mt} {pc : Nat} {L : List (Option Value)} {S : List Value} {Q : Option Value → Tt → Prop} {t : Tt}
def imin (x y : Int32) : Int32 := if y < x then y else x
def imax (x y : Int32) : Int32 := if x < y then y else x
theorem t_min {idx : Nat} {x y : Int32} (hd : decode (mcc M) pc = .ok (.invokestatic idx, 3)) (hw : Cond.methodLink (my M).cls idx Lib.Math.min.name ∈ gwl) (hc : (S.map fun v => v.category).sum ≤ 8)
    (k : Rt g (d + 1) M (pc + 3) L (.int (imin x y) :: S) t Q) : Rt g (d + 1) M pc L (.int y :: .int x :: S) t Q := s_min hd hw mmin_s math_i mmin_c hc (by omega) k
theorem t_max {idx : Nat} {x y : Int32} (hd : decode (mcc M) pc = .ok (.invokestatic idx, 3)) (hw : Cond.methodLink (my M).cls idx Lib.Math.max.name ∈ gwl) (hc : (S.map fun v => v.category).sum ≤ 8)
    (k : Rt g (d + 1) M (pc + 3) L (.int (imax x y) :: S) t Q) : Rt g (d + 1) M pc L (.int y :: .int x :: S) t Q := s_max hd hw mmax_s math_i mmax_c hc (by omega) k
theorem t_nmI {x : Int32} (k : ∀ y : Int32, y = x → Rt g d M pc L (.int y :: S) t Q) : Rt g d M pc L (.int x :: S) t Q := k x rfl
theorem t_nmJ {x : Int64} (k : ∀ y : Int64, y = x → Rt g d M pc L (.long y :: S) t Q) : Rt g d M pc L (.long x :: S) t Q := k x rfl
def LC (a b : List (Option Value)) : Prop := ∀ (i : Nat) (v : Value), a[i]? = some (some v) → b[i]? = some (some v)
theorem lc_nil {b : List (Option Value)} : LC [] b := fun i v h => by simp at h
theorem lc_none {a b : List (Option Value)} {y : Option Value} (h : LC a b) : LC (none :: a) (y :: b) := by
  intro i v hi
  match i, hi with
  | 0, hi => simp at hi
  | i + 1, hi => simpa using h i v (by simpa using hi)
theorem lc_some {a b : List (Option Value)} {x : Option Value} (h : LC a b) : LC (x :: a) (x :: b) := by
  intro i v hi
  match i, hi with
  | 0, hi => simpa using hi
  | i + 1, hi => simpa using h i v (by simpa using hi)
theorem t_cmp_lt {x y : Int64} {off : Int} {tgt : Nat} (h1 : decode (mcc M) pc = .ok (.lcmp, 1)) (h2 : decode (mcc M) (pc + 1) = .ok (.ifCond .lt off, 3)) (ht : ((pc + 1 : Nat) : Int) + off = (tgt : Int)) (kt : x < y → Rt g d M tgt L S t Q) (kf : ¬ x < y → Rt g d M (pc + 4) L S t Q) : Rt g d M pc L (.long y :: .long x :: S) t Q :=
  s_lcmp h1 (s_if_lt h2 ht (fun c => kt ((lg_cmp_lt x y).mp c)) (fun c => kf (fun q => c ((lg_cmp_lt x y).mpr q))))
theorem t_cmp_ge {x y : Int64} {off : Int} {tgt : Nat} (h1 : decode (mcc M) pc = .ok (.lcmp, 1)) (h2 : decode (mcc M) (pc + 1) = .ok (.ifCond .ge off, 3)) (ht : ((pc + 1 : Nat) : Int) + off = (tgt : Int)) (kt : y ≤ x → Rt g d M tgt L S t Q) (kf : ¬ y ≤ x → Rt g d M (pc + 4) L S t Q) : Rt g d M pc L (.long y :: .long x :: S) t Q :=
  s_lcmp h1 (s_if_ge h2 ht (fun c => kt ((lg_cmp_ge x y).mp c)) (fun c => kf (fun q => c ((lg_cmp_ge x y).mpr q))))
theorem t_cmp_gt {x y : Int64} {off : Int} {tgt : Nat} (h1 : decode (mcc M) pc = .ok (.lcmp, 1)) (h2 : decode (mcc M) (pc + 1) = .ok (.ifCond .gt off, 3)) (ht : ((pc + 1 : Nat) : Int) + off = (tgt : Int)) (kt : y < x → Rt g d M tgt L S t Q) (kf : ¬ y < x → Rt g d M (pc + 4) L S t Q) : Rt g d M pc L (.long y :: .long x :: S) t Q :=
  s_lcmp h1 (s_if_gt h2 ht (fun c => kt ((lg_cmp_gt x y).mp c)) (fun c => kf (fun q => c ((lg_cmp_gt x y).mpr q))))
theorem t_cmp_le {x y : Int64} {off : Int} {tgt : Nat} (h1 : decode (mcc M) pc = .ok (.lcmp, 1)) (h2 : decode (mcc M) (pc + 1) = .ok (.ifCond .le off, 3)) (ht : ((pc + 1 : Nat) : Int) + off = (tgt : Int)) (kt : x ≤ y → Rt g d M tgt L S t Q) (kf : ¬ x ≤ y → Rt g d M (pc + 4) L S t Q) : Rt g d M pc L (.long y :: .long x :: S) t Q :=
  s_lcmp h1 (s_if_le h2 ht (fun c => kt ((lg_cmp_le x y).mp c)) (fun c => kf (fun q => c ((lg_cmp_le x y).mpr q))))
theorem t_cmp_eq {x y : Int64} {off : Int} {tgt : Nat} (h1 : decode (mcc M) pc = .ok (.lcmp, 1)) (h2 : decode (mcc M) (pc + 1) = .ok (.ifCond .eq off, 3)) (ht : ((pc + 1 : Nat) : Int) + off = (tgt : Int)) (kt : x = y → Rt g d M tgt L S t Q) (kf : ¬ x = y → Rt g d M (pc + 4) L S t Q) : Rt g d M pc L (.long y :: .long x :: S) t Q :=
  s_lcmp h1 (s_if_eq h2 ht (fun c => kt ((lg_cmp_eq x y).mp c)) (fun c => kf (fun q => c ((lg_cmp_eq x y).mpr q))))
theorem t_cmp_ne {x y : Int64} {off : Int} {tgt : Nat} (h1 : decode (mcc M) pc = .ok (.lcmp, 1)) (h2 : decode (mcc M) (pc + 1) = .ok (.ifCond .ne off, 3)) (ht : ((pc + 1 : Nat) : Int) + off = (tgt : Int)) (kt : ¬ x = y → Rt g d M tgt L S t Q) (kf : x = y → Rt g d M (pc + 4) L S t Q) : Rt g d M pc L (.long y :: .long x :: S) t Q :=
  s_lcmp h1 (s_if_ne h2 ht (fun c => kt (fun q => c ((lg_cmp_eq x y).mpr q))) (fun c => kf ((lg_cmp_eq x y).mp c)))
/-- a call of the names' text -/
theorem t_callStr {M' : Mt} {idx k : Nat} {As rest S' : List Value} {Lc : List (Option Value)} {Qc : Option Value → Tt → Prop} (hd : decode (mcc M) pc = .ok (.invokevirtual idx, 3)) (hm : Ml (my M).cls idx M' As.length) (hin : Cond.instanceMethod (my M') ∈ gwl) (hsel : Cond.selects (my M').cls (my M') (my M') ∈ gwl) (hc : (my M').cls = "java/lang/String")
    (hS : S' = As.reverse ++ .ref 1003 :: rest) (hw : (rest.map fun v => v.category).sum ≤ 8) (hla : (lg_sl ((Value.ref 1003 :: As).map (cv g))).length ≤ mml M') (hL : eL (.ref 1003 :: As) ++ List.replicate k none = Lc)
    (hR : Rt g d M' 0 Lc [] t Qc) (kk : ∀ rv t', Qc rv t' → Rt g (d + 1) M (pc + 3) L (rv.toList ++ rest) t' Q) : Rt g (d + 1) M pc L S' t Q := by
  subst hL
  subst hS
  intro p e R s m args below meth c H locs cells slots Q0 ls C E hl hr hk0
  obtain ⟨hp, hcode, hini, hml, hde, hlk⟩ := hm
  have hM := met_of hR hp (Nat.le_refl _) hla
  obtain ⟨r1, r2, r3, r4, r5⟩ := hr
  have b1 : cells + (93 - 93) ≤ R.cells := by omega
  have b2 : slots + slb 93 93 ≤ R.slots := r4
  have hfr : (rmM d 93 93).frames + 1 ≤ R.frames ∧ 8 + (mml M' + 11) + (rmM d 93 93).locals ≤ R.locals := ⟨r1, by show 8 + (mml M' + 11) + d * 64 ≤ R.locals; omega⟩
  have hrecv := vk_recv (i := 0) C.2.2.2.2.2.2.2.1.2.2.2.2.2.2.2.1 (by omega) E.2.1
  have hpre : PreV s H (my M').cls (gs g 3) (va_Pc ((Value.ref 1003 :: As).map (cv g)) (CX g 93 (up t))) (As.map (cv g)) :=
    ⟨blindCX, by rw [hc]; exact hrecv, fun U hU hW => ⟨by rw [cvS (i := 3)], CX.at C E hU hW⟩⟩
  have est : ((As.reverse ++ .ref 1003 :: rest).map (cv g)) = (As.map (cv g)).reverse ++ .ref (gs g 3) :: rest.map (cv g) := by rw [List.map_append, List.map_reverse, cvS (i := 3)]
  have hwr : 2 * (F0 m pc ls ((As.reverse ++ .ref 1003 :: rest).map (cv g))).monitorRoom + ((rest.map (cv g)).map fun v => v.category).sum ≤ 8 := by rw [rest_cat]; exact lv_room hw
  have run : va_Run p g.1 e R s m args below meth c H locs cells slots (93 - 93) (slb 93 93) (F0 m pc ls ((As.reverse ++ .ref 1003 :: rest).map (cv g))) (rest.map (cv g)) (Qm g 93 (QT Qc) (Value.ref (gs g 3) :: As.map (cv g)).toArray) (AA g) := by
    rcases hlk with h1 | ⟨host, h1⟩
    · exact va_runV (As := As.map (cv g)) (C := (my M').cls) ⟨C.1, C.2.1, C.2.2.1, C.2.2.2.1, C.2.2.2.2.1⟩ hM ⟨callB_of As.length C.2.2.2.2.1 (wsM_in hcode) rfl rfl rfl (C.2.2.2.2.1 _ hini) (C.2.2.2.2.1 _ h1) hde hfr, C.2.2.2.2.1 _ hin, C.2.2.2.2.1 _ hsel⟩ hpre rfl (by simp) hl.1 est hwr hd ⟨b1, b2⟩
    · exact va_runVN (As := As.map (cv g)) (C := (my M').cls) ⟨C.1, C.2.1, C.2.2.1, C.2.2.2.1, C.2.2.2.2.1⟩ hM ⟨va_cnB As.length C.2.2.2.2.1 (wsM_in hcode) rfl rfl rfl (C.2.2.2.2.2.2.2.1.2.2.2.2.1 _ h1) (C.2.2.2.2.1 _ hini) hde hfr, C.2.2.2.2.1 _ hin, C.2.2.2.2.1 _ hsel⟩ hpre rfl (by simp) hl.1 est hwr hd ⟨b1, b2⟩
  refine call_g run E.2.1 (fun rv st' tt H1 locs1 ht hvm hQ hCX hS1 => ?_)
  rw [aft]
  obtain ⟨t', rfl, hQ⟩ := hQ
  exact kk rv t' hQ p e R s m args below meth c H1 locs1 _ _ Q0 ls C ⟨by rw [← ht]; exact hCX.1, hS1, by rw [← ht]; exact hCX.2.1⟩ hl ⟨r1, r2, by omega, by have : slb 93 93 = 0 := Nat.sub_self _; omega, Nat.le_refl _⟩ (fun rv' st'' H'' locs'' cells'' slots'' pc'' ls'' hQ'' hE'' hc'' hs'' hrt'' => hk0 rv' st'' H'' locs'' cells'' slots'' pc'' ls'' hQ'' hE'' (by omega) (by have : slb 93 93 = 0 := Nat.sub_self _; omega) hrt'')
end T2
