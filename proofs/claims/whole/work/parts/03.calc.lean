/-! objects by numbers, as the law makes them: (0, class, fields), (1, kind of array, length), (2, _, length of longs), (3, _, length of references) -/
def kdL : List (Nat × Nat × Nat) := [(0, 7, 13), (0, 5, 5), (1, 0, 56), (1, 0, 7), (1, 0, 7), (0, 5, 5), (1, 0, 56), (1, 0, 7), (1, 0, 7), (0, 5, 5), (1, 0, 56), (1, 0, 7), (1, 0, 7), (0, 2, 9), (1, 0, 15), (1, 0, 15), (1, 0, 15), (0, 5, 5), (1, 0, 56), (1, 0, 7), (1, 0, 7), (1, 0, 70), (0, 1, 6), (1, 0, 40), (1, 0, 40), (1, 0, 40), (1, 0, 40), (0, 0, 4), (1, 0, 50), (1, 0, 24), (3, 0, 6), (1, 0, 6), (1, 0, 6), (0, 4, 4), (1, 0, 120), (0, 3, 6), (1, 0, 128), (1, 0, 128), (1, 0, 128), (1, 0, 6), (0, 3, 6), (1, 0, 128), (1, 0, 128), (1, 0, 128), (1, 0, 6), (0, 6, 4), (2, 0, 60), (0, 6, 4), (2, 0, 60), (0, 6, 4), (2, 0, 60), (0, 6, 4), (2, 0, 60), (0, 6, 4), (2, 0, 60), (0, 6, 4), (2, 0, 60), (0, 8, 53), (1, 0, 56), (1, 0, 7), (1, 0, 7), (1, 0, 10), (1, 0, 40), (1, 0, 40), (1, 0, 40), (1, 0, 40), (1, 1, 120), (1, 1, 260), (1, 0, 260), (1, 0, 2), (1, 2, 122), (1, 2, 122), (1, 0, 6), (1, 0, 130), (1, 0, 56), (1, 0, 7), (1, 0, 15), (1, 0, 15), (1, 0, 15), (1, 0, 15), (1, 0, 70), (1, 0, 10), (1, 0, 6), (1, 0, 56), (1, 0, 7), (1, 0, 7), (1, 0, 6), (1, 0, 50), (1, 0, 24), (1, 0, 6), (1, 0, 6), (2, 0, 360), (2, 0, 60)]
def SXs (g : Launch × Nat × (Nat → Nat) × (Nat → ClassId) × (Nat → Nat → Nat) × (Nat → ClassId) × Nat × (Nat → Int32)) (U : State) (H : Heap) : Prop :=
  vk_R RX4 73 "zlwtcf" (g.2.2.1 3) U ∧ vk_S 1 [6] [[122, 108, 119, 116, 99, 102]] (fun _ => g.2.2.1 3) (fun _ => g.2.2.1 4) (fun q => g.2.1 ≤ q) U H ∧ va_Z "java/lang/String" "COMPACT_STRINGS" "Z" (.int 1) (fun q => g.2.1 ≤ q) U H
/-! The calculus: Rn, a judgement over abstract states (objects by numbers), light enough for whole methods; its rows rest on the kit's. -/
abbrev Gt : Type := Launch × Nat × (Nat → Nat) × (Nat → ClassId) × (Nat → Nat → Nat) × (Nat → ClassId) × Nat × (Nat → Int32)
abbrev gb (g : Gt) : Nat := g.2.1
abbrev gs (g : Gt) : Nat → Nat := g.2.2.1
abbrev gD (g : Gt) : va_G := (g.2.2.2.1, g.2.2.2.2.1)
abbrev gA (g : Gt) : Nat → ClassId := g.2.2.2.2.2.1
abbrev gL (g : Gt) : Nat := g.2.2.2.2.2.2.1
abbrev gX (g : Gt) : Nat → Int32 := g.2.2.2.2.2.2.2
abbrev St : Type := (Nat → Nat → Int32) × (Nat → Nat → Int64) × (Nat → Nat → Option Nat)
abbrev Mt : Type := ByteArray × Nat × Option FieldType × MethodName
abbrev mcc (M : Mt) : ByteArray := M.1
abbrev mml (M : Mt) : Nat := M.2.1
abbrev mret (M : Mt) : Option FieldType := M.2.2.1
abbrev my (M : Mt) : MethodName := M.2.2.2
def ad (g : Gt) (o : Nat) : Nat := if o < 1000 then gb g + o else gs g (o - 1000)
def cv (g : Gt) : Value → Value := fun v => match v with
  | .ref o => .ref (ad g o)
  | .int x => .int x
  | .long x => .long x
  | .float x => .float x
  | .double x => .double x
  | .null => .null
  | v => v
def isRf (ty : FieldType) : Bool := match ty with
  | .object _ => true
  | .array _ => true
  | _ => false
def fTy (ci : Nat) : Nat → FieldType := match ci with
  | 0 => tyX0
  | 1 => tyX1
  | 2 => tyX2
  | 3 => tyX3
  | 4 => tyX4
  | 5 => tyX5
  | 6 => tyX6
  | 7 => tyX7
  | _ => tyX8
def aT (c : Nat) : FieldType := match c with
  | 0 => .int
  | 1 => .byte
  | 2 => .short
  | 3 => .long
  | _ => .object RX6
def tysG (g : Gt) : List (ClassId × FieldType) := [(gA g 0, .int), (gA g 1, .byte), (gA g 2, .short), (gA g 3, .long), (gA g 4, .object RX6)]
def fVal (g : Gt) (st : St) (o ci j : Nat) : Value := if isRf (fTy ci j) then va_rf ((st.2.2 o j).map (ad g)) else .int (st.1 o j)
def cellE (g : Gt) (st : St) (o : Nat) (k : Nat × Nat × Nat) : va_E := match k with
  | (0, ci, n) => .inr (ci, (List.range n).map (fVal g st o ci))
  | (1, c, n) => .inl (gA g c, n, .inl (st.1 o))
  | (2, _, n) => .inl (gA g 3, n, .inr (.inl (st.2.1 o)))
  | (_, _, n) => .inl (gA g 4, n, .inr (.inr (.inr (.inr (fun j => (st.2.2 o j).map (ad g))))))
def kd (o : Nat) : Nat × Nat × Nat := kdL.getD o (9, 0, 0)
def pre (n : Nat) : Nat := ((List.range n).map (fun o => (kd o).2.2)).sum
def slb (z zf : Nat) : Nat := pre zf - pre z
def wsO (g : Gt) (z : Nat) (st : St) : va_W := (List.range z).map (fun o => (gb g + o, cellE g st o (kd o)))
def AA (g : Gt) : Nat → Prop := fun q => gb g ≤ q
def gwl : List Cond := lw_tbl.filter goodWord
def isNst : Cond → Bool := fun c => match c with
  | .fieldLinkNest _ _ _ _ _ _ => true
  | .methodLinkNest _ _ _ _ => true
  | _ => false
def nwl : List Cond := lw_tbl.filter isNst
def tabA (j : Nat) : Int32 := ([-1, 0, 0, 2, 1, 3, 0, 6] : List Int32).getD j 0
def tabO (j : Nat) : Int32 := ([1, 10, 11, 2, 20, 0, 0, 0, 0, 30, 0, 0, 0, 41, 40, 0, 0, 0, 0, 50, 0, 0, 60, 61, 70, 0, 0, 0, 81, 80, 0, 0] : List Int32).getD j 0
/-- what stands below the objects, never written: the script, two tables, the nest's words -/
def SX (g : Gt) (U : State) (H : Heap) : Prop :=
  va_X (gs g 0) (gL g) (gX g) U H ∧ gs g 0 < gb g ∧
  (va_Z RX0 "ABOVE" "[I" (.ref (gs g 1)) (AA g) U H ∧ va_T .int (gs g 1) 8 (fun j => .int (tabA j)) (AA g) U H) ∧
  (va_Z RX0 "OWN" "[I" (.ref (gs g 2)) (AA g) U H ∧ va_T .int (gs g 2) 32 (fun j => .int (tabO j)) (AA g) U H) ∧
  (∀ w ∈ nwl, va_Nw w U) ∧ va_AO RX6 U ∧ SXs g U H
def CX (g : Gt) (z : Nat) (st : St) (U : State) : Prop :=
  va_P (gD g) vwCl (wsO g z st) U.heap ∧ (z < kdL.length → U.heap.size = gb g + z) ∧ va_K (gD g) vwCl (tysG g) U ∧ SX g U U.heap ∧ gb g ≤ U.heap.size
def lh (g : Gt) (ls : Array Slot) (n : Nat) (L : List (Option Value)) : Prop :=
  ls.size = n ∧ lv_wf ls ∧ ∀ (i : Nat) (v : Value), L[i]? = some (some v) → ls[i]? = some (.val (cv g v))
def CT (g : Gt) (M : Mt) (p : Program) (s : State) (m : MethodId) (args : Array Value) (meth : Method) (c : Code) : Prop :=
  p.tables.exec = Jvm.exec ∧ c.code = mcc M ∧ c.maxLocals = mml M ∧ s.vm.findClass (my M).cls = some m.cls ∧ (∀ w ∈ gwl, w.before args s = true) ∧ ((my M).name = "<init>" → meth.name = "<init>") ∧
  va_K (gD g) vwCl (tysG g) s ∧ SX g s s.heap ∧ gb g ≤ s.heap.size
def HS (g : Gt) (z : Nat) (st : St) (s : State) (H : Heap) (locs : List Loc) : Prop :=
  va_P (gD g) vwCl (wsO g z st) H ∧ va_S (AA g) s.heap H locs ∧ (z < kdL.length → H.size = gb g + z)
def RM (d z zf : Nat) (R : Room) (cells slots : Nat) : Prop :=
  d ≤ R.frames ∧ d * 64 ≤ R.locals ∧ cells + (zf - z) ≤ R.cells ∧ slots + slb z zf ≤ R.slots ∧ z ≤ zf
def NR (M : Mt) (v : Int32) : Prop := ∃ ty, mret M = some ty ∧ narrow ty (.int v) = .int v
def isRt (M : Mt) (pc : Nat) (rv : Option Value) : Prop :=
  (decode (mcc M) pc = .ok (.ireturn, 1) ∧ ∃ v, rv = some (.int v) ∧ NR M v) ∨ (decode (mcc M) pc = .ok (.return_, 1) ∧ rv = none ∧ mret M = none) ∨
  (decode (mcc M) pc = .ok (.lreturn, 1) ∧ (∃ v, rv = some (.long v)) ∧ mret M = some .long) ∨ (decode (mcc M) pc = .ok (.areturn, 1) ∧ (∃ o, rv = some (.ref o)) ∧ ∃ n, mret M = some (.object n))
def Rn (g : Gt) (d z zf : Nat) (M : Mt) (pc : Nat) (L : List (Option Value)) (S : List Value) (st : St) (Q : Option Value → St → Prop) : Prop :=
  ∀ (p : Program) (e : Env) (R : Room) (s : State) (m : MethodId) (args : Array Value) (below : List Frame) (meth : Method) (c : Code) (H : Heap) (locs : List Loc) (cells slots : Nat) (Q0 : State → Prop) (ls : Array Slot),
    CT g M p s m args meth c → HS g z st s H locs → lh g ls (mml M) L → RM d z zf R cells slots →
    (∀ (rv : Option Value) (st' : St) (H' : Heap) (locs' : List Loc) (cells' slots' pc' : Nat) (ls' : Array Slot), Q rv st' → HS g zf st' s H' locs' → cells' ≤ cells + (zf - z) → slots' ≤ slots + slb z zf → isRt M pc' rv →
      W p g.1 e R s m args below meth c H' locs' cells' slots' Q0 (F0 m pc' ls' (rv.toList.map (cv g)))) →
    W p g.1 e R s m args below meth c H locs cells slots Q0 (F0 m pc ls (S.map (cv g)))
theorem wsO_len (g : Gt) (z : Nat) (st : St) : (wsO g z st).length = z := by simp [wsO]
theorem wsO_at {g : Gt} {z o : Nat} {st : St} (h : o < z) : (wsO g z st)[o]? = some (gb g + o, cellE g st o (kd o)) := by
  simp [wsO, h]
theorem wsO_D (g : Gt) (z : Nat) (st : St) : va_D (AA g) (wsO g z st) := by
  refine ⟨fun i j p q hi hj e => ?_, fun k q hq => ?_⟩
  · have hi' := (List.getElem?_eq_some_iff.mp hi).1
    have hj' := (List.getElem?_eq_some_iff.mp hj).1
    rw [wsO_len] at hi' hj'
    rw [wsO_at hi'] at hi
    rw [wsO_at hj'] at hj
    cases hi; cases hj
    dsimp only at e
    omega
  · have hk' := (List.getElem?_eq_some_iff.mp hq).1
    rw [wsO_len] at hk'
    rw [wsO_at hk'] at hq
    cases hq
    show gb g ≤ gb g + k
    omega
/-- one cell written: the list of the new state -/
theorem wsO_set {g : Gt} {z o : Nat} {st st' : St} {x : va_E} (h : o < z) (hx : x = cellE g st' o (kd o)) (hs : ∀ a, a ≠ o → st'.1 a = st.1 a ∧ st'.2.1 a = st.2.1 a ∧ st'.2.2 a = st.2.2 a) : (wsO g z st).set o (gb g + o, x) = wsO g z st' := by
  apply List.ext_getElem?
  intro i
  rw [List.getElem?_set]
  by_cases hi : i < z
  · by_cases hio : o = i
    · subst hio
      rw [if_pos rfl, if_pos (by rw [wsO_len]; exact h), wsO_at h, hx]
    · rw [if_neg hio, wsO_at hi, wsO_at hi]
      obtain ⟨e1, e2, e3⟩ := hs i (fun q => hio q.symm)
      have : cellE g st i (kd i) = cellE g st' i (kd i) := by
        rcases hk : kd i with ⟨t, c, n⟩
        have ef : fVal g st i c = fVal g st' i c := by funext j; simp only [fVal, e1, e3]
        unfold cellE
        split <;> first | (simp only [e1, e2, e3, *]; done) | skip
        next ci n' hk' => cases hk'; rw [ef]
      rw [this]
  · have : o ≠ i := by omega
    rw [if_neg this, List.getElem?_eq_none (by rw [wsO_len]; omega), List.getElem?_eq_none (by rw [wsO_len]; omega)]
theorem ad_lo {g : Gt} {o : Nat} (h : o < 1000) : ad g o = gb g + o := by simp [ad, h]
def jsl (x y : Int32) : Int32 := x <<< (y &&& 31)
def jsr (x y : Int32) : Int32 := x >>> (y &&& 31)
def jr (x y : Int32) : Int32 := x - x / y * y
def jus (x y : Int32) : Int32 := (x.toUInt32 >>> (y.toUInt32 &&& Int32.toUInt32 31)).toInt32
section CALC2
variable {g : Gt} {d z zf : Nat} {M : Mt} {pc : Nat} {L : List (Option Value)} {S : List Value} {st : St} {Q : Option Value → St → Prop}
theorem s_iconst {n : Int} {v : Int32} (hd : decode (mcc M) pc = .ok (.iconst n, 1)) (hv : Int32.ofInt n = v) (k : Rn g d z zf M (pc + 1) L (.int v :: S) st Q) : Rn g d z zf M pc L (S) st Q := by
  intro p e R s m args below meth c H locs cells slots Q0 ls C E hl hr hk
  exact lv_iconst C.1 C.2.1 hd hv (k p e R s m args below meth c H locs cells slots Q0 ls C E hl hr hk)
theorem s_bipush {n : Int} {v : Int32} (hd : decode (mcc M) pc = .ok (.bipush n, 2)) (hv : (Int8.ofInt n).toInt32 = v) (k : Rn g d z zf M (pc + 2) L (.int v :: S) st Q) : Rn g d z zf M pc L (S) st Q := by
  intro p e R s m args below meth c H locs cells slots Q0 ls C E hl hr hk
  exact lv_bipush C.1 C.2.1 hd hv (k p e R s m args below meth c H locs cells slots Q0 ls C E hl hr hk)
theorem s_sipush {n : Int} {v : Int32} (hd : decode (mcc M) pc = .ok (.sipush n, 3)) (hv : (Int16.ofInt n).toInt32 = v) (k : Rn g d z zf M (pc + 3) L (.int v :: S) st Q) : Rn g d z zf M pc L (S) st Q := by
  intro p e R s m args below meth c H locs cells slots Q0 ls C E hl hr hk
  exact lv_sipush C.1 C.2.1 hd hv (k p e R s m args below meth c H locs cells slots Q0 ls C E hl hr hk)
theorem s_lconst {n : Fin 2} {v : Int64} (hd : decode (mcc M) pc = .ok (.lconst n, 1)) (hv : Int64.ofNat (n : Nat) = v) (k : Rn g d z zf M (pc + 1) L (.long v :: S) st Q) : Rn g d z zf M pc L (S) st Q := by
  intro p e R s m args below meth c H locs cells slots Q0 ls C E hl hr hk
  exact lv_lconst C.1 C.2.1 hd hv (k p e R s m args below meth c H locs cells slots Q0 ls C E hl hr hk)
theorem s_iload_n {k : Fin 4} {i : Nat} {v : Int32} (hd : decode (mcc M) pc = .ok (.iload_n k, 1)) (hi : (k : Nat) = i) (h : L[i]? = some (some (.int v))) (kk : Rn g d z zf M (pc + 1) L (.int v :: S) st Q) : Rn g d z zf M pc L S st Q := by
  intro p e R s m args below meth c H locs cells slots Q0 ls C E hl hr hk
  exact lv_iload_n C.1 C.2.1 hd hi (hl.2.2 i _ h) (kk p e R s m args below meth c H locs cells slots Q0 ls C E hl hr hk)
theorem s_iload {i : Nat} {v : Int32} (hd : decode (mcc M) pc = .ok (.iload i, 2)) (h : L[i]? = some (some (.int v))) (kk : Rn g d z zf M (pc + 2) L (.int v :: S) st Q) : Rn g d z zf M pc L S st Q := by
  intro p e R s m args below meth c H locs cells slots Q0 ls C E hl hr hk
  exact lv_iload C.1 C.2.1 hd (hl.2.2 i _ h) (kk p e R s m args below meth c H locs cells slots Q0 ls C E hl hr hk)
theorem s_lload_n {k : Fin 4} {i : Nat} {v : Int64} (hd : decode (mcc M) pc = .ok (.lload_n k, 1)) (hi : (k : Nat) = i) (h : L[i]? = some (some (.long v))) (kk : Rn g d z zf M (pc + 1) L (.long v :: S) st Q) : Rn g d z zf M pc L S st Q := by
  intro p e R s m args below meth c H locs cells slots Q0 ls C E hl hr hk
  exact lv_lload_n C.1 C.2.1 hd hi (hl.2.2 i _ h) (kk p e R s m args below meth c H locs cells slots Q0 ls C E hl hr hk)
theorem s_lload {i : Nat} {v : Int64} (hd : decode (mcc M) pc = .ok (.lload i, 2)) (h : L[i]? = some (some (.long v))) (kk : Rn g d z zf M (pc + 2) L (.long v :: S) st Q) : Rn g d z zf M pc L S st Q := by
  intro p e R s m args below meth c H locs cells slots Q0 ls C E hl hr hk
  exact lv_lload C.1 C.2.1 hd (hl.2.2 i _ h) (kk p e R s m args below meth c H locs cells slots Q0 ls C E hl hr hk)
theorem s_aload_n {k : Fin 4} {i o : Nat} (hd : decode (mcc M) pc = .ok (.aload_n k, 1)) (hi : (k : Nat) = i) (h : L[i]? = some (some (.ref o))) (kk : Rn g d z zf M (pc + 1) L (.ref o :: S) st Q) : Rn g d z zf M pc L S st Q := by
  intro p e R s m args below meth c H locs cells slots Q0 ls C E hl hr hk
  exact lv_aload_n C.1 C.2.1 hd hi (hl.2.2 i _ h) (kk p e R s m args below meth c H locs cells slots Q0 ls C E hl hr hk)
theorem s_aload {i o : Nat} (hd : decode (mcc M) pc = .ok (.aload i, 2)) (h : L[i]? = some (some (.ref o))) (kk : Rn g d z zf M (pc + 2) L (.ref o :: S) st Q) : Rn g d z zf M pc L S st Q := by
  intro p e R s m args below meth c H locs cells slots Q0 ls C E hl hr hk
  exact lv_aload C.1 C.2.1 hd (hl.2.2 i _ h) (kk p e R s m args below meth c H locs cells slots Q0 ls C E hl hr hk)
def lz (g : Gt) (L : List (Option Value)) : List (Nat × Value) := (List.range L.length).filterMap (fun i => match L[i]? with
  | some (some v) => some (i, cv g v)
  | _ => none)
theorem cv_cat (g : Gt) (v : Value) : (cv g v).category = v.category := by cases v <;> rfl
theorem lh_lz {ls : Array Slot} {n : Nat} (h : lh g ls n L) : lv_has ls n (lz g L) := by
  refine ⟨h.1, h.2.1, fun q hq => ?_⟩
  obtain ⟨i, -, hi⟩ := List.mem_filterMap.mp hq
  split at hi
  · next v hv => cases hi; exact h.2.2 i v hv
  · cases hi
theorem lz_mem {i : Nat} {v : Value} (h : L[i]? = some (some v)) : (i, cv g v) ∈ lz g L := by
  have hi : i < L.length := (List.getElem?_eq_some_iff.mp h).1
  exact List.mem_filterMap.mpr ⟨i, List.mem_range.mpr hi, by rw [h]⟩
/-- no long stands ahead of place i -/
def nlg (L : List (Option Value)) (i : Nat) : Bool := match i with
  | 0 => true
  | k + 1 => match L[k]? with
    | some (some (.long _)) => false
    | some (some (.double _)) => false
    | _ => true
theorem nlg_cat {i j : Nat} {v : Value} (h : nlg L i = true) (hv : L[j]? = some (some v)) (hj : j + 1 = i) : v.category = 1 := by
  subst hj
  unfold nlg at h
  dsimp only at h
  rw [hv] at h
  cases v <;> first | rfl | cases h
theorem lh_set1 {ls' : Array Slot} {n i : Nat} {v : Value} (hc : nlg L i = true) (h : lv_has ls' n ((i, cv g v) :: (lz g L).filter (fun q => !(q.1 == i) && !(q.1 + 1 == i && q.2.category == 2)))) : lh g ls' n (L.set i (some v)) := by
  refine ⟨h.1, h.2.1, fun j w hj => ?_⟩
  rw [List.getElem?_set] at hj
  by_cases hij : i = j
  · subst hij
    rw [if_pos rfl] at hj
    split at hj
    · cases hj; exact h.2.2 (i, cv g v) List.mem_cons_self
    · cases hj
  · rw [if_neg hij] at hj
    refine h.2.2 (j, cv g w) (List.mem_cons_of_mem _ (List.mem_filter.mpr ⟨lz_mem hj, ?_⟩))
    have h1 : (j == i) = false := by simpa using fun q => hij q.symm
    by_cases h2 : j + 1 = i
    · have h3 := nlg_cat hc hj h2
      simp [h1, h2, cv_cat, h3]
    · simp [h1, h2]
theorem lh_set2 {ls' : Array Slot} {n i : Nat} {v : Value} (hc : nlg L i = true) (h : lv_has ls' n ((i, cv g v) :: (lz g L).filter (fun q => !(q.1 == i) && (!(q.1 == i + 1) && !(q.1 + 1 == i && q.2.category == 2))))) : lh g ls' n ((L.set i (some v)).set (i + 1) none) := by
  refine ⟨h.1, h.2.1, fun j w hj => ?_⟩
  rw [List.getElem?_set] at hj
  by_cases hij : i + 1 = j
  · subst hij
    rw [if_pos rfl] at hj
    split at hj <;> cases hj
  · rw [if_neg hij, List.getElem?_set] at hj
    by_cases hij2 : i = j
    · subst hij2
      rw [if_pos rfl] at hj
      split at hj
      · cases hj; exact h.2.2 (i, cv g v) List.mem_cons_self
      · cases hj
    · rw [if_neg hij2] at hj
      refine h.2.2 (j, cv g w) (List.mem_cons_of_mem _ (List.mem_filter.mpr ⟨lz_mem hj, ?_⟩))
      have h1 : (j == i) = false := by simpa using fun q => hij2 q.symm
      have h1' : (j == i + 1) = false := by simpa using fun q => hij q.symm
      by_cases h2 : j + 1 = i
      · have h3 := nlg_cat hc hj h2
        simp [h1, h1', h2, cv_cat, h3]
      · simp [h1, h1', h2]
theorem s_istore_n {k : Fin 4} {i : Nat} {v : Int32} (hd : decode (mcc M) pc = .ok (.istore_n k, 1)) (hi : (k : Nat) = i) (hn : i < mml M) (hc : nlg L i = true) {L9 : List (Option Value)} (hL : (L.set i (some (.int v))) = L9) (kk : Rn g d z zf M (pc + 1) L9 S st Q) : Rn g d z zf M pc L (.int v :: S) st Q := by
  subst hL
  intro p e R s m args below meth c H locs cells slots Q0 ls C E hl hr hk
  exact lv_istore_n C.1 C.2.1 hd hi (lh_lz hl) hn rfl (fun ls' hl' => kk p e R s m args below meth c H locs cells slots Q0 ls' C E (lh_set1 (v := .int v) hc hl') hr hk)
theorem s_istore {i : Nat} {v : Int32} (hd : decode (mcc M) pc = .ok (.istore i, 2)) (hn : i < mml M) (hc : nlg L i = true) {L9 : List (Option Value)} (hL : (L.set i (some (.int v))) = L9) (kk : Rn g d z zf M (pc + 2) L9 S st Q) : Rn g d z zf M pc L (.int v :: S) st Q := by
  subst hL
  intro p e R s m args below meth c H locs cells slots Q0 ls C E hl hr hk
  exact lv_istore C.1 C.2.1 hd (lh_lz hl) hn rfl (fun ls' hl' => kk p e R s m args below meth c H locs cells slots Q0 ls' C E (lh_set1 (v := .int v) hc hl') hr hk)
theorem s_lstore_n {k : Fin 4} {i : Nat} {v : Int64} (hd : decode (mcc M) pc = .ok (.lstore_n k, 1)) (hi : (k : Nat) = i) (hn : i + 1 < mml M) (hc : nlg L i = true) {L9 : List (Option Value)} (hL : ((L.set i (some (.long v))).set (i + 1) none) = L9) (kk : Rn g d z zf M (pc + 1) L9 S st Q) : Rn g d z zf M pc L (.long v :: S) st Q := by
  subst hL
  intro p e R s m args below meth c H locs cells slots Q0 ls C E hl hr hk
  exact lv_lstore_n C.1 C.2.1 hd hi (lh_lz hl) hn rfl (fun ls' hl' => kk p e R s m args below meth c H locs cells slots Q0 ls' C E (lh_set2 (v := .long v) hc hl') hr hk)
theorem s_lstore {i : Nat} {v : Int64} (hd : decode (mcc M) pc = .ok (.lstore i, 2)) (hn : i + 1 < mml M) (hc : nlg L i = true) {L9 : List (Option Value)} (hL : ((L.set i (some (.long v))).set (i + 1) none) = L9) (kk : Rn g d z zf M (pc + 2) L9 S st Q) : Rn g d z zf M pc L (.long v :: S) st Q := by
  subst hL
  intro p e R s m args below meth c H locs cells slots Q0 ls C E hl hr hk
  exact lv_lstore C.1 C.2.1 hd (lh_lz hl) hn rfl (fun ls' hl' => kk p e R s m args below meth c H locs cells slots Q0 ls' C E (lh_set2 (v := .long v) hc hl') hr hk)
theorem s_astore_n {k : Fin 4} {i : Nat} {v : Nat} (hd : decode (mcc M) pc = .ok (.astore_n k, 1)) (hi : (k : Nat) = i) (hn : i < mml M) (hc : nlg L i = true) {L9 : List (Option Value)} (hL : (L.set i (some (.ref v))) = L9) (kk : Rn g d z zf M (pc + 1) L9 S st Q) : Rn g d z zf M pc L (.ref v :: S) st Q := by
  subst hL
  intro p e R s m args below meth c H locs cells slots Q0 ls C E hl hr hk
  exact lv_astore_n C.1 C.2.1 hd hi (lh_lz hl) hn rfl (fun ls' hl' => kk p e R s m args below meth c H locs cells slots Q0 ls' C E (lh_set1 (v := .ref v) hc hl') hr hk)
theorem s_astore {i : Nat} {v : Nat} (hd : decode (mcc M) pc = .ok (.astore i, 2)) (hn : i < mml M) (hc : nlg L i = true) {L9 : List (Option Value)} (hL : (L.set i (some (.ref v))) = L9) (kk : Rn g d z zf M (pc + 2) L9 S st Q) : Rn g d z zf M pc L (.ref v :: S) st Q := by
  subst hL
  intro p e R s m args below meth c H locs cells slots Q0 ls C E hl hr hk
  exact lv_astore C.1 C.2.1 hd (lh_lz hl) hn rfl (fun ls' hl' => kk p e R s m args below meth c H locs cells slots Q0 ls' C E (lh_set1 (v := .ref v) hc hl') hr hk)
theorem s_iinc {i : Nat} {n : Int} {v w : Int32} (hd : decode (mcc M) pc = .ok (.iinc i n, 3)) (h : L[i]? = some (some (.int v))) (hv : v + Int32.ofInt n = w) (hn : i < mml M) (hc : nlg L i = true) {L9 : List (Option Value)} (hL : L.set i (some (.int w)) = L9) (kk : Rn g d z zf M (pc + 3) L9 S st Q) : Rn g d z zf M pc L S st Q := by
  subst hL
  intro p e R s m args below meth c H locs cells slots Q0 ls C E hl hr hk
  obtain ⟨j, hj⟩ := List.getElem?_of_mem (lz_mem (g := g) h)
  exact lv_iinc C.1 C.2.1 hd (lh_lz hl) hj hv hn rfl (fun ls' hl' => kk p e R s m args below meth c H locs cells slots Q0 ls' C E (lh_set1 (v := .int w) hc hl') hr hk)
theorem s_iadd {x y : Int32} (hd : decode (mcc M) pc = .ok (.iadd, 1)) (k : Rn g d z zf M (pc + 1) L (.int (x + y) :: S) st Q) : Rn g d z zf M pc L (.int y :: .int x :: S) st Q := by
  intro p e R s m args below meth c H locs cells slots Q0 ls C E hl hr hk
  exact lv_iadd C.1 C.2.1 hd (k p e R s m args below meth c H locs cells slots Q0 ls C E hl hr hk)
theorem s_isub {x y : Int32} (hd : decode (mcc M) pc = .ok (.isub, 1)) (k : Rn g d z zf M (pc + 1) L (.int (x - y) :: S) st Q) : Rn g d z zf M pc L (.int y :: .int x :: S) st Q := by
  intro p e R s m args below meth c H locs cells slots Q0 ls C E hl hr hk
  exact lv_isub C.1 C.2.1 hd (k p e R s m args below meth c H locs cells slots Q0 ls C E hl hr hk)
theorem s_imul {x y : Int32} (hd : decode (mcc M) pc = .ok (.imul, 1)) (k : Rn g d z zf M (pc + 1) L (.int (x * y) :: S) st Q) : Rn g d z zf M pc L (.int y :: .int x :: S) st Q := by
  intro p e R s m args below meth c H locs cells slots Q0 ls C E hl hr hk
  exact lv_imul C.1 C.2.1 hd (k p e R s m args below meth c H locs cells slots Q0 ls C E hl hr hk)
theorem s_iand {x y : Int32} (hd : decode (mcc M) pc = .ok (.iand, 1)) (k : Rn g d z zf M (pc + 1) L (.int (x &&& y) :: S) st Q) : Rn g d z zf M pc L (.int y :: .int x :: S) st Q := by
  intro p e R s m args below meth c H locs cells slots Q0 ls C E hl hr hk
  exact lv_iand C.1 C.2.1 hd (k p e R s m args below meth c H locs cells slots Q0 ls C E hl hr hk)
theorem s_ior {x y : Int32} (hd : decode (mcc M) pc = .ok (.ior, 1)) (k : Rn g d z zf M (pc + 1) L (.int (x ||| y) :: S) st Q) : Rn g d z zf M pc L (.int y :: .int x :: S) st Q := by
  intro p e R s m args below meth c H locs cells slots Q0 ls C E hl hr hk
  exact lv_ior C.1 C.2.1 hd (k p e R s m args below meth c H locs cells slots Q0 ls C E hl hr hk)
theorem s_ixor {x y : Int32} (hd : decode (mcc M) pc = .ok (.ixor, 1)) (k : Rn g d z zf M (pc + 1) L (.int (x ^^^ y) :: S) st Q) : Rn g d z zf M pc L (.int y :: .int x :: S) st Q := by
  intro p e R s m args below meth c H locs cells slots Q0 ls C E hl hr hk
  exact lv_ixor C.1 C.2.1 hd (k p e R s m args below meth c H locs cells slots Q0 ls C E hl hr hk)
theorem s_ishl {x y : Int32} (hd : decode (mcc M) pc = .ok (.ishl, 1)) (k : Rn g d z zf M (pc + 1) L (.int (jsl x y) :: S) st Q) : Rn g d z zf M pc L (.int y :: .int x :: S) st Q := by
  intro p e R s m args below meth c H locs cells slots Q0 ls C E hl hr hk
  exact lv_ishl C.1 C.2.1 hd (k p e R s m args below meth c H locs cells slots Q0 ls C E hl hr hk)
theorem s_ishr {x y : Int32} (hd : decode (mcc M) pc = .ok (.ishr, 1)) (k : Rn g d z zf M (pc + 1) L (.int (jsr x y) :: S) st Q) : Rn g d z zf M pc L (.int y :: .int x :: S) st Q := by
  intro p e R s m args below meth c H locs cells slots Q0 ls C E hl hr hk
  exact lv_ishr C.1 C.2.1 hd (k p e R s m args below meth c H locs cells slots Q0 ls C E hl hr hk)
theorem s_idiv {x y : Int32} (hd : decode (mcc M) pc = .ok (.idiv, 1)) (hne : ¬ y = 0) (k : Rn g d z zf M (pc + 1) L (.int (x / y) :: S) st Q) : Rn g d z zf M pc L (.int y :: .int x :: S) st Q := by
  intro p e R s m args below meth c H locs cells slots Q0 ls C E hl hr hk
  exact lv_idiv C.1 C.2.1 hd hne (k p e R s m args below meth c H locs cells slots Q0 ls C E hl hr hk)
theorem s_irem {x y : Int32} (hd : decode (mcc M) pc = .ok (.irem, 1)) (hne : ¬ y = 0) (k : Rn g d z zf M (pc + 1) L (.int (jr x y) :: S) st Q) : Rn g d z zf M pc L (.int y :: .int x :: S) st Q := by
  intro p e R s m args below meth c H locs cells slots Q0 ls C E hl hr hk
  exact lv_irem C.1 C.2.1 hd hne (k p e R s m args below meth c H locs cells slots Q0 ls C E hl hr hk)
theorem s_ineg {x : Int32} (hd : decode (mcc M) pc = .ok (.ineg, 1)) (k : Rn g d z zf M (pc + 1) L (.int (-x) :: S) st Q) : Rn g d z zf M pc L (.int x :: S) st Q := by
  intro p e R s m args below meth c H locs cells slots Q0 ls C E hl hr hk
  exact lv_ineg C.1 C.2.1 hd (k p e R s m args below meth c H locs cells slots Q0 ls C E hl hr hk)
theorem s_iushr {x y : Int32} (hd : decode (mcc M) pc = .ok (.iushr, 1)) (k : Rn g d z zf M (pc + 1) L (.int (jus x y) :: S) st Q) : Rn g d z zf M pc L (.int y :: .int x :: S) st Q := by
  intro p e R s m args below meth c H locs cells slots Q0 ls C E hl hr hk
  exact lv_iushr C.1 C.2.1 hd rfl (k p e R s m args below meth c H locs cells slots Q0 ls C E hl hr hk)
theorem s_ladd {x y : Int64} (hd : decode (mcc M) pc = .ok (.ladd, 1)) (k : Rn g d z zf M (pc + 1) L (.long (x + y) :: S) st Q) : Rn g d z zf M pc L (.long y :: .long x :: S) st Q := by
  intro p e R s m args below meth c H locs cells slots Q0 ls C E hl hr hk
  exact lv_ladd C.1 C.2.1 hd (k p e R s m args below meth c H locs cells slots Q0 ls C E hl hr hk)
theorem s_lmul {x y : Int64} (hd : decode (mcc M) pc = .ok (.lmul, 1)) (k : Rn g d z zf M (pc + 1) L (.long (x * y) :: S) st Q) : Rn g d z zf M pc L (.long y :: .long x :: S) st Q := by
  intro p e R s m args below meth c H locs cells slots Q0 ls C E hl hr hk
  exact lv_lmul C.1 C.2.1 hd (k p e R s m args below meth c H locs cells slots Q0 ls C E hl hr hk)
theorem s_land {x y : Int64} (hd : decode (mcc M) pc = .ok (.land, 1)) (k : Rn g d z zf M (pc + 1) L (.long (x &&& y) :: S) st Q) : Rn g d z zf M pc L (.long y :: .long x :: S) st Q := by
  intro p e R s m args below meth c H locs cells slots Q0 ls C E hl hr hk
  exact lv_land C.1 C.2.1 hd (k p e R s m args below meth c H locs cells slots Q0 ls C E hl hr hk)
theorem s_lor {x y : Int64} (hd : decode (mcc M) pc = .ok (.lor, 1)) (k : Rn g d z zf M (pc + 1) L (.long (x ||| y) :: S) st Q) : Rn g d z zf M pc L (.long y :: .long x :: S) st Q := by
  intro p e R s m args below meth c H locs cells slots Q0 ls C E hl hr hk
  exact lv_lor C.1 C.2.1 hd (k p e R s m args below meth c H locs cells slots Q0 ls C E hl hr hk)
theorem s_lshl {x : Int64} {y : Int32} (hd : decode (mcc M) pc = .ok (.lshl, 1)) (k : Rn g d z zf M (pc + 1) L (.long (x <<< (y.toInt64 &&& 63)) :: S) st Q) : Rn g d z zf M pc L (.int y :: .long x :: S) st Q := by
  intro p e R s m args below meth c H locs cells slots Q0 ls C E hl hr hk
  exact lv_lshl C.1 C.2.1 hd rfl (k p e R s m args below meth c H locs cells slots Q0 ls C E hl hr hk)
theorem s_i2l {x : Int32} (hd : decode (mcc M) pc = .ok (.i2l, 1)) (k : Rn g d z zf M (pc + 1) L (.long x.toInt64 :: S) st Q) : Rn g d z zf M pc L (.int x :: S) st Q := by
  intro p e R s m args below meth c H locs cells slots Q0 ls C E hl hr hk
  exact lv_i2l C.1 C.2.1 hd rfl (k p e R s m args below meth c H locs cells slots Q0 ls C E hl hr hk)
theorem s_l2i {x : Int64} (hd : decode (mcc M) pc = .ok (.l2i, 1)) (k : Rn g d z zf M (pc + 1) L (.int x.toInt32 :: S) st Q) : Rn g d z zf M pc L (.long x :: S) st Q := by
  intro p e R s m args below meth c H locs cells slots Q0 ls C E hl hr hk
  exact lv_l2i C.1 C.2.1 hd rfl (k p e R s m args below meth c H locs cells slots Q0 ls C E hl hr hk)
theorem s_i2b {x : Int32} (hd : decode (mcc M) pc = .ok (.i2b, 1)) (k : Rn g d z zf M (pc + 1) L (.int x.toInt8.toInt32 :: S) st Q) : Rn g d z zf M pc L (.int x :: S) st Q := by
  intro p e R s m args below meth c H locs cells slots Q0 ls C E hl hr hk
  exact lv_i2b C.1 C.2.1 hd rfl (k p e R s m args below meth c H locs cells slots Q0 ls C E hl hr hk)
theorem s_i2s {x : Int32} (hd : decode (mcc M) pc = .ok (.i2s, 1)) (k : Rn g d z zf M (pc + 1) L (.int x.toInt16.toInt32 :: S) st Q) : Rn g d z zf M pc L (.int x :: S) st Q := by
  intro p e R s m args below meth c H locs cells slots Q0 ls C E hl hr hk
  exact lv_i2s C.1 C.2.1 hd rfl (k p e R s m args below meth c H locs cells slots Q0 ls C E hl hr hk)
theorem s_i2c {x : Int32} (hd : decode (mcc M) pc = .ok (.i2c, 1)) (k : Rn g d z zf M (pc + 1) L (.int (x.toUInt32 % 65536).toInt32 :: S) st Q) : Rn g d z zf M pc L (.int x :: S) st Q := by
  intro p e R s m args below meth c H locs cells slots Q0 ls C E hl hr hk
  exact lv_i2c C.1 C.2.1 hd rfl (k p e R s m args below meth c H locs cells slots Q0 ls C E hl hr hk)
theorem s_lcmp {x y : Int64} (hd : decode (mcc M) pc = .ok (.lcmp, 1)) (k : Rn g d z zf M (pc + 1) L (.int (lg_cmp x y) :: S) st Q) : Rn g d z zf M pc L (.long y :: .long x :: S) st Q := by
  intro p e R s m args below meth c H locs cells slots Q0 ls C E hl hr hk
  exact W.lcmp C.1 C.2.1 hd (k p e R s m args below meth c H locs cells slots Q0 ls C E hl hr hk)
theorem s_dup {v : Value} (hd : decode (mcc M) pc = .ok (.dup, 1)) (hv : v.category = 1) (k : Rn g d z zf M (pc + 1) L (v :: v :: S) st Q) : Rn g d z zf M pc L (v :: S) st Q := by
  intro p e R s m args below meth c H locs cells slots Q0 ls C E hl hr hk
  exact lv_dup C.1 C.2.1 hd ((cv_cat g v).trans hv) (k p e R s m args below meth c H locs cells slots Q0 ls C E hl hr hk)
theorem s_pop {v : Value} (hd : decode (mcc M) pc = .ok (.pop, 1)) (hv : v.category = 1) (k : Rn g d z zf M (pc + 1) L (S) st Q) : Rn g d z zf M pc L (v :: S) st Q := by
  intro p e R s m args below meth c H locs cells slots Q0 ls C E hl hr hk
  exact lv_pop C.1 C.2.1 hd ((cv_cat g v).trans hv) (k p e R s m args below meth c H locs cells slots Q0 ls C E hl hr hk)
theorem s_dup2 {v w : Value} (hd : decode (mcc M) pc = .ok (.dup2, 1)) (hv : v.category = 1) (hw : w.category = 1) (k : Rn g d z zf M (pc + 1) L (v :: w :: v :: w :: S) st Q) : Rn g d z zf M pc L (v :: w :: S) st Q := by
  intro p e R s m args below meth c H locs cells slots Q0 ls C E hl hr hk
  exact lv_dup2_11 C.1 C.2.1 hd ((cv_cat g v).trans hv) ((cv_cat g w).trans hw) (k p e R s m args below meth c H locs cells slots Q0 ls C E hl hr hk)
theorem s_if_eq {x : Int32} {off : Int} {tgt : Nat} (hd : decode (mcc M) pc = .ok (.ifCond .eq off, 3)) (ht : (pc : Int) + off = (tgt : Int)) (kt : x = 0 → Rn g d z zf M tgt L S st Q) (kf : ¬ x = 0 → Rn g d z zf M (pc + 3) L S st Q) : Rn g d z zf M pc L (.int x :: S) st Q := by
  intro p e R s m args below meth c H locs cells slots Q0 ls C E hl hr hk
  exact lv_if_eq C.1 C.2.1 hd ht (fun q => kt q p e R s m args below meth c H locs cells slots Q0 ls C E hl hr hk) (fun q => kf q p e R s m args below meth c H locs cells slots Q0 ls C E hl hr hk)
theorem s_icmp_eq {x y : Int32} {off : Int} {tgt : Nat} (hd : decode (mcc M) pc = .ok (.if_icmp .eq off, 3)) (ht : (pc : Int) + off = (tgt : Int)) (kt : x = y → Rn g d z zf M tgt L S st Q) (kf : ¬ x = y → Rn g d z zf M (pc + 3) L S st Q) : Rn g d z zf M pc L (.int y :: .int x :: S) st Q := by
  intro p e R s m args below meth c H locs cells slots Q0 ls C E hl hr hk
  exact lv_icmp_eq C.1 C.2.1 hd ht (fun q => kt q p e R s m args below meth c H locs cells slots Q0 ls C E hl hr hk) (fun q => kf q p e R s m args below meth c H locs cells slots Q0 ls C E hl hr hk)
theorem s_if_ne {x : Int32} {off : Int} {tgt : Nat} (hd : decode (mcc M) pc = .ok (.ifCond .ne off, 3)) (ht : (pc : Int) + off = (tgt : Int)) (kt : ¬ x = 0 → Rn g d z zf M tgt L S st Q) (kf : x = 0 → Rn g d z zf M (pc + 3) L S st Q) : Rn g d z zf M pc L (.int x :: S) st Q := by
  intro p e R s m args below meth c H locs cells slots Q0 ls C E hl hr hk
  exact lv_if_ne C.1 C.2.1 hd ht (fun q => kt q p e R s m args below meth c H locs cells slots Q0 ls C E hl hr hk) (fun q => kf q p e R s m args below meth c H locs cells slots Q0 ls C E hl hr hk)
theorem s_icmp_ne {x y : Int32} {off : Int} {tgt : Nat} (hd : decode (mcc M) pc = .ok (.if_icmp .ne off, 3)) (ht : (pc : Int) + off = (tgt : Int)) (kt : ¬ x = y → Rn g d z zf M tgt L S st Q) (kf : x = y → Rn g d z zf M (pc + 3) L S st Q) : Rn g d z zf M pc L (.int y :: .int x :: S) st Q := by
  intro p e R s m args below meth c H locs cells slots Q0 ls C E hl hr hk
  exact lv_icmp_ne C.1 C.2.1 hd ht (fun q => kt q p e R s m args below meth c H locs cells slots Q0 ls C E hl hr hk) (fun q => kf q p e R s m args below meth c H locs cells slots Q0 ls C E hl hr hk)
theorem s_if_lt {x : Int32} {off : Int} {tgt : Nat} (hd : decode (mcc M) pc = .ok (.ifCond .lt off, 3)) (ht : (pc : Int) + off = (tgt : Int)) (kt : x < 0 → Rn g d z zf M tgt L S st Q) (kf : ¬ x < 0 → Rn g d z zf M (pc + 3) L S st Q) : Rn g d z zf M pc L (.int x :: S) st Q := by
  intro p e R s m args below meth c H locs cells slots Q0 ls C E hl hr hk
  exact lv_if_lt C.1 C.2.1 hd ht (fun q => kt q p e R s m args below meth c H locs cells slots Q0 ls C E hl hr hk) (fun q => kf q p e R s m args below meth c H locs cells slots Q0 ls C E hl hr hk)
theorem s_icmp_lt {x y : Int32} {off : Int} {tgt : Nat} (hd : decode (mcc M) pc = .ok (.if_icmp .lt off, 3)) (ht : (pc : Int) + off = (tgt : Int)) (kt : x < y → Rn g d z zf M tgt L S st Q) (kf : ¬ x < y → Rn g d z zf M (pc + 3) L S st Q) : Rn g d z zf M pc L (.int y :: .int x :: S) st Q := by
  intro p e R s m args below meth c H locs cells slots Q0 ls C E hl hr hk
  exact lv_icmp_lt C.1 C.2.1 hd ht (fun q => kt q p e R s m args below meth c H locs cells slots Q0 ls C E hl hr hk) (fun q => kf q p e R s m args below meth c H locs cells slots Q0 ls C E hl hr hk)
theorem s_if_ge {x : Int32} {off : Int} {tgt : Nat} (hd : decode (mcc M) pc = .ok (.ifCond .ge off, 3)) (ht : (pc : Int) + off = (tgt : Int)) (kt : 0 ≤ x → Rn g d z zf M tgt L S st Q) (kf : ¬ 0 ≤ x → Rn g d z zf M (pc + 3) L S st Q) : Rn g d z zf M pc L (.int x :: S) st Q := by
  intro p e R s m args below meth c H locs cells slots Q0 ls C E hl hr hk
  exact lv_if_ge C.1 C.2.1 hd ht (fun q => kt q p e R s m args below meth c H locs cells slots Q0 ls C E hl hr hk) (fun q => kf q p e R s m args below meth c H locs cells slots Q0 ls C E hl hr hk)
theorem s_icmp_ge {x y : Int32} {off : Int} {tgt : Nat} (hd : decode (mcc M) pc = .ok (.if_icmp .ge off, 3)) (ht : (pc : Int) + off = (tgt : Int)) (kt : y ≤ x → Rn g d z zf M tgt L S st Q) (kf : ¬ y ≤ x → Rn g d z zf M (pc + 3) L S st Q) : Rn g d z zf M pc L (.int y :: .int x :: S) st Q := by
  intro p e R s m args below meth c H locs cells slots Q0 ls C E hl hr hk
  exact lv_icmp_ge C.1 C.2.1 hd ht (fun q => kt q p e R s m args below meth c H locs cells slots Q0 ls C E hl hr hk) (fun q => kf q p e R s m args below meth c H locs cells slots Q0 ls C E hl hr hk)
theorem s_if_gt {x : Int32} {off : Int} {tgt : Nat} (hd : decode (mcc M) pc = .ok (.ifCond .gt off, 3)) (ht : (pc : Int) + off = (tgt : Int)) (kt : 0 < x → Rn g d z zf M tgt L S st Q) (kf : ¬ 0 < x → Rn g d z zf M (pc + 3) L S st Q) : Rn g d z zf M pc L (.int x :: S) st Q := by
  intro p e R s m args below meth c H locs cells slots Q0 ls C E hl hr hk
  exact lv_if_gt C.1 C.2.1 hd ht (fun q => kt q p e R s m args below meth c H locs cells slots Q0 ls C E hl hr hk) (fun q => kf q p e R s m args below meth c H locs cells slots Q0 ls C E hl hr hk)
theorem s_icmp_gt {x y : Int32} {off : Int} {tgt : Nat} (hd : decode (mcc M) pc = .ok (.if_icmp .gt off, 3)) (ht : (pc : Int) + off = (tgt : Int)) (kt : y < x → Rn g d z zf M tgt L S st Q) (kf : ¬ y < x → Rn g d z zf M (pc + 3) L S st Q) : Rn g d z zf M pc L (.int y :: .int x :: S) st Q := by
  intro p e R s m args below meth c H locs cells slots Q0 ls C E hl hr hk
  exact lv_icmp_gt C.1 C.2.1 hd ht (fun q => kt q p e R s m args below meth c H locs cells slots Q0 ls C E hl hr hk) (fun q => kf q p e R s m args below meth c H locs cells slots Q0 ls C E hl hr hk)
theorem s_if_le {x : Int32} {off : Int} {tgt : Nat} (hd : decode (mcc M) pc = .ok (.ifCond .le off, 3)) (ht : (pc : Int) + off = (tgt : Int)) (kt : x ≤ 0 → Rn g d z zf M tgt L S st Q) (kf : ¬ x ≤ 0 → Rn g d z zf M (pc + 3) L S st Q) : Rn g d z zf M pc L (.int x :: S) st Q := by
  intro p e R s m args below meth c H locs cells slots Q0 ls C E hl hr hk
  exact lv_if_le C.1 C.2.1 hd ht (fun q => kt q p e R s m args below meth c H locs cells slots Q0 ls C E hl hr hk) (fun q => kf q p e R s m args below meth c H locs cells slots Q0 ls C E hl hr hk)
theorem s_icmp_le {x y : Int32} {off : Int} {tgt : Nat} (hd : decode (mcc M) pc = .ok (.if_icmp .le off, 3)) (ht : (pc : Int) + off = (tgt : Int)) (kt : x ≤ y → Rn g d z zf M tgt L S st Q) (kf : ¬ x ≤ y → Rn g d z zf M (pc + 3) L S st Q) : Rn g d z zf M pc L (.int y :: .int x :: S) st Q := by
  intro p e R s m args below meth c H locs cells slots Q0 ls C E hl hr hk
  exact lv_icmp_le C.1 C.2.1 hd ht (fun q => kt q p e R s m args below meth c H locs cells slots Q0 ls C E hl hr hk) (fun q => kf q p e R s m args below meth c H locs cells slots Q0 ls C E hl hr hk)
theorem s_goto {off : Int} {tgt : Nat} (hd : decode (mcc M) pc = .ok (.goto off, 3)) (ht : (pc : Int) + off = (tgt : Int)) (k : Rn g d z zf M tgt L S st Q) : Rn g d z zf M pc L S st Q := by
  intro p e R s m args below meth c H locs cells slots Q0 ls C E hl hr hk
  exact lv_goto C.1 C.2.1 hd ht (k p e R s m args below meth c H locs cells slots Q0 ls C E hl hr hk)
theorem s_tin {dflt lo hi : Int} {offs : Array Int} {len : Nat} {x : Int32} {off : Int} {tgt : Nat} (hd : decode (mcc M) pc = .ok (.tableswitch dflt lo hi offs, len)) (h1 : ¬ x.toInt < lo) (h2 : ¬ hi < x.toInt) (ho : offs[(x.toInt - lo).toNat]? = some off) (ht : (pc : Int) + off = (tgt : Int)) (k : Rn g d z zf M tgt L S st Q) : Rn g d z zf M pc L (.int x :: S) st Q := by
  intro p e R s m args below meth c H locs cells slots Q0 ls C E hl hr hk
  exact lv_tableIn C.1 C.2.1 hd h1 h2 ho ht (k p e R s m args below meth c H locs cells slots Q0 ls C E hl hr hk)
theorem s_tout {dflt lo hi : Int} {offs : Array Int} {len : Nat} {x : Int32} {tgt : Nat} (hd : decode (mcc M) pc = .ok (.tableswitch dflt lo hi offs, len)) (h : x.toInt < lo ∨ hi < x.toInt) (ht : (pc : Int) + dflt = (tgt : Int)) (k : Rn g d z zf M tgt L S st Q) : Rn g d z zf M pc L (.int x :: S) st Q := by
  intro p e R s m args below meth c H locs cells slots Q0 ls C E hl hr hk
  exact lv_tableOut C.1 C.2.1 hd h ht (k p e R s m args below meth c H locs cells slots Q0 ls C E hl hr hk)
theorem s_lsw {dflt : Int} {ps : Array (Int × Int)} {len : Nat} {x : Int32} {off : Int} {tgt : Nat} (hd : decode (mcc M) pc = .ok (.lookupswitch dflt ps, len)) (hp : (ps.toList.zip (ps.toList.drop 1)).all (fun (a, next) => a.1 < next.1) = true) (ho : Op.lookupswitch.offset ps.toList dflt x.toInt = off) (ht : (pc : Int) + off = (tgt : Int)) (k : Rn g d z zf M tgt L S st Q) : Rn g d z zf M pc L (.int x :: S) st Q := by
  intro p e R s m args below meth c H locs cells slots Q0 ls C E hl hr hk
  exact lv_lookup C.1 C.2.1 hd hp ho ht (k p e R s m args below meth c H locs cells slots Q0 ls C E hl hr hk)
theorem s_ldc {index : Nat} {v : Int32} (hd : decode (mcc M) pc = .ok (.ldc index, 2)) (hw : Cond.constant (my M).cls index v ∈ gwl) (k : Rn g d z zf M (pc + 2) L (.int v :: S) st Q) : Rn g d z zf M pc L S st Q := by
  intro p e R s m args below meth c H locs cells slots Q0 ls C E hl hr hk
  exact lv_ldc C.1 C.2.1 C.2.2.2.1 (C.2.2.2.2.1 _ hw) hd (k p e R s m args below meth c H locs cells slots Q0 ls C E hl hr hk)
theorem s_ldcw {index : Nat} {v : Int32} (hd : decode (mcc M) pc = .ok (.ldc_w index, 3)) (hw : Cond.constant (my M).cls index v ∈ gwl) (k : Rn g d z zf M (pc + 3) L (.int v :: S) st Q) : Rn g d z zf M pc L S st Q := by
  intro p e R s m args below meth c H locs cells slots Q0 ls C E hl hr hk
  exact lv_ldcw C.1 C.2.1 C.2.2.2.1 (C.2.2.2.2.1 _ hw) hd (k p e R s m args below meth c H locs cells slots Q0 ls C E hl hr hk)
theorem s_ldc2 {index : Nat} {v : Int64} (hd : decode (mcc M) pc = .ok (.ldc2_w index, 3)) (hw : Cond.constantLong (my M).cls index v ∈ gwl) (k : Rn g d z zf M (pc + 3) L (.long v :: S) st Q) : Rn g d z zf M pc L S st Q := by
  intro p e R s m args below meth c H locs cells slots Q0 ls C E hl hr hk
  exact lv_ldc2 C.1 C.2.1 C.2.2.2.1 (C.2.2.2.2.1 _ hw) hd (k p e R s m args below meth c H locs cells slots Q0 ls C E hl hr hk)
/-- a postcondition may be weakened; a place among the locals may be forgotten; more depth may be there -/
theorem Rn.cq {Q' : Option Value → St → Prop} (h : Rn g d z zf M pc L S st Q) (hq : ∀ rv st', Q rv st' → Q' rv st') : Rn g d z zf M pc L S st Q' := by
  intro p e R s m args below meth c H locs cells slots Q0 ls C E hl hr hk
  exact h p e R s m args below meth c H locs cells slots Q0 ls C E hl hr (fun rv st' H' locs' cells' slots' pc' ls' hQ => hk rv st' H' locs' cells' slots' pc' ls' (hq rv st' hQ))
theorem Rn.lc {L' : List (Option Value)} (h : Rn g d z zf M pc L' S st Q) (hL : ∀ (i : Nat) (v : Value), L'[i]? = some (some v) → L[i]? = some (some v)) : Rn g d z zf M pc L S st Q := by
  intro p e R s m args below meth c H locs cells slots Q0 ls C E hl hr hk
  exact h p e R s m args below meth c H locs cells slots Q0 ls C E ⟨hl.1, hl.2.1, fun i v hv => hl.2.2 i v (hL i v hv)⟩ hr hk
theorem Rn.dp {d' : Nat} (h : Rn g d z zf M pc L S st Q) (hd : d ≤ d') : Rn g d' z zf M pc L S st Q := by
  intro p e R s m args below meth c H locs cells slots Q0 ls C E hl hr hk
  refine h p e R s m args below meth c H locs cells slots Q0 ls C E hl ⟨Nat.le_trans hd hr.1, Nat.le_trans (Nat.mul_le_mul_right 64 hd) hr.2.1, hr.2.2⟩ hk
theorem lc_b {L L' : List (Option Value)} (h : L'.length ≤ L.length) (hh : ∀ i, i < L'.length → L'[i]? = some none ∨ L'[i]? = L[i]?) : ∀ (i : Nat) (v : Value), L'[i]? = some (some v) → L[i]? = some (some v) := by
  intro i v hv
  have hi : i < L'.length := (List.getElem?_eq_some_iff.mp hv).1
  rcases hh i hi with e | e
  · rw [hv] at e; cases e
  · rw [← e]; exact hv
end CALC2
