-- ===== end of PART A; then your names; then what follows =====
/-! THE CLAIM OUT OF ONE WALK OF THE LAW'S BODY. Your part is whole_start (and what it stands on); all else here is the same for every law, but numbers. -/
def R_law : String := "SkinOfTeethLaw"
def lw_P (b : Addr) (xs : List Int32) (args : Array Value) (s : State) : Prop := args = #[.ref b] ∧ s.IntsAt b xs ∧ xs.length ≤ 3072 ∧ (Jvm.Cond.and given_1 narrow_1).before args s = true
def lw_Q (_ : Array Value) (s : State) (o : Outcome) (t : State) : Prop := o = .returned (some (.int 1)) ∧ Framed s o t [] 600000 7302250
def lw_Z (below : List Frame) (a : Array Value) (s : State) : State → Prop := fun t => ∃ o, t.status = .running ∧ Ended t below o ∧ lw_Q a s o t
/-- the law's own end, with 1 on the stack, nothing written that was there before, its room as the claim has it -/
theorem lw_ret {p : Program} {l : Launch} {e : Env} {s : State} {m : MethodId} {below : List Frame} {meth : Method} {c : Code} {b : Nat} (hx : p.tables.exec = Jvm.exec) (hb : c.code = code) (hr : meth.sig.returnType = ret) (hlocks : meth.locks = false) {pc : Nat} {H : Heap} {ls : Array Slot} (hdg : decode code pc = .ok (.ireturn, 1)) : W p l e room_1 s m #[Value.ref b] below meth c H [] 600000 7302250 (lw_Z below #[Value.ref b] s) (F0 m pc ls [.int 1]) := by
  intro T hT X
  obtain ⟨fs, hret, hrun, hended, hW, hframe⟩ := X.leave (v := some (.int 1)) (hlocks := hlocks) (fun h => by rw [hr] at h; cases h)
  have hmeth' : T.vm.method? m = some meth := X.method'
  refine ⟨T.setFrames fs, ?_, .returned (some (.int 1)), hrun, hended, rfl, ⟨_, rfl⟩, hW, hframe⟩
  jvm_step X.here [X.here.top, hx, hb, hdg, hmeth', hr, ret, narrow_b1]
  (try refine ⟨rfl, ?_⟩); (try refine ⟨rfl, ?_⟩)
  first | (intro acts; rw [hret _ acts rfl rfl rfl]) | rw [hret _ _ rfl rfl rfl]
  exact Steps.refl _
/-- what holds at the law's entry: the machine, the code, the tables' words (any of lw_tbl by 'hts w (by decide +kernel)'), the script of L ints xs at the cell b, what the Statement gives of the start (any of its parts by flat_of_before) -/
def lw_At (p : Program) (s : State) (m : MethodId) (meth : Method) (c : Code) (b L : Nat) (xs : Nat → Int32) : Prop :=
  p.tables.exec = Jvm.exec ∧ c.code = code ∧ meth.sig.returnType = ret ∧ c.maxLocals = 4 ∧ s.vm.findClass R_law = some m.cls ∧ (∀ w ∈ lw_tbl, w.before #[Value.ref b] s = true) ∧ va_X b L xs s s.heap ∧ b < s.heap.size ∧ meth.locks = false ∧ (Jvm.Cond.and given_1 narrow_1).before #[Value.ref b] s = true
theorem aro_6 : Cond.arrayOver (.object RX6) ∈ lw_tbl := List.mem_of_getElem? (i := 238) (by decide +kernel)
theorem lst_C : Cond.laysStatic "java/lang/String" "COMPACT_STRINGS" "Z" ∈ lw_tbl := List.mem_of_getElem? (i := 502) (by decide +kernel)
theorem lst_A : Cond.laysStatic RX0 "ABOVE" "[I" ∈ lw_tbl := List.mem_of_getElem? (i := 850) (by decide +kernel)
theorem lst_O : Cond.laysStatic RX0 "OWN" "[I" ∈ lw_tbl := List.mem_of_getElem? (i := 848) (by decide +kernel)
theorem nst_all {ci : Nat} (h : ci < 9) : Cond.instantiable (clR ci) (clN ci) ∈ gwl := by
  match ci, h with
  | 0, _ => exact nst_0
  | 1, _ => exact nst_1
  | 2, _ => exact nst_2
  | 3, _ => exact nst_3
  | 4, _ => exact nst_4
  | 5, _ => exact nst_5
  | 6, _ => exact nst_6
  | 7, _ => exact nst_7
  | 8, _ => exact nst_8
-- ===== YOUR PART BEGINS =====
theorem whole_start {p : Program} {e : Env} {s : State} {m : MethodId} {below : List Frame} {meth : Method} {c : Code} (l : Launch) (hflags : l.flags = flags0) {b L : Nat} {xs : Nat → Int32} (hL : L ≤ 3072) (C0 : lw_At p s m meth c b L xs) : W p l e room_1 s m #[Value.ref b] below meth c s.heap [] 0 0 (lw_Z below #[Value.ref b] s) (entryFrame m ([Value.ref b] : List Value).toArray 4) := by
  obtain ⟨hx, hb, hr, hml, hown, hts, hX, hbl, hlocks, hgv⟩ := C0
  have htg : ∀ w ∈ gwl, w.before #[Value.ref b] s = true := fun w h => hts w (List.mem_filter.mp h).1
  have hA : ∀ a : Nat, a < s.heap.size → ¬ (fun q : Nat => s.heap.size ≤ q) a := fun a h => Nat.not_le.mpr h
  have hfl := flat_of_before _ hgv
  have hcl : ∀ ci : Nat, ∃ q : ClassId × (Nat → Nat), ci < 9 → u_Kn s (clR ci) (clT ci) (clN ci) q.1 q.2 := by
    intro ci
    by_cases h : ci < 9
    · obtain ⟨cC, iS, hk⟩ := u_known (C := clR ci) (T := clT ci) (N := clN ci) (n := clN ci) htg (cf_in h) (htg _ (nst_all h))
      exact ⟨(cC, iS), fun _ => hk⟩
    · exact ⟨(0, fun _ => 0), fun q => absurd q h⟩
  obtain ⟨f, hf⟩ := Classical.axiomOfChoice hcl
  have harc : ∀ i : Nat, ∃ cA : ClassId, i < 5 → ArrOfT s cA (aT i) ∧ va_RA s cA (aT i) := by
    intro i
    have prim : ∀ ty : FieldType, (∀ C, ty ≠ .object C) → Cond.arrayClass ty ∈ gwl → ∃ cA, ArrOfT s cA ty ∧ va_RA s cA ty := by
      intro ty hne hw
      obtain ⟨cA, k, comp, h1, h2, h3⟩ := Cond.arrayClass_spec (htg _ hw)
      refine ⟨cA, fun n z => ⟨fun q h => (by cases h), k, h2, comp, h3⟩, ?_⟩
      cases ty <;> first | exact h1 | exact absurd rfl (hne _)
    match i with
    | 0 => obtain ⟨cA, h⟩ := prim .int (fun _ h => by cases h) arc_int; exact ⟨cA, fun _ => h⟩
    | 1 => obtain ⟨cA, h⟩ := prim .byte (fun _ h => by cases h) arc_byte; exact ⟨cA, fun _ => h⟩
    | 2 => obtain ⟨cA, h⟩ := prim .short (fun _ h => by cases h) arc_short; exact ⟨cA, fun _ => h⟩
    | 3 => obtain ⟨cA, h⟩ := prim .long (fun _ h => by cases h) arc_long; exact ⟨cA, fun _ => h⟩
    | 4 =>
      obtain ⟨comp, cA, k, h1, -, h3, h4, h5⟩ := Cond.arrayOver_spec (hts _ aro_6)
      exact ⟨cA, fun _ => ⟨fun n z => ⟨fun q h => (by cases h), k, h3, comp, h4⟩, k, comp, h3, h4, h1, h5⟩⟩
    | n + 5 => exact ⟨0, fun q => absurd q (by omega)⟩
  obtain ⟨fa, hfa⟩ := Classical.axiomOfChoice harc
  have eA : ∀ j : Nat, j < 8 → (Cond.eq (.elem (.static "SkinOfTeeth$Bodies" "ABOVE" "[I") (.int (Int32.ofNat j))) (.int (tabA j))) ∈ flatC (Jvm.Cond.and given_1 narrow_1) := by decide +kernel
  have eO : ∀ j : Nat, j < 32 → (Cond.eq (.elem (.static "SkinOfTeeth$Bodies" "OWN" "[I") (.int (Int32.ofNat j))) (.int (tabO j))) ∈ flatC (Jvm.Cond.and given_1 narrow_1) := by decide +kernel
  obtain ⟨tA, zA, TA⟩ := va_Tof (tm := .static "SkinOfTeeth$Bodies" "ABOVE" "[I") (ty := .int) (N := 8) (f := fun j => .int (tabA j)) (A := fun q : Nat => s.heap.size ≤ q) (by decide) (hfl _ (by decide +kernel)) (va_eqt (hfl _ (by decide +kernel))) (fun j hj => va_eqt (hfl _ (eA j hj))) hA
  obtain ⟨tO, zO, TO⟩ := va_Tof (tm := .static "SkinOfTeeth$Bodies" "OWN" "[I") (ty := .int) (N := 32) (f := fun j => .int (tabO j)) (A := fun q : Nat => s.heap.size ≤ q) (by decide) (hfl _ (by decide +kernel)) (va_eqt (hfl _ (by decide +kernel))) (fun j hj => va_eqt (hfl _ (eO j hj))) hA
  have eS : ∀ j : Nat, j < 6 → (Cond.eq (.elem (.field (.string "SkinOfTeeth$LawReader" 73) "java/lang/String" "value" "[B") (.int (Int32.ofNat j))) (.int (([122, 108, 119, 116, 99, 102] : List Int32).getD j 0))) ∈ flatC (Jvm.Cond.and given_1 narrow_1) := by decide +kernel
  obtain ⟨adK, adV, hS, hSt⟩ := vk_Sof (N := 1) (tm := fun _ => .string "SkinOfTeeth$LawReader" 73) (len := [6]) (byt := [[122, 108, 119, 116, 99, 102]]) (A := fun q : Nat => s.heap.size ≤ q)
    (fun i hi => by rw [show i = 0 by omega]; decide) (fun i hi => hfl _ (by decide +kernel)) (fun i hi => hfl _ (by decide +kernel)) (fun i hi => hfl _ (by decide +kernel)) (fun i hi => by rw [show i = 0 by omega]; exact hfl _ (by decide +kernel))
    (fun i hi j hj => by rw [show i = 0 by omega] at hj ⊢; exact hfl _ (eS j hj)) (fun i j hi hj hij => absurd (by omega) hij) hA
  have hSt0 := hSt 0 (by omega)
  have hCS : va_Z "java/lang/String" "COMPACT_STRINGS" "Z" (.int 1) (fun q : Nat => s.heap.size ≤ q) s s.heap := va_Zof (hts _ lst_C) (htg _ ini_RJ0) (va_eqi (hfl _ (by decide +kernel))) hA
  have hZA : va_Z RX0 "ABOVE" "[I" (.ref tA) (fun q : Nat => s.heap.size ≤ q) s s.heap := va_Zref (hts _ lst_A) (htg _ ini_RX0) zA hA
  have hZO : va_Z RX0 "OWN" "[I" (.ref tO) (fun q : Nat => s.heap.size ≤ q) s s.heap := va_Zref (hts _ lst_O) (htg _ ini_RX0) zO hA
  have hvk : vk_R RX4 73 "zlwtcf" (adK 0) s := by
    have h9 : ∀ w : Cond, w = Cond.stringRef RX4 73 "zlwtcf" → w.before #[Value.ref b] s = true := fun w hw => hts w (by rw [hw]; exact List.mem_of_getElem? (i := 488) (by decide +kernel))
    exact vk_R.of (h9 _ rfl) hSt0
  obtain ⟨g, hg⟩ : ∃ g : Gt, g = (l, s.heap.size, (fun i => if i = 0 then b else if i = 1 then tA else if i = 2 then tO else if i = 3 then adK 0 else adV 0), (fun k => (f k).1), (fun k => (f k).2), fa, L, xs) := ⟨_, rfl⟩
  have hSX : SX g s s.heap := by
    subst hg
    refine ⟨hX, hbl, ⟨hZA, TA⟩, ⟨hZO, TO⟩, fun w hw => ?_, hts _ aro_6, hvk, ?_, hCS⟩
    · have h1 := hts w (List.mem_filter.mp hw).1
      have h2 := (List.mem_filter.mp hw).2
      revert h1 h2
      cases w <;> intro h1 h2 <;> first | exact va_Nw.of rfl h1 | cases h2
    · refine ⟨fun i hi => ?_, fun i j hi hj _ => by omega⟩
      have := hS.1 i hi
      rw [show i = 0 by omega] at this ⊢
      exact this
  have hK : va_K (gD g) vwCl (tysG g) s := by
    subst hg
    refine ⟨fun k q hq => ?_, fun k q hq => ?_⟩
    · have hk : k < 9 := (List.getElem?_eq_some_iff.mp hq).1
      rw [cl_at hk] at hq
      cases hq
      exact hf k hk
    · have hk : k < 5 := (List.getElem?_eq_some_iff.mp hq).1
      have h1 := hfa k hk
      match k, hk, hq, h1 with
      | 0, _, hq, h1 => cases hq; exact h1
      | 1, _, hq, h1 => cases hq; exact h1
      | 2, _, hq, h1 => cases hq; exact h1
      | 3, _, hq, h1 => cases hq; exact h1
      | 4, _, hq, h1 => cases hq; exact h1
  have e1 : g.1 = l := by rw [hg]
  have e2 : gb g = s.heap.size := by rw [hg]
  have e3 : gL g = L := by rw [hg]
  have e4 : ad g 1000 = b := by rw [hg]; rfl
  have key : Rn g 1000 0 93 mL_law 0 [some (.ref 1000), none, none, none] [] st0 (QT (fun rv _ => rv = some (.int 1))) := law_boot (d := 996) (law_all (d := 699) (by rw [e3]; exact hL))
  rw [lg_entry_eq]
  have hl0 := lv_entry ([.ref b] : List Value) (n := 4) (Nat.le_of_ble_eq_true rfl)
  rw [← e1]
  refine key p e room_1 s m #[Value.ref b] below meth c s.heap [] 0 0 _ _ ⟨hx, hb, hml, hown, htg, fun q => absurd q (by decide), hK, hSX, Nat.le_of_eq e2⟩ ⟨fun k q hq => by simp [wsO] at hq, va_S.rf, fun _ => e2.symm⟩ ⟨hl0.1, hl0.2.1, fun i v hv => ?_⟩ ⟨by decide, by decide, by decide, by decide +kernel, by decide⟩ ?_
  · match i, hv with
    | 0, hv =>
      cases hv
      show _ = some (Slot.val (.ref (ad g 1000)))
      rw [e4]
      exact hl0.2.2 (0, .ref b) List.mem_cons_self
    | 1, hv => cases hv
    | 2, hv => cases hv
    | 3, hv => cases hv
    | i + 4, hv => simp at hv
  · intro rv st' H' locs' cells' slots' pc' ls' hQ E hc hs hrt
    obtain ⟨t', -, hrv⟩ := hQ
    subst hrv
    refine W.widen (k := 600000) (n := 7302250) (Nat.le_trans hc (by decide)) (Nat.le_trans hs (by decide +kernel)) ?_
    refine va_forget (fun q hq => by rw [← e2]; exact E.2.1.2.2 q hq) ?_
    rcases hrt with ⟨hd, -⟩ | ⟨-, h, -⟩ | ⟨-, ⟨v, h⟩, -⟩ | ⟨-, ⟨v, h⟩, -⟩
    · rw [e1]
      exact lw_ret hx hb hr hlocks hd
    · cases h
    · cases h
    · cases h
-- ===== YOUR PART ENDS =====
set_option maxHeartbeats 4000000 in
theorem lw_walk (l : Launch) (hflags : l.flags = flags0) (b : Addr) (xs : List Int32) : MetFree l x (headSpec (Jvm.Cond.code x code maxLocals ret :: tables_1) room_1) (lw_P b xs) (fun _ _ _ _ _ => True) lw_Q := by
  refine MetFree.of_bodyS (code := code) (maxLocals := maxLocals) (ret := ret) (by decide) ?_ ?_
  · intro args s m h hn
    obtain ⟨meth, c, h1, h2, h3, h4, h5, h6, -, -⟩ := Cond.code_spec hn (atoms_spec (ws := Jvm.Cond.code x code maxLocals ret :: tables_1) h _ List.mem_cons_self)
    exact ⟨meth, c, h1, h2, h3, h4, h5, h6⟩
  · intro p e s m args below meth c s₁ B hml0 hP _
    obtain ⟨rfl, hx, hbd, hgv⟩ := hP
    obtain ⟨scr, harrAt, hlist, hof, hsmall⟩ := hx
    obtain ⟨hcb, hkn, -, -⟩ := State.arrayAt?_spec harrAt
    have hown : s.vm.findClass R_law = some m.cls := findClass_of_methodNamed B.named
    have hts0 : ∀ c ∈ (Jvm.Cond.code x code maxLocals ret :: tables_1), c.before #[Value.ref b] s = true := atoms_spec (ws := Jvm.Cond.code x code maxLocals ret :: tables_1) B.pre
    have hts : ∀ w ∈ lw_tbl, w.before #[Value.ref b] s = true := k2_hts_sels lw_privs (fun w hw => hts0 w (List.mem_cons_of_mem _ hw)) lw_privs_ok
    have hml : c.maxLocals = 4 := B.maxLocals_eq (hts0 _ List.mem_cons_self)
    have X₀ : Stand p l e room_1 s m #[Value.ref b] below meth c s₁ [] 0 0 := Stand.of_body B
    have hh0 : s₁.heap = s.heap := by rw [B.state]; rfl
    have hsz : scr.slots.size = xs.length := by rw [← Array.length_toList, hlist, List.length_map]
    have hval : ∀ j : Nat, j < xs.length → scr.slots[j]? = some (.int (xs.getD j 0)) := fun j hj => by
      rw [← Array.getElem?_toList, hlist]
      simp [hj]
    have hbl : b < s.heap.size := (Array.getElem?_eq_some_iff.mp hcb).1
    have hX : va_X b xs.length (fun j => xs.getD j 0) s s.heap := ⟨scr, hcb, hof, hkn, hsz, hval⟩
    have K : W p l e room_1 s m #[Value.ref b] below meth c s₁.heap [] 0 0 (lw_Z below #[Value.ref b] s) (entryFrame m ([Value.ref b] : List Value).toArray 4) := by
      rw [hh0]
      exact whole_start l hflags hbd ⟨B.exec, B.bytes, B.returns, hml, hown, hts, hX, hbl, B.notSynchronized, hgv⟩
    obtain ⟨t, a1, o, b1, b2, b3⟩ := K s₁ rfl X₀
    exact ⟨t, o, a1, b1, b2, b3⟩
theorem lw_pre_spec {args : Array Value} {s : State} (h : (Jvm.Cond.and given_1 narrow_1).before args s = true) (hr : rest_1_c.before args s = true) : ∃ (b : Addr) (xs : List Int32), lw_P b xs args s := by
  have hs := flat_of_before _ h
  have hq := flat_of_before _ hr
  have hc : (Cond.count 1).before args s = true := hs _ (by decide +kernel)
  have harr : (Cond.arrayOf (.arg 0) .int).before args s = true := hs _ (by decide +kernel)
  have hle : (Cond.le (.length (.arg 0)) (.int 3072)).before args s = true := hs _ (by decide +kernel)
  have hlen : (Cond.isInt (.length (.arg 0))).before args s = true := hq _ (by decide +kernel)
  have hall : (Cond.all (.arg 0) (.isInt (.elem (.arg 0) (.index 0)))).before args s = true := hq _ (by decide +kernel)
  obtain ⟨b, xs, hb, hx⟩ := State.ints_of_pre rfl harr hlen hall
  have hsm : xs.length < 2 ^ 31 := hx.choose_spec.2.2.2
  have hev : (Term.length (.arg 0)).eval args s none [] s = some (.int xs.length.toInt32) := hx.length_eval hb
  have hv := Cond.le_ints hev (show (Term.int 3072).eval args s none [] s = some (.int 3072) from rfl)
  have hd : xs.length.toInt32 ≤ 3072 := by
    simpa [Cond.before, Cond.holds, hv] using hle
  have hN : xs.length ≤ 3072 := (Int32.ofNat_le_ofNat hsm (by decide)).mp (show Int32.ofNat xs.length ≤ Int32.ofNat 3072 from hd)
  exact ⟨b, xs, Cond.one_arg hc (show args[0]? = some (.ref b) from hb), hx, hN, h⟩
theorem lw_comes (l : Launch) (hflags : l.flags = flags0) : Comes l x (Jvm.Cond.code x code maxLocals ret :: tables_1) room_1 (fun tb e args s => Calls_1 tb e args s ∧ rest_1 tb e args s ∧ Pre_1 tb e args s)
    (fun _ _ args s o t => lw_Q args s o t) := by
  intro p e ha hc hk s m args below hf hfit hheap happ hpre
  obtain ⟨b, xs, hP⟩ := lw_pre_spec hpre.2.2 hpre.2.1
  obtain ⟨k, o, h1, h2, h3, hQ⟩ := lw_walk l hflags b xs p e ha hc hk s m args below hf ((Spec.applies_iff_loose hf).mp happ).1 hP trivial
  exact ⟨k, o, h1, h2, h3, hQ⟩
theorem lw_frame {s t : State} {o : Outcome} {args : Array Value} (h : Framed s o t [] 600000 7302250) :
    Framed s o t (fieldLocs frame_1_writes args s ++ arrayLocs frame_1_arrays args s ++ staticLocs frame_1_statics s) 600000 7302250 := h
theorem lw_limb (L : Cond) (hL : ∀ (args : Array Value) (s t : State), L.after args s (.returned (some (.int 1))) t = true) :
    ArmFor flags0 classFile x code maxLocals ret World_1 tables_1 room_1 Calls_1 rest_1 Pre_1
      (fun tb e a s o t => postC L tb e a s o t ∧ Framed s o t (fieldLocs frame_1_writes a s ++ arrayLocs frame_1_arrays a s ++ staticLocs frame_1_statics s) 600000 7302250) := by
  intro l hflags _ _ p e ha hc hk s m args below hf hfit hheap happ hpre
  obtain ⟨k, o, h1, h2, h3, rfl, hF⟩ := lw_comes l hflags p e ha hc hk s m args below hf hfit hheap happ hpre
  exact ⟨k, _, h1, h2, h3, hL args s _, lw_frame hF⟩
theorem i_vc : Claimed_1_1 ∧ Claimed_1_2 := ⟨lw_limb limb_1_1 (fun args s t => by simp [limb_1_1, Cond.after, Cond.holds, Cond.value]), lw_limb limb_1_2 (fun args s t => Cond.after_iff.mpr (by
  first | (rw [show limb_1_2 = Cond.eq .result (.int 1) from rfl, Cond.eq_ints (x := 1) (y := 1) rfl rfl]; simp; done) | (simp [limb_1_2, Cond.value, Term.eval]; done)))⟩
