abbrev Tt : Type := (Nat → Nat → Int32) × (Nat → Nat → Int64) × Nat × Nat
def R0 (o j : Nat) : Option Nat := match o with
  | 0 => (match j with
    | 0 => some 1
    | 1 => some 5
    | 2 => some 9
    | 3 => some 13
    | 4 => some 22
    | 5 => some 27
    | 6 => some 30
    | 7 => some 31
    | 8 => some 32
    | 9 => some 33
    | _ => none)
  | 1 => (match j with
    | 2 => some 2
    | 3 => some 3
    | 4 => some 4
    | _ => none)
  | 5 => (match j with
    | 2 => some 6
    | 3 => some 7
    | 4 => some 8
    | _ => none)
  | 9 => (match j with
    | 2 => some 10
    | 3 => some 11
    | 4 => some 12
    | _ => none)
  | 13 => (match j with
    | 1 => some 14
    | 2 => some 15
    | 3 => some 16
    | 4 => some 17
    | 5 => some 21
    | _ => none)
  | 17 => (match j with
    | 2 => some 18
    | 3 => some 19
    | 4 => some 20
    | _ => none)
  | 22 => (match j with
    | 2 => some 23
    | 3 => some 24
    | 4 => some 25
    | 5 => some 26
    | _ => none)
  | 27 => (match j with
    | 1 => some 28
    | 3 => some 29
    | _ => none)
  | 30 => (match j with
    | 0 => some 45
    | 1 => some 47
    | 2 => some 49
    | 3 => some 51
    | 4 => some 53
    | 5 => some 55
    | _ => none)
  | 33 => (match j with
    | 0 => some 34
    | _ => none)
  | 35 => (match j with
    | 0 => some 36
    | 1 => some 37
    | 2 => some 38
    | 3 => some 39
    | _ => none)
  | 40 => (match j with
    | 0 => some 41
    | 1 => some 42
    | 2 => some 43
    | 3 => some 44
    | _ => none)
  | 45 => (match j with
    | 3 => some 46
    | _ => none)
  | 47 => (match j with
    | 3 => some 48
    | _ => none)
  | 49 => (match j with
    | 3 => some 50
    | _ => none)
  | 51 => (match j with
    | 3 => some 52
    | _ => none)
  | 53 => (match j with
    | 3 => some 54
    | _ => none)
  | 55 => (match j with
    | 3 => some 56
    | _ => none)
  | 57 => (match j with
    | 2 => some 58
    | 3 => some 59
    | 4 => some 60
    | 5 => some 61
    | 9 => some 62
    | 10 => some 63
    | 11 => some 64
    | 12 => some 65
    | 13 => some 66
    | 19 => some 67
    | 20 => some 68
    | 21 => some 69
    | 22 => some 70
    | 23 => some 71
    | 24 => some 72
    | 25 => some 73
    | 27 => some 74
    | 28 => some 75
    | 29 => some 76
    | 30 => some 77
    | 31 => some 78
    | 32 => some 79
    | 34 => some 80
    | 37 => some 81
    | 38 => some 82
    | 41 => some 83
    | 42 => some 84
    | 43 => some 85
    | 44 => some 86
    | 46 => some 87
    | 48 => some 88
    | 49 => some 89
    | 50 => some 90
    | 51 => some 91
    | 52 => some 92
    | _ => none)
  | _ => none
def up (t : Tt) : St := (t.1, t.2.1, fun o j => if o = 0 ∧ j = 10 then some t.2.2.1 else if o = 33 ∧ j = 2 then some t.2.2.2 else R0 o j)
def pI (t : Tt) (o j : Nat) (x : Int32) : Tt := (fun a => if a = o then upd (t.1 a) j x else t.1 a, t.2)
def pJ (t : Tt) (o j : Nat) (x : Int64) : Tt := (t.1, fun a => if a = o then vp_updL (t.2.1 a) j x else t.2.1 a, t.2.2)
def cI (t : Tt) (o o' : Nat) (sp dp n : Nat) : Tt := (fun a => if a = o' then va_cpy (t.1 o) (t.1 o') sp dp n else t.1 a, t.2)
def cJ (t : Tt) (o o' : Nat) (sp dp n : Nat) : Tt := (t.1, fun a => if a = o' then va_cpy (t.2.1 o) (t.2.1 o') sp dp n else t.2.1 a, t.2.2)
def QT (Q : Option Value → Tt → Prop) : Option Value → St → Prop := fun rv st => ∃ t', st = up t' ∧ Q rv t'
abbrev Rt (g : Gt) (d : Nat) (M : Mt) (pc : Nat) (L : List (Option Value)) (S : List Value) (t : Tt) (Q : Option Value → Tt → Prop) : Prop := Rn g d 93 93 M pc L S (up t) (QT Q)
def QI (P : Int32 → Tt → Prop) : Option Value → Tt → Prop := fun rv t => ∃ v, rv = some (.int v) ∧ P v t
def QL (P : Int64 → Tt → Prop) : Option Value → Tt → Prop := fun rv t => ∃ v, rv = some (.long v) ∧ P v t
def QR (P : Nat → Tt → Prop) : Option Value → Tt → Prop := fun rv t => ∃ v, rv = some (.ref v) ∧ P v t
def QV (P : Tt → Prop) : Option Value → Tt → Prop := fun rv t => rv = none ∧ P t
def isMo (o : Nat) : Prop := o = 1 ∨ o = 5 ∨ o = 9 ∨ o = 17
theorem isMo_k {o : Nat} (h : isMo o) : kd o = (0, 5, 5) := by rcases h with rfl | rfl | rfl | rfl <;> rfl
theorem isMo_z {o : Nat} (h : isMo o) : o < 93 := by rcases h with rfl | rfl | rfl | rfl <;> decide
theorem isMo_r2 {o : Nat} (t : Tt) (h : isMo o) : (up t).2.2 o 2 = some (o + 1) := by rcases h with rfl | rfl | rfl | rfl <;> rfl
theorem isMo_k2 {o : Nat} (h : isMo o) : kd (o + 1) = (1, 0, 56) := by rcases h with rfl | rfl | rfl | rfl <;> rfl
theorem isMo_z2 {o : Nat} (h : isMo o) : o + 1 < 93 := by rcases h with rfl | rfl | rfl | rfl <;> decide
theorem isMo_r3 {o : Nat} (t : Tt) (h : isMo o) : (up t).2.2 o 3 = some (o + 2) := by rcases h with rfl | rfl | rfl | rfl <;> rfl
theorem isMo_k3 {o : Nat} (h : isMo o) : kd (o + 2) = (1, 0, 7) := by rcases h with rfl | rfl | rfl | rfl <;> rfl
theorem isMo_z3 {o : Nat} (h : isMo o) : o + 2 < 93 := by rcases h with rfl | rfl | rfl | rfl <;> decide
theorem isMo_r4 {o : Nat} (t : Tt) (h : isMo o) : (up t).2.2 o 4 = some (o + 3) := by rcases h with rfl | rfl | rfl | rfl <;> rfl
theorem isMo_k4 {o : Nat} (h : isMo o) : kd (o + 3) = (1, 0, 7) := by rcases h with rfl | rfl | rfl | rfl <;> rfl
theorem isMo_z4 {o : Nat} (h : isMo o) : o + 3 < 93 := by rcases h with rfl | rfl | rfl | rfl <;> decide
def isLw (o : Nat) : Prop := o = 35 ∨ o = 40
theorem isLw_k {o : Nat} (h : isLw o) : kd o = (0, 3, 6) := by rcases h with rfl | rfl <;> rfl
theorem isLw_z {o : Nat} (h : isLw o) : o < 93 := by rcases h with rfl | rfl <;> decide
theorem isLw_r0 {o : Nat} (t : Tt) (h : isLw o) : (up t).2.2 o 0 = some (o + 1) := by rcases h with rfl | rfl <;> rfl
theorem isLw_k0 {o : Nat} (h : isLw o) : kd (o + 1) = (1, 0, 128) := by rcases h with rfl | rfl <;> rfl
theorem isLw_z0 {o : Nat} (h : isLw o) : o + 1 < 93 := by rcases h with rfl | rfl <;> decide
theorem isLw_r1 {o : Nat} (t : Tt) (h : isLw o) : (up t).2.2 o 1 = some (o + 2) := by rcases h with rfl | rfl <;> rfl
theorem isLw_k1 {o : Nat} (h : isLw o) : kd (o + 2) = (1, 0, 128) := by rcases h with rfl | rfl <;> rfl
theorem isLw_z1 {o : Nat} (h : isLw o) : o + 2 < 93 := by rcases h with rfl | rfl <;> decide
theorem isLw_r2 {o : Nat} (t : Tt) (h : isLw o) : (up t).2.2 o 2 = some (o + 3) := by rcases h with rfl | rfl <;> rfl
theorem isLw_k2 {o : Nat} (h : isLw o) : kd (o + 3) = (1, 0, 128) := by rcases h with rfl | rfl <;> rfl
theorem isLw_z2 {o : Nat} (h : isLw o) : o + 3 < 93 := by rcases h with rfl | rfl <;> decide
theorem isLw_r3 {o : Nat} (t : Tt) (h : isLw o) : (up t).2.2 o 3 = some (o + 4) := by rcases h with rfl | rfl <;> rfl
theorem isLw_k3 {o : Nat} (h : isLw o) : kd (o + 4) = (1, 0, 6) := by rcases h with rfl | rfl <;> rfl
theorem isLw_z3 {o : Nat} (h : isLw o) : o + 4 < 93 := by rcases h with rfl | rfl <;> decide
def isSh (o : Nat) : Prop := o = 45 ∨ o = 47 ∨ o = 49 ∨ o = 51 ∨ o = 53 ∨ o = 55
theorem isSh_k {o : Nat} (h : isSh o) : kd o = (0, 6, 4) := by rcases h with rfl | rfl | rfl | rfl | rfl | rfl <;> rfl
theorem isSh_z {o : Nat} (h : isSh o) : o < 93 := by rcases h with rfl | rfl | rfl | rfl | rfl | rfl <;> decide
theorem isSh_r3 {o : Nat} (t : Tt) (h : isSh o) : (up t).2.2 o 3 = some (o + 1) := by rcases h with rfl | rfl | rfl | rfl | rfl | rfl <;> rfl
theorem isSh_k3 {o : Nat} (h : isSh o) : kd (o + 1) = (2, 0, 60) := by rcases h with rfl | rfl | rfl | rfl | rfl | rfl <;> rfl
theorem isSh_z3 {o : Nat} (h : isSh o) : o + 1 < 93 := by rcases h with rfl | rfl | rfl | rfl | rfl | rfl <;> decide
theorem isSh_of {i : Int32} (h : vp_in i 6) : isSh (45 + 2 * i.toNatClampNeg) := by have h6 : i.toNatClampNeg < 6 := Nat.not_le.mp fun q => h (Or.inr q); unfold isSh; omega
/-! The second level: behind the constructions, when all 93 objects stand; two references alone still change (the law in force, the reader's). -/
section TLEV
variable {g : Gt} {d : Nat} {M : Mt} {pc : Nat} {L : List (Option Value)} {S : List Value} {Q : Option Value → Tt → Prop} {t : Tt}
theorem up_pI (t : Tt) (o j : Nat) (x : Int32) : putI (up t) o j x = up (pI t o j x) := rfl
theorem up_pJ (t : Tt) (o j : Nat) (x : Int64) : putJ (up t) o j x = up (pJ t o j x) := rfl
theorem up_cI (t : Tt) (o o' sp dp n : Nat) : cpyI (up t) o o' sp dp n = up (cI t o o' sp dp n) := rfl
theorem up_cJ (t : Tt) (o o' sp dp n : Nat) : cpyJ (up t) o o' sp dp n = up (cJ t o o' sp dp n) := rfl
theorem t_getI {o ci n j idx : Nat} (hd : decode (mcc M) pc = .ok (.getfield idx, 3)) (hf : Fl (my M).cls idx ci j) (hk : kd o = (0, ci, n)) (ho : o < 93) (hr : isRf (fTy ci j) = false)
    (k : Rt g d M (pc + 3) L (.int (t.1 o j) :: S) t Q) : Rt g d M pc L (.ref o :: S) t Q := s_getI hd hf hk ho hr k
theorem t_getR {o o' ci n j idx : Nat} (hd : decode (mcc M) pc = .ok (.getfield idx, 3)) (hf : Fl (my M).cls idx ci j) (hk : kd o = (0, ci, n)) (ho : o < 93) (hr : isRf (fTy ci j) = true) (hv : (up t).2.2 o j = some o')
    (k : Rt g d M (pc + 3) L (.ref o' :: S) t Q) : Rt g d M pc L (.ref o :: S) t Q := s_getR hd hf hk ho hr hv k
theorem t_putI {o ci n j idx : Nat} {x : Int32} (hd : decode (mcc M) pc = .ok (.putfield idx, 3)) (hf : Fl (my M).cls idx ci j) (hk : kd o = (0, ci, n)) (ho : o < 93) (hr : isRf (fTy ci j) = false) (hfin : (clT ci j).2.2.2 = false)
    (hnr : narrow (fTy ci j) (.int x) = .int x) (hft : fits (fTy ci j) (.int x) = true) (k : Rt g d M (pc + 3) L S (pI t o j x) Q) : Rt g d M pc L (.int x :: .ref o :: S) t Q := s_putI hd hf hk ho hr hfin hnr hft k
theorem t_putRul {o' idx : Nat} (hd : decode (mcc M) pc = .ok (.putfield idx, 3)) (hf : Fl (my M).cls idx 7 10) (k : Rt g d M (pc + 3) L S (t.1, t.2.1, o', t.2.2.2) Q) : Rt g d M pc L (.ref o' :: .ref 0 :: S) t Q := by
  refine s_putR hd hf (n := 13) rfl (by decide) rfl (Or.inl rfl) ?_
  have e : putR (up t) 0 10 (some o') = up (t.1, t.2.1, o', t.2.2.2) := by
    unfold putR up
    refine Prod.ext rfl (Prod.ext rfl ?_)
    funext a b
    by_cases ha : a = 0
    · subst ha
      by_cases hb : b = 10
      · subst hb; simp [va_up]
      · simp [va_up, hb]
    · simp [ha]
  rw [e]; exact k
theorem t_putRdl {o' idx : Nat} (hd : decode (mcc M) pc = .ok (.putfield idx, 3)) (hf : Fl (my M).cls idx 4 2) (k : Rt g d M (pc + 3) L S (t.1, t.2.1, t.2.2.1, o') Q) : Rt g d M pc L (.ref o' :: .ref 33 :: S) t Q := by
  refine s_putR hd hf (n := 4) rfl (by decide) rfl (Or.inl rfl) ?_
  have e : putR (up t) 33 2 (some o') = up (t.1, t.2.1, t.2.2.1, o') := by
    unfold putR up
    refine Prod.ext rfl (Prod.ext rfl ?_)
    funext a b
    by_cases ha : a = 33
    · subst ha
      by_cases hb : b = 2
      · subst hb; simp [va_up]
      · simp [va_up, hb]
    · simp [ha]
  rw [e]; exact k
theorem t_iald {o n : Nat} {i : Int32} (hd : decode (mcc M) pc = .ok (.iaload, 1)) (hk : kd o = (1, 0, n)) (ho : o < 93) (hin : vp_in i n) (k : Rt g d M (pc + 1) L (.int (t.1 o i.toNatClampNeg) :: S) t Q) : Rt g d M pc L (.int i :: .ref o :: S) t Q := s_iald hd hk ho hin k
theorem t_bald {o n : Nat} {i : Int32} (hd : decode (mcc M) pc = .ok (.baload, 1)) (hk : kd o = (1, 1, n)) (ho : o < 93) (hin : vp_in i n) (k : Rt g d M (pc + 1) L (.int (t.1 o i.toNatClampNeg) :: S) t Q) : Rt g d M pc L (.int i :: .ref o :: S) t Q := s_bald hd hk ho hin k
theorem t_sald {o n : Nat} {i : Int32} (hd : decode (mcc M) pc = .ok (.saload, 1)) (hk : kd o = (1, 2, n)) (ho : o < 93) (hin : vp_in i n) (k : Rt g d M (pc + 1) L (.int (t.1 o i.toNatClampNeg) :: S) t Q) : Rt g d M pc L (.int i :: .ref o :: S) t Q := s_sald hd hk ho hin k
theorem t_lald {o c0 n : Nat} {i : Int32} (hd : decode (mcc M) pc = .ok (.laload, 1)) (hk : kd o = (2, c0, n)) (ho : o < 93) (hin : vp_in i n) (k : Rt g d M (pc + 1) L (.long (t.2.1 o i.toNatClampNeg) :: S) t Q) : Rt g d M pc L (.int i :: .ref o :: S) t Q := s_lald hd hk ho hin k
theorem t_iast {o n : Nat} {i x : Int32} (hd : decode (mcc M) pc = .ok (.iastore, 1)) (hk : kd o = (1, 0, n)) (ho : o < 93) (hin : vp_in i n) (k : Rt g d M (pc + 1) L S (pI t o i.toNatClampNeg x) Q) : Rt g d M pc L (.int x :: .int i :: .ref o :: S) t Q := s_iast hd hk ho hin k
theorem t_bast {o n : Nat} {i x : Int32} (hd : decode (mcc M) pc = .ok (.bastore, 1)) (hk : kd o = (1, 1, n)) (ho : o < 93) (hin : vp_in i n) (k : Rt g d M (pc + 1) L S (pI t o i.toNatClampNeg (vp_nar .byte x)) Q) : Rt g d M pc L (.int x :: .int i :: .ref o :: S) t Q := s_bast hd hk ho hin k
theorem t_sast {o n : Nat} {i x : Int32} (hd : decode (mcc M) pc = .ok (.sastore, 1)) (hk : kd o = (1, 2, n)) (ho : o < 93) (hin : vp_in i n) (k : Rt g d M (pc + 1) L S (pI t o i.toNatClampNeg (vp_nar .short x)) Q) : Rt g d M pc L (.int x :: .int i :: .ref o :: S) t Q := s_sast hd hk ho hin k
theorem t_last {o c0 n : Nat} {i : Int32} {x : Int64} (hd : decode (mcc M) pc = .ok (.lastore, 1)) (hk : kd o = (2, c0, n)) (ho : o < 93) (hin : vp_in i n) (k : Rt g d M (pc + 1) L S (pJ t o i.toNatClampNeg x) Q) : Rt g d M pc L (.long x :: .int i :: .ref o :: S) t Q := s_last hd hk ho hin k
theorem t_aald {o' : Nat} {i : Int32} (hd : decode (mcc M) pc = .ok (.aaload, 1)) (hin : vp_in i 6) (hv : 45 + 2 * i.toNatClampNeg = o') (k : Rt g d M (pc + 1) L (.ref o' :: S) t Q) : Rt g d M pc L (.int i :: .ref 30 :: S) t Q := by
  refine s_aald (n := 6) (c0 := 0) hd rfl (by decide) hin ?_ k
  rw [← hv]
  have h6 : i.toNatClampNeg < 6 := Nat.not_le.mp fun q => hin (Or.inr q)
  show (up t).2.2 30 i.toNatClampNeg = _
  revert h6
  generalize i.toNatClampNeg = q
  intro h6
  rcases (show q = 0 ∨ q = 1 ∨ q = 2 ∨ q = 3 ∨ q = 4 ∨ q = 5 by omega) with rfl | rfl | rfl | rfl | rfl | rfl <;> rfl
theorem t_cpyI {o o' idx n0 n1 : Nat} {sp dp n : Int32} (hd : decode (mcc M) pc = .ok (.invokestatic idx, 3)) (hw : acW (my M).cls idx) (hk : kd o = (1, 0, n0)) (ho : o < 93) (hk' : kd o' = (1, 0, n1)) (ho' : o' < 93) (h1 : ¬ sp < 0) (h2 : ¬ dp < 0) (h3 : ¬ n < 0) (h4 : sp.toNatClampNeg + n.toNatClampNeg ≤ n0) (h5 : dp.toNatClampNeg + n.toNatClampNeg ≤ n1) (hc : (S.map fun v => v.category).sum ≤ 8)
    (k : Rt g (d + 1) M (pc + 3) L S (cI t o o' sp.toNatClampNeg dp.toNatClampNeg n.toNatClampNeg) Q) : Rt g (d + 1) M pc L (.int n :: .int dp :: .ref o' :: .int sp :: .ref o :: S) t Q :=
  s_cpyI hd hw hk ho hk' ho' h1 h2 h3 h4 h5 hc (by omega) (Nat.le_refl _) k
theorem t_cpyJ {o o' idx c0 c1 n0 n1 : Nat} {sp dp n : Int32} (hd : decode (mcc M) pc = .ok (.invokestatic idx, 3)) (hw : acW (my M).cls idx) (hk : kd o = (2, c0, n0)) (ho : o < 93) (hk' : kd o' = (2, c1, n1)) (ho' : o' < 93) (h1 : ¬ sp < 0) (h2 : ¬ dp < 0) (h3 : ¬ n < 0) (h4 : sp.toNatClampNeg + n.toNatClampNeg ≤ n0) (h5 : dp.toNatClampNeg + n.toNatClampNeg ≤ n1) (hc : (S.map fun v => v.category).sum ≤ 8)
    (k : Rt g (d + 1) M (pc + 3) L S (cJ t o o' sp.toNatClampNeg dp.toNatClampNeg n.toNatClampNeg) Q) : Rt g (d + 1) M pc L (.int n :: .int dp :: .ref o' :: .int sp :: .ref o :: S) t Q :=
  s_cpyJ hd hw hk ho hk' ho' h1 h2 h3 h4 h5 hc (by omega) (Nat.le_refl _) k
theorem t_iret {v : Int32} (hd : decode (mcc M) pc = .ok (.ireturn, 1)) (hn : NR M v) (hq : Q (some (.int v)) t) : Rt g d M pc L [.int v] t Q := s_iret hd hn ⟨t, rfl, hq⟩
theorem t_vret (hd : decode (mcc M) pc = .ok (.return_, 1)) (hn : mret M = none) (hq : Q none t) : Rt g d M pc L [] t Q := s_vret hd hn ⟨t, rfl, hq⟩
theorem t_lret {v : Int64} (hd : decode (mcc M) pc = .ok (.lreturn, 1)) (hn : mret M = some .long) (hq : Q (some (.long v)) t) : Rt g d M pc L [.long v] t Q := s_lret hd hn ⟨t, rfl, hq⟩
theorem t_aret {o : Nat} {nm : String} (hd : decode (mcc M) pc = .ok (.areturn, 1)) (hn : mret M = some (.object nm)) (hq : Q (some (.ref o)) t) : Rt g d M pc L [.ref o] t Q := s_aret hd hn ⟨t, rfl, hq⟩
theorem NR_i {M : Mt} (h : mret M = some .int) (v : Int32) : NR M v := ⟨.int, h, rfl⟩
theorem NR_z {M : Mt} (h : mret M = some .boolean) {v : Int32} (hv : v = 0 ∨ v = 1) : NR M v := ⟨.boolean, h, by rcases hv with rfl | rfl <;> rfl⟩
theorem Rt.cq {Q' : Option Value → Tt → Prop} (h : Rt g d M pc L S t Q) (hq : ∀ rv t', Q rv t' → Q' rv t') : Rt g d M pc L S t Q' := Rn.cq h (fun rv _ ⟨t', e, q⟩ => ⟨t', e, hq rv t' q⟩)
theorem Rt.lc {L' : List (Option Value)} (h : Rt g d M pc L' S t Q) (hL : ∀ (i : Nat) (v : Value), L'[i]? = some (some v) → L[i]? = some (some v)) : Rt g d M pc L S t Q := Rn.lc h hL
theorem Rt.dp {d' : Nat} (h : Rt g d M pc L S t Q) (hd : d ≤ d') : Rt g d' M pc L S t Q := Rn.dp h hd
/-- calls: what the callee is held to, then what goes on behind it -/
theorem t_callV {M' : Mt} {o ci n idx k : Nat} {As rest S' : List Value} {Lc : List (Option Value)} {Qc : Option Value → Tt → Prop} (hd : decode (mcc M) pc = .ok (.invokevirtual idx, 3)) (hm : Ml (my M).cls idx M' As.length) (hin : Cond.instanceMethod (my M') ∈ gwl) (hsel : Cond.selects (my M').cls (my M') (my M') ∈ gwl) (hk : kd o = (0, ci, n)) (ho : o < 93) (hc : clR ci = (my M').cls)
    (hS : S' = As.reverse ++ .ref o :: rest) (hw : (rest.map fun v => v.category).sum ≤ 8) (hla : (lg_sl ((Value.ref o :: As).map (cv g))).length ≤ mml M') (hL : eL (.ref o :: As) ++ List.replicate k none = Lc)
    (hR : Rt g d M' 0 Lc [] t Qc) (kk : ∀ rv t', Qc rv t' → Rt g (d + 1) M (pc + 3) L (rv.toList ++ rest) t' Q) : Rt g (d + 1) M pc L S' t Q := by
  subst hL
  exact s_callV hd hm hin hsel hk ho hc hS hw (Nat.le_refl _) (Nat.le_refl _) hla (Rn.cq hR (fun rv _ ⟨t', e, q⟩ => by subst e; exact kk rv t' q))
theorem t_callS {M' : Mt} {idx k : Nat} {As rest S' : List Value} {Lc : List (Option Value)} {Qc : Option Value → Tt → Prop} (hd : decode (mcc M) pc = .ok (.invokestatic idx, 3)) (hm : Ml (my M).cls idx M' As.length) (hst : Cond.static (my M') ∈ gwl)
    (hS : S' = As.reverse ++ rest) (hw : (rest.map fun v => v.category).sum ≤ 8) (hla : (lg_sl (As.map (cv g))).length ≤ mml M') (hL : eL As ++ List.replicate k none = Lc)
    (hR : Rt g d M' 0 Lc [] t Qc) (kk : ∀ rv t', Qc rv t' → Rt g (d + 1) M (pc + 3) L (rv.toList ++ rest) t' Q) : Rt g (d + 1) M pc L S' t Q := by
  subst hL
  exact s_callS hd hm hst hS hw (Nat.le_refl _) (Nat.le_refl _) hla (Rn.cq hR (fun rv _ ⟨t', e, q⟩ => by subst e; exact kk rv t' q))
end TLEV
