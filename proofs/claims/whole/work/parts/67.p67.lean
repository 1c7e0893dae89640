/-! PURE LAYER: the law's text as it is read, in itself -/
section P67
def chr (T : Tp) (i : Nat) : Nat := if i < T.1 then T.2 i else 256
abbrev isD (c : Nat) : Prop := 48 ≤ c ∧ c ≤ 57
def nmK (c : Nat) : Option Nat := if c = 122 then some 0 else if c = 108 then some 1 else if c = 119 then some 2 else if c = 116 then some 3 else if c = 99 then some 4 else if c = 102 then some 5 else none
def nmb (T : Tp) : Nat → Nat → Nat → Nat × Nat
  | 0, i, v => (i, v)
  | f + 1, i, v => if isD (chr T i) then nmb T f (i + 1) (10 * v + (chr T i - 48)) else (i, v)
abbrev Rz : Type := Bool × Nat × List Tok
def opN (T : Tp) (i : Nat) : Rz := if isD (chr T (nmb T 4 i 0).1) then (false, (nmb T 4 i 0).1, []) else (true, (nmb T 4 i 0).1, [(1, (nmb T 4 i 0).2)])
def cmb (ts : List Tok) (k : Nat) (r : Rz) : Rz := if r.1 = true then (true, r.2.1, ts ++ r.2.2 ++ [(k, 0)]) else (false, r.2.1, [])
def lp (T : Tp) (sub : Nat → Rz) (op : Nat → Bool) : Nat → Rz → Rz
  | 0, r => r
  | f + 1, r => if r.1 = true ∧ op (chr T r.2.1) = true then lp T sub op f (cmb r.2.2 (chr T r.2.1) (sub (r.2.1 + 1))) else r
def iqP (c : Nat) : Bool := decide (c = 42 ∨ c = 47 ∨ c = 37)
def iqS (c : Nat) : Bool := decide (c = 43 ∨ c = 45)
def iqC (c : Nat) : Bool := decide (c = 60 ∨ c = 61 ∨ c = 62)
def iqA (c : Nat) : Bool := decide (c = 38)
def iqO (c : Nat) : Bool := decide (c = 124)
def prF (T : Tp) (op : Nat → Rz) (i : Nat) : Rz := lp T op iqP 120 (op i)
def suF (T : Tp) (op : Nat → Rz) (i : Nat) : Rz := lp T op iqS 120 (op i)
def coF (T : Tp) (op : Nat → Rz) (i : Nat) : Rz := lp T op iqC 1 (op i)
def alF (T : Tp) (op : Nat → Rz) (i : Nat) : Rz := lp T op iqA 120 (op i)
def anF (T : Tp) (op : Nat → Rz) (i : Nat) : Rz := lp T op iqO 120 (op i)
def exF (T : Tp) (op : Nat → Rz) : Nat → Rz := anF T (alF T (coF T (suF T (prF T op))))
def prn (T : Tp) (r : Rz) : Rz := if r.1 = true ∧ chr T r.2.1 = 41 then (true, r.2.1 + 1, r.2.2) else (false, r.2.1, [])
def opd (T : Tp) : Nat → Nat → Rz
  | 0, i => if isD (chr T i) then opN T i else match nmK (chr T i) with
    | some k => (true, i + 1, [(2, k)])
    | none => (false, i, [])
  | m + 1, i => if isD (chr T i) then opN T i else match nmK (chr T i) with
    | some k => (true, i + 1, [(2, k)])
    | none => if chr T i = 40 then prn T (exF T (opd T m) (i + 1)) else if chr T i = 33 then cmb [] 3 (opd T m (i + 1)) else if chr T i = 45 then cmb [] 4 (opd T m (i + 1)) else (false, i, [])
/-- what holds of a reader's outcome from place i on -/
def SpR (T : Tp) (i : Nat) (r : Rz) : Prop := i ≤ r.2.1 ∧ r.2.1 ≤ T.1 ∧ (r.1 = true → i < r.2.1 ∧ WE r.2.2 ∧ r.2.2.length + i ≤ r.2.1)
def Sp (T : Tp) (op : Nat → Rz) : Prop := ∀ i, i ≤ T.1 → SpR T i (op i)
theorem chr_lt {T : Tp} {i : Nat} (h : chr T i ≠ 256) : i < T.1 := by
  unfold chr at h
  by_cases c : i < T.1
  · exact c
  · rw [if_neg c] at h; exact absurd rfl h
theorem nmb_ok (T : Tp) : ∀ f i v, i ≤ T.1 → i ≤ (nmb T f i v).1 ∧ (nmb T f i v).1 ≤ T.1 := by
  intro f
  induction f with
  | zero => intro i v h; exact ⟨Nat.le_refl _, h⟩
  | succ f ih =>
    intro i v h
    simp only [nmb]
    split
    · rename_i c
      have hl := chr_lt (T := T) (i := i) (by omega)
      have := ih (i + 1) (10 * v + (chr T i - 48)) hl
      omega
    · exact ⟨Nat.le_refl _, h⟩
theorem nmb_v (T : Tp) : ∀ f i v w, v < w → (nmb T f i v).2 < 10 ^ f * w := by
  intro f
  induction f with
  | zero => intro i v w h; simpa [nmb] using h
  | succ f ih =>
    intro i v w h
    simp only [nmb]
    split
    · rename_i c
      have := ih (i + 1) (10 * v + (chr T i - 48)) (10 * w) (by omega)
      rw [Nat.pow_succ, Nat.mul_assoc]
      exact this
    · show v < 10 ^ (f + 1) * w
      have : 10 ^ 0 ≤ 10 ^ (f + 1) := Nat.pow_le_pow_right (by decide) (Nat.zero_le _)
      calc v < 1 * w := by omega
        _ ≤ 10 ^ (f + 1) * w := Nat.mul_le_mul_right _ this
theorem nmb_adv (T : Tp) {f i v : Nat} (h : isD (chr T i)) (hi : i ≤ T.1) : i < (nmb T (f + 1) i v).1 := by
  have hl := chr_lt (T := T) (i := i) (by omega)
  simp only [nmb]
  rw [if_pos h]
  have := (nmb_ok T f (i + 1) (10 * v + (chr T i - 48)) hl).1
  omega
theorem opN_Sp {T : Tp} {i : Nat} (h : isD (chr T i)) (hi : i ≤ T.1) : SpR T i (opN T i) := by
  have h1 := nmb_ok T 4 i 0 hi
  have h2 : i < (nmb T 4 i 0).1 := nmb_adv T (f := 3) (v := 0) h hi
  have h3 : (nmb T 4 i 0).2 < 10 ^ 4 * 1 := nmb_v T 4 i 0 1 (by decide)
  unfold opN
  split
  · exact ⟨h1.1, h1.2, fun q => by cases q⟩
  · exact ⟨h1.1, h1.2, fun _ => ⟨h2, WE.num (by omega), by show 1 + i ≤ (nmb T 4 i 0).1; omega⟩⟩
theorem nmK_lt {c k : Nat} (h : nmK c = some k) : k < 6 ∧ c < 128 ∧ ¬ isD c := by
  unfold nmK at h
  repeat (split at h; · (cases h; subst_vars; decide))
  cases h
theorem cmb_Sp {T : Tp} {i p k : Nat} {ts : List Tok} {r : Rz} (h : SpR T (p + 1) r) (hip : i ≤ p) (hl : ts.length + i ≤ p) (hw : ∀ xs, WE xs → WE (ts ++ xs ++ [(k, 0)])) : SpR T i (cmb ts k r) := by
  obtain ⟨h1, h2, h3⟩ := h
  unfold cmb
  by_cases c : r.1 = true
  · rw [if_pos c]
    obtain ⟨q1, q2, q3⟩ := h3 c
    refine ⟨by show i ≤ r.2.1; omega, h2, fun _ => ⟨by show i < r.2.1; omega, hw _ q2, ?_⟩⟩
    show (ts ++ r.2.2 ++ [(k, 0)]).length + i ≤ r.2.1
    simp
    omega
  · rw [if_neg c]
    exact ⟨by show i ≤ r.2.1; omega, h2, fun q => by cases q⟩
theorem lp_Sp {T : Tp} {sub : Nat → Rz} {op : Nat → Bool} (hs : Sp T sub) (ho : ∀ c, op c = true → isOp c) {i : Nat} : ∀ f r, SpR T i r → SpR T i (lp T sub op f r) := by
  intro f
  induction f with
  | zero => intro r h; exact h
  | succ f ih =>
    intro r h
    simp only [lp]
    split
    · rename_i c
      have hop := ho _ c.2
      have hlt : chr T r.2.1 < 128 := isOp_lt hop
      have hl := chr_lt (T := T) (i := r.2.1) (by omega)
      obtain ⟨q1, q2, q3⟩ := h.2.2 c.1
      exact ih _ (cmb_Sp (hs (r.2.1 + 1) hl) h.1 q3 (fun xs hx => WE.bin q2 hx hop))
    · exact h
theorem iqP_op (c : Nat) (h : iqP c = true) : isOp c := by unfold iqP at h; have := of_decide_eq_true h; unfold isOp; omega
theorem iqS_op (c : Nat) (h : iqS c = true) : isOp c := by unfold iqS at h; have := of_decide_eq_true h; unfold isOp; omega
theorem iqC_op (c : Nat) (h : iqC c = true) : isOp c := by unfold iqC at h; have := of_decide_eq_true h; unfold isOp; omega
theorem iqA_op (c : Nat) (h : iqA c = true) : isOp c := by unfold iqA at h; have := of_decide_eq_true h; unfold isOp; omega
theorem iqO_op (c : Nat) (h : iqO c = true) : isOp c := by unfold iqO at h; have := of_decide_eq_true h; unfold isOp; omega
theorem prF_Sp {T : Tp} {op : Nat → Rz} (h : Sp T op) : Sp T (prF T op) := fun i hi => lp_Sp h iqP_op _ _ (h i hi)
theorem suF_Sp {T : Tp} {op : Nat → Rz} (h : Sp T op) : Sp T (suF T op) := fun i hi => lp_Sp h iqS_op _ _ (h i hi)
theorem coF_Sp {T : Tp} {op : Nat → Rz} (h : Sp T op) : Sp T (coF T op) := fun i hi => lp_Sp h iqC_op _ _ (h i hi)
theorem alF_Sp {T : Tp} {op : Nat → Rz} (h : Sp T op) : Sp T (alF T op) := fun i hi => lp_Sp h iqA_op _ _ (h i hi)
theorem anF_Sp {T : Tp} {op : Nat → Rz} (h : Sp T op) : Sp T (anF T op) := fun i hi => lp_Sp h iqO_op _ _ (h i hi)
theorem exF_Sp {T : Tp} {op : Nat → Rz} (h : Sp T op) : Sp T (exF T op) := anF_Sp (alF_Sp (coF_Sp (suF_Sp (prF_Sp h))))
theorem fail_Sp {T : Tp} {i : Nat} (h : i ≤ T.1) : SpR T i (false, i, []) := ⟨Nat.le_refl _, h, fun q => by cases q⟩
theorem name_Sp {T : Tp} {i k : Nat} (h : nmK (chr T i) = some k) : SpR T i (true, i + 1, [(2, k)]) := by
  have h1 := nmK_lt h
  have hl := chr_lt (T := T) (i := i) (by omega)
  exact ⟨Nat.le_succ _, hl, fun _ => ⟨Nat.lt_succ_self _, WE.nam h1.1, by show 1 + i ≤ i + 1; omega⟩⟩
theorem opd_Sp (T : Tp) : ∀ m, Sp T (opd T m) := by
  intro m
  induction m with
  | zero =>
    intro i hi
    simp only [opd]
    split
    · rename_i c; exact opN_Sp c hi
    · split
      · rename_i k hk; exact name_Sp hk
      · exact fail_Sp hi
  | succ m ih =>
    intro i hi
    simp only [opd]
    split
    · rename_i c; exact opN_Sp c hi
    · split
      · rename_i k hk; exact name_Sp hk
      · split
        · rename_i c
          have hl := chr_lt (T := T) (i := i) (by omega)
          obtain ⟨q1, q2, q3⟩ := exF_Sp ih (i + 1) hl
          unfold prn
          split
          · rename_i c2
            obtain ⟨e1, e2, e3⟩ := q3 c2.1
            have hl2 := chr_lt (T := T) (i := (exF T (opd T m) (i + 1)).2.1) (by omega)
            refine ⟨?_, hl2, fun _ => ⟨?_, e2, ?_⟩⟩
            · show i ≤ (exF T (opd T m) (i + 1)).2.1 + 1; omega
            · show i < (exF T (opd T m) (i + 1)).2.1 + 1; omega
            · show (exF T (opd T m) (i + 1)).2.2.length + i ≤ (exF T (opd T m) (i + 1)).2.1 + 1; omega
          · exact ⟨by show i ≤ (exF T (opd T m) (i + 1)).2.1; omega, q2, fun q => by cases q⟩
        · split
          · rename_i c
            have hl := chr_lt (T := T) (i := i) (by omega)
            exact cmb_Sp (ih (i + 1) hl) (Nat.le_refl _) (by simp) (fun xs hx => by rw [List.nil_append]; exact hx.un (Or.inl rfl))
          · split
            · rename_i c
              have hl := chr_lt (T := T) (i := i) (by omega)
              exact cmb_Sp (ih (i + 1) hl) (Nat.le_refl _) (by simp) (fun xs hx => by rw [List.nil_append]; exact hx.un (Or.inr rfl))
            · exact fail_Sp hi
abbrev Ln : Type := List Tok × List Tok
abbrev Rl : Type := Bool × Nat × Ln
def lnR (T : Tp) (ex : Nat → Rz) (i : Nat) : Rl := if (ex i).1 = true then (if chr T (ex i).2.1 = 63 then (if (ex ((ex i).2.1 + 1)).1 = true then (true, (ex ((ex i).2.1 + 1)).2.1, ((ex i).2.2, (ex ((ex i).2.1 + 1)).2.2)) else (false, (ex ((ex i).2.1 + 1)).2.1, ([], []))) else (true, (ex i).2.1, ([], (ex i).2.2))) else (false, (ex i).2.1, ([], []))
abbrev Rt3 : Type := Bool × Nat × Prog
def cml (p : Prog) (r : Rl) : Rt3 := if r.1 = true then (true, r.2.1, p ++ [r.2.2]) else (false, r.2.1, [])
def txL (T : Tp) (ln : Nat → Rl) : Nat → Rt3 → Rt3
  | 0, r => r
  | f + 1, r => if r.1 = true ∧ chr T r.2.1 = 59 then txL T ln f (cml r.2.2 (ln (r.2.1 + 1))) else r
def txF (T : Tp) : Rt3 := txL T (lnR T (exF T (opd T 6))) 120 (cml [] (lnR T (exF T (opd T 6)) 0))
def SpL (T : Tp) (i : Nat) (r : Rl) : Prop := i ≤ r.2.1 ∧ r.2.1 ≤ T.1 ∧ (r.1 = true → i < r.2.1 ∧ (r.2.2.1 = [] ∨ WE r.2.2.1) ∧ WE r.2.2.2 ∧ clen [r.2.2] + i ≤ r.2.1 + 1 ∧ mlen [r.2.2] + i ≤ r.2.1)
theorem lnR_Sp {T : Tp} {ex : Nat → Rz} (h : Sp T ex) {i : Nat} (hi : i ≤ T.1) : SpL T i (lnR T ex i) := by
  obtain ⟨h1, h2, h3⟩ := h i hi
  unfold lnR
  by_cases c : (ex i).1 = true
  · rw [if_pos c]
    obtain ⟨e1, e2, e3⟩ := h3 c
    by_cases c2 : chr T (ex i).2.1 = 63
    · rw [if_pos c2]
      have hl := chr_lt (T := T) (i := (ex i).2.1) (by omega)
      obtain ⟨q1, q2, q3⟩ := h ((ex i).2.1 + 1) hl
      by_cases c3 : (ex ((ex i).2.1 + 1)).1 = true
      · rw [if_pos c3]
        obtain ⟨f1, f2, f3⟩ := q3 c3
        have hne := WE_ne e2
        refine ⟨by show i ≤ (ex ((ex i).2.1 + 1)).2.1; omega, q2, fun _ => ⟨by show i < (ex ((ex i).2.1 + 1)).2.1; omega, Or.inr e2, f2, ?_, ?_⟩⟩
        · show clen [((ex i).2.2, (ex ((ex i).2.1 + 1)).2.2)] + i ≤ (ex ((ex i).2.1 + 1)).2.1 + 1
          simp only [clen]
          rw [if_neg hne]
          omega
        · show mlen [((ex i).2.2, (ex ((ex i).2.1 + 1)).2.2)] + i ≤ (ex ((ex i).2.1 + 1)).2.1
          simp only [mlen]
          omega
      · rw [if_neg c3]
        exact ⟨by show i ≤ (ex ((ex i).2.1 + 1)).2.1; omega, q2, fun q => by cases q⟩
    · rw [if_neg c2]
      refine ⟨h1, h2, fun _ => ⟨e1, Or.inl rfl, e2, ?_, ?_⟩⟩
      · show clen [([], (ex i).2.2)] + i ≤ (ex i).2.1 + 1
        simp only [clen]
        rw [if_pos trivial]
        omega
      · show mlen [([], (ex i).2.2)] + i ≤ (ex i).2.1
        simp only [mlen, List.length_nil]
        omega
  · rw [if_neg c]
    exact ⟨h1, h2, fun q => by cases q⟩
theorem clen_app (p q : Prog) : clen (p ++ q) = clen p + clen q := by
  induction p with
  | nil => simp [clen]
  | cons x p ih => obtain ⟨te, va⟩ := x; simp only [List.cons_append, clen, ih]; omega
theorem mlen_app (p q : Prog) : mlen (p ++ q) = mlen p + mlen q := by
  induction p with
  | nil => simp [mlen]
  | cons x p ih => obtain ⟨te, va⟩ := x; simp only [List.cons_append, mlen, ih]; omega
theorem cco_app (p q : Prog) : ∀ b, cco b (p ++ q) = cco b p ++ cco (b + clen p) q := by
  induction p with
  | nil => intro b; simp [cco, clen]
  | cons x p ih =>
    intro b
    obtain ⟨te, va⟩ := x
    simp only [List.cons_append, cco, clen]
    by_cases c : te = []
    · rw [if_pos c, if_pos c, if_pos c, ih]
      simp only [List.append_assoc, List.cons_append]
      rw [show b + va.length + 1 + clen p = b + (0 + va.length + 1 + clen p) by omega]
    · rw [if_neg c, if_neg c, if_neg c, ih]
      simp only [List.append_assoc, List.cons_append]
      rw [show b + te.length + 1 + va.length + 1 + clen p = b + (te.length + 1 + va.length + 1 + clen p) by omega]
/-- what holds of the lines read so far -/
def SpT (T : Tp) (r : Rt3) : Prop := r.2.1 ≤ T.1 ∧ (r.1 = true → progOk r.2.2 ∧ r.2.2 ≠ [] ∧ clen r.2.2 ≤ r.2.1 + 1 ∧ mlen r.2.2 ≤ r.2.1 ∧ 2 * r.2.2.length ≤ r.2.1 + 1)
theorem cml_Sp {T : Tp} {i : Nat} {p : Prog} {r : Rl} (h : SpL T i r) (hp : progOk p) (h1 : clen p ≤ i) (h2 : mlen p ≤ i) (h3 : 2 * p.length ≤ i) : SpT T (cml p r) := by
  obtain ⟨q1, q2, q3⟩ := h
  unfold cml
  by_cases c : r.1 = true
  · rw [if_pos c]
    obtain ⟨e1, e2, e3, e4, e5⟩ := q3 c
    refine ⟨q2, fun _ => ⟨fun l hl => ?_, by simp, ?_, ?_, ?_⟩⟩
    · rcases List.mem_append.mp hl with w | w
      · exact hp l w
      · rw [List.mem_singleton.mp w]; exact ⟨e2, e3⟩
    · show clen (p ++ [r.2.2]) ≤ r.2.1 + 1
      rw [clen_app]; omega
    · show mlen (p ++ [r.2.2]) ≤ r.2.1
      rw [mlen_app]; omega
    · show 2 * (p ++ [r.2.2]).length ≤ r.2.1 + 1
      simp; omega
  · rw [if_neg c]
    exact ⟨q2, fun q => by cases q⟩
theorem txL_Sp {T : Tp} {ln : Nat → Rl} (h : ∀ i, i ≤ T.1 → SpL T i (ln i)) : ∀ f r, SpT T r → SpT T (txL T ln f r) := by
  intro f
  induction f with
  | zero => intro r hr; exact hr
  | succ f ih =>
    intro r hr
    simp only [txL]
    split
    · rename_i c
      have hl := chr_lt (T := T) (i := r.2.1) (by omega)
      obtain ⟨e1, e2, e3, e4, e5⟩ := hr.2 c.1
      exact ih _ (cml_Sp (h _ hl) e1 e3 (by omega) e5)
    · exact hr
end P67
