/-! PURE LAYER: the reference's law at work -/
section P27
variable {g : Gt} {d : Nat} {t : Tt}
def SKm (t : Tt) : List Int32 → Prop
  | [] => True
  | v :: s => t.1 73 s.length = v ∧ SKm t s
theorem SKm.cg {t t' : Tt} : ∀ (s : List Int32), (∀ j, j < s.length → t'.1 73 j = t.1 73 j) → SKm t s → SKm t' s := by
  intro s
  induction s with
  | nil => intro _ _; trivial
  | cons v s ih => intro h q; exact ⟨(h _ (by simp)).trans q.1, ih (fun j hj => h j (by simp; omega)) q.2⟩
def AtM (t : Tt) (b : Nat) (xs : List Tok) : Prop := ∀ i x, xs[i]? = some x → t.1 67 (b + i) = nI x.1 ∧ t.1 68 (b + i) = vlu x
def PiS (o j : Nat) : Prop := o = 73
theorem AtM.fr {t t' : Tt} {b : Nat} {xs : List Tok} (h : AtM t b xs) (hf : Fr PiS t t') : AtM t' b xs := by
  intro i x hx
  have := h i x hx
  rw [hf.1 _ _ (by unfold PiS; omega), hf.1 _ _ (by unfold PiS; omega)]
  exact this
theorem AtM.app {t : Tt} {b : Nat} {cs ds : List Tok} (h : AtM t b (cs ++ ds)) : AtM t b cs ∧ AtM t (b + cs.length) ds := by
  refine ⟨fun i x hx => h i x ?_, fun i x hx => ?_⟩
  · rw [List.getElem?_append_left (List.getElem?_eq_some_iff.mp hx).1]; exact hx
  · have := h (cs.length + i) x (by rw [List.getElem?_append_right (by omega)]; simpa using hx)
    rwa [← Nat.add_assoc] at this
theorem AtM.hd {t : Tt} {b : Nat} {c : Tok} {ds : List Tok} (h : AtM t b (c :: ds)) : (t.1 67 b = nI c.1 ∧ t.1 68 b = vlu c) ∧ AtM t (b + 1) ds := by
  refine ⟨h 0 c rfl, fun i x hx => ?_⟩
  have := h (i + 1) x (by simpa using hx)
  rwa [show b + (i + 1) = b + 1 + i by omega] at this
theorem m130 (e : Nat) : (130 * (0 : Int32)) + nI e = nI e := by rw [Int32.mul_zero, Int32.zero_add]
theorem m61 (e : Nat) : (61 * (0 : Int32)) + nI e = nI e := by rw [Int32.mul_zero, Int32.zero_add]
theorem sr_seg {e : Nat} {nm : Nat → Int32} {Q : Option Value → Tt → Prop} (he : e ≤ 130) :
    ∀ (xs : List Tok) (b : Nat) (s : List Int32) (m : Nat) (t : Tt), (∀ x ∈ xs, okT x) → dv xs s.length = some m → AtM t b xs → b + xs.length = e → s.length ≤ b → (∀ k, k < 6 → t.1 72 k = nm k) → SKm t s →
    (∀ t', Fr PiS t t' → SKm t' (ev nm xs s) → Rt g (d + 1) mX8_worked 12 [some (.ref 57), some (.int 0), none, some (.int (nI e)), some (.int (nI m)), some (.int (nI e)), none] [] t' Q) →
    Rt g (d + 1) mX8_worked 12 [some (.ref 57), some (.int 0), none, some (.int (nI e)), some (.int (nI s.length)), some (.int (nI b)), none] [] t Q := by
  intro xs
  induction xs with
  | nil =>
    intro b s m t _ hd _ hb _ _ hs k
    simp only [dv] at hd
    cases hd
    have : b = e := by simpa using hb
    subst this
    exact k t (Fr.rf _ _) hs
  | cons x xs ih =>
    intro b s m t hok hd hat hb hsb hnm hs k
    simp only [dv] at hd
    cases hk : dk s.length x with
    | none => rw [hk] at hd; cases hd
    | some mm =>
    rw [hk] at hd
    have hl := tk_len (nm := nm) hk
    have hle := dk_le hk
    have hbl : b + (xs.length + 1) = e := hb
    obtain ⟨⟨c1, c2⟩, hat'⟩ := AtM.hd hat
    have next : ∀ (q : Nat) (t' : Tt), q = mm → Fr PiS t t' → SKm t' (tk nm s x) → Rt g (d + 1) mX8_worked 182 [some (.ref 57), some (.int 0), none, some (.int (nI e)), some (.int (nI q)), some (.int (nI b)), none] [] t' Q := by
      intro q t' hq hf hs'
      apply bX8_worked_182
      rw [nI_1, hq, ← hl]
      refine ih (b + 1) (tk nm s x) m t' (fun y hy => hok y (List.mem_cons_of_mem _ hy)) (by rw [hl]; exact hd) (hat'.fr hf) (by omega) (by rw [hl]; omega) (fun q hq => ?_) hs' (fun t'' hf' hs'' => ?_)
      · rw [hf.1 _ _ (by unfold PiS; omega)]; exact hnm q hq
      · exact k t'' (hf.tr hf') hs''
    apply bX8_worked_12
    rw [m130]
    refine br_f (nI_ge (by omega) (by omega)) ⟨vpn (by omega), ?_⟩
    intro z3 e3
    rw [ncl (by omega), c1] at e3
    have ox := hok x List.mem_cons_self
    obtain ⟨kk, vv⟩ := x
    rcases ox with ⟨h1, h2⟩ | ⟨h1, h2⟩ | h1 | h1 | h1
    · dsimp only at h1 h2; subst h1
      have e3 : z3 = 1 := e3
      have c2 : t.1 68 b = nI vv := c2
      subst e3
      refine br_t rfl ?_
      apply bX8_worked_45
      refine ⟨fun c => absurd rfl c, fun _ => ?_⟩
      refine ⟨vpn (by omega), ?_⟩
      apply bX8_worked_79
      refine ⟨vpn (by omega), ?_⟩
      rw [ncl (by omega), ncl (by omega), nI_1, c2]
      have em : s.length + 1 = mm := by simpa [dk] using hk
      refine next _ _ em ((Fr.rf PiS t).pI _ rfl) ?_
      refine ⟨by rw [pI_s], SKm.cg s (fun j hj => ?_) hs⟩
      rw [pI_n _ _ _ (by omega)]
    · dsimp only at h1 h2; subst h1
      have e3 : z3 = 2 := e3
      have c2 : t.1 68 b = nI vv := c2
      subst e3
      refine br_f (by decide) ?_
      refine ⟨fun c => absurd rfl c, fun _ => ?_⟩
      apply bX8_worked_45
      refine ⟨fun _ => ?_, fun c => absurd c (by decide)⟩
      rw [ncl (by omega), c2]
      refine ⟨vpn (by omega), vpn h2, ?_⟩
      rw [ncl (by omega), hnm vv h2]
      apply bX8_worked_79
      refine ⟨vpn (by omega), ?_⟩
      rw [ncl (by omega), nI_1]
      have em : s.length + 1 = mm := by simpa [dk] using hk
      refine next _ _ em ((Fr.rf PiS t).pI _ rfl) ?_
      refine ⟨by rw [pI_s], SKm.cg s (fun j hj => ?_) hs⟩
      rw [pI_n _ _ _ (by omega)]
    · dsimp only at h1; subst h1
      have e3 : z3 = 3 := e3
      subst e3
      refine br_f (by decide) ?_
      refine ⟨fun _ => ?_, fun c => absurd c (by decide)⟩
      refine ⟨fun c => absurd rfl c, fun _ => ?_⟩
      cases s with
      | nil => simp [dk] at hk
      | cons a s' =>
        have hls : s'.length + 1 ≤ b := hsb
        have em : s'.length + 1 = mm := by simpa [dk] using hk
        rw [show (a :: s').length = s'.length + 1 from rfl, nI_pred]
        refine ⟨vpn (by omega), ?_⟩
        rw [ncl (by omega), hs.1]
        refine ⟨fun c => ?_, fun c => ?_⟩
        · apply bX8_worked_117
          refine ⟨vpn (by omega), ?_⟩
          rw [ncl (by omega)]
          refine next _ _ em ((Fr.rf PiS t).pI _ rfl) ?_
          have : tk nm (a :: s') (3, vv) = 0 :: s' := by simp [tk, c]
          rw [this]
          refine ⟨by rw [pI_s], SKm.cg s' (fun j hj => ?_) hs.2⟩
          rw [pI_n _ _ _ (by omega)]
        · apply bX8_worked_117
          refine ⟨vpn (by omega), ?_⟩
          rw [ncl (by omega)]
          refine next _ _ em ((Fr.rf PiS t).pI _ rfl) ?_
          have : tk nm (a :: s') (3, vv) = 1 :: s' := by simp [tk, c]
          rw [this]
          refine ⟨by rw [pI_s], SKm.cg s' (fun j hj => ?_) hs.2⟩
          rw [pI_n _ _ _ (by omega)]
    · dsimp only at h1; subst h1
      have e3 : z3 = 4 := e3
      subst e3
      refine br_f (by decide) ?_
      refine ⟨fun _ => ?_, fun c => absurd c (by decide)⟩
      refine ⟨fun _ => ?_, fun c => absurd c (by decide)⟩
      refine ⟨fun c => absurd rfl c, fun _ => ?_⟩
      cases s with
      | nil => simp [dk] at hk
      | cons a s' =>
        have hls : s'.length + 1 ≤ b := hsb
        have em : s'.length + 1 = mm := by simpa [dk] using hk
        rw [show (a :: s').length = s'.length + 1 from rfl, nI_pred]
        refine ⟨vpn (by omega), vpn (by omega), ?_⟩
        rw [ncl (by omega), hs.1]
        refine next _ _ em ((Fr.rf PiS t).pI _ rfl) ?_
        refine ⟨by rw [pI_s], SKm.cg s' (fun j hj => ?_) hs.2⟩
        rw [pI_n _ _ _ (by omega)]
    · dsimp only at h1
      have hlt := isOp_lt h1
      have hge := isOp_ge h1
      have n1 : ¬ kk = 1 := by omega
      have n2 : ¬ kk = 2 := by omega
      have n3 : ¬ kk = 3 := by omega
      have n4 : ¬ kk = 4 := by omega
      have e3 : z3 = nI kk := e3
      subst e3
      have hz : ∀ q : Nat, q < 5 → ¬ nI kk = nI q := fun q hq e => by have := nI_inj (by omega) (by omega) e; omega
      refine br_f (hz 1 (by decide)) ?_
      refine ⟨fun _ => ?_, fun c => absurd c (hz 2 (by decide))⟩
      refine ⟨fun _ => ?_, fun c => absurd c (hz 3 (by decide))⟩
      refine ⟨fun _ => ?_, fun c => absurd c (hz 4 (by decide))⟩
      match s, hs, hk, hsb with
      | [], _, hk, _ => simp [dk, n1, n2, n3, n4] at hk
      | [a], _, hk, _ => simp [dk, n1, n2, n3, n4] at hk
      | a :: a2 :: s', hs, hk, hsb =>
        have hls : s'.length + 1 + 1 ≤ b := hsb
        have em : s'.length + 1 = mm := by simpa [dk, n1, n2, n3, n4] using hk
        rw [show (a :: a2 :: s').length = s'.length + 1 + 1 from rfl, pk_m1, nI_pred]
        refine ⟨vpn (by omega), vpn (by omega), ?_⟩
        have r1 : t.1 73 (s'.length + 1) = a := hs.1
        have r2 : t.1 73 s'.length = a2 := hs.2.1
        rw [ncl (by omega), ncl (by omega), r1, r2]
        refine sr_twoOf h1 ⟨vpn (by omega), ?_⟩
        refine next _ _ em ((Fr.rf PiS t).pI _ rfl) ?_
        have : tk nm (a :: a2 :: s') (kk, vv) = op2 kk a2 a :: s' := by simp [tk, n1, n2, n3, n4]
        rw [this]
        refine ⟨by rw [pI_s], SKm.cg s' (fun j hj => ?_) hs.2.2⟩
        rw [pI_n _ _ _ (by omega)]
theorem sr_worked {b e : Nat} {xs : List Tok} {nm : Nat → Int32} {P : Int32 → Tt → Prop} (he : e ≤ 130) (hx : WE xs) (hat : AtM t b xs) (hb : b + xs.length = e) (hnm : ∀ k, k < 6 → t.1 72 k = nm k) (h : ∀ t', Fr PiS t t' → P (wv nm xs) t') : Rt g (d + 1) mX8_worked 0 [some (.ref 57), some (.int 0), some (.int (nI b)), some (.int (nI e)), none, none, none] [] t (QI P) := by
  apply bX8_worked_0
  intro z1 e1
  rw [m130] at e1
  subst e1
  refine sr_seg he xs b [] 1 t hx.1 (hx.2 0) hat hb (Nat.zero_le _) hnm trivial (fun t' hf hs => ?_)
  rw [WE_ev hx] at hs
  apply bX8_worked_12
  rw [m130]
  refine br_t (nI_le (Nat.le_refl _) (by omega)) (qi ?_)
  have : t'.1 73 0 = wv nm xs := hs.1
  rw [this]
  exact h t' hf
def LnM (t : Tt) : Nat → Nat → Prog → Prop
  | _, _, [] => True
  | l, s, (te, va) :: r => t.1 70 l = nI (s + te.length) ∧ t.1 71 l = nI (s + te.length + va.length) ∧ AtM t s (te ++ va) ∧ LnM t (l + 1) (s + te.length + va.length) r
def mlen : Prog → Nat
  | [] => 0
  | (te, va) :: r => te.length + va.length + mlen r
theorem LnM.fr {t t' : Tt} (hf : Fr PiS t t') : ∀ (p : Prog) (l s : Nat), LnM t l s p → LnM t' l s p := by
  intro p
  induction p with
  | nil => intro l s _; trivial
  | cons x p ih =>
    intro l s h
    obtain ⟨te, va⟩ := x
    exact ⟨(hf.1 _ _ (by unfold PiS; omega)).trans h.1, (hf.1 _ _ (by unfold PiS; omega)).trans h.2.1, h.2.2.1.fr hf, ih _ _ h.2.2.2⟩
theorem sr_lines {n : Nat} {nm : Nat → Int32} {P : Int32 → Tt → Prop} (hn : n ≤ 61) :
    ∀ (p : Prog) (l s : Nat) (t : Tt), progOk p → LnM t l s p → l + p.length = n → s + mlen p ≤ 130 → t.1 69 0 = nI n → (∀ k, k < 6 → t.1 72 k = nm k) → (∀ t', Fr PiS t t' → P (pv nm p) t') →
    Rt g (d + 2) mX8_gives 7 [some (.ref 57), some (.int 0), some (.int (nI s)), some (.int (nI l))] [] t (QI P) := by
  intro p
  induction p with
  | nil =>
    intro l s t _ _ hl _ h69 _ k
    have : l = n := by simpa using hl
    apply bX8_gives_7
    refine ⟨vpn (k := 0) (by decide), ?_⟩
    rw [show (0 : Int32).toNatClampNeg = 0 from rfl, h69, m61]
    exact br_t (nI_le (by omega) (by omega)) (qi (k t (Fr.rf _ _)))
  | cons x p ih =>
    intro l s t hok hln hl hs h69 hnm k
    obtain ⟨te, va⟩ := x
    obtain ⟨ok1, ok2⟩ := hok (te, va) List.mem_cons_self
    dsimp only at ok1 ok2
    have hokp : progOk p := fun y hy => hok y (List.mem_cons_of_mem _ hy)
    have hll : l + (p.length + 1) = n := hl
    have hs' : s + (te.length + va.length + mlen p) ≤ 130 := hs
    obtain ⟨c1, c2, c3, c4⟩ := hln
    obtain ⟨a1, a2⟩ := c3.app
    have worthAt : ∀ t', Fr PiS t t' → (∀ t'', Fr PiS t t'' → P (wv nm va) t'') → Rt g (d + 2) mX8_gives 47 [some (.ref 57), some (.int 0), none, some (.int (nI l))] [] t' (QI P) := by
      intro t' hf k'
      apply bX8_gives_47
      refine ⟨vpn (by omega), vpn (by omega), ?_⟩
      rw [ncl (by omega), hf.1 70 _ (by unfold PiS; omega), hf.1 71 _ (by unfold PiS; omega), c1, c2]
      refine sr_worked (nm := nm) (by omega) ok2 (a2.fr hf) rfl (fun q hq => by rw [hf.1 _ _ (by unfold PiS; omega)]; exact hnm q hq) (fun t'' hf' => qi (k' t'' (hf.tr hf')))
    apply bX8_gives_7
    refine ⟨vpn (k := 0) (by decide), ?_⟩
    rw [show (0 : Int32).toNatClampNeg = 0 from rfl, h69, m61]
    refine br_f (nI_ge (by omega) (by omega)) ⟨vpn (by omega), ?_⟩
    rw [ncl (by omega), c1]
    by_cases hte : te = []
    · subst hte
      exact br_t rfl (worthAt t (Fr.rf _ _) (fun t'' hf => by simpa [pv] using k t'' hf))
    · have we : WE te := by rcases ok1 with h | h; exact absurd h hte; exact h
      have hpos : 0 < te.length := List.length_pos_iff.mpr hte
      refine br_f (fun c => by have := nI_inj (by omega) (by omega) c; omega) ⟨vpn (by omega), ?_⟩
      refine sr_worked (nm := nm) (by omega) we a1 rfl hnm (fun t' hf => ?_)
      refine ⟨fun c => ⟨vpn (by omega), ?_⟩, fun c => worthAt t' hf (fun t'' hf' => by simpa [pv, hte, c] using k t'' hf')⟩
      intro z10 e10
      rw [hf.1 71 _ (by unfold PiS; omega), c2] at e10
      subst e10
      rw [nI_1]
      refine ih (l + 1) (s + te.length + va.length) t' hokp (LnM.fr hf p _ _ c4) (by omega) (by omega) (by rw [hf.1 _ _ (by unfold PiS; omega)]; exact h69) (fun q hq => by rw [hf.1 _ _ (by unfold PiS; omega)]; exact hnm q hq) (fun t'' hf' => by simpa [pv, hte, c] using k t'' (hf.tr hf'))
/-- the reference holds a program; none: no law was told -/
def LwM (t : Tt) (p : Prog) : Prop := (p = [] ∧ t.1 57 26 = 0) ∨ (p ≠ [] ∧ t.1 57 26 = 1 ∧ progOk p ∧ p.length ≤ 61 ∧ mlen p ≤ 130 ∧ t.1 69 0 = nI p.length ∧ LnM t 0 0 p)
theorem sr_gives {p : Prog} {nm : Nat → Int32} {P : Int32 → Tt → Prop} (hp : LwM t p) (hne : p ≠ []) (hnm : ∀ k, k < 6 → t.1 72 k = nm k) (h : ∀ t', Fr PiS t t' → P (pv nm p) t') : Rt g (d + 2) mX8_gives 0 [some (.ref 57), some (.int 0), none, none] [] t (QI P) := by
  rcases hp with ⟨h1, -⟩ | ⟨-, -, h1, h2, h3, h4, h5⟩
  · exact absurd h1 hne
  · apply bX8_gives_0
    intro z1 e1
    have e1 : z1 = nI 0 := e1
    subst e1
    exact sr_lines h2 p 0 0 t h1 h5 (Nat.zero_add _) (by omega) h4 hnm h
end P27
