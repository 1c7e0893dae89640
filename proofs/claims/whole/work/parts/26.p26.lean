/-! PURE LAYER: workedOut -/
section P26
variable {g : Gt} {d : Nat} {t : Tt}
theorem isOp_lt {k : Nat} (h : isOp k) : k < 128 := by unfold isOp at h; omega
theorem isOp_ge {k : Nat} (h : isOp k) : 36 < k := by unfold isOp at h; omega
theorem dk_le {n : Nat} {x : Tok} {m : Nat} (h : dk n x = some m) : m ≤ n + 1 := by
  unfold dk at h
  split at h
  · cases h; omega
  · split at h
    · split at h
      · cases h; omega
      · cases h
    · split at h
      · cases h; omega
      · cases h
theorem sp_seg {r n : Nat} {nm : Nat → Int32} {Q : Option Value → Tt → Prop} (hr : isLw r) (hn : n ≤ 128) :
    ∀ (xs : List Tok) (b i : Nat) (s : List Int32) (m : Nat) (t : Tt), (∀ x ∈ xs, okT x) → dv xs s.length = some m → At t r b (enc xs) → t.1 r 4 = nI n → b + xs.length < n + 1 → i ≤ b → s.length ≤ b → (∀ k, k < 6 → t.1 (r + 4) k = nm k) → Stk t r s →
    (∀ t', Fr (StS r) t t' → Stk t' r (ev nm xs s) → Rt g (d + 1) mX3_workedOut 9 [some (.ref r), some (.int (nI (b + xs.length))), some (.int (nI (i + xs.length))), none, none, none] [] t' Q) →
    Rt g (d + 1) mX3_workedOut 9 [some (.ref r), some (.int (nI b)), some (.int (nI i)), none, none, none] [] t Q := by
  intro xs
  induction xs with
  | nil => intro b i s m t _ _ _ _ _ _ _ _ hs k; exact k t (Fr.rf _ _) hs
  | cons x xs ih =>
    intro b i s m t hok hd hat h4 hb hi hsb hnm hs k
    simp only [dv] at hd
    cases hk : dk s.length x with
    | none => rw [hk] at hd; cases hd
    | some mm =>
    rw [hk] at hd
    have hl := tk_len (nm := nm) hk
    have hle := dk_le hk
    have hbl : b + (xs.length + 1) < n + 1 := hb
    obtain ⟨⟨c1, c2⟩, hat'⟩ := At.hd (show At t r b ((sgn x, vlu x) :: enc xs) from hat)
    have next : ∀ t', Fr (StS r) t t' → Stk t' r (tk nm s x) → Rt g (d + 1) mX3_workedOut 220 [some (.ref r), some (.int (nI (b + 1))), some (.int (nI i)), none, none, none] [] t' Q := by
      intro t' hf hs'
      apply bX3_workedOut_220 hr
      rw [nI_1]
      refine ih (b + 1) (i + 1) (tk nm s x) m t' (fun y hy => hok y (List.mem_cons_of_mem _ hy)) (by rw [hl]; exact hd) (hat'.fr hf) ?_ (by omega) (by omega) (by rw [hl]; omega) (fun q hq => ?_) hs' (fun t'' hf' hs'' => ?_)
      · rw [hf.1 _ _ (by unfold StS; omega)]; exact h4
      · rw [hf.1 _ _ (by unfold StS; omega)]; exact hnm q hq
      · have := k t'' (hf.tr hf') hs''
        rwa [show b + 1 + xs.length = b + (x :: xs).length by simp; omega, show i + 1 + xs.length = i + (x :: xs).length by simp; omega]
    apply bX3_workedOut_9 hr
    rw [h4]
    refine br_f (nI_ge (by omega) (by omega)) (br_f (nI_pos (by omega)) (br_f (nI_ge (by omega) (by omega)) ⟨vpn (by omega), ?_⟩))
    intro z5 e5
    refine ⟨vpn (by omega), ?_⟩
    intro z7 e7
    rw [ncl (by omega)] at e5 e7
    rw [c1] at e5
    rw [c2] at e7
    have ox := hok x List.mem_cons_self
    obtain ⟨kk, vv⟩ := x
    rcases ox with ⟨h1, h2⟩ | ⟨h1, h2⟩ | h1 | h1 | h1
    · dsimp only at h1 h2; subst h1
      have e5 : z5 = 0 := e5
      have e7 : z7 = nI vv := e7
      subst e5 e7
      refine br_f (by decide) (br_f (by decide) (br_t rfl ?_))
      exact sp_push hr hs (by omega) (fun t' hf hs' => by rw [nI_1]; exact next t' hf hs')
    · dsimp only at h1 h2; subst h1
      have e5 : z5 = 1 := e5
      have e7 : z7 = nI vv := e7
      subst e5 e7
      refine br_f (by decide) (br_f (by decide) (br_f (by decide) (br_t rfl (br_f (nI_pos (by omega)) (br_f (nI_ge (b := 6) (by omega) (by decide)) ⟨vpn h2, ?_⟩)))))
      rw [ncl (by omega), hnm vv h2]
      apply bX3_workedOut_141 hr
      exact sp_push hr hs (by omega) (fun t' hf hs' => by rw [nI_1]; exact next t' hf hs')
    · dsimp only at h1; subst h1
      have e5 : z5 = -33 := e5
      subst e5
      refine br_f (by decide) (br_t rfl ?_)
      cases s with
      | nil => simp [dk] at hk
      | cons a s' =>
        have hls : s'.length + 1 ≤ b := hsb
        refine sp_pop hr hs (by omega) (fun t' hf hs' => ?_)
        refine ⟨fun c => ?_, fun c => ?_⟩
        · apply bX3_workedOut_182 hr
          refine sp_push hr hs' (by omega) (fun t'' hf' hs'' => ?_)
          rw [nI_1]
          refine next t'' (hf.tr hf') ?_
          simpa [tk, c] using hs''
        · apply bX3_workedOut_182 hr
          refine sp_push hr hs' (by omega) (fun t'' hf' hs'' => ?_)
          rw [nI_1]
          refine next t'' (hf.tr hf') ?_
          simpa [tk, c] using hs''
    · dsimp only at h1; subst h1
      have e5 : z5 = -45 := e5
      subst e5
      refine br_t rfl ?_
      cases s with
      | nil => simp [dk] at hk
      | cons a s' =>
        have hls : s'.length + 1 ≤ b := hsb
        refine sp_pop hr hs (by omega) (fun t' hf hs' => ?_)
        refine sp_push hr hs' (by omega) (fun t'' hf' hs'' => ?_)
        rw [nI_1]
        refine next t'' (hf.tr hf') ?_
        simpa [tk] using hs''
    · dsimp only at h1
      have hlt := isOp_lt h1
      have hge := isOp_ge h1
      have n1 : ¬ kk = 1 := by omega
      have n2 : ¬ kk = 2 := by omega
      have n3 : ¬ kk = 3 := by omega
      have n4 : ¬ kk = 4 := by omega
      have e5 : z5 = nI kk := by rw [e5]; simp [sgn, n1, n2, n3, n4]
      subst e5
      have hz : ∀ q : Nat, q < 5 → ¬ nI kk = nI q := fun q hq e => by have := nI_inj (by omega) (by omega) e; omega
      have hneg : ∀ q : Int32, q < 0 → ¬ nI kk = q := fun q hq e => nI_pos (show kk < 2 ^ 31 by omega) (by rw [e]; exact hq)
      refine br_f (hneg _ (by decide)) (br_f (hneg _ (by decide)) (br_f (hz 0 (by decide)) (br_f (hz 1 (by decide)) (br_f (hz 2 (by decide)) (br_f (hz 3 (by decide)) ?_)))))
      match s, hs, hk, hsb with
      | [], _, hk, _ => simp [dk, n1, n2, n3, n4] at hk
      | [a], _, hk, _ => simp [dk, n1, n2, n3, n4] at hk
      | a :: a2 :: s', hs, hk, hsb =>
        have hls : s'.length + 1 + 1 ≤ b := hsb
        refine sp_pop hr hs (by simp; omega) (fun t' hf hs' => ?_)
        refine sp_pop hr hs' (by omega) (fun t'' hf' hs'' => ?_)
        refine sp_together h1 ?_
        refine sp_push hr hs'' (by omega) (fun t3 hf3 hs3 => ?_)
        rw [nI_1]
        refine next t3 ((hf.tr hf').tr hf3) ?_
        simpa [tk, n1, n2, n3, n4] using hs3
def progOk (p : Prog) : Prop := ∀ l ∈ p, (l.1 = [] ∨ WE l.1) ∧ WE l.2
theorem WE_ne {xs : List Tok} (h : WE xs) : xs ≠ [] := by
  intro e
  subst e
  have := h.2 0
  simp [dv] at this
theorem sp_lines {r n : Nat} {nm : Nat → Int32} {P : Int32 → Tt → Prop} (hr : isLw r) (hn : n ≤ 128) :
    ∀ (p : Prog) (b i : Nat) (t : Tt), progOk p → At t r b (cco b p) → t.1 r 4 = nI n → b + clen p = n → i ≤ b → (∀ k, k < 6 → t.1 (r + 4) k = nm k) → Stk t r [] →
    (∀ t', Fr (StS r) t t' → P (pv nm p) t') →
    Rt g (d + 1) mX3_workedOut 9 [some (.ref r), some (.int (nI b)), some (.int (nI i)), none, none, none] [] t (QI P) := by
  intro p
  induction p with
  | nil =>
    intro b i t _ _ h4 hb hi _ _ k
    have hbn : b = n := by simpa [clen] using hb
    apply bX3_workedOut_9 hr
    rw [h4]
    refine ⟨fun _ => qi (k t (Fr.rf _ _)), fun c => ⟨fun _ => qi (k t (Fr.rf _ _)), fun _ => ⟨fun _ => qi (k t (Fr.rf _ _)), fun c2 => absurd (nI_le (by omega) (by omega)) c2⟩⟩⟩
  | cons l p ih =>
    intro b i t hok hat h4 hb hi hnm hs k
    obtain ⟨te, va⟩ := l
    obtain ⟨ok1, ok2⟩ := hok (te, va) List.mem_cons_self
    dsimp only at ok1 ok2
    have hokp : progOk p := fun y hy => hok y (List.mem_cons_of_mem _ hy)
    -- the worth, then the line's end
    have worthAt : ∀ (b' i' : Nat) (t' : Tt), Fr (StS r) t t' → At t' r b' (enc va ++ (2, 0) :: cco (b' + va.length + 1) p) → b' + va.length + 1 + clen p = n → i' ≤ b' → Stk t' r [] → (∀ t'', Fr (StS r) t t'' → P (wv nm va) t'') →
        Rt g (d + 1) mX3_workedOut 9 [some (.ref r), some (.int (nI b')), some (.int (nI i')), none, none, none] [] t' (QI P) := by
      intro b' i' t' hf hat' hb' hi' hs' k'
      obtain ⟨a1, a2⟩ := hat'.app
      have el : (enc va).length = va.length := by simp [enc]
      rw [el] at a2
      refine sp_seg (nm := nm) hr hn va b' i' [] 1 t' ok2.1 (ok2.2 0) a1 (by rw [hf.1 _ _ (by unfold StS; omega)]; exact h4) (by omega) hi' (Nat.zero_le _) (fun q hq => by rw [hf.1 _ _ (by unfold StS; omega)]; exact hnm q hq) hs' (fun t2 hf2 hs2 => ?_)
      rw [WE_ev ok2] at hs2
      obtain ⟨⟨c1, c2⟩, -⟩ := (a2.fr hf2).hd
      have h4' : t2.1 r 4 = nI n := by rw [hf2.1 _ _ (by unfold StS; omega), hf.1 _ _ (by unfold StS; omega)]; exact h4
      apply bX3_workedOut_9 hr
      rw [h4']
      refine br_f (nI_ge (by omega) (by omega)) (br_f (nI_pos (by omega)) (br_f (nI_ge (by omega) (by omega)) ⟨vpn (by omega), ?_⟩))
      intro z5 e5
      refine ⟨vpn (by omega), ?_⟩
      intro z7 e7
      rw [ncl (by omega), c1] at e5
      subst e5
      refine br_f (by decide) (br_f (by decide) (br_f (by decide) (br_f (by decide) (br_t rfl ?_))))
      exact sp_pop hr hs2 (by simp) (fun t3 hf3 _ => qi (k' t3 ((hf.tr hf2).tr hf3)))
    by_cases hte : te = []
    · subst hte
      have hat' : At t r b (enc va ++ (2, 0) :: cco (b + va.length + 1) p) := hat
      have hb' : b + va.length + 1 + clen p = n := by simpa [clen, Nat.add_assoc] using hb
      exact worthAt b i t (Fr.rf _ _) hat' hb' hi hs (fun t'' hf => by simpa [pv] using k t'' hf)
    · have we : WE te := by rcases ok1 with h | h; exact absurd h hte; exact h
      have hat' : At t r b (enc te ++ (3, nI (b + te.length + 1 + va.length + 1)) :: (enc va ++ (2, 0) :: cco (b + te.length + 1 + va.length + 1) p)) := by
        have := hat; simp only [cco] at this; rw [if_neg hte] at this; exact this
      have hb' : b + (te.length + 1) + va.length + 1 + clen p = n := by
        have := hb; simp only [clen] at this; rw [if_neg hte] at this; omega
      obtain ⟨a1, a2⟩ := hat'.app
      have el : (enc te).length = te.length := by simp [enc]
      rw [el] at a2
      refine sp_seg (nm := nm) hr hn te b i [] 1 t we.1 (we.2 0) a1 h4 (by omega) hi (Nat.zero_le _) hnm hs (fun t2 hf2 hs2 => ?_)
      rw [WE_ev we] at hs2
      obtain ⟨⟨c1, c2⟩, a3⟩ := (a2.fr hf2).hd
      have h4' : t2.1 r 4 = nI n := by rw [hf2.1 _ _ (by unfold StS; omega)]; exact h4
      apply bX3_workedOut_9 hr
      rw [h4']
      refine br_f (nI_ge (by omega) (by omega)) (br_f (nI_pos (by omega)) (br_f (nI_ge (by omega) (by omega)) ⟨vpn (by omega), ?_⟩))
      intro z5 e5
      refine ⟨vpn (by omega), ?_⟩
      intro z7 e7
      have c1 : t2.1 (r + 1) (0 + b + te.length) = 3 := by rw [Nat.zero_add]; exact c1
      have c2 : t2.1 (r + 2) (0 + b + te.length) = nI (b + te.length + 1 + va.length + 1) := by rw [Nat.zero_add]; exact c2
      rw [Nat.zero_add] at c1 c2
      rw [ncl (by omega), c1] at e5
      rw [ncl (by omega), c2] at e7
      subst e5 e7
      refine br_f (by decide) (br_f (by decide) (br_f (by decide) (br_f (by decide) (br_f (by decide) (br_t rfl ?_)))))
      refine sp_pop hr hs2 (by simp) (fun t3 hf3 hs3 => ?_)
      have hf23 := hf2.tr hf3
      refine ⟨fun c => ?_, fun c => ?_⟩
      · apply bX3_workedOut_165 hr
        apply bX3_workedOut_220 hr
        rw [nI_1, nI_1]
        refine worthAt (b + te.length + 1) (i + te.length + 1) t3 hf23 (a3.fr hf3) (by omega) (by omega) hs3 (fun t'' hf => ?_)
        have := k t'' hf
        simpa [pv, hte, c] using this
      · apply bX3_workedOut_165 hr
        apply bX3_workedOut_220 hr
        rw [nI_1]
        obtain ⟨-, a4⟩ := (a3.fr hf3).app
        have el2 : (enc va).length = va.length := by simp [enc]
        rw [el2] at a4
        have a5 := a4.hd.2
        refine ih (b + te.length + 1 + va.length + 1) (i + te.length + 1) t3 hokp a5 (by rw [hf3.1 _ _ (by unfold StS; omega)]; exact h4') (by omega) (by omega) (fun q hq => by rw [hf23.1 _ _ (by unfold StS; omega)]; exact hnm q hq) hs3 (fun t'' hf => ?_)
        have := k t'' (hf23.tr hf)
        simpa [pv, hte, c] using this
/-- a law object that holds a program -/
def LwC (t : Tt) (r : Nat) (p : Prog) : Prop := t.1 r 4 = nI (clen p) ∧ clen p ≤ 128 ∧ progOk p ∧ At t r 0 (cco 0 p)
theorem sp_workedOut {r : Nat} {p : Prog} {nm : Nat → Int32} {P : Int32 → Tt → Prop} (hr : isLw r) (hp : LwC t r p) (hnm : ∀ k, k < 6 → t.1 (r + 4) k = nm k) (h : ∀ t', Fr (StS r) t t' → P (pv nm p) t') : Rt g (d + 1) mX3_workedOut 0 [some (.ref r), none, none, none, none, none] [] t (QI P) := by
  apply bX3_workedOut_0 hr
  have hf0 : Fr (StS r) t (pI t r 5 0) := (Fr.rf (StS r) t).pI _ (Or.inl ⟨rfl, rfl⟩)
  refine sp_lines hr hp.2.1 p 0 0 (pI t r 5 0) hp.2.2.1 (hp.2.2.2.fr hf0) ?_ (Nat.zero_add _) (Nat.le_refl _) (fun k hk => ?_) ⟨pI_s _ _ _ _, trivial⟩ (fun t' hf => h t' (hf0.tr hf))
  · rw [pI_n _ _ _ (by decide)]; exact hp.1
  · rw [pI_o _ _ _ _ (by omega)]; exact hnm k hk
end P26
