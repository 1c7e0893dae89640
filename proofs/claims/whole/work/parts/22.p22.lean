/-! PURE LAYER: a lie takes flakes off -/
section P22
variable {g : Gt} {d : Nat} {t : Tt}
def upN {α : Type} (f : Nat → α) (k : Nat) (v : α) : Nat → α := fun j => if j = k then v else f j
theorem upN_s {α : Type} (f : Nat → α) (k : Nat) (v : α) : upN f k v k = v := by simp [upN]
theorem upN_n {α : Type} (f : Nat → α) {k j : Nat} (v : α) (h : j ≠ k) : upN f k v j = f j := by simp [upN, h]
theorem upN_id {α : Type} (f : Nat → α) (k : Nat) : upN f k (f k) = f := by funext j; unfold upN; split <;> simp_all
/-- the mouth and what came off, behind i teeth, the first of them z % 8 -/
def lk (c z due : Nat) (m : Nat → Nat) : Nat → (Nat → Nat) × Nat
  | 0 => (m, 0)
  | i + 1 => if capd c ((z + i) % 8) = 1 then lk c z due m i else (upN (lk c z due m i).1 ((z + i) % 8) ((lk c z due m i).1 ((z + i) % 8) - min (due - (lk c z due m i).2) ((lk c z due m i).1 ((z + i) % 8))), (lk c z due m i).2 + min (due - (lk c z due m i).2) ((lk c z due m i).1 ((z + i) % 8)))
theorem lk_off (c z due : Nat) (m : Nat → Nat) : ∀ i, (lk c z due m i).2 ≤ due := by
  intro i
  induction i with
  | zero => simp [lk]
  | succ i ih =>
    simp only [lk]
    split
    · exact ih
    · show _ + _ ≤ due
      omega
theorem lk_le (c z due : Nat) (m : Nat → Nat) {b : Nat} (h : ∀ k, k < 8 → m k ≤ b) : ∀ i k, k < 8 → (lk c z due m i).1 k ≤ b := by
  intro i
  induction i with
  | zero => intro k hk; exact h k hk
  | succ i ih =>
    intro k hk
    simp only [lk]
    split
    · exact ih k hk
    · show upN _ _ _ k ≤ b
      unfold upN
      split
      · have := ih ((z + i) % 8) (Nat.mod_lt _ (by decide)); omega
      · exact ih k hk
theorem lk_stop (c z due : Nat) (m : Nat → Nat) {i : Nat} (h : (lk c z due m i).2 = due) : ∀ j, lk c z due m (i + j) = lk c z due m i := by
  intro j
  induction j with
  | zero => rfl
  | succ j ih =>
    rw [← Nat.add_assoc]
    simp only [lk]
    split
    · exact ih
    · rw [ih, h, Nat.sub_self, Nat.zero_min, Nat.sub_zero, upN_id, Nat.add_zero]
      exact Prod.ext rfl h.symm
def setF (a : Pp) (p : Nat) (m : Nat → Nat) : Pp := (pn a, pg a, upN (pf a) p m, pc a, pl a)
def setL (a : Pp) (p : Nat) (v : Int32) : Pp := (pn a, pg a, pf a, pc a, upN (pl a) p v)
theorem setF_id (a : Pp) (p : Nat) : setF a p (pf a p) = a := by unfold setF; rw [upN_id]
def lieM (due : Nat) (a : Pp) (p z : Nat) : (Nat → Nat) × Nat := lk (pc a p) z due (pf a p) 8
def lieA (due : Nat) (a : Pp) (p z : Nat) : Pp := setL (setF a p (lieM due a p z).1) p (pl a p + 1)
def lieO (due : Nat) (a : Pp) (p z : Nat) : Nat := (lieM due a p z).2
theorem setF_W {a : Pp} (hw : PpW a) {p : Nat} {m : Nat → Nat} (hm : ∀ k, k < 8 → m k ≤ 9) : PpW (setF a p m) := by
  refine ⟨hw.1, hw.2.1, fun q hq k hk => ?_, hw.2.2.2⟩
  show upN (pf a) p m q k ≤ 9
  unfold upN
  split
  · exact hm k hk
  · exact hw.2.2.1 q hq k hk
theorem setL_W {a : Pp} (hw : PpW a) {p : Nat} {v : Int32} : PpW (setL a p v) := hw
theorem lieA_W {a : Pp} (hw : PpW a) {p : Nat} (hp : p < pn a) (due z : Nat) : PpW (lieA due a p z) := setL_W (setF_W hw (lk_le _ _ _ _ (fun k hk => hw.2.2.1 p hp k hk) 8))
/-- a tooth of a mouth is written -/
theorem Mth.putF {t : Tt} {o i j fo co lo : Nat} {a : Pp} (h : Mth t o i j fo co lo a) {p k v : Nat} {m : Nat → Nat} (hp : p < pn a) (hk : k < 8) (hm : m = upN (pf a p) k v) (d1 : fo ≠ o) (d2 : fo ≠ co) (d3 : fo ≠ lo) : Mth (pI t fo (8 * p + k) (nI v)) o i j fo co lo (setF a p m) := by
  refine ⟨?_, ?_, fun q hq l hl => ?_, fun q hq => ?_, fun q hq => ?_⟩
  · rw [pI_o _ _ _ _ (Ne.symm d1)]; exact h.1
  · rw [pI_o _ _ _ _ (Ne.symm d1)]; exact h.2.1
  · rw [pI_a]
    show _ = nI (upN (pf a) p m q l)
    unfold upN
    by_cases hqp : q = p
    · subst hqp
      rw [if_pos rfl, hm]
      unfold upN
      by_cases hlk : l = k
      · subst hlk; rw [if_pos ⟨rfl, rfl⟩, if_pos rfl]
      · rw [if_neg (fun e => hlk (by omega)), if_neg hlk]; exact h.2.2.1 q hq l hl
    · rw [if_neg (fun e => by omega), if_neg hqp]; exact h.2.2.1 q hq l hl
  · rw [pI_o _ _ _ _ (Ne.symm d2)]; exact h.2.2.2.1 q hq
  · rw [pI_o _ _ _ _ (Ne.symm d3)]; exact h.2.2.2.2 q hq
theorem Mth.putL {t : Tt} {o i j fo co lo : Nat} {a : Pp} (h : Mth t o i j fo co lo a) {p : Nat} {v : Int32} (d1 : lo ≠ o) (d2 : lo ≠ co) (d3 : lo ≠ fo) : Mth (pI t lo p v) o i j fo co lo (setL a p v) := by
  refine ⟨?_, ?_, fun q hq l hl => ?_, fun q hq => ?_, fun q hq => ?_⟩
  · rw [pI_o _ _ _ _ (Ne.symm d1)]; exact h.1
  · rw [pI_o _ _ _ _ (Ne.symm d1)]; exact h.2.1
  · rw [pI_o _ _ _ _ (Ne.symm d3)]; exact h.2.2.1 q hq l hl
  · rw [pI_o _ _ _ _ (Ne.symm d2)]; exact h.2.2.2.1 q hq
  · rw [pI_a]
    show _ = upN (pl a) p v q
    unfold upN
    by_cases hqp : q = p
    · subst hqp; rw [if_pos ⟨rfl, rfl⟩, if_pos rfl]
    · rw [if_neg (fun e => hqp e.2), if_neg hqp]; exact h.2.2.2.2 q hq
/-- the law's own scratch -/
def LwS (o j : Nat) : Prop := (o = 35 ∧ j = 5) ∨ (o = 40 ∧ j = 5) ∨ o = 38 ∨ o = 39 ∨ o = 43 ∨ o = 44
def LieS (o : Nat) (o' j : Nat) : Prop := LwS o' j ∨ o' = o + 1 ∨ o' = o + 3
theorem min_n {x y : Nat} (hx : x < 2 ^ 31) (hy : y < 2 ^ 31) : imin (nI x) (nI y) = nI (min x y) := by
  unfold imin
  by_cases h : y < x
  · rw [if_pos (nI_lt h hx), Nat.min_eq_right (by omega)]
  · rw [if_neg (nI_nlt (by omega) hy), Nat.min_eq_left (by omega)]
theorem lk_cap (c z due : Nat) (m : Nat → Nat) {i : Nat} (h : capd c ((z + i) % 8) = 1) : lk c z due m (i + 1) = lk c z due m i := by simp only [lk]; rw [if_pos h]
theorem sp_lie {o r p f z due : Nat} {a : Pp} {P : Int32 → Tt → Prop} (ho : isMo o) (hr : isLw r) (hm : MoC t o a) (hw : PpW a) (hp : p < pn a) (hz : z < 10) (hdue : due ≤ 99)
    (hpr : ∀ P' : Int32 → Tt → Prop, (∀ t', Fr LwS t t' → P' (nI due) t') → Rt g (d + 1) mX3_priceOf 0 [some (.ref r), some (.ref o), some (.int (nI p)), some (.int (nI f)), some (.int (nI z)), none] [] t (QI P'))
    (h : ∀ t', Fr (LieS o) t t' → MoC t' o (lieA due a p z) → P (nI (lieO due a p z)) t') : Rt g (d + 2) mX5_lie 0 [some (.ref o), some (.ref r), some (.int (nI p)), some (.int (nI f)), some (.int (nI z)), none, none, none, none, none, none] [] t (QI P) := by
  have hn := hw.1
  have ho' := ho
  unfold isMo at ho'
  have dis : ∀ o' j, LwS o' j → o' ≠ o ∧ o' ≠ o + 1 ∧ o' ≠ o + 2 ∧ o' ≠ o + 3 := by intro o' j hl; unfold LwS at hl; omega
  apply bX5_lie_0 ho hr
  refine hpr _ (fun t1 hf1 => ?_)
  have hm1 : MoC t1 o a := hm.fr hf1 (fun q => (dis _ _ q).1 rfl) (fun q => (dis _ _ q).1 rfl) (fun k q => (dis _ _ q).2.1 rfl) (fun k q => (dis _ _ q).2.2.1 rfl) (fun k q => (dis _ _ q).2.2.2 rfl)
  have hf1' : Fr (LieS o) t t1 := hf1.mo (fun _ _ q => Or.inl q)
  have fin : ∀ t2, Fr (LieS o) t t2 → MoC t2 o (setF a p (lieM due a p z).1) → Rt g (d + 2) mX5_lie 102 [some (.ref o), none, some (.int (nI p)), none, none, none, some (.int (nI (lieO due a p z))), none, none, none, none] [] t2 (QI P) := by
    intro t2 hf2 hm2
    apply bX5_lie_102 ho
    refine ⟨vpn (by omega), vpn (by omega), qi ?_⟩
    rw [ncl (by omega)]
    refine h _ (hf2.pI _ (Or.inr (Or.inr rfl))) ?_
    have e : t2.1 (o + 3) p = pl a p := hm2.2.2.2.2 p hp
    rw [e]
    exact hm2.putL (by omega) (by omega) (by omega)
  have key : ∀ n i t2, i + n = 8 → Fr (LieS o) t t2 → MoC t2 o (setF a p (lk (pc a p) z due (pf a p) i).1) → Rt g (d + 2) mX5_lie 17 [some (.ref o), none, some (.int (nI p)), none, some (.int (nI z)), some (.int (nI due)), some (.int (nI (lk (pc a p) z due (pf a p) i).2)), some (.int (nI i)), none, none, none] [] t2 (QI P) := by
    intro n
    induction n with
    | zero =>
      intro i t2 hi hf2 hm2
      have : i = 8 := by omega
      subst this
      apply bX5_lie_17 ho
      exact br_t (nI_le (a := 8) (by omega) (by decide)) (fin t2 hf2 hm2)
    | succ n ih =>
      intro i t2 hi hf2 hm2
      have hoff := lk_off (pc a p) z due (pf a p) i
      have hle := lk_le (pc a p) z due (pf a p) (fun k hk => hw.2.2.1 p hp k hk) i
      apply bX5_lie_17 ho
      refine br_f (nI_ge (b := 8) (by omega) (by decide)) ?_
      refine ⟨fun c => ?_, fun c => ?_⟩
      · have c' := (nI_leI (by omega) (by omega)).mp c
        have e := lk_stop (pc a p) z due (pf a p) (i := i) (by omega) (n + 1)
        rw [hi] at e
        rw [← e] at hm2 ⊢
        exact fin t2 hf2 hm2
      · have c' : ¬ due ≤ (lk (pc a p) z due (pf a p) i).2 := fun q => c (nI_le q (by omega))
        intro z3 ez
        have ez' : z3 = nI ((z + i) % 8) := by rw [ez, nI_add, l8, jr_n (by omega) (by decide) (by decide)]
        rw [ez']
        have ht := Nat.mod_lt (z + i) (show 0 < 8 by decide)
        refine sp_isCapped ho hm2 (setF_W hw hle) hp ht ?_
        rw [show capd (pc (setF a p (lk (pc a p) z due (pf a p) i).1) p) ((z + i) % 8) = capd (pc a p) ((z + i) % 8) from rfl]
        rcases capd_01 (pc a p) ((z + i) % 8) with e | e
        · rw [e]
          refine ⟨fun q => absurd rfl q, fun _ => ?_⟩
          intro z7 ez7
          have hx : z7 = nI (8 * p + (z + i) % 8) := by rw [ez7, ix8]
          have hv : vp_in z7 56 := by rw [hx]; exact vpn (by omega)
          have hc7 : z7.toNatClampNeg = 8 * p + (z + i) % 8 := by rw [hx]; exact ncl (by omega)
          refine ⟨hv, ?_⟩
          rw [hc7]
          have hre : t2.1 (o + 1) (8 * p + (z + i) % 8) = nI ((lk (pc a p) z due (pf a p) i).1 ((z + i) % 8)) := by
            have := hm2.2.2.1 p hp _ ht
            rw [this]
            show nI (upN (pf a) p _ p _) = _
            rw [upN_s]
          have hb := hle _ ht
          intro z9 ez9
          rw [hre, pk_sub (by omega), min_n (by omega) (by omega)] at ez9
          refine ⟨hv, hv, ?_⟩
          intro z12 ez12
          have e1 : lk (pc a p) z due (pf a p) (i + 1) = (upN (lk (pc a p) z due (pf a p) i).1 ((z + i) % 8) ((lk (pc a p) z due (pf a p) i).1 ((z + i) % 8) - min (due - (lk (pc a p) z due (pf a p) i).2) ((lk (pc a p) z due (pf a p) i).1 ((z + i) % 8))), (lk (pc a p) z due (pf a p) i).2 + min (due - (lk (pc a p) z due (pf a p) i).2) ((lk (pc a p) z due (pf a p) i).1 ((z + i) % 8))) := by
            simp only [lk]; rw [if_neg (by omega)]
          rw [ez12, ez9, nI_add, hre, pk_sub (by omega)]
          apply bX5_lie_96 ho
          rw [nI_1]
          have := ih (i + 1) (pI t2 (o + 1) (8 * p + (z + i) % 8) (nI ((lk (pc a p) z due (pf a p) i).1 ((z + i) % 8) - min (due - (lk (pc a p) z due (pf a p) i).2) ((lk (pc a p) z due (pf a p) i).1 ((z + i) % 8))))) (by omega) (hf2.pI _ (Or.inr (Or.inl rfl))) ?_
          · rw [e1] at this
            exact this
          · have h2 := hm2.putF (p := p) (k := (z + i) % 8) (v := (lk (pc a p) z due (pf a p) i).1 ((z + i) % 8) - min (due - (lk (pc a p) z due (pf a p) i).2) ((lk (pc a p) z due (pf a p) i).1 ((z + i) % 8))) (m := (lk (pc a p) z due (pf a p) (i + 1)).1) hp ht (by rw [e1]; show _ = upN (upN (pf a) p _ p) _ _; rw [upN_s]) (by omega) (by omega) (by omega)
            have e2 : setF (setF a p (lk (pc a p) z due (pf a p) i).1) p (lk (pc a p) z due (pf a p) (i + 1)).1 = setF a p (lk (pc a p) z due (pf a p) (i + 1)).1 := by
              unfold setF
              refine Prod.ext rfl (Prod.ext rfl (Prod.ext ?_ rfl))
              show upN (upN (pf a) p _) p _ = upN (pf a) p _
              funext q
              unfold upN
              split <;> simp_all
            rw [e2] at h2
            exact h2
        · rw [e]
          refine ⟨fun _ => ?_, fun q => absurd q (by decide)⟩
          apply bX5_lie_96 ho
          rw [nI_1]
          have := ih (i + 1) t2 (by omega) hf2 (by rw [lk_cap _ _ _ _ e]; exact hm2)
          rw [lk_cap _ _ _ _ e] at this
          exact this
  refine Rt.dp (d := d + 2) ?_ (Nat.le_refl _)
  have k0 := key 8 0 t1 rfl hf1' (by rw [show (lk (pc a p) z due (pf a p) 0).1 = pf a p from rfl, setF_id]; exact hm1)
  exact k0
end P22
