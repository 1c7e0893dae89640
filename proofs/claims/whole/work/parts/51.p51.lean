/-! PURE LAYER: people and deeds changed; person -/
section P51
variable {g : Gt} {d : Nat} {t t1 : Tt} {a : Aa}
theorem RC.pd {S : Nat → Nat → Prop} {b : Pp} {D : Nat → Int32} (h : RC t a) (f : Fr S t t1) (hS : ∀ o j, S o j → CSc o j ∨ (1 ≤ o ∧ o ≤ 4) ∨ o = 31) (hm : MoC t1 1 b) (hd : ddC t1 D) : RC t1 (setD (setP a b) D) := by
  have c : ∀ o j, S o j → ((5 ≤ o ∧ o ≤ 8) ∨ (13 ≤ o ∧ o ≤ 21) ∨ ((o = 35 ∧ j = 5) ∨ (o = 40 ∧ j = 5) ∨ o = 38 ∨ o = 39 ∨ o = 43 ∨ o = 44) ∨ (o = 33 ∧ j = 3)) ∨ (1 ≤ o ∧ o ≤ 4) ∨ o = 31 := fun o j q => hS o j q
  obtain ⟨h1, h2, h3, h4, h5, h6, h7, h8, h9⟩ := h
  exact ⟨hm, c_so h2 f (fun o j q => by have := c o j q; omega), c_ch h3 f (fun o j q => by have := c o j q; omega), c_tp h4 f (fun o j q => by have := c o j q; omega), c_lw h5 f (fun o j q => by have := c o j q; omega), c_im h6 f (fun o j q => by have := c o j q; omega), hd, c_bo h8 f (fun o j q => by have := c o j q; omega), c_sh h9 f (fun o j q => by have := c o j q; omega)⟩
theorem RF.pd {S : Nat → Nat → Prop} {b : Pp} {D : Nat → Int32} (h : RF t a) (f : Fr S t t1) (hS : ∀ o j, S o j → MSc o j ∨ (o = 57 ∧ (j = 1 ∨ j = 6)) ∨ (58 ≤ o ∧ o ≤ 60) ∨ o = 82) (hm : MoR t1 b) (hd : ddM t1 D) : RF t1 (setD (setP a b) D) := by
  have c : ∀ o j, S o j → ((72 ≤ o ∧ o ≤ 81) ∨ (o = 57 ∧ (j = 33 ∨ j = 35 ∨ j = 36))) ∨ (o = 57 ∧ (j = 1 ∨ j = 6)) ∨ (58 ≤ o ∧ o ≤ 60) ∨ o = 82 := fun o j q => hS o j q
  obtain ⟨h1, h2, h3, h4, h5, h6, h7, h8, h9⟩ := h
  exact ⟨hm, m_so h2 f (fun o j q => by have := c o j q; omega), m_ch h3 f (fun o j q => by have := c o j q; omega), m_tp h4 f (fun o j q => by have := c o j q; omega), m_lw h5 f (fun o j q => by have := c o j q; omega), m_im h6 f (fun o j q => by have := c o j q; omega), hd, m_bo h8 f (fun o j q => by have := c o j q; omega), m_sh h9 f (fun o j q => by have := c o j q; omega)⟩
/-- one more comes -/
def addP (b : Pp) (c : Nat) (fl : Nat → Nat) : Pp := (pn b + 1, pg b, upN (pf b) (pn b) fl, upN (pc b) (pn b) c, upN (pl b) (pn b) 0)
theorem Mth.add {o i j fo co lo : Nat} {b : Pp} {c : Nat} {fl : Nat → Nat} (h : Mth t o i j fo co lo b) (e1 : t1.1 o i = nI (pn b + 1)) (e2 : t1.1 o j = t.1 o j) (e3 : ∀ m, m < 8 * pn b → t1.1 fo m = t.1 fo m) (e4 : ∀ k, k < 8 → t1.1 fo (8 * pn b + k) = nI (fl k)) (e5 : ∀ p, p < pn b → t1.1 co p = t.1 co p) (e6 : t1.1 co (pn b) = nI c) (e7 : ∀ p, p < pn b → t1.1 lo p = t.1 lo p) (e8 : t1.1 lo (pn b) = 0) : Mth t1 o i j fo co lo (addP b c fl) := by
  refine ⟨e1, e2.trans h.2.1, fun p hp k hk => ?_, fun p hp => ?_, fun p hp => ?_⟩
  · show _ = nI (upN (pf b) (pn b) fl p k)
    have hp : p < pn b + 1 := hp
    unfold upN
    by_cases e : p = pn b
    · rw [e, if_pos rfl]; exact e4 k hk
    · rw [if_neg e]; exact (e3 _ (by omega)).trans (h.2.2.1 p (by omega) k hk)
  · show _ = nI (upN (pc b) (pn b) c p)
    have hp : p < pn b + 1 := hp
    unfold upN
    by_cases e : p = pn b
    · rw [e, if_pos rfl]; exact e6
    · rw [if_neg e]; exact (e5 _ (by omega)).trans (h.2.2.2.1 p (by omega))
  · show _ = upN (pl b) (pn b) 0 p
    have hp : p < pn b + 1 := hp
    unfold upN
    by_cases e : p = pn b
    · rw [e, if_pos rfl]; exact e8
    · rw [if_neg e]; exact (e7 _ (by omega)).trans (h.2.2.2.2 p (by omega))
theorem chW.mono {n m : Nat} {c : Ch} (h : chW n c) (hm : n ≤ m) : chW m c := by
  refine ⟨h.1, h.2.1, fun i hi => ?_⟩
  rcases h.2.2 i hi with q | q | q | q
  · exact Or.inl ⟨q.1, by omega, q.2.2⟩
  · exact Or.inr (Or.inl ⟨q.1, by omega, q.2.2⟩)
  · exact Or.inr (Or.inr (Or.inl q))
  · exact Or.inr (Or.inr (Or.inr q))
theorem addP_W {b : Pp} (h : PpW b) (hn : pn b < 7) {c : Nat} (hc : c < 256) {fl : Nat → Nat} (hf : ∀ k, k < 8 → fl k ≤ 9) : PpW (addP b c fl) := by
  refine ⟨show pn b + 1 ≤ 7 by omega, h.2.1, fun p hp k hk => ?_, fun p hp => ?_⟩
  · show upN (pf b) (pn b) fl p k ≤ 9
    have hp : p < pn b + 1 := hp
    unfold upN
    by_cases e : p = pn b
    · rw [e, if_pos rfl]; exact hf k hk
    · rw [if_neg e]; exact h.2.2.1 p (by omega) k hk
  · show upN (pc b) (pn b) c p < 256
    have hp : p < pn b + 1 := hp
    unfold upN
    by_cases e : p = pn b
    · rw [e, if_pos rfl]; exact hc
    · rw [if_neg e]; exact h.2.2.2 p (by omega)
theorem AW.add (h : AW a) (hn : pn (aP a) < 7) {c : Nat} (hc : c < 256) {fl : Nat → Nat} (hf : ∀ k, k < 8 → fl k ≤ 9) : AW (setD (setP a (addP (aP a) c fl)) (aD a)) := by
  obtain ⟨w1, w2, w3, w4, w5, w6, w7⟩ := h
  exact ⟨addP_W w1 hn hc hf, w2, w3.mono (Nat.le_succ _), w4, fun q => ⟨(w5 q).1, Nat.le_succ_of_le (w5 q).2⟩, w6, w7⟩
/-- a newcomer -/
theorem sp_newcomer {c : Nat} {P : Int32 → Tt → Prop} (h : Rel t a) (hn : pn (aP a) < 7) (k : ∀ t', Fr (fun o j => (o = 1 ∧ j = 0) ∨ (o = 3 ∧ j = pn (aP a)) ∨ (o = 4 ∧ j = pn (aP a))) t t' → t'.1 1 0 = nI (pn (aP a) + 1) → t'.1 3 (pn (aP a)) = nI c → t'.1 4 (pn (aP a)) = 0 → P (nI (pn (aP a))) t') : Rt g d mX5_newcomer 0 [some (.ref 1), some (.int (nI c)), none] [] t (QI P) := by
  apply bX5_newcomer_0 mo1
  intro z1 e1
  rw [h.pc] at e1
  subst e1
  refine ⟨vpn hn, vpn hn, qi ?_⟩
  have e0 : (pI (pI t (1 + 2) (nI (pn (aP a))).toNatClampNeg (nI c)) (1 + 3) (nI (pn (aP a))).toNatClampNeg 0).1 1 0 + 1 = nI (pn (aP a) + 1) := by
    rw [pI_o _ _ _ _ (by decide), pI_o _ _ _ _ (by decide), h.pc, nI_1]
  rw [e0, ncl (by omega)]
  refine k _ ?_ ?_ ?_ ?_
  · exact (((Fr.rf _ t).pI _ (Or.inr (Or.inl ⟨rfl, rfl⟩))).pI _ (Or.inr (Or.inr ⟨rfl, rfl⟩))).pI _ (Or.inl ⟨rfl, rfl⟩)
  · exact pI_s _ _ _ _
  · rw [pI_o _ _ _ _ (by decide), pI_o _ _ _ _ (by decide)]; exact pI_s _ _ _ _
  · rw [pI_o _ _ _ _ (by decide)]; exact pI_s _ _ _ _
/-- the class's state with one more -/
theorem RC.came {t0 t2 : Tt} {c : Nat} {fl : Nat → Nat} (h : RC t a) (f0 : Fr (fun o j => (o = 1 ∧ j = 0) ∨ (o = 3 ∧ j = pn (aP a)) ∨ (o = 4 ∧ j = pn (aP a))) t t0) (e1 : t0.1 1 0 = nI (pn (aP a) + 1)) (e2 : t0.1 3 (pn (aP a)) = nI c) (e3 : t0.1 4 (pn (aP a)) = 0) (f2 : Fr (fun o j => o = 2 ∧ 8 * pn (aP a) ≤ j) t0 t2) (e4 : ∀ k, k < 8 → t2.1 2 (8 * pn (aP a) + k) = nI (fl k)) : RC t2 (setD (setP a (addP (aP a) c fl)) (aD a)) := by
  have f : Fr (fun o j => 1 ≤ o ∧ o ≤ 4) t t2 := (f0.mo (fun o j q => by omega)).tr (f2.mo (fun o j q => by omega))
  refine h.pd f (fun o j q => by omega) (h.1.add ?_ ?_ ?_ e4 ?_ ?_ ?_ ?_) (fun k hk => (f.1 _ _ (by omega)).trans (h.2.2.2.2.2.2.1 k hk))
  · rw [f2.1 _ _ (by omega)]; exact e1
  · rw [f2.1 _ _ (by omega), f0.1 _ _ (by omega)]
  · intro m hm; rw [f2.1 _ _ (by omega), f0.1 _ _ (by omega)]
  · intro p hp; rw [f2.1 _ _ (by omega), f0.1 _ _ (by omega)]
  · rw [f2.1 _ _ (by omega)]; exact e2
  · intro p hp; rw [f2.1 _ _ (by omega), f0.1 _ _ (by omega)]
  · rw [f2.1 _ _ (by omega)]; exact e3
/-- the reference's -/
theorem RF.came {t2 : Tt} {c : Nat} {fl : Nat → Nat} (h : RF t a) (f2 : Fr (fun o j => (o = 57 ∧ j = 1) ∨ (o = 59 ∧ j = pn (aP a)) ∨ (o = 60 ∧ j = pn (aP a)) ∨ (o = 58 ∧ 8 * pn (aP a) ≤ j)) t t2) (e1 : t2.1 57 1 = nI (pn (aP a) + 1)) (e2 : t2.1 59 (pn (aP a)) = nI c) (e3 : t2.1 60 (pn (aP a)) = 0) (e4 : ∀ k, k < 8 → t2.1 58 (8 * pn (aP a) + k) = nI (fl k)) : RF t2 (setD (setP a (addP (aP a) c fl)) (aD a)) := by
  refine h.pd f2 (fun o j q => by omega) (h.1.add e1 ?_ ?_ e4 ?_ e2 ?_ e3) (fun k hk => (f2.1 _ _ (by omega)).trans (h.2.2.2.2.2.2.1 k hk))
  · exact f2.1 _ _ (by omega)
  · intro m hm; exact f2.1 _ _ (by omega)
  · intro p hp; exact f2.1 _ _ (by omega)
  · intro p hp; exact f2.1 _ _ (by omega)
theorem both_person {x : Int32} {Q : Int32 → Int32 → Tt → Prop} (h : Rel t a) (K : KK Q) : Rt g (d + 300) mX7_person 0 [some (.ref 0), some (.int x), none, none] [] t (QI (fun v t1 => Rt g (d + 300) mX8_person 0 [some (.ref 57), some (.int x), none] [] t1 (QI (fun w t2 => Q v w t2)))) := by
  have hn := h.n7
  apply bX7_person_0
  by_cases h1 : gd x 10
  · refine sp_out_g (n := 10) rfl (by decide) h1 (br_t rfl ?_)
    rw [h.pc]
    by_cases h7 : pn (aP a) < 7
    · refine br_t (nI_lt (b := 7) h7 (by decide)) ?_
      obtain ⟨v, hv, rfl⟩ := h1
      have RefN : ∀ t1, RC t1 (setD (setP a (addP (aP a) 0 (fun _ => v))) (aD a)) → RF t1 a → Rt g (d + 300) mX8_person 0 [some (.ref 57), some (.int (nI v)), none] [] t1 (QI (fun w t2 => Q (nI (pn (aP a))) w t2)) := by
        intro t1 c1 g1
        apply bX8_person_0
        refine sr_in_g (n := 10) rfl (by decide) ⟨v, hv, rfl⟩ (br_n (by decide) ?_)
        have em : t1.1 57 1 = nI (pn (aP a)) := g1.1.1
        rw [em]
        refine br_n (fun q => by have := nI_inj (b := 7) (by omega) (by decide) q; omega) ?_
        have key : ∀ m i t2, i + m = 8 → Fr (fun o j => o = 58 ∧ 8 * pn (aP a) ≤ j) t1 t2 → (∀ k, k < i → t2.1 58 (8 * pn (aP a) + k) = nI v) → Rt g (d + 300) mX8_person 26 [some (.ref 57), some (.int (nI v)), some (.int (nI i))] [] t2 (QI (fun w t2 => Q (nI (pn (aP a))) w t2)) := by
          intro m
          induction m with
          | zero =>
            intro i t2 hi f2 e4
            have : i = 8 := by omega
            subst this
            apply bX8_person_26
            have em2 : t2.1 57 1 = nI (pn (aP a)) := (f2.1 _ _ (by omega)).trans em
            have em3 : (pI t2 59 (pn (aP a)) 0).1 57 1 = nI (pn (aP a)) := by rw [pI_o _ _ _ _ (by decide)]; exact em2
            rw [em2, ncl (by omega), em3, ncl (by omega)]
            have em4 : (pI (pI t2 59 (pn (aP a)) 0) 60 (pn (aP a)) 0).1 57 1 = nI (pn (aP a)) := by rw [pI_o _ _ _ _ (by decide)]; exact em3
            rw [em4, pI_s, nI_1, nI_pred]
            refine br_t (nI_le (a := 8) (by omega) (by decide)) ⟨vpn h7, vpn h7, qi ?_⟩
            have f3 : Fr (fun o j => (o = 57 ∧ j = 1) ∨ (o = 59 ∧ j = pn (aP a)) ∨ (o = 60 ∧ j = pn (aP a)) ∨ (o = 58 ∧ 8 * pn (aP a) ≤ j)) t1 (pI (pI (pI t2 59 (pn (aP a)) 0) 60 (pn (aP a)) 0) 57 1 (nI (pn (aP a) + 1))) := (((f2.mo (fun o j q => Or.inr (Or.inr (Or.inr q)))).pI _ (Or.inr (Or.inl ⟨rfl, rfl⟩))).pI _ (Or.inr (Or.inr (Or.inl ⟨rfl, rfl⟩)))).pI _ (Or.inl ⟨rfl, rfl⟩)
            refine K _ _ ⟨_, h.1.add h7 (show 0 < 256 by decide) (fl := fun _ => v) (fun _ _ => by omega), c1.al (f3.mo (fun o j q => by unfold MAl; omega)), g1.came f3 ?_ ?_ ?_ ?_⟩
            · exact pI_s _ _ _ _
            · rw [pI_o _ _ _ _ (by decide), pI_o _ _ _ _ (by decide)]; exact pI_s _ _ _ _
            · rw [pI_o _ _ _ _ (by decide)]; exact pI_s _ _ _ _
            · intro k hk
              rw [pI_o _ _ _ _ (by decide), pI_o _ _ _ _ (by decide), pI_o _ _ _ _ (by decide)]
              exact e4 k hk
          | succ m ih =>
            intro i t2 hi f2 e4
            apply bX8_person_26
            have em2 : t2.1 57 1 = nI (pn (aP a)) := (f2.1 _ _ (by omega)).trans em
            rw [em2, ix8']
            refine br_f (nI_ge (b := 8) (by omega) (by decide)) ⟨vpn (by omega), ?_⟩
            rw [ncl (by omega), nI_1]
            refine ih (i + 1) _ (by omega) (f2.pI _ ⟨rfl, by omega⟩) (fun k hk => ?_)
            rw [pI_a]
            by_cases e : k = i
            · rw [if_pos ⟨rfl, by omega⟩]
            · rw [if_neg (by omega)]; exact e4 k (by omega)
        exact key 8 0 t1 rfl (Fr.rf _ _) (fun k hk => absurd hk (by omega))
      refine sp_newcomer (c := 0) h h7 (fun t0 f0 e1 e2 e3 => ?_)
      have key : ∀ m i t2, i + m = 8 → Fr (fun o j => o = 2 ∧ 8 * pn (aP a) ≤ j) t0 t2 → (∀ k, k < i → t2.1 2 (8 * pn (aP a) + k) = nI v) → Rt g (d + 300) mX7_person 37 [some (.ref 0), some (.int (nI v)), some (.int (nI (pn (aP a)))), some (.int (nI i))] [] t2 (QI (fun v1 t1 => Rt g (d + 300) mX8_person 0 [some (.ref 57), some (.int (nI v)), none] [] t1 (QI (fun w t2 => Q v1 w t2)))) := by
        intro m
        induction m with
        | zero =>
          intro i t2 hi f2 e4
          have : i = 8 := by omega
          subst this
          apply bX7_person_37
          refine br_t (nI_le (a := 8) (by omega) (by decide)) (qi ?_)
          refine RefN t2 (h.2.1.came f0 e1 e2 e3 f2 e4) (h.2.2.al ((f0.mo (fun o j q => by unfold CAl; omega)).tr (f2.mo (fun o j q => by unfold CAl; omega))))
        | succ m ih =>
          intro i t2 hi f2 e4
          apply bX7_person_37
          rw [ix8]
          refine br_f (nI_ge (b := 8) (by omega) (by decide)) ⟨vpn (by omega), ?_⟩
          rw [ncl (by omega), nI_1]
          refine ih (i + 1) _ (by omega) (f2.pI _ ⟨rfl, by omega⟩) (fun k hk => ?_)
          rw [pI_a]
          by_cases e : k = i
          · rw [if_pos ⟨rfl, by omega⟩]
          · rw [if_neg (by omega)]; exact e4 k (by omega)
      exact key 8 0 t0 rfl (Fr.rf _ _) (fun k hk => absurd hk (by omega))
    · have e7 : pn (aP a) = 7 := by omega
      refine br_f (nI_nlt (a := pn (aP a)) (b := 7) (by omega) (by omega)) (qi ?_)
      apply bX8_person_0
      refine sr_in_g (n := 10) rfl (by decide) h1 (br_n (by decide) ?_)
      rw [h.pm, e7]
      exact br_p rfl (qi (K _ _ ⟨a, h⟩))
  · refine sp_out_b (n := 10) rfl (by decide) h1 (br_f (by decide) (qi ?_))
    apply bX8_person_0
    exact sr_in_b (n := 10) rfl (by decide) h1 (br_p rfl (qi (K _ _ ⟨a, h⟩)))
end P51
