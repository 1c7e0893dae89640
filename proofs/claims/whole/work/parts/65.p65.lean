/-! PURE LAYER: drawn -/
section P65
variable {g : Gt} {d : Nat} {t t1 : Tt} {a : Aa}
theorem jusN (z : Int32) {s : Int32} {k : Nat} (hs : ((s.toUInt32 &&& Int32.toUInt32 31).toBitVec % 32).toNat = k) : jus z s = nI (z.toBitVec.toNat / 2 ^ k) := by
  apply Int32.toBitVec_inj.mp
  apply BitVec.eq_of_toNat_eq
  have h1 : (jus z s).toBitVec.toNat = z.toBitVec.toNat / 2 ^ k := pk_ushr z s k hs
  have h2 : z.toBitVec.toNat < 2 ^ 32 := z.toBitVec.isLt
  rw [h1, pk_tn (Nat.lt_of_le_of_lt (Nat.div_le_self _ _) h2)]
abbrev un (z : Int32) : Nat := z.toBitVec.toNat
theorem un_lt (z : Int32) : un z < 2 ^ 32 := z.toBitVec.isLt
theorem ud12 (z : Int32) : un z / 2 ^ 12 < 2 ^ 31 := by have := un_lt z; omega
theorem ud18 (z : Int32) : un z / 2 ^ 18 < 2 ^ 31 := by have := un_lt z; omega
theorem ud22 (z : Int32) : un z / 2 ^ 22 < 2 ^ 31 := by have := un_lt z; omega
theorem ud4 (z : Int32) : un z / 2 ^ 4 < 2 ^ 31 := by have := un_lt z; omega
def dwF (z : Int32) : Nat := un z / 2 ^ 12 % 10
def dwV (z : Int32) : Nat := un z / 2 ^ 18 % 2
def dwP (z : Int32) (n : Nat) : Nat := un z / 2 ^ 4 % n
def dwZ (z : Int32) : Nat := un z / 2 ^ 22 % 10
theorem dwF_e (z : Int32) : jr (jus z 12) 10 = nI (dwF z) := by
  rw [jusN z (k := 12) rfl, l10, jr_n (ud12 z) (by decide) (by decide)]
  rfl
theorem dwV_e (z : Int32) : jr (jus z 18) 2 = nI (dwV z) := by
  rw [jusN z (k := 18) rfl, show (2 : Int32) = nI 2 from rfl, jr_n (ud18 z) (by decide) (by decide)]
  rfl
theorem dwZ_e (z : Int32) : jr (jus z 22) 10 = nI (dwZ z) := by
  rw [jusN z (k := 22) rfl, l10, jr_n (ud22 z) (by decide) (by decide)]
  rfl
theorem dwP_e (z : Int32) {n : Nat} (h0 : 0 < n) (hn : n ≤ 7) : jr (jus z 4) (nI n) = nI (dwP z n) := by
  rw [jusN z (k := 4) rfl, jr_n (ud4 z) h0 (by omega)]
  rfl
abbrev Dw : Type := Int32 × Pp × Int32
theorem dwF_lt (z : Int32) : dwF z < 10 := Nat.mod_lt _ (by decide)
theorem dwV_lt (z : Int32) : dwV z < 2 := Nat.mod_lt _ (by decide)
theorem dwZ_lt (z : Int32) : dwZ z < 10 := Nat.mod_lt _ (by decide)
theorem dwP_lt (z : Int32) {n : Nat} (h : 0 < n) : dwP z n < n := Nat.mod_lt _ h
def dsF (pr : Prog) (so : Nat) (z : Int32) (b : Pp) (q : Int32) : Dw := if capd so (dwF z) = dwV z then (z, b, q) else (z, lieA (prc pr b (dwP z (pn b)) (dwF z) (dwZ z)) b (dwP z (pn b)) (dwZ z), q + 1)
def dst (nx : Int32 → Int32) (pr : Prog) (so : Nat) (D : Dw) : Dw := dsF pr so (nx D.1) D.2.1 D.2.2
def itD (nx : Int32 → Int32) (pr : Prog) (so : Nat) : Nat → Dw → Dw
  | 0, D => D
  | m + 1, D => itD nx pr so m (dst nx pr so D)
theorem itD_s (nx : Int32 → Int32) (pr : Prog) (so m : Nat) (D : Dw) {z : Int32} (hz : nx D.1 = z) : itD nx pr so (m + 1) D = itD nx pr so m (dsF pr so z D.2.1 D.2.2) := by
  have e : itD nx pr so (m + 1) D = itD nx pr so m (dst nx pr so D) := by rw [itD]
  rw [e]
  unfold dst
  rw [hz]
def fal (b : Pp) : Nat → Int32
  | 0 => 0
  | i + 1 => fal b i + nI (fsum (pf b i) 8)
abbrev Dn : Type := Int32 × Int32 × Int32
def dyE (nx : Int32 → Int32) (pr : Prog) (so : Nat) (b : Pp) (s : Nat) (E : Dn) : Dn := ((itD nx pr so s (E.1, b, E.2.1)).1, (itD nx pr so s (E.1, b, E.2.1)).2.2, E.2.2 + fal (itD nx pr so s (E.1, b, E.2.1)).2.1 (pn b))
def itN (nx : Int32 → Int32) (pr : Prog) (so : Nat) (b : Pp) (s : Nat) : Nat → Dn → Dn
  | 0, E => E
  | m + 1, E => itN nx pr so b s m (dyE nx pr so b s E)
theorem itN_s (nx : Int32 → Int32) (pr : Prog) (so : Nat) (b : Pp) (s m : Nat) (E : Dn) : itN nx pr so b s (m + 1) E = itN nx pr so b s m (dyE nx pr so b s E) := by rw [itN]
theorem sp_flakesOfAll {b : Pp} {P : Int32 → Tt → Prop} (hm : MoC t 5 b) (hw : PpW b) (k : P (fal b (pn b)) t) : Rt g (d + 1) mX5_flakesOfAll 0 [some (.ref 5), none, none] [] t (QI P) := by
  have hn := hw.1
  apply bX5_flakesOfAll_0 mo5
  have key : ∀ m i, i + m = pn b → Rt g (d + 1) mX5_flakesOfAll 4 [some (.ref 5), some (.int (fal b i)), some (.int (nI i))] [] t (QI P) := by
    intro m
    induction m with
    | zero =>
      intro i hi
      have : i = pn b := by omega
      subst this
      apply bX5_flakesOfAll_4 mo5
      rw [hm.1]
      exact br_t (nI_le (Nat.le_refl _) (by omega)) (qi k)
    | succ m ih =>
      intro i hi
      apply bX5_flakesOfAll_4 mo5
      rw [hm.1]
      refine br_f (nI_ge (by omega) (by omega)) (sp_flakesOf mo5 hm hw (by omega) ?_)
      intro z4 e4
      rw [e4, nI_1]
      exact ih (i + 1) (by omega)
  exact key (pn b) 0 (Nat.zero_add _)
theorem sp_day {nx : Int32 → Int32} (hx : ∀ z, z * 1103515245 + 12345 = nx z) {y s nd dd : Nat} {fl : Int32} {P : Int32 → Tt → Prop} (h0 : 0 < pn (aP a)) (hs : s ≤ 60) : ∀ m i t D, i + m = s → Rel t a → MoC t 5 D.2.1 → PpW D.2.1 → pn D.2.1 = pn (aP a) → (∀ t', Rel t' a → Rt g (d + 4) mX7_drawn 73 [some (.ref 0), none, none, some (.int (nI y)), some (.int (nI nd)), some (.int (nI s)), some (.int (itD nx (aL a) (aS a) m D).1), some (.int (itD nx (aL a) (aS a) m D).2.2), some (.int (fl + fal (itD nx (aL a) (aS a) m D).2.1 (pn (aP a)))), some (.int (nI (dd + 1))), none, none] [] t' (QI P)) → Rt g (d + 4) mX7_drawn 94 [some (.ref 0), none, none, some (.int (nI y)), some (.int (nI nd)), some (.int (nI s)), some (.int D.1), some (.int D.2.2), some (.int fl), some (.int (nI dd)), some (.int (nI i)), none] [] t (QI P) := by
  intro m
  induction m with
  | zero =>
    intro i t D hi h hm hw hn k
    have : i = s := by omega
    subst this
    apply bX7_drawn_94
    refine br_t (nI_le (Nat.le_refl _) (by omega)) (sp_flakesOfAll hm hw ?_)
    intro z4 e4
    rw [e4, nI_1, hn]
    exact k t h
  | succ m ih =>
    intro i t D hi h hm hw hn k
    have hn7 := hw.1
    have hp := fun z => dwP_lt z (show 0 < pn D.2.1 by omega)
    apply bX7_drawn_94
    refine br_f (nI_ge (by omega) (by omega)) ?_
    intro z5 e5
    have ei := itD_s nx (aL a) (aS a) m D ((hx D.1).symm.trans e5.symm)
    rw [ei] at k
    clear e5 ei
    intro z6 e6
    rw [dwF_e] at e6
    subst e6
    rw [dwV_e, h.so]
    refine sp_isLie h.1.2.1 (dwF_lt _) (dwV_lt _) ?_
    unfold dsF at k
    by_cases c : capd (aS a) (dwF z5) = dwV z5
    · rw [if_pos c] at k ⊢
      refine br_t rfl ?_
      apply bX7_drawn_178
      rw [nI_1]
      exact ih (i + 1) t (z5, D.2.1, D.2.2) (by omega) h hm hw hn k
    · rw [if_neg c] at k ⊢
      refine br_f (by decide) ⟨h.lw.1, ?_⟩
      rw [h.pc, ← hn, dwP_e _ (by omega) hn7, dwZ_e]
      refine ⟨fun q => by have := nI_inj (b := 0) (by omega) (by decide) q; omega, ?_⟩
      refine sp_lie5 (d := d) h hm hw (hp z5) (dwZ_lt _) (fun t' h' hm' => ?_)
      apply bX7_drawn_178
      rw [nI_1]
      exact ih (i + 1) t' (z5, lieA (prc (aL a) D.2.1 (dwP z5 (pn D.2.1)) (dwF z5) (dwZ z5)) D.2.1 (dwP z5 (pn D.2.1)) (dwZ z5), D.2.2 + 1) (by omega) h' hm' (lieA_W hw (hp z5) _ _) hn k
theorem sp_days {nx : Int32 → Int32} (hx : ∀ z, z * 1103515245 + 12345 = nx z) {y s nd : Nat} {P : Int32 → Tt → Prop} (h0 : 0 < pn (aP a)) (hs : s ≤ 60) (hnd : nd ≤ 30) (hy : y < 2) : ∀ m i t E, i + m = nd → Rel t a → (∀ t', Rel t' a → P (if y = 0 then (itN nx (aL a) (aS a) (aP a) s m E).2.1 else (itN nx (aL a) (aS a) (aP a) s m E).2.2) t') → Rt g (d + 4) mX7_drawn 73 [some (.ref 0), none, none, some (.int (nI y)), some (.int (nI nd)), some (.int (nI s)), some (.int E.1), some (.int E.2.1), some (.int E.2.2), some (.int (nI i)), none, none] [] t (QI P) := by
  intro m
  induction m with
  | zero =>
    intro i t E hi h k
    have k := k t h
    have : i = nd := by omega
    subst this
    apply bX7_drawn_73
    refine br_t (nI_le (Nat.le_refl _) (by omega)) ⟨fun c => qi ?_, fun c => qi ?_⟩
    · rw [if_neg (fun q => c (by rw [q]; rfl))] at k; exact k
    · rw [if_pos (nI_inj (b := 0) (by omega) (by decide) c)] at k; exact k
  | succ m ih =>
    intro i t E hi h k
    rw [itN_s] at k
    apply bX7_drawn_73
    refine br_f (nI_ge (by omega) (by omega)) (sp_copy5 (d := d + 2) h (fun t1 h1 m1 => ?_))
    refine sp_day hx h0 hs s 0 t1 (E.1, aP a, E.2.1) (Nat.zero_add _) h1 m1 h.pw rfl (fun t2 h2 => ?_)
    exact ih (i + 1) t2 (dyE nx (aL a) (aS a) (aP a) s E) (by omega) h2 k
theorem sr_all {x2 x3 x4 x5 x7 : Int32} {fl : Int32} {b : Pp} {P : Int32 → Tt → Prop} (hm : MoM t b) (hw : PpW b) (k : Rt g (d + 1) mX8_drawn 53 [some (.ref 57), none, some (.int x2), some (.int x3), some (.int x4), some (.int x5), some (.int (fl + fal b (pn b))), some (.int (x7 + 1)), none, none, none] [] t (QI P)) : Rt g (d + 1) mX8_drawn 163 [some (.ref 57), none, some (.int x2), some (.int x3), some (.int x4), some (.int x5), some (.int fl), some (.int x7), none, none, none] [] t (QI P) := by
  have hn := hw.1
  apply bX8_drawn_163
  have key : ∀ m i, i + m = pn b → Rt g (d + 1) mX8_drawn 166 [some (.ref 57), none, some (.int x2), some (.int x3), some (.int x4), some (.int x5), some (.int (fl + fal b i)), some (.int x7), some (.int (nI i)), none, none] [] t (QI P) := by
    intro m
    induction m with
    | zero =>
      intro i hi
      have : i = pn b := by omega
      subst this
      apply bX8_drawn_166
      rw [hm.1]
      exact br_t (nI_le (Nat.le_refl _) (by omega)) k
    | succ m ih =>
      intro i hi
      apply bX8_drawn_166
      rw [hm.1]
      refine br_f (nI_ge (by omega) (by omega)) (sr_flakesOf hm hw (by omega) ?_)
      intro z4 e4
      rw [e4, nI_1, Int32.add_assoc]
      exact ih (i + 1) (by omega)
  have := key (pn b) 0 (Nat.zero_add _)
  rw [show fal b 0 = 0 from rfl, Int32.add_zero] at this
  exact this
theorem sr_day {nx : Int32 → Int32} (hx : ∀ z, z * 1103515245 + 12345 = nx z) {y s nd dd : Nat} {fl : Int32} {P : Int32 → Tt → Prop} (h0 : 0 < pn (aP a)) (hs : s ≤ 60) (hnd : nd ≤ 30) : ∀ m i t D, i + m = s → Rel t a → MoM t D.2.1 → PpW D.2.1 → pn D.2.1 = pn (aP a) → (∀ t', Rel t' a → Rt g (d + 6) mX8_drawn 53 [some (.ref 57), none, some (.int (nI (100 * nd + s))), some (.int (nI y)), some (.int (itD nx (aL a) (aS a) m D).1), some (.int (itD nx (aL a) (aS a) m D).2.2), some (.int (fl + fal (itD nx (aL a) (aS a) m D).2.1 (pn (aP a)))), some (.int (nI (dd + 1))), none, none, none] [] t' (QI P)) → Rt g (d + 6) mX8_drawn 69 [some (.ref 57), none, some (.int (nI (100 * nd + s))), some (.int (nI y)), some (.int D.1), some (.int D.2.2), some (.int fl), some (.int (nI dd)), some (.int (nI i)), none, none] [] t (QI P) := by
  have e100 : jr (nI (100 * nd + s)) 100 = nI s := by rw [show (100 : Int32) = nI 100 from rfl, jr_n (by omega) (by decide) (by decide), show (100 * nd + s) % 100 = s by omega]
  intro m
  induction m with
  | zero =>
    intro i t D hi h hm hw hn k
    have : i = s := by omega
    subst this
    apply bX8_drawn_69
    rw [e100]
    refine br_t (nI_le (Nat.le_refl _) (by omega)) (sr_all (d := d + 5) hm hw ?_)
    rw [nI_1, hn]
    exact k t h
  | succ m ih =>
    intro i t D hi h hm hw hn k
    have hn7 := hw.1
    have hp := fun z => dwP_lt z (show 0 < pn D.2.1 by omega)
    have epm : t.1 57 1 = nI (pn D.2.1) := hm.1
    apply bX8_drawn_69
    rw [e100, epm]
    refine br_f (nI_ge (by omega) (by omega)) (br_f (fun q => by have := (nI_leI (b := 0) (by omega) (by decide)).mp q; omega) ?_)
    intro z3 e3
    have ei := itD_s nx (aL a) (aS a) m D ((hx D.1).symm.trans e3.symm)
    rw [ei] at k
    clear e3 ei
    intro z4 e4 z5 e5
    rw [dwF_e] at e4
    rw [dwV_e] at e5
    subst e4 e5
    have hf := dwF_lt z3
    have hv := dwV_lt z3
    have hc := capd_2 (aS a) (dwF z3)
    have e61 : t.1 61 (dwF z3) = nI (capd (aS a) (dwF z3)) := h.2.2.2.1 _ hf
    refine ⟨vpn hf, ?_⟩
    rw [ncl (by omega), e61]
    unfold dsF at k
    by_cases c : capd (aS a) (dwF z3) = dwV z3
    · rw [if_pos c] at k
      refine br_t (by rw [c]) ?_
      apply bX8_drawn_131
      rw [epm]
      refine ⟨fun q => by have := nI_inj (b := 0) (by omega) (by decide) q; omega, ?_⟩
      apply bX8_sayOf_0
      refine ⟨vpn hf, ?_⟩
      rw [ncl (by omega), e61]
      refine br_p (by rw [c]) (qi ?_)
      rw [nI_1]
      exact ih (i + 1) t (z3, D.2.1, D.2.2) (by omega) h hm hw hn k
    · rw [if_neg c] at k
      have hne : ¬ nI (dwV z3) = nI (capd (aS a) (dwF z3)) := fun q => c (nI_inj (by omega) (by omega) q).symm
      refine br_f hne ?_
      apply bX8_drawn_131
      rw [epm, dwP_e _ (by omega) hn7, dwZ_e]
      refine ⟨fun q => by have := nI_inj (b := 0) (by omega) (by decide) q; omega, ?_⟩
      apply bX8_sayOf_0
      refine ⟨vpn hf, ?_⟩
      rw [ncl (by omega), e61]
      refine br_n hne ?_
      refine sr_lie5 (d := d) h hm hw (hp z3) (dwZ_lt _) (fun t' h' hm' => qi ?_)
      rw [nI_1]
      exact ih (i + 1) t' (z3, lieA (prc (aL a) D.2.1 (dwP z3 (pn D.2.1)) (dwF z3) (dwZ z3)) D.2.1 (dwP z3 (pn D.2.1)) (dwZ z3), D.2.2 + 1) (by omega) h' hm' (lieA_W hw (hp z3) _ _) hn k
theorem sr_days {nx : Int32 → Int32} (hx : ∀ z, z * 1103515245 + 12345 = nx z) {y s nd : Nat} {P : Int32 → Tt → Prop} (h0 : 0 < pn (aP a)) (hs : s ≤ 60) (hnd : nd ≤ 30) (hy : y < 2) : ∀ m i t E, i + m = nd → Rel t a → (∀ t', Rel t' a → P (if y = 0 then (itN nx (aL a) (aS a) (aP a) s m E).2.1 else (itN nx (aL a) (aS a) (aP a) s m E).2.2) t') → Rt g (d + 6) mX8_drawn 53 [some (.ref 57), none, some (.int (nI (100 * nd + s))), some (.int (nI y)), some (.int E.1), some (.int E.2.1), some (.int E.2.2), some (.int (nI i)), none, none, none] [] t (QI P) := by
  have e100 : nI (100 * nd + s) / 100 = nI nd ∨ s ≥ 100 := by
    by_cases c : s ≥ 100
    · exact Or.inr c
    · refine Or.inl ?_
      rw [show (100 : Int32) = nI 100 from rfl, pk_div (by omega) (by decide) (by decide), show (100 * nd + s) / 100 = nd by omega]
  have e100 : nI (100 * nd + s) / 100 = nI nd := by rcases e100 with q | q; exact q; omega
  intro m
  induction m with
  | zero =>
    intro i t E hi h k
    have k := k t h
    have : i = nd := by omega
    subst this
    apply bX8_drawn_53
    rw [e100]
    refine br_t (nI_le (Nat.le_refl _) (by omega)) ⟨fun c => qi ?_, fun c => qi ?_⟩
    · rw [if_neg (fun q => c (by rw [q]; rfl))] at k; exact k
    · rw [if_pos (nI_inj (b := 0) (by omega) (by decide) c)] at k; exact k
  | succ m ih =>
    intro i t E hi h k
    rw [itN_s] at k
    apply bX8_drawn_53
    rw [e100]
    refine br_f (nI_ge (by omega) (by omega)) (sr_begin h (fun t1 h1 m1 => ?_))
    refine sr_day hx h0 hs hnd s 0 t1 (E.1, aP a, E.2.1) (Nat.zero_add _) h1 m1 h.pw rfl (fun t2 h2 => ?_)
    exact ih (i + 1) t2 (dyE nx (aL a) (aS a) (aP a) s E) (by omega) h2 k
theorem sr_days0 {y s nd : Nat} {x4 : Int32} {P : Int32 → Tt → Prop} (h0 : pn (aP a) = 0) (hs1 : 1 ≤ s) (hs : s ≤ 60) (hnd : nd ≤ 30) : ∀ m i t, i + m = nd → Rel t a → (∀ t', Rel t' a → P 0 t') → Rt g (d + 6) mX8_drawn 53 [some (.ref 57), none, some (.int (nI (100 * nd + s))), some (.int (nI y)), some (.int x4), some (.int 0), some (.int 0), some (.int (nI i)), none, none, none] [] t (QI P) := by
  have e100 : nI (100 * nd + s) / 100 = nI nd := by rw [show (100 : Int32) = nI 100 from rfl, pk_div (by omega) (by decide) (by decide), show (100 * nd + s) / 100 = nd by omega]
  have f100 : jr (nI (100 * nd + s)) 100 = nI s := by rw [show (100 : Int32) = nI 100 from rfl, jr_n (by omega) (by decide) (by decide), show (100 * nd + s) % 100 = s by omega]
  intro m
  induction m with
  | zero =>
    intro i t hi h k
    have : i = nd := by omega
    subst this
    apply bX8_drawn_53
    rw [e100]
    exact br_t (nI_le (Nat.le_refl _) (by omega)) ⟨fun c => qi (k t h), fun c => qi (k t h)⟩
  | succ m ih =>
    intro i t hi h k
    apply bX8_drawn_53
    rw [e100]
    refine br_f (nI_ge (by omega) (by omega)) (sr_begin h (fun t1 h1 m1 => ?_))
    apply bX8_drawn_69
    rw [f100, h1.pm, h0]
    refine br_f (nI_ge (a := 0) (by omega) (by omega)) (br_t (by decide) ?_)
    refine sr_all (d := d + 5) m1 h.pw ?_
    rw [h0, show (0 : Int32) + fal (aP a) 0 = 0 from rfl, nI_1]
    exact ih (i + 1) t1 (by omega) h1 k
theorem neg_div {y : Int32} (h : y < 0) : y / 100 < 1 := by
  rw [lt_i, z_i] at h
  rw [lt_i, Int32.toInt_div, show (100 : Int32).toInt = 100 from rfl, show (1 : Int32).toInt = 1 from rfl]
  have h2 := Int32.le_toInt y
  have e : y.toInt.tdiv 100 = -((-y.toInt) / 100) := by
    rw [← Int.tdiv_eq_ediv_of_nonneg (by omega), Int.neg_tdiv, Int.neg_neg]
  rw [e, Int.bmod_eq_of_le (by omega) (by omega)]
  omega
theorem sr_bad {x y z : Int32} {P : Int32 → Tt → Prop} (hb : ¬ ∃ nd s, 1 ≤ nd ∧ nd ≤ 30 ∧ 1 ≤ s ∧ s ≤ 60 ∧ y = nI (100 * nd + s) ∧ gd z 2) (k : P (-1) t) : Rt g (d + 6) mX8_drawn 0 [some (.ref 57), some (.int x), some (.int y), some (.int z), none, none, none, none, none, none, none] [] t (QI P) := by
  apply bX8_drawn_0
  refine ⟨fun _ => qi k, fun c => ?_⟩
  obtain ⟨q, hq, rfl⟩ := nI_of c
  rw [show (100 : Int32) = nI 100 from rfl, pk_div hq (by decide) (by decide), jr_n hq (by decide) (by decide)]
  refine sr_in (fun a1 a2 => br_f (by decide) (sr_in (fun b1 b2 => br_f (by decide) ?_) (fun _ => br_t rfl (qi k)))) (fun _ => br_t rfl (qi k))
  have a1 := (nI_leI (a := 1) (by decide) (by omega)).mp a1
  have a2 := (nI_leI (b := 30) (by omega) (by decide)).mp a2
  have b1 := (nI_leI (a := 1) (by decide) (by omega)).mp b1
  have b2 := (nI_leI (b := 60) (by omega) (by decide)).mp b2
  refine sr_in_b (n := 2) rfl (by decide) (fun hz => hb ⟨q / 100, q % 100, a1, a2, b1, b2, by congr 1; omega, hz⟩) (br_p rfl (qi k))
def nxt (z : Int32) : Int32 := z * 1103515245 + 12345
theorem nxt_e (z : Int32) : z * 1103515245 + 12345 = nxt z := by unfold nxt; rfl
theorem both_drawn {x y z : Int32} {Q : Int32 → Int32 → Tt → Prop} (h : Rel t a) (K : KK Q) : Rt g (d + 300) mX7_drawn 0 [some (.ref 0), some (.int x), some (.int y), some (.int z), none, none, none, none, none, none, none, none] [] t (QI (fun v t1 => Rt g (d + 300) mX8_drawn 0 [some (.ref 57), some (.int x), some (.int y), some (.int z), none, none, none, none, none, none, none] [] t1 (QI (fun w t2 => Q v w t2)))) := by
  have hn := h.n7
  by_cases hg : ∃ nd s, 1 ≤ nd ∧ nd ≤ 30 ∧ 1 ≤ s ∧ s ≤ 60 ∧ y = nI (100 * nd + s) ∧ gd z 2
  · obtain ⟨nd, s, h1, h2, h3, h4, rfl, hz⟩ := hg
    have e1 : nI (100 * nd + s) / 100 = nI nd := by rw [show (100 : Int32) = nI 100 from rfl, pk_div (by omega) (by decide) (by decide), show (100 * nd + s) / 100 = nd by omega]
    have e2 : jr (nI (100 * nd + s)) 100 = nI s := by rw [show (100 : Int32) = nI 100 from rfl, jr_n (by omega) (by decide) (by decide), show (100 * nd + s) % 100 = s by omega]
    have ref : ∀ {P : Int32 → Tt → Prop} t1, Rt g (d + 300) mX8_drawn 53 [some (.ref 57), none, some (.int (nI (100 * nd + s))), some (.int z), some (.int x), some (.int 0), some (.int 0), some (.int 0), none, none, none] [] t1 (QI P) → Rt g (d + 300) mX8_drawn 0 [some (.ref 57), some (.int x), some (.int (nI (100 * nd + s))), some (.int z), none, none, none, none, none, none, none] [] t1 (QI P) := by
      intro P t1 k
      apply bX8_drawn_0
      rw [e1, e2]
      refine br_f (nI_pos (by omega)) (sr_in (fun _ _ => br_f (by decide) (sr_in (fun _ _ => br_f (by decide) (sr_in_g (n := 2) rfl (by decide) hz (br_n (by decide) k))) (fun q => absurd ⟨nI_le (a := 1) h3 (by omega), nI_le (b := 60) h4 (by decide)⟩ q))) (fun q => absurd ⟨nI_le (a := 1) h1 (by omega), nI_le (b := 30) h2 (by decide)⟩ q))
    apply bX7_drawn_0
    intro z1 q1 z2 q2
    rw [e1] at q1
    rw [e2] at q2
    subst q1 q2
    refine br_f (nI_nlt (b := 1) h1 (by omega)) (br_f (nI_nlt (a := 30) h2 (by decide)) (br_f (nI_nlt (b := 1) h3 (by omega)) (br_f (nI_nlt (a := 60) h4 (by decide)) ?_)))
    refine sp_out_g (n := 2) rfl (by decide) hz (br_t rfl ?_)
    obtain ⟨w, hw, rfl⟩ := hz
    rw [h.pc]
    by_cases h0 : 0 < pn (aP a)
    · refine br_t (nI_le (a := 1) h0 (by omega)) ?_
      refine sp_days (d := d + 296) nxt_e h0 h4 h2 hw nd 0 t (x, 0, 0) (Nat.zero_add _) h (fun t1 r1 => ?_)
      refine ref t1 ?_
      exact sr_days (d := d + 294) nxt_e h0 h4 h2 hw nd 0 t1 (x, 0, 0) (Nat.zero_add _) r1 (fun t2 r2 => K _ _ ⟨a, r2⟩)
    · have e0 : pn (aP a) = 0 := by omega
      refine br_f (fun q => by have := (nI_leI (a := 1) (by decide) (by omega)).mp q; omega) (qi ?_)
      refine ref t ?_
      exact sr_days0 (d := d + 294) e0 h3 h4 h2 nd 0 t (Nat.zero_add _) h (fun t2 r2 => K _ _ ⟨a, r2⟩)
  · have bad : Rt g (d + 300) mX8_drawn 0 [some (.ref 57), some (.int x), some (.int y), some (.int z), none, none, none, none, none, none, none] [] t (QI (fun w t2 => Q (-1) w t2)) := sr_bad (d := d + 294) hg (K _ _ ⟨a, h⟩)
    apply bX7_drawn_0
    intro z1 q1 z2 q2
    by_cases hy : y < 0
    · exact br_t (by rw [q1]; exact neg_div hy) (qi bad)
    · obtain ⟨q, hq, rfl⟩ := nI_of hy
      rw [show (100 : Int32) = nI 100 from rfl, pk_div hq (by decide) (by decide)] at q1
      rw [show (100 : Int32) = nI 100 from rfl, jr_n hq (by decide) (by decide)] at q2
      subst q1 q2
      refine ⟨fun _ => qi bad, fun a1 => ⟨fun _ => qi bad, fun a2 => ⟨fun _ => qi bad, fun b1 => ⟨fun _ => qi bad, fun b2 => ?_⟩⟩⟩⟩
      refine sp_out_b (n := 2) rfl (by decide) (fun hz => hg ⟨q / 100, q % 100, ?_, ?_, ?_, ?_, by congr 1; omega, hz⟩) (br_f (by decide) (qi bad))
      · exact Nat.le_of_not_lt (fun w => a1 (nI_lt (b := 1) w (by decide)))
      · exact Nat.le_of_not_lt (fun w => a2 (nI_lt (a := 30) w (by omega)))
      · exact Nat.le_of_not_lt (fun w => b1 (nI_lt (b := 1) w (by decide)))
      · exact Nat.le_of_not_lt (fun w => b2 (nI_lt (a := 60) w (by omega)))
end P65
