theorem gw_at (i : Nat) {w : Cond} (h : lw_tbl[i]? = some w) (hg : goodWord w = true) : w ∈ gwl := List.mem_filter.mpr ⟨List.mem_of_getElem? h, hg⟩
theorem nw_at (i : Nat) {w : Cond} (h : lw_tbl[i]? = some w) (hg : isNst w = true) : w ∈ nwl := List.mem_filter.mpr ⟨List.mem_of_getElem? h, hg⟩
theorem gw_ps (ws : List Cond) (ps : List Nat) (hp : ws = ps.filterMap (fun i => lw_tbl[i]?)) (h : ws.all goodWord = true) : ∀ w ∈ ws, w ∈ gwl := by
  intro w hw
  have h1 := List.all_eq_true.mp h w hw
  rw [hp] at hw
  obtain ⟨i, -, hi⟩ := List.mem_filterMap.mp hw
  exact gw_at i hi h1
def clR (ci : Nat) : String := match ci with
  | 0 => RX0
  | 1 => RX1
  | 2 => RX2
  | 3 => RX3
  | 4 => RX4
  | 5 => RX5
  | 6 => RX6
  | 7 => RX7
  | _ => RX8
def clT (ci : Nat) : u_T := match ci with
  | 0 => TX0
  | 1 => TX1
  | 2 => TX2
  | 3 => TX3
  | 4 => TX4
  | 5 => TX5
  | 6 => TX6
  | 7 => TX7
  | _ => TX8
def clN (ci : Nat) : Nat := match ci with
  | 0 => 4
  | 1 => 6
  | 2 => 9
  | 3 => 6
  | 4 => 4
  | 5 => 5
  | 6 => 4
  | 7 => 13
  | _ => 53
theorem cl_at {ci : Nat} (h : ci < 9) : vwCl[ci]? = some (clR ci, clT ci, clN ci) := by
  match ci, h with
  | 0, _ => rfl
  | 1, _ => rfl
  | 2, _ => rfl
  | 3, _ => rfl
  | 4, _ => rfl
  | 5, _ => rfl
  | 6, _ => rfl
  | 7, _ => rfl
  | 8, _ => rfl
theorem cf_ty {ci : Nat} (h : ci < 9) : ∀ k, k < clN ci → parseFieldDescriptor (clT ci k).2.2.1 = some (fTy ci k) := by
  match ci, h with
  | 0, _ => exact tyX0_ok
  | 1, _ => exact tyX1_ok
  | 2, _ => exact tyX2_ok
  | 3, _ => exact tyX3_ok
  | 4, _ => exact tyX4_ok
  | 5, _ => exact tyX5_ok
  | 6, _ => exact tyX6_ok
  | 7, _ => exact tyX7_ok
  | 8, _ => exact tyX8_ok
theorem cf_nm {ci : Nat} (h : ci < 9) : ∀ a, a < clN ci → ∀ b, b < clN ci → a ≠ b → (clT ci a).2.1 ≠ (clT ci b).2.1 := by
  match ci, h with
  | 0, _ => exact nmX0
  | 1, _ => exact nmX1
  | 2, _ => exact nmX2
  | 3, _ => exact nmX3
  | 4, _ => exact nmX4
  | 5, _ => exact nmX5
  | 6, _ => exact nmX6
  | 7, _ => exact nmX7
  | 8, _ => exact nmX8
theorem inGX0 : ∀ w ∈ wsX00, w ∈ gwl := gw_ps _ [228, 230, 232, 234] (by decide +kernel) (by decide +kernel)
theorem inGX1 : ∀ w ∈ wsX10, w ∈ gwl := gw_ps _ [201, 203, 205, 207, 209, 211] (by decide +kernel) (by decide +kernel)
theorem inGX2 : ∀ w ∈ wsX20, w ∈ gwl := gw_ps _ [164, 166, 168, 170, 172, 174, 176, 178, 180] (by decide +kernel) (by decide +kernel)
theorem inGX3 : ∀ w ∈ wsX30, w ∈ gwl := gw_ps _ [258, 260, 262, 264, 266, 268] (by decide +kernel) (by decide +kernel)
theorem inGX4 : ∀ w ∈ wsX40, w ∈ gwl := gw_ps _ [276, 278, 280, 282] (by decide +kernel) (by decide +kernel)
theorem inGX5 : ∀ w ∈ wsX50, w ∈ gwl := gw_ps _ [129, 131, 133, 135, 137] (by decide +kernel) (by decide +kernel)
theorem inGX6 : ∀ w ∈ wsX60, w ∈ gwl := gw_ps _ [302, 304, 306, 308] (by decide +kernel) (by decide +kernel)
theorem inGX7 : ∀ w ∈ wsX70, w ∈ gwl := gw_ps _ [325, 327, 329, 331, 333, 335, 337, 339, 341, 343, 345, 347, 349] (by decide +kernel) (by decide +kernel)
theorem inGX8 : ∀ w ∈ wsX80, w ∈ gwl := gw_ps _ [978, 980, 982, 984, 986, 988, 990, 992, 994, 996, 998, 1000, 1002, 1004, 1006, 1008, 1010, 1012, 1014, 1016, 1018, 1020, 1022, 1024, 1026, 1028, 1030, 1032, 1034, 1036, 1038, 1040, 1042, 1044, 1046, 1048, 1050, 1052, 1054, 1056, 1058, 1060, 1062, 1064, 1066, 1068, 1070, 1072, 1074, 1076, 1078, 1080, 1082] (by decide +kernel) (by decide +kernel)
theorem cf_in {ci : Nat} (h : ci < 9) : ∀ w ∈ u_ws (clR ci) (clT ci) (clN ci), w ∈ gwl := by
  match ci, h with
  | 0, _ => exact inGX0
  | 1, _ => exact inGX1
  | 2, _ => exact inGX2
  | 3, _ => exact inGX3
  | 4, _ => exact inGX4
  | 5, _ => exact inGX5
  | 6, _ => exact inGX6
  | 7, _ => exact inGX7
  | 8, _ => exact inGX8
theorem kd_ok : ∀ o, o < kdL.length → (kd o).1 = 0 → (kd o).2.1 < 9 ∧ clN (kd o).2.1 = (kd o).2.2 := by decide +kernel
theorem kd_lt {o a b c : Nat} (h : kd o = (a, b, c)) (ha : a < 9) : o < kdL.length := by
  rcases Nat.lt_or_ge o kdL.length with q | q
  · exact q
  · have : kd o = (9, 0, 0) := by unfold kd; rw [List.getD_eq_getElem?_getD, List.getElem?_eq_none q]; rfl
    rw [this] at h; cases h; omega
theorem kd_len : kdL.length = 93 := rfl
theorem kd_1000 {o a b c : Nat} (h : kd o = (a, b, c)) (ha : a < 9) : o < 1000 := by have := kd_lt h ha; rw [kd_len] at this; omega
theorem kd_cls {o ci n : Nat} (h : kd o = (0, ci, n)) : ci < 9 ∧ clN ci = n := by
  have := kd_ok o (kd_lt h (by omega)) (by rw [h])
  rw [h] at this
  exact this
/-- a field's link: in the class own, under the number idx, field j of class ci -/
def Fl (own : String) (idx ci j : Nat) : Prop := ci < 9 ∧ j < clN ci ∧ (clT ci j).1 = clR ci ∧ (Cond.fieldLink own idx (clR ci) (clT ci j).2.1 (clT ci j).2.2.1 ∈ gwl ∨ ∃ host, Cond.fieldLinkNest own idx (clR ci) (clT ci j).2.1 (clT ci j).2.2.1 host ∈ nwl)
theorem fl_X7_10 : Fl RX7 10 7 0 := ⟨by decide, by decide, rfl, Or.inl (gw_at 312 (by decide +kernel) (by decide +kernel))⟩
theorem fl_X7_16 : Fl RX7 16 7 1 := ⟨by decide, by decide, rfl, Or.inl (gw_at 313 (by decide +kernel) (by decide +kernel))⟩
theorem fl_X7_19 : Fl RX7 19 7 2 := ⟨by decide, by decide, rfl, Or.inl (gw_at 314 (by decide +kernel) (by decide +kernel))⟩
theorem fl_X7_25 : Fl RX7 25 7 3 := ⟨by decide, by decide, rfl, Or.inl (gw_at 315 (by decide +kernel) (by decide +kernel))⟩
theorem fl_X7_32 : Fl RX7 32 7 4 := ⟨by decide, by decide, rfl, Or.inl (gw_at 316 (by decide +kernel) (by decide +kernel))⟩
theorem fl_X7_39 : Fl RX7 39 7 5 := ⟨by decide, by decide, rfl, Or.inl (gw_at 317 (by decide +kernel) (by decide +kernel))⟩
theorem fl_X7_45 : Fl RX7 45 7 6 := ⟨by decide, by decide, rfl, Or.inl (gw_at 318 (by decide +kernel) (by decide +kernel))⟩
theorem fl_X7_49 : Fl RX7 49 7 7 := ⟨by decide, by decide, rfl, Or.inl (gw_at 319 (by decide +kernel) (by decide +kernel))⟩
theorem fl_X7_53 : Fl RX7 53 7 8 := ⟨by decide, by decide, rfl, Or.inl (gw_at 320 (by decide +kernel) (by decide +kernel))⟩
theorem fl_X7_59 : Fl RX7 59 7 9 := ⟨by decide, by decide, rfl, Or.inl (gw_at 321 (by decide +kernel) (by decide +kernel))⟩
theorem fl_X7_66 : Fl RX7 66 7 10 := ⟨by decide, by decide, rfl, Or.inl (gw_at 322 (by decide +kernel) (by decide +kernel))⟩
theorem fl_X7_75 : Fl RX7 75 5 0 := ⟨by decide, by decide, rfl, Or.inr ⟨_, nw_at (w := Cond.fieldLinkNest RX7 75 (clR 5) (clT 5 0).2.1 (clT 5 0).2.2.1 "SkinOfTeeth") 118 (by decide +kernel) (by decide +kernel)⟩⟩
theorem fl_X7_83 : Fl RX7 83 5 2 := ⟨by decide, by decide, rfl, Or.inr ⟨_, nw_at (w := Cond.fieldLinkNest RX7 83 (clR 5) (clT 5 2).2.1 (clT 5 2).2.2.1 "SkinOfTeeth") 123 (by decide +kernel) (by decide +kernel)⟩⟩
theorem fl_X7_90 : Fl RX7 90 6 0 := ⟨by decide, by decide, rfl, Or.inr ⟨_, nw_at (w := Cond.fieldLinkNest RX7 90 (clR 6) (clT 6 0).2.1 (clT 6 0).2.2.1 "SkinOfTeeth") 293 (by decide +kernel) (by decide +kernel)⟩⟩
theorem fl_X7_101 : Fl RX7 101 6 1 := ⟨by decide, by decide, rfl, Or.inr ⟨_, nw_at (w := Cond.fieldLinkNest RX7 101 (clR 6) (clT 6 1).2.1 (clT 6 1).2.2.1 "SkinOfTeeth") 296 (by decide +kernel) (by decide +kernel)⟩⟩
theorem fl_X7_104 : Fl RX7 104 6 3 := ⟨by decide, by decide, rfl, Or.inr ⟨_, nw_at (w := Cond.fieldLinkNest RX7 104 (clR 6) (clT 6 3).2.1 (clT 6 3).2.2.1 "SkinOfTeeth") 300 (by decide +kernel) (by decide +kernel)⟩⟩
theorem fl_X7_129 : Fl RX7 129 5 3 := ⟨by decide, by decide, rfl, Or.inr ⟨_, nw_at (w := Cond.fieldLinkNest RX7 129 (clR 5) (clT 5 3).2.1 (clT 5 3).2.2.1 "SkinOfTeeth") 125 (by decide +kernel) (by decide +kernel)⟩⟩
theorem fl_X7_132 : Fl RX7 132 7 11 := ⟨by decide, by decide, rfl, Or.inl (gw_at 323 (by decide +kernel) (by decide +kernel))⟩
theorem fl_X7_135 : Fl RX7 135 5 1 := ⟨by decide, by decide, rfl, Or.inr ⟨_, nw_at (w := Cond.fieldLinkNest RX7 135 (clR 5) (clT 5 1).2.1 (clT 5 1).2.2.1 "SkinOfTeeth") 121 (by decide +kernel) (by decide +kernel)⟩⟩
theorem fl_X7_141 : Fl RX7 141 5 4 := ⟨by decide, by decide, rfl, Or.inr ⟨_, nw_at (w := Cond.fieldLinkNest RX7 141 (clR 5) (clT 5 4).2.1 (clT 5 4).2.2.1 "SkinOfTeeth") 128 (by decide +kernel) (by decide +kernel)⟩⟩
theorem fl_X7_151 : Fl RX7 151 4 1 := ⟨by decide, by decide, rfl, Or.inr ⟨_, nw_at (w := Cond.fieldLinkNest RX7 151 (clR 4) (clT 4 1).2.1 (clT 4 1).2.2.1 "SkinOfTeeth") 273 (by decide +kernel) (by decide +kernel)⟩⟩
theorem fl_X7_169 : Fl RX7 169 2 0 := ⟨by decide, by decide, rfl, Or.inr ⟨_, nw_at (w := Cond.fieldLinkNest RX7 169 (clR 2) (clT 2 0).2.1 (clT 2 0).2.2.1 "SkinOfTeeth") 150 (by decide +kernel) (by decide +kernel)⟩⟩
theorem fl_X7_172 : Fl RX7 172 2 4 := ⟨by decide, by decide, rfl, Or.inr ⟨_, nw_at (w := Cond.fieldLinkNest RX7 172 (clR 2) (clT 2 4).2.1 (clT 2 4).2.2.1 "SkinOfTeeth") 155 (by decide +kernel) (by decide +kernel)⟩⟩
theorem fl_X7_178 : Fl RX7 178 2 8 := ⟨by decide, by decide, rfl, Or.inr ⟨_, nw_at (w := Cond.fieldLinkNest RX7 178 (clR 2) (clT 2 8).2.1 (clT 2 8).2.2.1 "SkinOfTeeth") 163 (by decide +kernel) (by decide +kernel)⟩⟩
theorem fl_X7_187 : Fl RX7 187 2 6 := ⟨by decide, by decide, rfl, Or.inr ⟨_, nw_at (w := Cond.fieldLinkNest RX7 187 (clR 2) (clT 2 6).2.1 (clT 2 6).2.2.1 "SkinOfTeeth") 159 (by decide +kernel) (by decide +kernel)⟩⟩
theorem fl_X7_190 : Fl RX7 190 2 7 := ⟨by decide, by decide, rfl, Or.inr ⟨_, nw_at (w := Cond.fieldLinkNest RX7 190 (clR 2) (clT 2 7).2.1 (clT 2 7).2.2.1 "SkinOfTeeth") 161 (by decide +kernel) (by decide +kernel)⟩⟩
theorem fl_X7_207 : Fl RX7 207 2 5 := ⟨by decide, by decide, rfl, Or.inr ⟨_, nw_at (w := Cond.fieldLinkNest RX7 207 (clR 2) (clT 2 5).2.1 (clT 2 5).2.2.1 "SkinOfTeeth") 157 (by decide +kernel) (by decide +kernel)⟩⟩
theorem fl_X7_273 : Fl RX7 273 7 12 := ⟨by decide, by decide, rfl, Or.inl (gw_at 324 (by decide +kernel) (by decide +kernel))⟩
theorem fl_X7_280 : Fl RX7 280 1 0 := ⟨by decide, by decide, rfl, Or.inr ⟨_, nw_at (w := Cond.fieldLinkNest RX7 280 (clR 1) (clT 1 0).2.1 (clT 1 0).2.2.1 "SkinOfTeeth") 190 (by decide +kernel) (by decide +kernel)⟩⟩
theorem fl_X7_283 : Fl RX7 283 1 2 := ⟨by decide, by decide, rfl, Or.inr ⟨_, nw_at (w := Cond.fieldLinkNest RX7 283 (clR 1) (clT 1 2).2.1 (clT 1 2).2.2.1 "SkinOfTeeth") 194 (by decide +kernel) (by decide +kernel)⟩⟩
theorem fl_X7_286 : Fl RX7 286 1 3 := ⟨by decide, by decide, rfl, Or.inr ⟨_, nw_at (w := Cond.fieldLinkNest RX7 286 (clR 1) (clT 1 3).2.1 (clT 1 3).2.2.1 "SkinOfTeeth") 196 (by decide +kernel) (by decide +kernel)⟩⟩
theorem fl_X7_289 : Fl RX7 289 1 4 := ⟨by decide, by decide, rfl, Or.inr ⟨_, nw_at (w := Cond.fieldLinkNest RX7 289 (clR 1) (clT 1 4).2.1 (clT 1 4).2.2.1 "SkinOfTeeth") 198 (by decide +kernel) (by decide +kernel)⟩⟩
theorem fl_X7_292 : Fl RX7 292 1 1 := ⟨by decide, by decide, rfl, Or.inr ⟨_, nw_at (w := Cond.fieldLinkNest RX7 292 (clR 1) (clT 1 1).2.1 (clT 1 1).2.2.1 "SkinOfTeeth") 192 (by decide +kernel) (by decide +kernel)⟩⟩
theorem fl_X7_295 : Fl RX7 295 1 5 := ⟨by decide, by decide, rfl, Or.inr ⟨_, nw_at (w := Cond.fieldLinkNest RX7 295 (clR 1) (clT 1 5).2.1 (clT 1 5).2.2.1 "SkinOfTeeth") 200 (by decide +kernel) (by decide +kernel)⟩⟩
theorem fl_X7_308 : Fl RX7 308 0 3 := ⟨by decide, by decide, rfl, Or.inr ⟨_, nw_at (w := Cond.fieldLinkNest RX7 308 (clR 0) (clT 0 3).2.1 (clT 0 3).2.2.1 "SkinOfTeeth") 227 (by decide +kernel) (by decide +kernel)⟩⟩
theorem fl_X7_311 : Fl RX7 311 0 0 := ⟨by decide, by decide, rfl, Or.inr ⟨_, nw_at (w := Cond.fieldLinkNest RX7 311 (clR 0) (clT 0 0).2.1 (clT 0 0).2.2.1 "SkinOfTeeth") 221 (by decide +kernel) (by decide +kernel)⟩⟩
theorem fl_X7_314 : Fl RX7 314 6 2 := ⟨by decide, by decide, rfl, Or.inr ⟨_, nw_at (w := Cond.fieldLinkNest RX7 314 (clR 6) (clT 6 2).2.1 (clT 6 2).2.2.1 "SkinOfTeeth") 297 (by decide +kernel) (by decide +kernel)⟩⟩
theorem fl_X7_335 : Fl RX7 335 0 1 := ⟨by decide, by decide, rfl, Or.inr ⟨_, nw_at (w := Cond.fieldLinkNest RX7 335 (clR 0) (clT 0 1).2.1 (clT 0 1).2.2.1 "SkinOfTeeth") 223 (by decide +kernel) (by decide +kernel)⟩⟩
theorem fl_X7_344 : Fl RX7 344 0 2 := ⟨by decide, by decide, rfl, Or.inr ⟨_, nw_at (w := Cond.fieldLinkNest RX7 344 (clR 0) (clT 0 2).2.1 (clT 0 2).2.2.1 "SkinOfTeeth") 225 (by decide +kernel) (by decide +kernel)⟩⟩
theorem fl_X0_11 : Fl RX0 11 0 1 := ⟨by decide, by decide, rfl, Or.inl (gw_at 222 (by decide +kernel) (by decide +kernel))⟩
theorem fl_X0_15 : Fl RX0 15 0 3 := ⟨by decide, by decide, rfl, Or.inl (gw_at 226 (by decide +kernel) (by decide +kernel))⟩
theorem fl_X0_18 : Fl RX0 18 0 0 := ⟨by decide, by decide, rfl, Or.inl (gw_at 220 (by decide +kernel) (by decide +kernel))⟩
theorem fl_X0_25 : Fl RX0 25 0 2 := ⟨by decide, by decide, rfl, Or.inl (gw_at 224 (by decide +kernel) (by decide +kernel))⟩
theorem fl_X1_9 : Fl RX1 9 1 2 := ⟨by decide, by decide, rfl, Or.inl (gw_at 193 (by decide +kernel) (by decide +kernel))⟩
theorem fl_X1_13 : Fl RX1 13 1 3 := ⟨by decide, by decide, rfl, Or.inl (gw_at 195 (by decide +kernel) (by decide +kernel))⟩
theorem fl_X1_16 : Fl RX1 16 1 4 := ⟨by decide, by decide, rfl, Or.inl (gw_at 197 (by decide +kernel) (by decide +kernel))⟩
theorem fl_X1_19 : Fl RX1 19 1 5 := ⟨by decide, by decide, rfl, Or.inl (gw_at 199 (by decide +kernel) (by decide +kernel))⟩
theorem fl_X1_22 : Fl RX1 22 1 0 := ⟨by decide, by decide, rfl, Or.inl (gw_at 189 (by decide +kernel) (by decide +kernel))⟩
theorem fl_X1_29 : Fl RX1 29 1 1 := ⟨by decide, by decide, rfl, Or.inl (gw_at 191 (by decide +kernel) (by decide +kernel))⟩
theorem fl_X2_11 : Fl RX2 11 2 1 := ⟨by decide, by decide, rfl, Or.inl (gw_at 151 (by decide +kernel) (by decide +kernel))⟩
theorem fl_X2_15 : Fl RX2 15 2 2 := ⟨by decide, by decide, rfl, Or.inl (gw_at 152 (by decide +kernel) (by decide +kernel))⟩
theorem fl_X2_18 : Fl RX2 18 2 3 := ⟨by decide, by decide, rfl, Or.inl (gw_at 153 (by decide +kernel) (by decide +kernel))⟩
theorem fl_X2_24 : Fl RX2 24 2 4 := ⟨by decide, by decide, rfl, Or.inl (gw_at 154 (by decide +kernel) (by decide +kernel))⟩
theorem fl_X2_28 : Fl RX2 28 2 5 := ⟨by decide, by decide, rfl, Or.inl (gw_at 156 (by decide +kernel) (by decide +kernel))⟩
theorem fl_X2_31 : Fl RX2 31 2 0 := ⟨by decide, by decide, rfl, Or.inl (gw_at 149 (by decide +kernel) (by decide +kernel))⟩
theorem fl_X2_35 : Fl RX2 35 6 1 := ⟨by decide, by decide, rfl, Or.inr ⟨_, nw_at (w := Cond.fieldLinkNest RX2 35 (clR 6) (clT 6 1).2.1 (clT 6 1).2.2.1 "SkinOfTeeth") 295 (by decide +kernel) (by decide +kernel)⟩⟩
theorem fl_X2_40 : Fl RX2 40 6 3 := ⟨by decide, by decide, rfl, Or.inr ⟨_, nw_at (w := Cond.fieldLinkNest RX2 40 (clR 6) (clT 6 3).2.1 (clT 6 3).2.2.1 "SkinOfTeeth") 299 (by decide +kernel) (by decide +kernel)⟩⟩
theorem fl_X2_52 : Fl RX2 52 2 6 := ⟨by decide, by decide, rfl, Or.inl (gw_at 158 (by decide +kernel) (by decide +kernel))⟩
theorem fl_X2_55 : Fl RX2 55 2 7 := ⟨by decide, by decide, rfl, Or.inl (gw_at 160 (by decide +kernel) (by decide +kernel))⟩
theorem fl_X2_58 : Fl RX2 58 2 8 := ⟨by decide, by decide, rfl, Or.inl (gw_at 162 (by decide +kernel) (by decide +kernel))⟩
theorem fl_X2_77 : Fl RX2 77 5 0 := ⟨by decide, by decide, rfl, Or.inr ⟨_, nw_at (w := Cond.fieldLinkNest RX2 77 (clR 5) (clT 5 0).2.1 (clT 5 0).2.2.1 "SkinOfTeeth") 119 (by decide +kernel) (by decide +kernel)⟩⟩
theorem fl_X3_11 : Fl RX3 11 3 0 := ⟨by decide, by decide, rfl, Or.inl (gw_at 251 (by decide +kernel) (by decide +kernel))⟩
theorem fl_X3_15 : Fl RX3 15 3 1 := ⟨by decide, by decide, rfl, Or.inl (gw_at 252 (by decide +kernel) (by decide +kernel))⟩
theorem fl_X3_18 : Fl RX3 18 3 2 := ⟨by decide, by decide, rfl, Or.inl (gw_at 253 (by decide +kernel) (by decide +kernel))⟩
theorem fl_X3_21 : Fl RX3 21 3 3 := ⟨by decide, by decide, rfl, Or.inl (gw_at 254 (by decide +kernel) (by decide +kernel))⟩
theorem fl_X3_24 : Fl RX3 24 3 4 := ⟨by decide, by decide, rfl, Or.inl (gw_at 255 (by decide +kernel) (by decide +kernel))⟩
theorem fl_X3_28 : Fl RX3 28 5 4 := ⟨by decide, by decide, rfl, Or.inr ⟨_, nw_at (w := Cond.fieldLinkNest RX3 28 (clR 5) (clT 5 4).2.1 (clT 5 4).2.2.1 "SkinOfTeeth") 127 (by decide +kernel) (by decide +kernel)⟩⟩
theorem fl_X3_54 : Fl RX3 54 3 5 := ⟨by decide, by decide, rfl, Or.inl (gw_at 257 (by decide +kernel) (by decide +kernel))⟩
theorem fl_X4_9 : Fl RX4 9 4 0 := ⟨by decide, by decide, rfl, Or.inl (gw_at 271 (by decide +kernel) (by decide +kernel))⟩
theorem fl_X4_18 : Fl RX4 18 4 2 := ⟨by decide, by decide, rfl, Or.inl (gw_at 274 (by decide +kernel) (by decide +kernel))⟩
theorem fl_X4_22 : Fl RX4 22 4 1 := ⟨by decide, by decide, rfl, Or.inl (gw_at 272 (by decide +kernel) (by decide +kernel))⟩
theorem fl_X4_26 : Fl RX4 26 3 4 := ⟨by decide, by decide, rfl, Or.inr ⟨_, nw_at (w := Cond.fieldLinkNest RX4 26 (clR 3) (clT 3 4).2.1 (clT 3 4).2.2.1 "SkinOfTeeth") 256 (by decide +kernel) (by decide +kernel)⟩⟩
theorem fl_X4_29 : Fl RX4 29 4 3 := ⟨by decide, by decide, rfl, Or.inl (gw_at 275 (by decide +kernel) (by decide +kernel))⟩
theorem fl_X5_9 : Fl RX5 9 5 1 := ⟨by decide, by decide, rfl, Or.inl (gw_at 120 (by decide +kernel) (by decide +kernel))⟩
theorem fl_X5_15 : Fl RX5 15 5 2 := ⟨by decide, by decide, rfl, Or.inl (gw_at 122 (by decide +kernel) (by decide +kernel))⟩
theorem fl_X5_19 : Fl RX5 19 5 3 := ⟨by decide, by decide, rfl, Or.inl (gw_at 124 (by decide +kernel) (by decide +kernel))⟩
theorem fl_X5_22 : Fl RX5 22 5 4 := ⟨by decide, by decide, rfl, Or.inl (gw_at 126 (by decide +kernel) (by decide +kernel))⟩
theorem fl_X5_25 : Fl RX5 25 5 0 := ⟨by decide, by decide, rfl, Or.inl (gw_at 117 (by decide +kernel) (by decide +kernel))⟩
theorem fl_X5_50 : Fl RX5 50 6 3 := ⟨by decide, by decide, rfl, Or.inr ⟨_, nw_at (w := Cond.fieldLinkNest RX5 50 (clR 6) (clT 6 3).2.1 (clT 6 3).2.2.1 "SkinOfTeeth") 301 (by decide +kernel) (by decide +kernel)⟩⟩
theorem fl_X6_9 : Fl RX6 9 6 0 := ⟨by decide, by decide, rfl, Or.inl (gw_at 292 (by decide +kernel) (by decide +kernel))⟩
theorem fl_X6_13 : Fl RX6 13 6 3 := ⟨by decide, by decide, rfl, Or.inl (gw_at 298 (by decide +kernel) (by decide +kernel))⟩
theorem fl_X6_17 : Fl RX6 17 6 1 := ⟨by decide, by decide, rfl, Or.inl (gw_at 294 (by decide +kernel) (by decide +kernel))⟩
theorem fl_X8_7 : Fl RX8 7 8 2 := ⟨by decide, by decide, rfl, Or.inl (gw_at 927 (by decide +kernel) (by decide +kernel))⟩
theorem fl_X8_13 : Fl RX8 13 8 3 := ⟨by decide, by decide, rfl, Or.inl (gw_at 928 (by decide +kernel) (by decide +kernel))⟩
theorem fl_X8_16 : Fl RX8 16 8 4 := ⟨by decide, by decide, rfl, Or.inl (gw_at 929 (by decide +kernel) (by decide +kernel))⟩
theorem fl_X8_19 : Fl RX8 19 8 5 := ⟨by decide, by decide, rfl, Or.inl (gw_at 930 (by decide +kernel) (by decide +kernel))⟩
theorem fl_X8_22 : Fl RX8 22 8 6 := ⟨by decide, by decide, rfl, Or.inl (gw_at 931 (by decide +kernel) (by decide +kernel))⟩
theorem fl_X8_26 : Fl RX8 26 8 9 := ⟨by decide, by decide, rfl, Or.inl (gw_at 934 (by decide +kernel) (by decide +kernel))⟩
theorem fl_X8_29 : Fl RX8 29 8 10 := ⟨by decide, by decide, rfl, Or.inl (gw_at 935 (by decide +kernel) (by decide +kernel))⟩
theorem fl_X8_32 : Fl RX8 32 8 11 := ⟨by decide, by decide, rfl, Or.inl (gw_at 936 (by decide +kernel) (by decide +kernel))⟩
theorem fl_X8_35 : Fl RX8 35 8 12 := ⟨by decide, by decide, rfl, Or.inl (gw_at 937 (by decide +kernel) (by decide +kernel))⟩
theorem fl_X8_38 : Fl RX8 38 8 13 := ⟨by decide, by decide, rfl, Or.inl (gw_at 938 (by decide +kernel) (by decide +kernel))⟩
theorem fl_X8_42 : Fl RX8 42 8 19 := ⟨by decide, by decide, rfl, Or.inl (gw_at 944 (by decide +kernel) (by decide +kernel))⟩
theorem fl_X8_45 : Fl RX8 45 8 20 := ⟨by decide, by decide, rfl, Or.inl (gw_at 945 (by decide +kernel) (by decide +kernel))⟩
theorem fl_X8_48 : Fl RX8 48 8 21 := ⟨by decide, by decide, rfl, Or.inl (gw_at 946 (by decide +kernel) (by decide +kernel))⟩
theorem fl_X8_51 : Fl RX8 51 8 22 := ⟨by decide, by decide, rfl, Or.inl (gw_at 947 (by decide +kernel) (by decide +kernel))⟩
theorem fl_X8_55 : Fl RX8 55 8 23 := ⟨by decide, by decide, rfl, Or.inl (gw_at 948 (by decide +kernel) (by decide +kernel))⟩
theorem fl_X8_58 : Fl RX8 58 8 24 := ⟨by decide, by decide, rfl, Or.inl (gw_at 949 (by decide +kernel) (by decide +kernel))⟩
theorem fl_X8_61 : Fl RX8 61 8 25 := ⟨by decide, by decide, rfl, Or.inl (gw_at 950 (by decide +kernel) (by decide +kernel))⟩
theorem fl_X8_64 : Fl RX8 64 8 27 := ⟨by decide, by decide, rfl, Or.inl (gw_at 952 (by decide +kernel) (by decide +kernel))⟩
theorem fl_X8_67 : Fl RX8 67 8 28 := ⟨by decide, by decide, rfl, Or.inl (gw_at 953 (by decide +kernel) (by decide +kernel))⟩
theorem fl_X8_70 : Fl RX8 70 8 29 := ⟨by decide, by decide, rfl, Or.inl (gw_at 954 (by decide +kernel) (by decide +kernel))⟩
theorem fl_X8_73 : Fl RX8 73 8 30 := ⟨by decide, by decide, rfl, Or.inl (gw_at 955 (by decide +kernel) (by decide +kernel))⟩
theorem fl_X8_76 : Fl RX8 76 8 31 := ⟨by decide, by decide, rfl, Or.inl (gw_at 956 (by decide +kernel) (by decide +kernel))⟩
theorem fl_X8_79 : Fl RX8 79 8 32 := ⟨by decide, by decide, rfl, Or.inl (gw_at 957 (by decide +kernel) (by decide +kernel))⟩
theorem fl_X8_82 : Fl RX8 82 8 34 := ⟨by decide, by decide, rfl, Or.inl (gw_at 959 (by decide +kernel) (by decide +kernel))⟩
theorem fl_X8_85 : Fl RX8 85 8 37 := ⟨by decide, by decide, rfl, Or.inl (gw_at 962 (by decide +kernel) (by decide +kernel))⟩
theorem fl_X8_88 : Fl RX8 88 8 38 := ⟨by decide, by decide, rfl, Or.inl (gw_at 963 (by decide +kernel) (by decide +kernel))⟩
theorem fl_X8_91 : Fl RX8 91 8 41 := ⟨by decide, by decide, rfl, Or.inl (gw_at 966 (by decide +kernel) (by decide +kernel))⟩
theorem fl_X8_94 : Fl RX8 94 8 42 := ⟨by decide, by decide, rfl, Or.inl (gw_at 967 (by decide +kernel) (by decide +kernel))⟩
theorem fl_X8_97 : Fl RX8 97 8 43 := ⟨by decide, by decide, rfl, Or.inl (gw_at 968 (by decide +kernel) (by decide +kernel))⟩
theorem fl_X8_100 : Fl RX8 100 8 44 := ⟨by decide, by decide, rfl, Or.inl (gw_at 969 (by decide +kernel) (by decide +kernel))⟩
theorem fl_X8_103 : Fl RX8 103 8 46 := ⟨by decide, by decide, rfl, Or.inl (gw_at 971 (by decide +kernel) (by decide +kernel))⟩
theorem fl_X8_106 : Fl RX8 106 8 48 := ⟨by decide, by decide, rfl, Or.inl (gw_at 973 (by decide +kernel) (by decide +kernel))⟩
theorem fl_X8_109 : Fl RX8 109 8 49 := ⟨by decide, by decide, rfl, Or.inl (gw_at 974 (by decide +kernel) (by decide +kernel))⟩
theorem fl_X8_112 : Fl RX8 112 8 50 := ⟨by decide, by decide, rfl, Or.inl (gw_at 975 (by decide +kernel) (by decide +kernel))⟩
theorem fl_X8_115 : Fl RX8 115 8 51 := ⟨by decide, by decide, rfl, Or.inl (gw_at 976 (by decide +kernel) (by decide +kernel))⟩
theorem fl_X8_119 : Fl RX8 119 8 52 := ⟨by decide, by decide, rfl, Or.inl (gw_at 977 (by decide +kernel) (by decide +kernel))⟩
theorem fl_X8_125 : Fl RX8 125 8 1 := ⟨by decide, by decide, rfl, Or.inl (gw_at 926 (by decide +kernel) (by decide +kernel))⟩
theorem fl_X8_146 : Fl RX8 146 8 8 := ⟨by decide, by decide, rfl, Or.inl (gw_at 933 (by decide +kernel) (by decide +kernel))⟩
theorem fl_X8_149 : Fl RX8 149 8 7 := ⟨by decide, by decide, rfl, Or.inl (gw_at 932 (by decide +kernel) (by decide +kernel))⟩
theorem fl_X8_179 : Fl RX8 179 8 14 := ⟨by decide, by decide, rfl, Or.inl (gw_at 939 (by decide +kernel) (by decide +kernel))⟩
theorem fl_X8_182 : Fl RX8 182 8 15 := ⟨by decide, by decide, rfl, Or.inl (gw_at 940 (by decide +kernel) (by decide +kernel))⟩
theorem fl_X8_185 : Fl RX8 185 8 16 := ⟨by decide, by decide, rfl, Or.inl (gw_at 941 (by decide +kernel) (by decide +kernel))⟩
theorem fl_X8_188 : Fl RX8 188 8 18 := ⟨by decide, by decide, rfl, Or.inl (gw_at 943 (by decide +kernel) (by decide +kernel))⟩
theorem fl_X8_191 : Fl RX8 191 8 17 := ⟨by decide, by decide, rfl, Or.inl (gw_at 942 (by decide +kernel) (by decide +kernel))⟩
theorem fl_X8_245 : Fl RX8 245 8 26 := ⟨by decide, by decide, rfl, Or.inl (gw_at 951 (by decide +kernel) (by decide +kernel))⟩
theorem fl_X8_264 : Fl RX8 264 8 33 := ⟨by decide, by decide, rfl, Or.inl (gw_at 958 (by decide +kernel) (by decide +kernel))⟩
theorem fl_X8_270 : Fl RX8 270 8 35 := ⟨by decide, by decide, rfl, Or.inl (gw_at 960 (by decide +kernel) (by decide +kernel))⟩
theorem fl_X8_273 : Fl RX8 273 8 36 := ⟨by decide, by decide, rfl, Or.inl (gw_at 961 (by decide +kernel) (by decide +kernel))⟩
theorem fl_X8_321 : Fl RX8 321 8 39 := ⟨by decide, by decide, rfl, Or.inl (gw_at 964 (by decide +kernel) (by decide +kernel))⟩
theorem fl_X8_324 : Fl RX8 324 8 40 := ⟨by decide, by decide, rfl, Or.inl (gw_at 965 (by decide +kernel) (by decide +kernel))⟩
theorem fl_X8_327 : Fl RX8 327 8 45 := ⟨by decide, by decide, rfl, Or.inl (gw_at 970 (by decide +kernel) (by decide +kernel))⟩
theorem fl_X8_330 : Fl RX8 330 8 47 := ⟨by decide, by decide, rfl, Or.inl (gw_at 972 (by decide +kernel) (by decide +kernel))⟩
