def sI_1 (st : St) : St := (putR (zeroAt (putR (zeroAt (putR (zeroAt (putI st 1 1 3) 2) 1 2 (some 2)) 3) 1 3 (some 3)) 4) 1 4 (some 4))
set_option maxRecDepth 20000 in
theorem ci_1 {g : Gt} {d : Nat} {st : St} {Q : Option Value → St → Prop} (h : Q none (sI_1 st)) : Rn g (d + 1) 2 5 mX5_init 0 [some (.ref 1)] [] st Q := by
  refine s_aload_n dX5_init_0 rfl rfl ?_
  refine s_oinit dX5_init_1 oi_X5_3 oi_i oi_c (o := 1) rfl (by decide) (Nat.le_of_ble_eq_true rfl) (by omega) ?_
  show Rn g (d + 1) 2 5 mX5_init 4 [some (.ref 1)] [] st Q
  refine s_aload_n dX5_init_4 rfl rfl ?_
  refine s_iconst (v := 3) dX5_init_5 (by decide) ?_
  refine s_putI dX5_init_6 fl_X5_9 (o := 1) rfl (by decide) rfl rfl rfl rfl ?_
  refine s_aload_n dX5_init_9 rfl rfl ?_
  refine s_bipush (v := 56) dX5_init_10 (by decide) ?_
  refine s_newa (c0 := 0) (n := 56) dX5_init_12 rfl (by decide) rfl arc_int (by decide) rfl (by decide) (by decide) ?_
  show Rn g (d + 1) 3 5 mX5_init 14 [some (.ref 1)] [.ref 2, .ref 1] (zeroAt (putI st 1 1 3) 2) Q
  refine s_putR dX5_init_14 fl_X5_15 (o := 1) rfl (by decide) rfl (Or.inr ⟨rfl, rfl, rfl, gw_at 122 (by decide +kernel) (by decide +kernel)⟩) ?_
  refine s_aload_n dX5_init_17 rfl rfl ?_
  refine s_bipush (v := 7) dX5_init_18 (by decide) ?_
  refine s_newa (c0 := 0) (n := 7) dX5_init_20 rfl (by decide) rfl arc_int (by decide) rfl (by decide) (by decide) ?_
  show Rn g (d + 1) 4 5 mX5_init 22 [some (.ref 1)] [.ref 3, .ref 1] (zeroAt (putR (zeroAt (putI st 1 1 3) 2) 1 2 (some 2)) 3) Q
  refine s_putR dX5_init_22 fl_X5_19 (o := 1) rfl (by decide) rfl (Or.inr ⟨rfl, rfl, rfl, gw_at 124 (by decide +kernel) (by decide +kernel)⟩) ?_
  refine s_aload_n dX5_init_25 rfl rfl ?_
  refine s_bipush (v := 7) dX5_init_26 (by decide) ?_
  refine s_newa (c0 := 0) (n := 7) dX5_init_28 rfl (by decide) rfl arc_int (by decide) rfl (by decide) (by decide) ?_
  show Rn g (d + 1) 5 5 mX5_init 30 [some (.ref 1)] [.ref 4, .ref 1] (zeroAt (putR (zeroAt (putR (zeroAt (putI st 1 1 3) 2) 1 2 (some 2)) 3) 1 3 (some 3)) 4) Q
  refine s_putR dX5_init_30 fl_X5_22 (o := 1) rfl (by decide) rfl (Or.inr ⟨rfl, rfl, rfl, gw_at 126 (by decide +kernel) (by decide +kernel)⟩) ?_
  exact s_vret dX5_init_33 rfl h
def sI_5 (st : St) : St := (putR (zeroAt (putR (zeroAt (putR (zeroAt (putI st 5 1 3) 6) 5 2 (some 6)) 7) 5 3 (some 7)) 8) 5 4 (some 8))
set_option maxRecDepth 20000 in
theorem ci_5 {g : Gt} {d : Nat} {st : St} {Q : Option Value → St → Prop} (h : Q none (sI_5 st)) : Rn g (d + 1) 6 9 mX5_init 0 [some (.ref 5)] [] st Q := by
  refine s_aload_n dX5_init_0 rfl rfl ?_
  refine s_oinit dX5_init_1 oi_X5_3 oi_i oi_c (o := 5) rfl (by decide) (Nat.le_of_ble_eq_true rfl) (by omega) ?_
  show Rn g (d + 1) 6 9 mX5_init 4 [some (.ref 5)] [] st Q
  refine s_aload_n dX5_init_4 rfl rfl ?_
  refine s_iconst (v := 3) dX5_init_5 (by decide) ?_
  refine s_putI dX5_init_6 fl_X5_9 (o := 5) rfl (by decide) rfl rfl rfl rfl ?_
  refine s_aload_n dX5_init_9 rfl rfl ?_
  refine s_bipush (v := 56) dX5_init_10 (by decide) ?_
  refine s_newa (c0 := 0) (n := 56) dX5_init_12 rfl (by decide) rfl arc_int (by decide) rfl (by decide) (by decide) ?_
  show Rn g (d + 1) 7 9 mX5_init 14 [some (.ref 5)] [.ref 6, .ref 5] (zeroAt (putI st 5 1 3) 6) Q
  refine s_putR dX5_init_14 fl_X5_15 (o := 5) rfl (by decide) rfl (Or.inr ⟨rfl, rfl, rfl, gw_at 122 (by decide +kernel) (by decide +kernel)⟩) ?_
  refine s_aload_n dX5_init_17 rfl rfl ?_
  refine s_bipush (v := 7) dX5_init_18 (by decide) ?_
  refine s_newa (c0 := 0) (n := 7) dX5_init_20 rfl (by decide) rfl arc_int (by decide) rfl (by decide) (by decide) ?_
  show Rn g (d + 1) 8 9 mX5_init 22 [some (.ref 5)] [.ref 7, .ref 5] (zeroAt (putR (zeroAt (putI st 5 1 3) 6) 5 2 (some 6)) 7) Q
  refine s_putR dX5_init_22 fl_X5_19 (o := 5) rfl (by decide) rfl (Or.inr ⟨rfl, rfl, rfl, gw_at 124 (by decide +kernel) (by decide +kernel)⟩) ?_
  refine s_aload_n dX5_init_25 rfl rfl ?_
  refine s_bipush (v := 7) dX5_init_26 (by decide) ?_
  refine s_newa (c0 := 0) (n := 7) dX5_init_28 rfl (by decide) rfl arc_int (by decide) rfl (by decide) (by decide) ?_
  show Rn g (d + 1) 9 9 mX5_init 30 [some (.ref 5)] [.ref 8, .ref 5] (zeroAt (putR (zeroAt (putR (zeroAt (putI st 5 1 3) 6) 5 2 (some 6)) 7) 5 3 (some 7)) 8) Q
  refine s_putR dX5_init_30 fl_X5_22 (o := 5) rfl (by decide) rfl (Or.inr ⟨rfl, rfl, rfl, gw_at 126 (by decide +kernel) (by decide +kernel)⟩) ?_
  exact s_vret dX5_init_33 rfl h
def sI_9 (st : St) : St := (putR (zeroAt (putR (zeroAt (putR (zeroAt (putI st 9 1 3) 10) 9 2 (some 10)) 11) 9 3 (some 11)) 12) 9 4 (some 12))
set_option maxRecDepth 20000 in
theorem ci_9 {g : Gt} {d : Nat} {st : St} {Q : Option Value → St → Prop} (h : Q none (sI_9 st)) : Rn g (d + 1) 10 13 mX5_init 0 [some (.ref 9)] [] st Q := by
  refine s_aload_n dX5_init_0 rfl rfl ?_
  refine s_oinit dX5_init_1 oi_X5_3 oi_i oi_c (o := 9) rfl (by decide) (Nat.le_of_ble_eq_true rfl) (by omega) ?_
  show Rn g (d + 1) 10 13 mX5_init 4 [some (.ref 9)] [] st Q
  refine s_aload_n dX5_init_4 rfl rfl ?_
  refine s_iconst (v := 3) dX5_init_5 (by decide) ?_
  refine s_putI dX5_init_6 fl_X5_9 (o := 9) rfl (by decide) rfl rfl rfl rfl ?_
  refine s_aload_n dX5_init_9 rfl rfl ?_
  refine s_bipush (v := 56) dX5_init_10 (by decide) ?_
  refine s_newa (c0 := 0) (n := 56) dX5_init_12 rfl (by decide) rfl arc_int (by decide) rfl (by decide) (by decide) ?_
  show Rn g (d + 1) 11 13 mX5_init 14 [some (.ref 9)] [.ref 10, .ref 9] (zeroAt (putI st 9 1 3) 10) Q
  refine s_putR dX5_init_14 fl_X5_15 (o := 9) rfl (by decide) rfl (Or.inr ⟨rfl, rfl, rfl, gw_at 122 (by decide +kernel) (by decide +kernel)⟩) ?_
  refine s_aload_n dX5_init_17 rfl rfl ?_
  refine s_bipush (v := 7) dX5_init_18 (by decide) ?_
  refine s_newa (c0 := 0) (n := 7) dX5_init_20 rfl (by decide) rfl arc_int (by decide) rfl (by decide) (by decide) ?_
  show Rn g (d + 1) 12 13 mX5_init 22 [some (.ref 9)] [.ref 11, .ref 9] (zeroAt (putR (zeroAt (putI st 9 1 3) 10) 9 2 (some 10)) 11) Q
  refine s_putR dX5_init_22 fl_X5_19 (o := 9) rfl (by decide) rfl (Or.inr ⟨rfl, rfl, rfl, gw_at 124 (by decide +kernel) (by decide +kernel)⟩) ?_
  refine s_aload_n dX5_init_25 rfl rfl ?_
  refine s_bipush (v := 7) dX5_init_26 (by decide) ?_
  refine s_newa (c0 := 0) (n := 7) dX5_init_28 rfl (by decide) rfl arc_int (by decide) rfl (by decide) (by decide) ?_
  show Rn g (d + 1) 13 13 mX5_init 30 [some (.ref 9)] [.ref 12, .ref 9] (zeroAt (putR (zeroAt (putR (zeroAt (putI st 9 1 3) 10) 9 2 (some 10)) 11) 9 3 (some 11)) 12) Q
  refine s_putR dX5_init_30 fl_X5_22 (o := 9) rfl (by decide) rfl (Or.inr ⟨rfl, rfl, rfl, gw_at 126 (by decide +kernel) (by decide +kernel)⟩) ?_
  exact s_vret dX5_init_33 rfl h
def sI_17 (st : St) : St := (putR (zeroAt (putR (zeroAt (putR (zeroAt (putI st 17 1 3) 18) 17 2 (some 18)) 19) 17 3 (some 19)) 20) 17 4 (some 20))
set_option maxRecDepth 20000 in
theorem ci_17 {g : Gt} {d : Nat} {st : St} {Q : Option Value → St → Prop} (h : Q none (sI_17 st)) : Rn g (d + 1) 18 21 mX5_init 0 [some (.ref 17)] [] st Q := by
  refine s_aload_n dX5_init_0 rfl rfl ?_
  refine s_oinit dX5_init_1 oi_X5_3 oi_i oi_c (o := 17) rfl (by decide) (Nat.le_of_ble_eq_true rfl) (by omega) ?_
  show Rn g (d + 1) 18 21 mX5_init 4 [some (.ref 17)] [] st Q
  refine s_aload_n dX5_init_4 rfl rfl ?_
  refine s_iconst (v := 3) dX5_init_5 (by decide) ?_
  refine s_putI dX5_init_6 fl_X5_9 (o := 17) rfl (by decide) rfl rfl rfl rfl ?_
  refine s_aload_n dX5_init_9 rfl rfl ?_
  refine s_bipush (v := 56) dX5_init_10 (by decide) ?_
  refine s_newa (c0 := 0) (n := 56) dX5_init_12 rfl (by decide) rfl arc_int (by decide) rfl (by decide) (by decide) ?_
  show Rn g (d + 1) 19 21 mX5_init 14 [some (.ref 17)] [.ref 18, .ref 17] (zeroAt (putI st 17 1 3) 18) Q
  refine s_putR dX5_init_14 fl_X5_15 (o := 17) rfl (by decide) rfl (Or.inr ⟨rfl, rfl, rfl, gw_at 122 (by decide +kernel) (by decide +kernel)⟩) ?_
  refine s_aload_n dX5_init_17 rfl rfl ?_
  refine s_bipush (v := 7) dX5_init_18 (by decide) ?_
  refine s_newa (c0 := 0) (n := 7) dX5_init_20 rfl (by decide) rfl arc_int (by decide) rfl (by decide) (by decide) ?_
  show Rn g (d + 1) 20 21 mX5_init 22 [some (.ref 17)] [.ref 19, .ref 17] (zeroAt (putR (zeroAt (putI st 17 1 3) 18) 17 2 (some 18)) 19) Q
  refine s_putR dX5_init_22 fl_X5_19 (o := 17) rfl (by decide) rfl (Or.inr ⟨rfl, rfl, rfl, gw_at 124 (by decide +kernel) (by decide +kernel)⟩) ?_
  refine s_aload_n dX5_init_25 rfl rfl ?_
  refine s_bipush (v := 7) dX5_init_26 (by decide) ?_
  refine s_newa (c0 := 0) (n := 7) dX5_init_28 rfl (by decide) rfl arc_int (by decide) rfl (by decide) (by decide) ?_
  show Rn g (d + 1) 21 21 mX5_init 30 [some (.ref 17)] [.ref 20, .ref 17] (zeroAt (putR (zeroAt (putR (zeroAt (putI st 17 1 3) 18) 17 2 (some 18)) 19) 17 3 (some 19)) 20) Q
  refine s_putR dX5_init_30 fl_X5_22 (o := 17) rfl (by decide) rfl (Or.inr ⟨rfl, rfl, rfl, gw_at 126 (by decide +kernel) (by decide +kernel)⟩) ?_
  exact s_vret dX5_init_33 rfl h
def sI_13 (st : St) : St := (putR (zeroAt (putR (sI_17 (zeroAt (putR (zeroAt (putR (zeroAt (putR (zeroAt st 14) 13 1 (some 14)) 15) 13 2 (some 15)) 16) 13 3 (some 16)) 17)) 13 4 (some 17)) 21) 13 5 (some 21))
set_option maxRecDepth 20000 in
theorem ci_13 {g : Gt} {d : Nat} {st : St} {Q : Option Value → St → Prop} (h : Q none (sI_13 st)) : Rn g (d + 2) 14 22 mX2_init 0 [some (.ref 13)] [] st Q := by
  refine s_aload_n dX2_init_0 rfl rfl ?_
  refine s_oinit dX2_init_1 oi_X2_3 oi_i oi_c (o := 13) rfl (by decide) (Nat.le_of_ble_eq_true rfl) (by omega) ?_
  show Rn g (d + 2) 14 22 mX2_init 4 [some (.ref 13)] [] st Q
  refine s_aload_n dX2_init_4 rfl rfl ?_
  refine s_bipush (v := 15) dX2_init_5 (by decide) ?_
  refine s_newa (c0 := 0) (n := 15) dX2_init_7 rfl (by decide) rfl arc_int (by decide) rfl (by decide) (by decide) ?_
  show Rn g (d + 2) 15 22 mX2_init 9 [some (.ref 13)] [.ref 14, .ref 13] (zeroAt st 14) Q
  refine s_putR dX2_init_9 fl_X2_11 (o := 13) rfl (by decide) rfl (Or.inr ⟨rfl, rfl, rfl, gw_at 151 (by decide +kernel) (by decide +kernel)⟩) ?_
  refine s_aload_n dX2_init_12 rfl rfl ?_
  refine s_bipush (v := 15) dX2_init_13 (by decide) ?_
  refine s_newa (c0 := 0) (n := 15) dX2_init_15 rfl (by decide) rfl arc_int (by decide) rfl (by decide) (by decide) ?_
  show Rn g (d + 2) 16 22 mX2_init 17 [some (.ref 13)] [.ref 15, .ref 13] (zeroAt (putR (zeroAt st 14) 13 1 (some 14)) 15) Q
  refine s_putR dX2_init_17 fl_X2_15 (o := 13) rfl (by decide) rfl (Or.inr ⟨rfl, rfl, rfl, gw_at 152 (by decide +kernel) (by decide +kernel)⟩) ?_
  refine s_aload_n dX2_init_20 rfl rfl ?_
  refine s_bipush (v := 15) dX2_init_21 (by decide) ?_
  refine s_newa (c0 := 0) (n := 15) dX2_init_23 rfl (by decide) rfl arc_int (by decide) rfl (by decide) (by decide) ?_
  show Rn g (d + 2) 17 22 mX2_init 25 [some (.ref 13)] [.ref 16, .ref 13] (zeroAt (putR (zeroAt (putR (zeroAt st 14) 13 1 (some 14)) 15) 13 2 (some 15)) 16) Q
  refine s_putR dX2_init_25 fl_X2_18 (o := 13) rfl (by decide) rfl (Or.inr ⟨rfl, rfl, rfl, gw_at 153 (by decide +kernel) (by decide +kernel)⟩) ?_
  refine s_aload_n dX2_init_28 rfl rfl ?_
  refine s_new (ci := 5) (n := 5) dX2_init_29 rfl ck_X2_21 nst_5 ini_RX5 (by decide) ?_
  show Rn g (d + 2) 18 22 mX2_init 32 [some (.ref 13)] [.ref 17, .ref 13] (zeroAt (putR (zeroAt (putR (zeroAt (putR (zeroAt st 14) 13 1 (some 14)) 15) 13 2 (some 15)) 16) 13 3 (some 16)) 17) Q
  refine s_dup dX2_init_32 rfl ?_
  refine s_callI (M' := mX5_init) (k := 0) (z1 := 21) (As := []) (rest := [.ref 17, .ref 13]) dX2_init_33 ml_X2_23 miX5_init rfl rfl (o := 17) rfl (by decide) rfl (Nat.le_of_ble_eq_true rfl) (by decide) (by decide) (Nat.le_of_ble_eq_true rfl) (ci_17 (d := d) ?_)
  show Rn g (d + 2) 21 22 mX2_init 36 [some (.ref 13)] [.ref 17, .ref 13] (sI_17 (zeroAt (putR (zeroAt (putR (zeroAt (putR (zeroAt st 14) 13 1 (some 14)) 15) 13 2 (some 15)) 16) 13 3 (some 16)) 17)) Q
  refine s_putR dX2_init_36 fl_X2_24 (o := 13) rfl (by decide) rfl (Or.inr ⟨rfl, rfl, rfl, gw_at 154 (by decide +kernel) (by decide +kernel)⟩) ?_
  refine s_aload_n dX2_init_39 rfl rfl ?_
  refine s_bipush (v := 70) dX2_init_40 (by decide) ?_
  refine s_newa (c0 := 0) (n := 70) dX2_init_42 rfl (by decide) rfl arc_int (by decide) rfl (by decide) (by decide) ?_
  show Rn g (d + 2) 22 22 mX2_init 44 [some (.ref 13)] [.ref 21, .ref 13] (zeroAt (putR (sI_17 (zeroAt (putR (zeroAt (putR (zeroAt (putR (zeroAt st 14) 13 1 (some 14)) 15) 13 2 (some 15)) 16) 13 3 (some 16)) 17)) 13 4 (some 17)) 21) Q
  refine s_putR dX2_init_44 fl_X2_28 (o := 13) rfl (by decide) rfl (Or.inr ⟨rfl, rfl, rfl, gw_at 156 (by decide +kernel) (by decide +kernel)⟩) ?_
  exact s_vret dX2_init_47 rfl h
def sI_22 (st : St) : St := (putR (zeroAt (putR (zeroAt (putR (zeroAt (putR (zeroAt st 23) 22 2 (some 23)) 24) 22 3 (some 24)) 25) 22 4 (some 25)) 26) 22 5 (some 26))
set_option maxRecDepth 20000 in
theorem ci_22 {g : Gt} {d : Nat} {st : St} {Q : Option Value → St → Prop} (h : Q none (sI_22 st)) : Rn g (d + 1) 23 27 mX1_init 0 [some (.ref 22)] [] st Q := by
  refine s_aload_n dX1_init_0 rfl rfl ?_
  refine s_oinit dX1_init_1 oi_X1_1 oi_i oi_c (o := 22) rfl (by decide) (Nat.le_of_ble_eq_true rfl) (by omega) ?_
  show Rn g (d + 1) 23 27 mX1_init 4 [some (.ref 22)] [] st Q
  refine s_aload_n dX1_init_4 rfl rfl ?_
  refine s_bipush (v := 40) dX1_init_5 (by decide) ?_
  refine s_newa (c0 := 0) (n := 40) dX1_init_7 rfl (by decide) rfl arc_int (by decide) rfl (by decide) (by decide) ?_
  show Rn g (d + 1) 24 27 mX1_init 9 [some (.ref 22)] [.ref 23, .ref 22] (zeroAt st 23) Q
  refine s_putR dX1_init_9 fl_X1_9 (o := 22) rfl (by decide) rfl (Or.inr ⟨rfl, rfl, rfl, gw_at 193 (by decide +kernel) (by decide +kernel)⟩) ?_
  refine s_aload_n dX1_init_12 rfl rfl ?_
  refine s_bipush (v := 40) dX1_init_13 (by decide) ?_
  refine s_newa (c0 := 0) (n := 40) dX1_init_15 rfl (by decide) rfl arc_int (by decide) rfl (by decide) (by decide) ?_
  show Rn g (d + 1) 25 27 mX1_init 17 [some (.ref 22)] [.ref 24, .ref 22] (zeroAt (putR (zeroAt st 23) 22 2 (some 23)) 24) Q
  refine s_putR dX1_init_17 fl_X1_13 (o := 22) rfl (by decide) rfl (Or.inr ⟨rfl, rfl, rfl, gw_at 195 (by decide +kernel) (by decide +kernel)⟩) ?_
  refine s_aload_n dX1_init_20 rfl rfl ?_
  refine s_bipush (v := 40) dX1_init_21 (by decide) ?_
  refine s_newa (c0 := 0) (n := 40) dX1_init_23 rfl (by decide) rfl arc_int (by decide) rfl (by decide) (by decide) ?_
  show Rn g (d + 1) 26 27 mX1_init 25 [some (.ref 22)] [.ref 25, .ref 22] (zeroAt (putR (zeroAt (putR (zeroAt st 23) 22 2 (some 23)) 24) 22 3 (some 24)) 25) Q
  refine s_putR dX1_init_25 fl_X1_16 (o := 22) rfl (by decide) rfl (Or.inr ⟨rfl, rfl, rfl, gw_at 197 (by decide +kernel) (by decide +kernel)⟩) ?_
  refine s_aload_n dX1_init_28 rfl rfl ?_
  refine s_bipush (v := 40) dX1_init_29 (by decide) ?_
  refine s_newa (c0 := 0) (n := 40) dX1_init_31 rfl (by decide) rfl arc_int (by decide) rfl (by decide) (by decide) ?_
  show Rn g (d + 1) 27 27 mX1_init 33 [some (.ref 22)] [.ref 26, .ref 22] (zeroAt (putR (zeroAt (putR (zeroAt (putR (zeroAt st 23) 22 2 (some 23)) 24) 22 3 (some 24)) 25) 22 4 (some 25)) 26) Q
  refine s_putR dX1_init_33 fl_X1_19 (o := 22) rfl (by decide) rfl (Or.inr ⟨rfl, rfl, rfl, gw_at 199 (by decide +kernel) (by decide +kernel)⟩) ?_
  exact s_vret dX1_init_36 rfl h
def sI_27 (st : St) : St := (putR (zeroAt (putR (zeroAt st 28) 27 1 (some 28)) 29) 27 3 (some 29))
set_option maxRecDepth 20000 in
theorem ci_27 {g : Gt} {d : Nat} {st : St} {Q : Option Value → St → Prop} (h : Q none (sI_27 st)) : Rn g (d + 1) 28 30 mX0_init 0 [some (.ref 27)] [] st Q := by
  refine s_aload_n dX0_init_0 rfl rfl ?_
  refine s_oinit dX0_init_1 oi_X0_3 oi_i oi_c (o := 27) rfl (by decide) (Nat.le_of_ble_eq_true rfl) (by omega) ?_
  show Rn g (d + 1) 28 30 mX0_init 4 [some (.ref 27)] [] st Q
  refine s_aload_n dX0_init_4 rfl rfl ?_
  refine s_bipush (v := 50) dX0_init_5 (by decide) ?_
  refine s_newa (c0 := 0) (n := 50) dX0_init_7 rfl (by decide) rfl arc_int (by decide) rfl (by decide) (by decide) ?_
  show Rn g (d + 1) 29 30 mX0_init 9 [some (.ref 27)] [.ref 28, .ref 27] (zeroAt st 28) Q
  refine s_putR dX0_init_9 fl_X0_11 (o := 27) rfl (by decide) rfl (Or.inr ⟨rfl, rfl, rfl, gw_at 222 (by decide +kernel) (by decide +kernel)⟩) ?_
  refine s_aload_n dX0_init_12 rfl rfl ?_
  refine s_bipush (v := 24) dX0_init_13 (by decide) ?_
  refine s_newa (c0 := 0) (n := 24) dX0_init_15 rfl (by decide) rfl arc_int (by decide) rfl (by decide) (by decide) ?_
  show Rn g (d + 1) 30 30 mX0_init 17 [some (.ref 27)] [.ref 29, .ref 27] (zeroAt (putR (zeroAt st 28) 27 1 (some 28)) 29) Q
  refine s_putR dX0_init_17 fl_X0_15 (o := 27) rfl (by decide) rfl (Or.inr ⟨rfl, rfl, rfl, gw_at 226 (by decide +kernel) (by decide +kernel)⟩) ?_
  exact s_vret dX0_init_20 rfl h
def sI_35 (st : St) : St := (putR (zeroAt (putR (zeroAt (putR (zeroAt (putR (zeroAt st 36) 35 0 (some 36)) 37) 35 1 (some 37)) 38) 35 2 (some 38)) 39) 35 3 (some 39))
set_option maxRecDepth 20000 in
theorem ci_35 {g : Gt} {d : Nat} {st : St} {Q : Option Value → St → Prop} (h : Q none (sI_35 st)) : Rn g (d + 1) 36 40 mX3_init 0 [some (.ref 35)] [] st Q := by
  refine s_aload_n dX3_init_0 rfl rfl ?_
  refine s_oinit dX3_init_1 oi_X3_3 oi_i oi_c (o := 35) rfl (by decide) (Nat.le_of_ble_eq_true rfl) (by omega) ?_
  show Rn g (d + 1) 36 40 mX3_init 4 [some (.ref 35)] [] st Q
  refine s_aload_n dX3_init_4 rfl rfl ?_
  refine s_sipush (v := 128) dX3_init_5 (by decide) ?_
  refine s_newa (c0 := 0) (n := 128) dX3_init_8 rfl (by decide) rfl arc_int (by decide) rfl (by decide) (by decide) ?_
  show Rn g (d + 1) 37 40 mX3_init 10 [some (.ref 35)] [.ref 36, .ref 35] (zeroAt st 36) Q
  refine s_putR dX3_init_10 fl_X3_11 (o := 35) rfl (by decide) rfl (Or.inr ⟨rfl, rfl, rfl, gw_at 251 (by decide +kernel) (by decide +kernel)⟩) ?_
  refine s_aload_n dX3_init_13 rfl rfl ?_
  refine s_sipush (v := 128) dX3_init_14 (by decide) ?_
  refine s_newa (c0 := 0) (n := 128) dX3_init_17 rfl (by decide) rfl arc_int (by decide) rfl (by decide) (by decide) ?_
  show Rn g (d + 1) 38 40 mX3_init 19 [some (.ref 35)] [.ref 37, .ref 35] (zeroAt (putR (zeroAt st 36) 35 0 (some 36)) 37) Q
  refine s_putR dX3_init_19 fl_X3_15 (o := 35) rfl (by decide) rfl (Or.inr ⟨rfl, rfl, rfl, gw_at 252 (by decide +kernel) (by decide +kernel)⟩) ?_
  refine s_aload_n dX3_init_22 rfl rfl ?_
  refine s_sipush (v := 128) dX3_init_23 (by decide) ?_
  refine s_newa (c0 := 0) (n := 128) dX3_init_26 rfl (by decide) rfl arc_int (by decide) rfl (by decide) (by decide) ?_
  show Rn g (d + 1) 39 40 mX3_init 28 [some (.ref 35)] [.ref 38, .ref 35] (zeroAt (putR (zeroAt (putR (zeroAt st 36) 35 0 (some 36)) 37) 35 1 (some 37)) 38) Q
  refine s_putR dX3_init_28 fl_X3_18 (o := 35) rfl (by decide) rfl (Or.inr ⟨rfl, rfl, rfl, gw_at 253 (by decide +kernel) (by decide +kernel)⟩) ?_
  refine s_aload_n dX3_init_31 rfl rfl ?_
  refine s_bipush (v := 6) dX3_init_32 (by decide) ?_
  refine s_newa (c0 := 0) (n := 6) dX3_init_34 rfl (by decide) rfl arc_int (by decide) rfl (by decide) (by decide) ?_
  show Rn g (d + 1) 40 40 mX3_init 36 [some (.ref 35)] [.ref 39, .ref 35] (zeroAt (putR (zeroAt (putR (zeroAt (putR (zeroAt st 36) 35 0 (some 36)) 37) 35 1 (some 37)) 38) 35 2 (some 38)) 39) Q
  refine s_putR dX3_init_36 fl_X3_21 (o := 35) rfl (by decide) rfl (Or.inr ⟨rfl, rfl, rfl, gw_at 254 (by decide +kernel) (by decide +kernel)⟩) ?_
  exact s_vret dX3_init_39 rfl h
def sI_33 (st : St) : St := (putR (sI_35 (zeroAt (putR (zeroAt st 34) 33 0 (some 34)) 35)) 33 2 (some 35))
set_option maxRecDepth 20000 in
theorem ci_33 {g : Gt} {d : Nat} {st : St} {Q : Option Value → St → Prop} (h : Q none (sI_33 st)) : Rn g (d + 2) 34 40 mX4_init 0 [some (.ref 33)] [] st Q := by
  refine s_aload_n dX4_init_0 rfl rfl ?_
  refine s_oinit dX4_init_1 oi_X4_3 oi_i oi_c (o := 33) rfl (by decide) (Nat.le_of_ble_eq_true rfl) (by omega) ?_
  show Rn g (d + 2) 34 40 mX4_init 4 [some (.ref 33)] [] st Q
  refine s_aload_n dX4_init_4 rfl rfl ?_
  refine s_bipush (v := 120) dX4_init_5 (by decide) ?_
  refine s_newa (c0 := 0) (n := 120) dX4_init_7 rfl (by decide) rfl arc_int (by decide) rfl (by decide) (by decide) ?_
  show Rn g (d + 2) 35 40 mX4_init 9 [some (.ref 33)] [.ref 34, .ref 33] (zeroAt st 34) Q
  refine s_putR dX4_init_9 fl_X4_9 (o := 33) rfl (by decide) rfl (Or.inr ⟨rfl, rfl, rfl, gw_at 271 (by decide +kernel) (by decide +kernel)⟩) ?_
  refine s_aload_n dX4_init_12 rfl rfl ?_
  refine s_new (ci := 3) (n := 6) dX4_init_13 rfl ck_X4_15 nst_3 ini_RX3 (by decide) ?_
  show Rn g (d + 2) 36 40 mX4_init 16 [some (.ref 33)] [.ref 35, .ref 33] (zeroAt (putR (zeroAt st 34) 33 0 (some 34)) 35) Q
  refine s_dup dX4_init_16 rfl ?_
  refine s_callI (M' := mX3_init) (k := 0) (z1 := 40) (As := []) (rest := [.ref 35, .ref 33]) dX4_init_17 ml_X4_17 miX3_init rfl rfl (o := 35) rfl (by decide) rfl (Nat.le_of_ble_eq_true rfl) (by decide) (by decide) (Nat.le_of_ble_eq_true rfl) (ci_35 (d := d) ?_)
  show Rn g (d + 2) 40 40 mX4_init 20 [some (.ref 33)] [.ref 35, .ref 33] (sI_35 (zeroAt (putR (zeroAt st 34) 33 0 (some 34)) 35)) Q
  refine s_putR dX4_init_20 fl_X4_18 (o := 33) rfl (by decide) rfl (Or.inl rfl) ?_
  exact s_vret dX4_init_23 rfl h
def sI_40 (st : St) : St := (putR (zeroAt (putR (zeroAt (putR (zeroAt (putR (zeroAt st 41) 40 0 (some 41)) 42) 40 1 (some 42)) 43) 40 2 (some 43)) 44) 40 3 (some 44))
set_option maxRecDepth 20000 in
theorem ci_40 {g : Gt} {d : Nat} {st : St} {Q : Option Value → St → Prop} (h : Q none (sI_40 st)) : Rn g (d + 1) 41 45 mX3_init 0 [some (.ref 40)] [] st Q := by
  refine s_aload_n dX3_init_0 rfl rfl ?_
  refine s_oinit dX3_init_1 oi_X3_3 oi_i oi_c (o := 40) rfl (by decide) (Nat.le_of_ble_eq_true rfl) (by omega) ?_
  show Rn g (d + 1) 41 45 mX3_init 4 [some (.ref 40)] [] st Q
  refine s_aload_n dX3_init_4 rfl rfl ?_
  refine s_sipush (v := 128) dX3_init_5 (by decide) ?_
  refine s_newa (c0 := 0) (n := 128) dX3_init_8 rfl (by decide) rfl arc_int (by decide) rfl (by decide) (by decide) ?_
  show Rn g (d + 1) 42 45 mX3_init 10 [some (.ref 40)] [.ref 41, .ref 40] (zeroAt st 41) Q
  refine s_putR dX3_init_10 fl_X3_11 (o := 40) rfl (by decide) rfl (Or.inr ⟨rfl, rfl, rfl, gw_at 251 (by decide +kernel) (by decide +kernel)⟩) ?_
  refine s_aload_n dX3_init_13 rfl rfl ?_
  refine s_sipush (v := 128) dX3_init_14 (by decide) ?_
  refine s_newa (c0 := 0) (n := 128) dX3_init_17 rfl (by decide) rfl arc_int (by decide) rfl (by decide) (by decide) ?_
  show Rn g (d + 1) 43 45 mX3_init 19 [some (.ref 40)] [.ref 42, .ref 40] (zeroAt (putR (zeroAt st 41) 40 0 (some 41)) 42) Q
  refine s_putR dX3_init_19 fl_X3_15 (o := 40) rfl (by decide) rfl (Or.inr ⟨rfl, rfl, rfl, gw_at 252 (by decide +kernel) (by decide +kernel)⟩) ?_
  refine s_aload_n dX3_init_22 rfl rfl ?_
  refine s_sipush (v := 128) dX3_init_23 (by decide) ?_
  refine s_newa (c0 := 0) (n := 128) dX3_init_26 rfl (by decide) rfl arc_int (by decide) rfl (by decide) (by decide) ?_
  show Rn g (d + 1) 44 45 mX3_init 28 [some (.ref 40)] [.ref 43, .ref 40] (zeroAt (putR (zeroAt (putR (zeroAt st 41) 40 0 (some 41)) 42) 40 1 (some 42)) 43) Q
  refine s_putR dX3_init_28 fl_X3_18 (o := 40) rfl (by decide) rfl (Or.inr ⟨rfl, rfl, rfl, gw_at 253 (by decide +kernel) (by decide +kernel)⟩) ?_
  refine s_aload_n dX3_init_31 rfl rfl ?_
  refine s_bipush (v := 6) dX3_init_32 (by decide) ?_
  refine s_newa (c0 := 0) (n := 6) dX3_init_34 rfl (by decide) rfl arc_int (by decide) rfl (by decide) (by decide) ?_
  show Rn g (d + 1) 45 45 mX3_init 36 [some (.ref 40)] [.ref 44, .ref 40] (zeroAt (putR (zeroAt (putR (zeroAt (putR (zeroAt st 41) 40 0 (some 41)) 42) 40 1 (some 42)) 43) 40 2 (some 43)) 44) Q
  refine s_putR dX3_init_36 fl_X3_21 (o := 40) rfl (by decide) rfl (Or.inr ⟨rfl, rfl, rfl, gw_at 254 (by decide +kernel) (by decide +kernel)⟩) ?_
  exact s_vret dX3_init_39 rfl h
def sI_45 (st : St) : St := (putR (zeroAt (putI st 45 0 (-2)) 46) 45 3 (some 46))
set_option maxRecDepth 20000 in
theorem ci_45 {g : Gt} {d : Nat} {st : St} {Q : Option Value → St → Prop} (h : Q none (sI_45 st)) : Rn g (d + 1) 46 47 mX6_init 0 [some (.ref 45)] [] st Q := by
  refine s_aload_n dX6_init_0 rfl rfl ?_
  refine s_oinit dX6_init_1 oi_X6_1 oi_i oi_c (o := 45) rfl (by decide) (Nat.le_of_ble_eq_true rfl) (by omega) ?_
  show Rn g (d + 1) 46 47 mX6_init 4 [some (.ref 45)] [] st Q
  refine s_aload_n dX6_init_4 rfl rfl ?_
  refine s_bipush (v := (-2)) dX6_init_5 (by decide) ?_
  refine s_putI dX6_init_7 fl_X6_9 (o := 45) rfl (by decide) rfl rfl rfl rfl ?_
  refine s_aload_n dX6_init_10 rfl rfl ?_
  refine s_bipush (v := 60) dX6_init_11 (by decide) ?_
  refine s_newl (n := 60) dX6_init_13 rfl arc_long (by decide) rfl (by decide) (by decide) ?_
  show Rn g (d + 1) 47 47 mX6_init 15 [some (.ref 45)] [.ref 46, .ref 45] (zeroAt (putI st 45 0 (-2)) 46) Q
  refine s_putR dX6_init_15 fl_X6_13 (o := 45) rfl (by decide) rfl (Or.inr ⟨rfl, rfl, rfl, gw_at 298 (by decide +kernel) (by decide +kernel)⟩) ?_
  exact s_vret dX6_init_18 rfl h
def sI_47 (st : St) : St := (putR (zeroAt (putI st 47 0 (-2)) 48) 47 3 (some 48))
set_option maxRecDepth 20000 in
theorem ci_47 {g : Gt} {d : Nat} {st : St} {Q : Option Value → St → Prop} (h : Q none (sI_47 st)) : Rn g (d + 1) 48 49 mX6_init 0 [some (.ref 47)] [] st Q := by
  refine s_aload_n dX6_init_0 rfl rfl ?_
  refine s_oinit dX6_init_1 oi_X6_1 oi_i oi_c (o := 47) rfl (by decide) (Nat.le_of_ble_eq_true rfl) (by omega) ?_
  show Rn g (d + 1) 48 49 mX6_init 4 [some (.ref 47)] [] st Q
  refine s_aload_n dX6_init_4 rfl rfl ?_
  refine s_bipush (v := (-2)) dX6_init_5 (by decide) ?_
  refine s_putI dX6_init_7 fl_X6_9 (o := 47) rfl (by decide) rfl rfl rfl rfl ?_
  refine s_aload_n dX6_init_10 rfl rfl ?_
  refine s_bipush (v := 60) dX6_init_11 (by decide) ?_
  refine s_newl (n := 60) dX6_init_13 rfl arc_long (by decide) rfl (by decide) (by decide) ?_
  show Rn g (d + 1) 49 49 mX6_init 15 [some (.ref 47)] [.ref 48, .ref 47] (zeroAt (putI st 47 0 (-2)) 48) Q
  refine s_putR dX6_init_15 fl_X6_13 (o := 47) rfl (by decide) rfl (Or.inr ⟨rfl, rfl, rfl, gw_at 298 (by decide +kernel) (by decide +kernel)⟩) ?_
  exact s_vret dX6_init_18 rfl h
def sI_49 (st : St) : St := (putR (zeroAt (putI st 49 0 (-2)) 50) 49 3 (some 50))
set_option maxRecDepth 20000 in
theorem ci_49 {g : Gt} {d : Nat} {st : St} {Q : Option Value → St → Prop} (h : Q none (sI_49 st)) : Rn g (d + 1) 50 51 mX6_init 0 [some (.ref 49)] [] st Q := by
  refine s_aload_n dX6_init_0 rfl rfl ?_
  refine s_oinit dX6_init_1 oi_X6_1 oi_i oi_c (o := 49) rfl (by decide) (Nat.le_of_ble_eq_true rfl) (by omega) ?_
  show Rn g (d + 1) 50 51 mX6_init 4 [some (.ref 49)] [] st Q
  refine s_aload_n dX6_init_4 rfl rfl ?_
  refine s_bipush (v := (-2)) dX6_init_5 (by decide) ?_
  refine s_putI dX6_init_7 fl_X6_9 (o := 49) rfl (by decide) rfl rfl rfl rfl ?_
  refine s_aload_n dX6_init_10 rfl rfl ?_
  refine s_bipush (v := 60) dX6_init_11 (by decide) ?_
  refine s_newl (n := 60) dX6_init_13 rfl arc_long (by decide) rfl (by decide) (by decide) ?_
  show Rn g (d + 1) 51 51 mX6_init 15 [some (.ref 49)] [.ref 50, .ref 49] (zeroAt (putI st 49 0 (-2)) 50) Q
  refine s_putR dX6_init_15 fl_X6_13 (o := 49) rfl (by decide) rfl (Or.inr ⟨rfl, rfl, rfl, gw_at 298 (by decide +kernel) (by decide +kernel)⟩) ?_
  exact s_vret dX6_init_18 rfl h
def sI_51 (st : St) : St := (putR (zeroAt (putI st 51 0 (-2)) 52) 51 3 (some 52))
set_option maxRecDepth 20000 in
theorem ci_51 {g : Gt} {d : Nat} {st : St} {Q : Option Value → St → Prop} (h : Q none (sI_51 st)) : Rn g (d + 1) 52 53 mX6_init 0 [some (.ref 51)] [] st Q := by
  refine s_aload_n dX6_init_0 rfl rfl ?_
  refine s_oinit dX6_init_1 oi_X6_1 oi_i oi_c (o := 51) rfl (by decide) (Nat.le_of_ble_eq_true rfl) (by omega) ?_
  show Rn g (d + 1) 52 53 mX6_init 4 [some (.ref 51)] [] st Q
  refine s_aload_n dX6_init_4 rfl rfl ?_
  refine s_bipush (v := (-2)) dX6_init_5 (by decide) ?_
  refine s_putI dX6_init_7 fl_X6_9 (o := 51) rfl (by decide) rfl rfl rfl rfl ?_
  refine s_aload_n dX6_init_10 rfl rfl ?_
  refine s_bipush (v := 60) dX6_init_11 (by decide) ?_
  refine s_newl (n := 60) dX6_init_13 rfl arc_long (by decide) rfl (by decide) (by decide) ?_
  show Rn g (d + 1) 53 53 mX6_init 15 [some (.ref 51)] [.ref 52, .ref 51] (zeroAt (putI st 51 0 (-2)) 52) Q
  refine s_putR dX6_init_15 fl_X6_13 (o := 51) rfl (by decide) rfl (Or.inr ⟨rfl, rfl, rfl, gw_at 298 (by decide +kernel) (by decide +kernel)⟩) ?_
  exact s_vret dX6_init_18 rfl h
def sI_53 (st : St) : St := (putR (zeroAt (putI st 53 0 (-2)) 54) 53 3 (some 54))
set_option maxRecDepth 20000 in
theorem ci_53 {g : Gt} {d : Nat} {st : St} {Q : Option Value → St → Prop} (h : Q none (sI_53 st)) : Rn g (d + 1) 54 55 mX6_init 0 [some (.ref 53)] [] st Q := by
  refine s_aload_n dX6_init_0 rfl rfl ?_
  refine s_oinit dX6_init_1 oi_X6_1 oi_i oi_c (o := 53) rfl (by decide) (Nat.le_of_ble_eq_true rfl) (by omega) ?_
  show Rn g (d + 1) 54 55 mX6_init 4 [some (.ref 53)] [] st Q
  refine s_aload_n dX6_init_4 rfl rfl ?_
  refine s_bipush (v := (-2)) dX6_init_5 (by decide) ?_
  refine s_putI dX6_init_7 fl_X6_9 (o := 53) rfl (by decide) rfl rfl rfl rfl ?_
  refine s_aload_n dX6_init_10 rfl rfl ?_
  refine s_bipush (v := 60) dX6_init_11 (by decide) ?_
  refine s_newl (n := 60) dX6_init_13 rfl arc_long (by decide) rfl (by decide) (by decide) ?_
  show Rn g (d + 1) 55 55 mX6_init 15 [some (.ref 53)] [.ref 54, .ref 53] (zeroAt (putI st 53 0 (-2)) 54) Q
  refine s_putR dX6_init_15 fl_X6_13 (o := 53) rfl (by decide) rfl (Or.inr ⟨rfl, rfl, rfl, gw_at 298 (by decide +kernel) (by decide +kernel)⟩) ?_
  exact s_vret dX6_init_18 rfl h
def sI_55 (st : St) : St := (putR (zeroAt (putI st 55 0 (-2)) 56) 55 3 (some 56))
set_option maxRecDepth 20000 in
theorem ci_55 {g : Gt} {d : Nat} {st : St} {Q : Option Value → St → Prop} (h : Q none (sI_55 st)) : Rn g (d + 1) 56 57 mX6_init 0 [some (.ref 55)] [] st Q := by
  refine s_aload_n dX6_init_0 rfl rfl ?_
  refine s_oinit dX6_init_1 oi_X6_1 oi_i oi_c (o := 55) rfl (by decide) (Nat.le_of_ble_eq_true rfl) (by omega) ?_
  show Rn g (d + 1) 56 57 mX6_init 4 [some (.ref 55)] [] st Q
  refine s_aload_n dX6_init_4 rfl rfl ?_
  refine s_bipush (v := (-2)) dX6_init_5 (by decide) ?_
  refine s_putI dX6_init_7 fl_X6_9 (o := 55) rfl (by decide) rfl rfl rfl rfl ?_
  refine s_aload_n dX6_init_10 rfl rfl ?_
  refine s_bipush (v := 60) dX6_init_11 (by decide) ?_
  refine s_newl (n := 60) dX6_init_13 rfl arc_long (by decide) rfl (by decide) (by decide) ?_
  show Rn g (d + 1) 57 57 mX6_init 15 [some (.ref 55)] [.ref 56, .ref 55] (zeroAt (putI st 55 0 (-2)) 56) Q
  refine s_putR dX6_init_15 fl_X6_13 (o := 55) rfl (by decide) rfl (Or.inr ⟨rfl, rfl, rfl, gw_at 298 (by decide +kernel) (by decide +kernel)⟩) ?_
  exact s_vret dX6_init_18 rfl h
def sI_0 (st : St) : St := (putR (sI_55 (zeroAt (putR (sI_53 (zeroAt (putR (sI_51 (zeroAt (putR (sI_49 (zeroAt (putR (sI_47 (zeroAt (putR (sI_45 (zeroAt (putR (sI_40 (zeroAt (putR (sI_33 (zeroAt (putR (zeroAt (putR (zeroAt (putR (zeroAt (putR (sI_27 (zeroAt (putR (sI_22 (zeroAt (putR (sI_13 (zeroAt (putR (sI_9 (zeroAt (putR (sI_5 (zeroAt (putR (sI_1 (zeroAt st 1)) 0 0 (some 1)) 5)) 0 1 (some 5)) 9)) 0 2 (some 9)) 13)) 0 3 (some 13)) 22)) 0 4 (some 22)) 27)) 0 5 (some 27)) 30) 0 6 (some 30)) 31) 0 7 (some 31)) 32) 0 8 (some 32)) 33)) 0 9 (some 33)) 40)) 0 10 (some 40)) 45)) 30 0 (some 45)) 47)) 30 1 (some 47)) 49)) 30 2 (some 49)) 51)) 30 3 (some 51)) 53)) 30 4 (some 53)) 55)) 30 5 (some 55))
set_option maxRecDepth 20000 in
theorem ci_0 {g : Gt} {d : Nat} {st : St} {Q : Option Value → St → Prop} (h : Q none (sI_0 st)) : Rn g (d + 3) 1 57 mX7_init 0 [some (.ref 0), none] [] st Q := by
  refine s_aload_n dX7_init_0 rfl rfl ?_
  refine s_oinit dX7_init_1 oi_X7_1 oi_i oi_c (o := 0) rfl (by decide) (Nat.le_of_ble_eq_true rfl) (by omega) ?_
  show Rn g (d + 3) 1 57 mX7_init 4 [some (.ref 0), none] [] st Q
  refine s_aload_n dX7_init_4 rfl rfl ?_
  refine s_new (ci := 5) (n := 5) dX7_init_5 rfl ck_X7_7 nst_5 ini_RX5 (by decide) ?_
  show Rn g (d + 3) 2 57 mX7_init 8 [some (.ref 0), none] [.ref 1, .ref 0] (zeroAt st 1) Q
  refine s_dup dX7_init_8 rfl ?_
  refine s_callI (M' := mX5_init) (k := 0) (z1 := 5) (As := []) (rest := [.ref 1, .ref 0]) dX7_init_9 ml_X7_9 miX5_init rfl rfl (o := 1) rfl (by decide) rfl (Nat.le_of_ble_eq_true rfl) (by decide) (by decide) (Nat.le_of_ble_eq_true rfl) (ci_1 (d := d + 1) ?_)
  show Rn g (d + 3) 5 57 mX7_init 12 [some (.ref 0), none] [.ref 1, .ref 0] (sI_1 (zeroAt st 1)) Q
  refine s_putR dX7_init_12 fl_X7_10 (o := 0) rfl (by decide) rfl (Or.inr ⟨rfl, rfl, rfl, gw_at 312 (by decide +kernel) (by decide +kernel)⟩) ?_
  refine s_aload_n dX7_init_15 rfl rfl ?_
  refine s_new (ci := 5) (n := 5) dX7_init_16 rfl ck_X7_7 nst_5 ini_RX5 (by decide) ?_
  show Rn g (d + 3) 6 57 mX7_init 19 [some (.ref 0), none] [.ref 5, .ref 0] (zeroAt (putR (sI_1 (zeroAt st 1)) 0 0 (some 1)) 5) Q
  refine s_dup dX7_init_19 rfl ?_
  refine s_callI (M' := mX5_init) (k := 0) (z1 := 9) (As := []) (rest := [.ref 5, .ref 0]) dX7_init_20 ml_X7_9 miX5_init rfl rfl (o := 5) rfl (by decide) rfl (Nat.le_of_ble_eq_true rfl) (by decide) (by decide) (Nat.le_of_ble_eq_true rfl) (ci_5 (d := d + 1) ?_)
  show Rn g (d + 3) 9 57 mX7_init 23 [some (.ref 0), none] [.ref 5, .ref 0] (sI_5 (zeroAt (putR (sI_1 (zeroAt st 1)) 0 0 (some 1)) 5)) Q
  refine s_putR dX7_init_23 fl_X7_16 (o := 0) rfl (by decide) rfl (Or.inr ⟨rfl, rfl, rfl, gw_at 313 (by decide +kernel) (by decide +kernel)⟩) ?_
  refine s_aload_n dX7_init_26 rfl rfl ?_
  refine s_new (ci := 5) (n := 5) dX7_init_27 rfl ck_X7_7 nst_5 ini_RX5 (by decide) ?_
  show Rn g (d + 3) 10 57 mX7_init 30 [some (.ref 0), none] [.ref 9, .ref 0] (zeroAt (putR (sI_5 (zeroAt (putR (sI_1 (zeroAt st 1)) 0 0 (some 1)) 5)) 0 1 (some 5)) 9) Q
  refine s_dup dX7_init_30 rfl ?_
  refine s_callI (M' := mX5_init) (k := 0) (z1 := 13) (As := []) (rest := [.ref 9, .ref 0]) dX7_init_31 ml_X7_9 miX5_init rfl rfl (o := 9) rfl (by decide) rfl (Nat.le_of_ble_eq_true rfl) (by decide) (by decide) (Nat.le_of_ble_eq_true rfl) (ci_9 (d := d + 1) ?_)
  show Rn g (d + 3) 13 57 mX7_init 34 [some (.ref 0), none] [.ref 9, .ref 0] (sI_9 (zeroAt (putR (sI_5 (zeroAt (putR (sI_1 (zeroAt st 1)) 0 0 (some 1)) 5)) 0 1 (some 5)) 9)) Q
  refine s_putR dX7_init_34 fl_X7_19 (o := 0) rfl (by decide) rfl (Or.inr ⟨rfl, rfl, rfl, gw_at 314 (by decide +kernel) (by decide +kernel)⟩) ?_
  refine s_aload_n dX7_init_37 rfl rfl ?_
  refine s_new (ci := 2) (n := 9) dX7_init_38 rfl ck_X7_22 nst_2 ini_RX2 (by decide) ?_
  show Rn g (d + 3) 14 57 mX7_init 41 [some (.ref 0), none] [.ref 13, .ref 0] (zeroAt (putR (sI_9 (zeroAt (putR (sI_5 (zeroAt (putR (sI_1 (zeroAt st 1)) 0 0 (some 1)) 5)) 0 1 (some 5)) 9)) 0 2 (some 9)) 13) Q
  refine s_dup dX7_init_41 rfl ?_
  refine s_callI (M' := mX2_init) (k := 0) (z1 := 22) (As := []) (rest := [.ref 13, .ref 0]) dX7_init_42 ml_X7_24 miX2_init rfl rfl (o := 13) rfl (by decide) rfl (Nat.le_of_ble_eq_true rfl) (by decide) (by decide) (Nat.le_of_ble_eq_true rfl) (ci_13 (d := d) ?_)
  show Rn g (d + 3) 22 57 mX7_init 45 [some (.ref 0), none] [.ref 13, .ref 0] (sI_13 (zeroAt (putR (sI_9 (zeroAt (putR (sI_5 (zeroAt (putR (sI_1 (zeroAt st 1)) 0 0 (some 1)) 5)) 0 1 (some 5)) 9)) 0 2 (some 9)) 13)) Q
  refine s_putR dX7_init_45 fl_X7_25 (o := 0) rfl (by decide) rfl (Or.inr ⟨rfl, rfl, rfl, gw_at 315 (by decide +kernel) (by decide +kernel)⟩) ?_
  refine s_aload_n dX7_init_48 rfl rfl ?_
  refine s_new (ci := 1) (n := 6) dX7_init_49 rfl ck_X7_29 nst_1 ini_RX1 (by decide) ?_
  show Rn g (d + 3) 23 57 mX7_init 52 [some (.ref 0), none] [.ref 22, .ref 0] (zeroAt (putR (sI_13 (zeroAt (putR (sI_9 (zeroAt (putR (sI_5 (zeroAt (putR (sI_1 (zeroAt st 1)) 0 0 (some 1)) 5)) 0 1 (some 5)) 9)) 0 2 (some 9)) 13)) 0 3 (some 13)) 22) Q
  refine s_dup dX7_init_52 rfl ?_
  refine s_callI (M' := mX1_init) (k := 0) (z1 := 27) (As := []) (rest := [.ref 22, .ref 0]) dX7_init_53 ml_X7_31 miX1_init rfl rfl (o := 22) rfl (by decide) rfl (Nat.le_of_ble_eq_true rfl) (by decide) (by decide) (Nat.le_of_ble_eq_true rfl) (ci_22 (d := d + 1) ?_)
  show Rn g (d + 3) 27 57 mX7_init 56 [some (.ref 0), none] [.ref 22, .ref 0] (sI_22 (zeroAt (putR (sI_13 (zeroAt (putR (sI_9 (zeroAt (putR (sI_5 (zeroAt (putR (sI_1 (zeroAt st 1)) 0 0 (some 1)) 5)) 0 1 (some 5)) 9)) 0 2 (some 9)) 13)) 0 3 (some 13)) 22)) Q
  refine s_putR dX7_init_56 fl_X7_32 (o := 0) rfl (by decide) rfl (Or.inr ⟨rfl, rfl, rfl, gw_at 316 (by decide +kernel) (by decide +kernel)⟩) ?_
  refine s_aload_n dX7_init_59 rfl rfl ?_
  refine s_new (ci := 0) (n := 4) dX7_init_60 rfl ck_X7_36 nst_0 ini_RX0 (by decide) ?_
  show Rn g (d + 3) 28 57 mX7_init 63 [some (.ref 0), none] [.ref 27, .ref 0] (zeroAt (putR (sI_22 (zeroAt (putR (sI_13 (zeroAt (putR (sI_9 (zeroAt (putR (sI_5 (zeroAt (putR (sI_1 (zeroAt st 1)) 0 0 (some 1)) 5)) 0 1 (some 5)) 9)) 0 2 (some 9)) 13)) 0 3 (some 13)) 22)) 0 4 (some 22)) 27) Q
  refine s_dup dX7_init_63 rfl ?_
  refine s_callI (M' := mX0_init) (k := 0) (z1 := 30) (As := []) (rest := [.ref 27, .ref 0]) dX7_init_64 ml_X7_38 miX0_init rfl rfl (o := 27) rfl (by decide) rfl (Nat.le_of_ble_eq_true rfl) (by decide) (by decide) (Nat.le_of_ble_eq_true rfl) (ci_27 (d := d + 1) ?_)
  show Rn g (d + 3) 30 57 mX7_init 67 [some (.ref 0), none] [.ref 27, .ref 0] (sI_27 (zeroAt (putR (sI_22 (zeroAt (putR (sI_13 (zeroAt (putR (sI_9 (zeroAt (putR (sI_5 (zeroAt (putR (sI_1 (zeroAt st 1)) 0 0 (some 1)) 5)) 0 1 (some 5)) 9)) 0 2 (some 9)) 13)) 0 3 (some 13)) 22)) 0 4 (some 22)) 27)) Q
  refine s_putR dX7_init_67 fl_X7_39 (o := 0) rfl (by decide) rfl (Or.inr ⟨rfl, rfl, rfl, gw_at 317 (by decide +kernel) (by decide +kernel)⟩) ?_
  refine s_aload_n dX7_init_70 rfl rfl ?_
  refine s_bipush (v := 6) dX7_init_71 (by decide) ?_
  refine s_newq (n := 6) dX7_init_73 rfl ck_X7_43 (by decide) rfl (by decide) (by decide) ?_
  show Rn g (d + 3) 31 57 mX7_init 76 [some (.ref 0), none] [.ref 30, .ref 0] (zeroAt (putR (sI_27 (zeroAt (putR (sI_22 (zeroAt (putR (sI_13 (zeroAt (putR (sI_9 (zeroAt (putR (sI_5 (zeroAt (putR (sI_1 (zeroAt st 1)) 0 0 (some 1)) 5)) 0 1 (some 5)) 9)) 0 2 (some 9)) 13)) 0 3 (some 13)) 22)) 0 4 (some 22)) 27)) 0 5 (some 27)) 30) Q
  refine s_putR dX7_init_76 fl_X7_45 (o := 0) rfl (by decide) rfl (Or.inr ⟨rfl, rfl, rfl, gw_at 318 (by decide +kernel) (by decide +kernel)⟩) ?_
  refine s_aload_n dX7_init_79 rfl rfl ?_
  refine s_bipush (v := 6) dX7_init_80 (by decide) ?_
  refine s_newa (c0 := 0) (n := 6) dX7_init_82 rfl (by decide) rfl arc_int (by decide) rfl (by decide) (by decide) ?_
  show Rn g (d + 3) 32 57 mX7_init 84 [some (.ref 0), none] [.ref 31, .ref 0] (zeroAt (putR (zeroAt (putR (sI_27 (zeroAt (putR (sI_22 (zeroAt (putR (sI_13 (zeroAt (putR (sI_9 (zeroAt (putR (sI_5 (zeroAt (putR (sI_1 (zeroAt st 1)) 0 0 (some 1)) 5)) 0 1 (some 5)) 9)) 0 2 (some 9)) 13)) 0 3 (some 13)) 22)) 0 4 (some 22)) 27)) 0 5 (some 27)) 30) 0 6 (some 30)) 31) Q
  refine s_putR dX7_init_84 fl_X7_49 (o := 0) rfl (by decide) rfl (Or.inr ⟨rfl, rfl, rfl, gw_at 319 (by decide +kernel) (by decide +kernel)⟩) ?_
  refine s_aload_n dX7_init_87 rfl rfl ?_
  refine s_bipush (v := 6) dX7_init_88 (by decide) ?_
  refine s_newa (c0 := 0) (n := 6) dX7_init_90 rfl (by decide) rfl arc_int (by decide) rfl (by decide) (by decide) ?_
  show Rn g (d + 3) 33 57 mX7_init 92 [some (.ref 0), none] [.ref 32, .ref 0] (zeroAt (putR (zeroAt (putR (zeroAt (putR (sI_27 (zeroAt (putR (sI_22 (zeroAt (putR (sI_13 (zeroAt (putR (sI_9 (zeroAt (putR (sI_5 (zeroAt (putR (sI_1 (zeroAt st 1)) 0 0 (some 1)) 5)) 0 1 (some 5)) 9)) 0 2 (some 9)) 13)) 0 3 (some 13)) 22)) 0 4 (some 22)) 27)) 0 5 (some 27)) 30) 0 6 (some 30)) 31) 0 7 (some 31)) 32) Q
  refine s_putR dX7_init_92 fl_X7_53 (o := 0) rfl (by decide) rfl (Or.inr ⟨rfl, rfl, rfl, gw_at 320 (by decide +kernel) (by decide +kernel)⟩) ?_
  refine s_aload_n dX7_init_95 rfl rfl ?_
  refine s_new (ci := 4) (n := 4) dX7_init_96 rfl ck_X7_56 nst_4 ini_RX4 (by decide) ?_
  show Rn g (d + 3) 34 57 mX7_init 99 [some (.ref 0), none] [.ref 33, .ref 0] (zeroAt (putR (zeroAt (putR (zeroAt (putR (zeroAt (putR (sI_27 (zeroAt (putR (sI_22 (zeroAt (putR (sI_13 (zeroAt (putR (sI_9 (zeroAt (putR (sI_5 (zeroAt (putR (sI_1 (zeroAt st 1)) 0 0 (some 1)) 5)) 0 1 (some 5)) 9)) 0 2 (some 9)) 13)) 0 3 (some 13)) 22)) 0 4 (some 22)) 27)) 0 5 (some 27)) 30) 0 6 (some 30)) 31) 0 7 (some 31)) 32) 0 8 (some 32)) 33) Q
  refine s_dup dX7_init_99 rfl ?_
  refine s_callI (M' := mX4_init) (k := 0) (z1 := 40) (As := []) (rest := [.ref 33, .ref 0]) dX7_init_100 ml_X7_58 miX4_init rfl rfl (o := 33) rfl (by decide) rfl (Nat.le_of_ble_eq_true rfl) (by decide) (by decide) (Nat.le_of_ble_eq_true rfl) (ci_33 (d := d) ?_)
  show Rn g (d + 3) 40 57 mX7_init 103 [some (.ref 0), none] [.ref 33, .ref 0] (sI_33 (zeroAt (putR (zeroAt (putR (zeroAt (putR (zeroAt (putR (sI_27 (zeroAt (putR (sI_22 (zeroAt (putR (sI_13 (zeroAt (putR (sI_9 (zeroAt (putR (sI_5 (zeroAt (putR (sI_1 (zeroAt st 1)) 0 0 (some 1)) 5)) 0 1 (some 5)) 9)) 0 2 (some 9)) 13)) 0 3 (some 13)) 22)) 0 4 (some 22)) 27)) 0 5 (some 27)) 30) 0 6 (some 30)) 31) 0 7 (some 31)) 32) 0 8 (some 32)) 33)) Q
  refine s_putR dX7_init_103 fl_X7_59 (o := 0) rfl (by decide) rfl (Or.inr ⟨rfl, rfl, rfl, gw_at 321 (by decide +kernel) (by decide +kernel)⟩) ?_
  refine s_aload_n dX7_init_106 rfl rfl ?_
  refine s_new (ci := 3) (n := 6) dX7_init_107 rfl ck_X7_63 nst_3 ini_RX3 (by decide) ?_
  show Rn g (d + 3) 41 57 mX7_init 110 [some (.ref 0), none] [.ref 40, .ref 0] (zeroAt (putR (sI_33 (zeroAt (putR (zeroAt (putR (zeroAt (putR (zeroAt (putR (sI_27 (zeroAt (putR (sI_22 (zeroAt (putR (sI_13 (zeroAt (putR (sI_9 (zeroAt (putR (sI_5 (zeroAt (putR (sI_1 (zeroAt st 1)) 0 0 (some 1)) 5)) 0 1 (some 5)) 9)) 0 2 (some 9)) 13)) 0 3 (some 13)) 22)) 0 4 (some 22)) 27)) 0 5 (some 27)) 30) 0 6 (some 30)) 31) 0 7 (some 31)) 32) 0 8 (some 32)) 33)) 0 9 (some 33)) 40) Q
  refine s_dup dX7_init_110 rfl ?_
  refine s_callI (M' := mX3_init) (k := 0) (z1 := 45) (As := []) (rest := [.ref 40, .ref 0]) dX7_init_111 ml_X7_65 miX3_init rfl rfl (o := 40) rfl (by decide) rfl (Nat.le_of_ble_eq_true rfl) (by decide) (by decide) (Nat.le_of_ble_eq_true rfl) (ci_40 (d := d + 1) ?_)
  show Rn g (d + 3) 45 57 mX7_init 114 [some (.ref 0), none] [.ref 40, .ref 0] (sI_40 (zeroAt (putR (sI_33 (zeroAt (putR (zeroAt (putR (zeroAt (putR (zeroAt (putR (sI_27 (zeroAt (putR (sI_22 (zeroAt (putR (sI_13 (zeroAt (putR (sI_9 (zeroAt (putR (sI_5 (zeroAt (putR (sI_1 (zeroAt st 1)) 0 0 (some 1)) 5)) 0 1 (some 5)) 9)) 0 2 (some 9)) 13)) 0 3 (some 13)) 22)) 0 4 (some 22)) 27)) 0 5 (some 27)) 30) 0 6 (some 30)) 31) 0 7 (some 31)) 32) 0 8 (some 32)) 33)) 0 9 (some 33)) 40)) Q
  refine s_putR dX7_init_114 fl_X7_66 (o := 0) rfl (by decide) rfl (Or.inl rfl) ?_
  refine s_iconst (v := 0) dX7_init_117 (by decide) ?_
  refine s_istore_n dX7_init_118 rfl (by decide) rfl (L9 := [some (.ref 0), some (.int 0)]) rfl ?_
  refine s_iload_n dX7_init_119 rfl rfl ?_
  refine s_bipush (v := 6) dX7_init_120 (by decide) ?_
  refine s_icmp_ge (tgt := 144) dX7_init_122 (by decide) (fun c => absurd c (by decide)) (fun _ => ?_)
  refine s_aload_n dX7_init_125 rfl rfl ?_
  refine s_getR (o' := 30) dX7_init_126 fl_X7_45 (o := 0) rfl (by decide) rfl rfl ?_
  refine s_iload_n dX7_init_129 rfl rfl ?_
  refine s_new (ci := 6) (n := 4) dX7_init_130 rfl ck_X7_43 nst_6 ini_RX6 (by decide) ?_
  show Rn g (d + 3) 46 57 mX7_init 133 [some (.ref 0), some (.int 0)] [.ref 45, .int 0, .ref 30] (zeroAt (putR (sI_40 (zeroAt (putR (sI_33 (zeroAt (putR (zeroAt (putR (zeroAt (putR (zeroAt (putR (sI_27 (zeroAt (putR (sI_22 (zeroAt (putR (sI_13 (zeroAt (putR (sI_9 (zeroAt (putR (sI_5 (zeroAt (putR (sI_1 (zeroAt st 1)) 0 0 (some 1)) 5)) 0 1 (some 5)) 9)) 0 2 (some 9)) 13)) 0 3 (some 13)) 22)) 0 4 (some 22)) 27)) 0 5 (some 27)) 30) 0 6 (some 30)) 31) 0 7 (some 31)) 32) 0 8 (some 32)) 33)) 0 9 (some 33)) 40)) 0 10 (some 40)) 45) Q
  refine s_dup dX7_init_133 rfl ?_
  refine s_callI (M' := mX6_init) (k := 0) (z1 := 47) (As := []) (rest := [.ref 45, .int 0, .ref 30]) dX7_init_134 ml_X7_70 miX6_init rfl rfl (o := 45) rfl (by decide) rfl (Nat.le_of_ble_eq_true rfl) (by decide) (by decide) (Nat.le_of_ble_eq_true rfl) (ci_45 (d := d + 1) ?_)
  show Rn g (d + 3) 47 57 mX7_init 137 [some (.ref 0), some (.int 0)] [.ref 45, .int 0, .ref 30] (sI_45 (zeroAt (putR (sI_40 (zeroAt (putR (sI_33 (zeroAt (putR (zeroAt (putR (zeroAt (putR (zeroAt (putR (sI_27 (zeroAt (putR (sI_22 (zeroAt (putR (sI_13 (zeroAt (putR (sI_9 (zeroAt (putR (sI_5 (zeroAt (putR (sI_1 (zeroAt st 1)) 0 0 (some 1)) 5)) 0 1 (some 5)) 9)) 0 2 (some 9)) 13)) 0 3 (some 13)) 22)) 0 4 (some 22)) 27)) 0 5 (some 27)) 30) 0 6 (some 30)) 31) 0 7 (some 31)) 32) 0 8 (some 32)) 33)) 0 9 (some 33)) 40)) 0 10 (some 40)) 45)) Q
  refine s_aast (n := 6) dX7_init_137 rfl (by decide) rfl (by decide) (show vp_in 0 6 from by unfold vp_in; decide) ?_
  refine s_iinc (w := 1) dX7_init_138 rfl (by decide) (by decide) rfl (L9 := [some (.ref 0), some (.int 1)]) rfl ?_
  refine s_goto (tgt := 119) dX7_init_141 (by decide) ?_
  show Rn g (d + 3) 47 57 mX7_init 119 [some (.ref 0), some (.int 1)] [] (putR (sI_45 (zeroAt (putR (sI_40 (zeroAt (putR (sI_33 (zeroAt (putR (zeroAt (putR (zeroAt (putR (zeroAt (putR (sI_27 (zeroAt (putR (sI_22 (zeroAt (putR (sI_13 (zeroAt (putR (sI_9 (zeroAt (putR (sI_5 (zeroAt (putR (sI_1 (zeroAt st 1)) 0 0 (some 1)) 5)) 0 1 (some 5)) 9)) 0 2 (some 9)) 13)) 0 3 (some 13)) 22)) 0 4 (some 22)) 27)) 0 5 (some 27)) 30) 0 6 (some 30)) 31) 0 7 (some 31)) 32) 0 8 (some 32)) 33)) 0 9 (some 33)) 40)) 0 10 (some 40)) 45)) 30 0 (some 45)) Q
  refine s_iload_n dX7_init_119 rfl rfl ?_
  refine s_bipush (v := 6) dX7_init_120 (by decide) ?_
  refine s_icmp_ge (tgt := 144) dX7_init_122 (by decide) (fun c => absurd c (by decide)) (fun _ => ?_)
  refine s_aload_n dX7_init_125 rfl rfl ?_
  refine s_getR (o' := 30) dX7_init_126 fl_X7_45 (o := 0) rfl (by decide) rfl rfl ?_
  refine s_iload_n dX7_init_129 rfl rfl ?_
  refine s_new (ci := 6) (n := 4) dX7_init_130 rfl ck_X7_43 nst_6 ini_RX6 (by decide) ?_
  show Rn g (d + 3) 48 57 mX7_init 133 [some (.ref 0), some (.int 1)] [.ref 47, .int 1, .ref 30] (zeroAt (putR (sI_45 (zeroAt (putR (sI_40 (zeroAt (putR (sI_33 (zeroAt (putR (zeroAt (putR (zeroAt (putR (zeroAt (putR (sI_27 (zeroAt (putR (sI_22 (zeroAt (putR (sI_13 (zeroAt (putR (sI_9 (zeroAt (putR (sI_5 (zeroAt (putR (sI_1 (zeroAt st 1)) 0 0 (some 1)) 5)) 0 1 (some 5)) 9)) 0 2 (some 9)) 13)) 0 3 (some 13)) 22)) 0 4 (some 22)) 27)) 0 5 (some 27)) 30) 0 6 (some 30)) 31) 0 7 (some 31)) 32) 0 8 (some 32)) 33)) 0 9 (some 33)) 40)) 0 10 (some 40)) 45)) 30 0 (some 45)) 47) Q
  refine s_dup dX7_init_133 rfl ?_
  refine s_callI (M' := mX6_init) (k := 0) (z1 := 49) (As := []) (rest := [.ref 47, .int 1, .ref 30]) dX7_init_134 ml_X7_70 miX6_init rfl rfl (o := 47) rfl (by decide) rfl (Nat.le_of_ble_eq_true rfl) (by decide) (by decide) (Nat.le_of_ble_eq_true rfl) (ci_47 (d := d + 1) ?_)
  show Rn g (d + 3) 49 57 mX7_init 137 [some (.ref 0), some (.int 1)] [.ref 47, .int 1, .ref 30] (sI_47 (zeroAt (putR (sI_45 (zeroAt (putR (sI_40 (zeroAt (putR (sI_33 (zeroAt (putR (zeroAt (putR (zeroAt (putR (zeroAt (putR (sI_27 (zeroAt (putR (sI_22 (zeroAt (putR (sI_13 (zeroAt (putR (sI_9 (zeroAt (putR (sI_5 (zeroAt (putR (sI_1 (zeroAt st 1)) 0 0 (some 1)) 5)) 0 1 (some 5)) 9)) 0 2 (some 9)) 13)) 0 3 (some 13)) 22)) 0 4 (some 22)) 27)) 0 5 (some 27)) 30) 0 6 (some 30)) 31) 0 7 (some 31)) 32) 0 8 (some 32)) 33)) 0 9 (some 33)) 40)) 0 10 (some 40)) 45)) 30 0 (some 45)) 47)) Q
  refine s_aast (n := 6) dX7_init_137 rfl (by decide) rfl (by decide) (show vp_in 1 6 from by unfold vp_in; decide) ?_
  refine s_iinc (w := 2) dX7_init_138 rfl (by decide) (by decide) rfl (L9 := [some (.ref 0), some (.int 2)]) rfl ?_
  refine s_goto (tgt := 119) dX7_init_141 (by decide) ?_
  show Rn g (d + 3) 49 57 mX7_init 119 [some (.ref 0), some (.int 2)] [] (putR (sI_47 (zeroAt (putR (sI_45 (zeroAt (putR (sI_40 (zeroAt (putR (sI_33 (zeroAt (putR (zeroAt (putR (zeroAt (putR (zeroAt (putR (sI_27 (zeroAt (putR (sI_22 (zeroAt (putR (sI_13 (zeroAt (putR (sI_9 (zeroAt (putR (sI_5 (zeroAt (putR (sI_1 (zeroAt st 1)) 0 0 (some 1)) 5)) 0 1 (some 5)) 9)) 0 2 (some 9)) 13)) 0 3 (some 13)) 22)) 0 4 (some 22)) 27)) 0 5 (some 27)) 30) 0 6 (some 30)) 31) 0 7 (some 31)) 32) 0 8 (some 32)) 33)) 0 9 (some 33)) 40)) 0 10 (some 40)) 45)) 30 0 (some 45)) 47)) 30 1 (some 47)) Q
  refine s_iload_n dX7_init_119 rfl rfl ?_
  refine s_bipush (v := 6) dX7_init_120 (by decide) ?_
  refine s_icmp_ge (tgt := 144) dX7_init_122 (by decide) (fun c => absurd c (by decide)) (fun _ => ?_)
  refine s_aload_n dX7_init_125 rfl rfl ?_
  refine s_getR (o' := 30) dX7_init_126 fl_X7_45 (o := 0) rfl (by decide) rfl rfl ?_
  refine s_iload_n dX7_init_129 rfl rfl ?_
  refine s_new (ci := 6) (n := 4) dX7_init_130 rfl ck_X7_43 nst_6 ini_RX6 (by decide) ?_
  show Rn g (d + 3) 50 57 mX7_init 133 [some (.ref 0), some (.int 2)] [.ref 49, .int 2, .ref 30] (zeroAt (putR (sI_47 (zeroAt (putR (sI_45 (zeroAt (putR (sI_40 (zeroAt (putR (sI_33 (zeroAt (putR (zeroAt (putR (zeroAt (putR (zeroAt (putR (sI_27 (zeroAt (putR (sI_22 (zeroAt (putR (sI_13 (zeroAt (putR (sI_9 (zeroAt (putR (sI_5 (zeroAt (putR (sI_1 (zeroAt st 1)) 0 0 (some 1)) 5)) 0 1 (some 5)) 9)) 0 2 (some 9)) 13)) 0 3 (some 13)) 22)) 0 4 (some 22)) 27)) 0 5 (some 27)) 30) 0 6 (some 30)) 31) 0 7 (some 31)) 32) 0 8 (some 32)) 33)) 0 9 (some 33)) 40)) 0 10 (some 40)) 45)) 30 0 (some 45)) 47)) 30 1 (some 47)) 49) Q
  refine s_dup dX7_init_133 rfl ?_
  refine s_callI (M' := mX6_init) (k := 0) (z1 := 51) (As := []) (rest := [.ref 49, .int 2, .ref 30]) dX7_init_134 ml_X7_70 miX6_init rfl rfl (o := 49) rfl (by decide) rfl (Nat.le_of_ble_eq_true rfl) (by decide) (by decide) (Nat.le_of_ble_eq_true rfl) (ci_49 (d := d + 1) ?_)
  show Rn g (d + 3) 51 57 mX7_init 137 [some (.ref 0), some (.int 2)] [.ref 49, .int 2, .ref 30] (sI_49 (zeroAt (putR (sI_47 (zeroAt (putR (sI_45 (zeroAt (putR (sI_40 (zeroAt (putR (sI_33 (zeroAt (putR (zeroAt (putR (zeroAt (putR (zeroAt (putR (sI_27 (zeroAt (putR (sI_22 (zeroAt (putR (sI_13 (zeroAt (putR (sI_9 (zeroAt (putR (sI_5 (zeroAt (putR (sI_1 (zeroAt st 1)) 0 0 (some 1)) 5)) 0 1 (some 5)) 9)) 0 2 (some 9)) 13)) 0 3 (some 13)) 22)) 0 4 (some 22)) 27)) 0 5 (some 27)) 30) 0 6 (some 30)) 31) 0 7 (some 31)) 32) 0 8 (some 32)) 33)) 0 9 (some 33)) 40)) 0 10 (some 40)) 45)) 30 0 (some 45)) 47)) 30 1 (some 47)) 49)) Q
  refine s_aast (n := 6) dX7_init_137 rfl (by decide) rfl (by decide) (show vp_in 2 6 from by unfold vp_in; decide) ?_
  refine s_iinc (w := 3) dX7_init_138 rfl (by decide) (by decide) rfl (L9 := [some (.ref 0), some (.int 3)]) rfl ?_
  refine s_goto (tgt := 119) dX7_init_141 (by decide) ?_
  show Rn g (d + 3) 51 57 mX7_init 119 [some (.ref 0), some (.int 3)] [] (putR (sI_49 (zeroAt (putR (sI_47 (zeroAt (putR (sI_45 (zeroAt (putR (sI_40 (zeroAt (putR (sI_33 (zeroAt (putR (zeroAt (putR (zeroAt (putR (zeroAt (putR (sI_27 (zeroAt (putR (sI_22 (zeroAt (putR (sI_13 (zeroAt (putR (sI_9 (zeroAt (putR (sI_5 (zeroAt (putR (sI_1 (zeroAt st 1)) 0 0 (some 1)) 5)) 0 1 (some 5)) 9)) 0 2 (some 9)) 13)) 0 3 (some 13)) 22)) 0 4 (some 22)) 27)) 0 5 (some 27)) 30) 0 6 (some 30)) 31) 0 7 (some 31)) 32) 0 8 (some 32)) 33)) 0 9 (some 33)) 40)) 0 10 (some 40)) 45)) 30 0 (some 45)) 47)) 30 1 (some 47)) 49)) 30 2 (some 49)) Q
  refine s_iload_n dX7_init_119 rfl rfl ?_
  refine s_bipush (v := 6) dX7_init_120 (by decide) ?_
  refine s_icmp_ge (tgt := 144) dX7_init_122 (by decide) (fun c => absurd c (by decide)) (fun _ => ?_)
  refine s_aload_n dX7_init_125 rfl rfl ?_
  refine s_getR (o' := 30) dX7_init_126 fl_X7_45 (o := 0) rfl (by decide) rfl rfl ?_
  refine s_iload_n dX7_init_129 rfl rfl ?_
  refine s_new (ci := 6) (n := 4) dX7_init_130 rfl ck_X7_43 nst_6 ini_RX6 (by decide) ?_
  show Rn g (d + 3) 52 57 mX7_init 133 [some (.ref 0), some (.int 3)] [.ref 51, .int 3, .ref 30] (zeroAt (putR (sI_49 (zeroAt (putR (sI_47 (zeroAt (putR (sI_45 (zeroAt (putR (sI_40 (zeroAt (putR (sI_33 (zeroAt (putR (zeroAt (putR (zeroAt (putR (zeroAt (putR (sI_27 (zeroAt (putR (sI_22 (zeroAt (putR (sI_13 (zeroAt (putR (sI_9 (zeroAt (putR (sI_5 (zeroAt (putR (sI_1 (zeroAt st 1)) 0 0 (some 1)) 5)) 0 1 (some 5)) 9)) 0 2 (some 9)) 13)) 0 3 (some 13)) 22)) 0 4 (some 22)) 27)) 0 5 (some 27)) 30) 0 6 (some 30)) 31) 0 7 (some 31)) 32) 0 8 (some 32)) 33)) 0 9 (some 33)) 40)) 0 10 (some 40)) 45)) 30 0 (some 45)) 47)) 30 1 (some 47)) 49)) 30 2 (some 49)) 51) Q
  refine s_dup dX7_init_133 rfl ?_
  refine s_callI (M' := mX6_init) (k := 0) (z1 := 53) (As := []) (rest := [.ref 51, .int 3, .ref 30]) dX7_init_134 ml_X7_70 miX6_init rfl rfl (o := 51) rfl (by decide) rfl (Nat.le_of_ble_eq_true rfl) (by decide) (by decide) (Nat.le_of_ble_eq_true rfl) (ci_51 (d := d + 1) ?_)
  show Rn g (d + 3) 53 57 mX7_init 137 [some (.ref 0), some (.int 3)] [.ref 51, .int 3, .ref 30] (sI_51 (zeroAt (putR (sI_49 (zeroAt (putR (sI_47 (zeroAt (putR (sI_45 (zeroAt (putR (sI_40 (zeroAt (putR (sI_33 (zeroAt (putR (zeroAt (putR (zeroAt (putR (zeroAt (putR (sI_27 (zeroAt (putR (sI_22 (zeroAt (putR (sI_13 (zeroAt (putR (sI_9 (zeroAt (putR (sI_5 (zeroAt (putR (sI_1 (zeroAt st 1)) 0 0 (some 1)) 5)) 0 1 (some 5)) 9)) 0 2 (some 9)) 13)) 0 3 (some 13)) 22)) 0 4 (some 22)) 27)) 0 5 (some 27)) 30) 0 6 (some 30)) 31) 0 7 (some 31)) 32) 0 8 (some 32)) 33)) 0 9 (some 33)) 40)) 0 10 (some 40)) 45)) 30 0 (some 45)) 47)) 30 1 (some 47)) 49)) 30 2 (some 49)) 51)) Q
  refine s_aast (n := 6) dX7_init_137 rfl (by decide) rfl (by decide) (show vp_in 3 6 from by unfold vp_in; decide) ?_
  refine s_iinc (w := 4) dX7_init_138 rfl (by decide) (by decide) rfl (L9 := [some (.ref 0), some (.int 4)]) rfl ?_
  refine s_goto (tgt := 119) dX7_init_141 (by decide) ?_
  show Rn g (d + 3) 53 57 mX7_init 119 [some (.ref 0), some (.int 4)] [] (putR (sI_51 (zeroAt (putR (sI_49 (zeroAt (putR (sI_47 (zeroAt (putR (sI_45 (zeroAt (putR (sI_40 (zeroAt (putR (sI_33 (zeroAt (putR (zeroAt (putR (zeroAt (putR (zeroAt (putR (sI_27 (zeroAt (putR (sI_22 (zeroAt (putR (sI_13 (zeroAt (putR (sI_9 (zeroAt (putR (sI_5 (zeroAt (putR (sI_1 (zeroAt st 1)) 0 0 (some 1)) 5)) 0 1 (some 5)) 9)) 0 2 (some 9)) 13)) 0 3 (some 13)) 22)) 0 4 (some 22)) 27)) 0 5 (some 27)) 30) 0 6 (some 30)) 31) 0 7 (some 31)) 32) 0 8 (some 32)) 33)) 0 9 (some 33)) 40)) 0 10 (some 40)) 45)) 30 0 (some 45)) 47)) 30 1 (some 47)) 49)) 30 2 (some 49)) 51)) 30 3 (some 51)) Q
  refine s_iload_n dX7_init_119 rfl rfl ?_
  refine s_bipush (v := 6) dX7_init_120 (by decide) ?_
  refine s_icmp_ge (tgt := 144) dX7_init_122 (by decide) (fun c => absurd c (by decide)) (fun _ => ?_)
  refine s_aload_n dX7_init_125 rfl rfl ?_
  refine s_getR (o' := 30) dX7_init_126 fl_X7_45 (o := 0) rfl (by decide) rfl rfl ?_
  refine s_iload_n dX7_init_129 rfl rfl ?_
  refine s_new (ci := 6) (n := 4) dX7_init_130 rfl ck_X7_43 nst_6 ini_RX6 (by decide) ?_
  show Rn g (d + 3) 54 57 mX7_init 133 [some (.ref 0), some (.int 4)] [.ref 53, .int 4, .ref 30] (zeroAt (putR (sI_51 (zeroAt (putR (sI_49 (zeroAt (putR (sI_47 (zeroAt (putR (sI_45 (zeroAt (putR (sI_40 (zeroAt (putR (sI_33 (zeroAt (putR (zeroAt (putR (zeroAt (putR (zeroAt (putR (sI_27 (zeroAt (putR (sI_22 (zeroAt (putR (sI_13 (zeroAt (putR (sI_9 (zeroAt (putR (sI_5 (zeroAt (putR (sI_1 (zeroAt st 1)) 0 0 (some 1)) 5)) 0 1 (some 5)) 9)) 0 2 (some 9)) 13)) 0 3 (some 13)) 22)) 0 4 (some 22)) 27)) 0 5 (some 27)) 30) 0 6 (some 30)) 31) 0 7 (some 31)) 32) 0 8 (some 32)) 33)) 0 9 (some 33)) 40)) 0 10 (some 40)) 45)) 30 0 (some 45)) 47)) 30 1 (some 47)) 49)) 30 2 (some 49)) 51)) 30 3 (some 51)) 53) Q
  refine s_dup dX7_init_133 rfl ?_
  refine s_callI (M' := mX6_init) (k := 0) (z1 := 55) (As := []) (rest := [.ref 53, .int 4, .ref 30]) dX7_init_134 ml_X7_70 miX6_init rfl rfl (o := 53) rfl (by decide) rfl (Nat.le_of_ble_eq_true rfl) (by decide) (by decide) (Nat.le_of_ble_eq_true rfl) (ci_53 (d := d + 1) ?_)
  show Rn g (d + 3) 55 57 mX7_init 137 [some (.ref 0), some (.int 4)] [.ref 53, .int 4, .ref 30] (sI_53 (zeroAt (putR (sI_51 (zeroAt (putR (sI_49 (zeroAt (putR (sI_47 (zeroAt (putR (sI_45 (zeroAt (putR (sI_40 (zeroAt (putR (sI_33 (zeroAt (putR (zeroAt (putR (zeroAt (putR (zeroAt (putR (sI_27 (zeroAt (putR (sI_22 (zeroAt (putR (sI_13 (zeroAt (putR (sI_9 (zeroAt (putR (sI_5 (zeroAt (putR (sI_1 (zeroAt st 1)) 0 0 (some 1)) 5)) 0 1 (some 5)) 9)) 0 2 (some 9)) 13)) 0 3 (some 13)) 22)) 0 4 (some 22)) 27)) 0 5 (some 27)) 30) 0 6 (some 30)) 31) 0 7 (some 31)) 32) 0 8 (some 32)) 33)) 0 9 (some 33)) 40)) 0 10 (some 40)) 45)) 30 0 (some 45)) 47)) 30 1 (some 47)) 49)) 30 2 (some 49)) 51)) 30 3 (some 51)) 53)) Q
  refine s_aast (n := 6) dX7_init_137 rfl (by decide) rfl (by decide) (show vp_in 4 6 from by unfold vp_in; decide) ?_
  refine s_iinc (w := 5) dX7_init_138 rfl (by decide) (by decide) rfl (L9 := [some (.ref 0), some (.int 5)]) rfl ?_
  refine s_goto (tgt := 119) dX7_init_141 (by decide) ?_
  show Rn g (d + 3) 55 57 mX7_init 119 [some (.ref 0), some (.int 5)] [] (putR (sI_53 (zeroAt (putR (sI_51 (zeroAt (putR (sI_49 (zeroAt (putR (sI_47 (zeroAt (putR (sI_45 (zeroAt (putR (sI_40 (zeroAt (putR (sI_33 (zeroAt (putR (zeroAt (putR (zeroAt (putR (zeroAt (putR (sI_27 (zeroAt (putR (sI_22 (zeroAt (putR (sI_13 (zeroAt (putR (sI_9 (zeroAt (putR (sI_5 (zeroAt (putR (sI_1 (zeroAt st 1)) 0 0 (some 1)) 5)) 0 1 (some 5)) 9)) 0 2 (some 9)) 13)) 0 3 (some 13)) 22)) 0 4 (some 22)) 27)) 0 5 (some 27)) 30) 0 6 (some 30)) 31) 0 7 (some 31)) 32) 0 8 (some 32)) 33)) 0 9 (some 33)) 40)) 0 10 (some 40)) 45)) 30 0 (some 45)) 47)) 30 1 (some 47)) 49)) 30 2 (some 49)) 51)) 30 3 (some 51)) 53)) 30 4 (some 53)) Q
  refine s_iload_n dX7_init_119 rfl rfl ?_
  refine s_bipush (v := 6) dX7_init_120 (by decide) ?_
  refine s_icmp_ge (tgt := 144) dX7_init_122 (by decide) (fun c => absurd c (by decide)) (fun _ => ?_)
  refine s_aload_n dX7_init_125 rfl rfl ?_
  refine s_getR (o' := 30) dX7_init_126 fl_X7_45 (o := 0) rfl (by decide) rfl rfl ?_
  refine s_iload_n dX7_init_129 rfl rfl ?_
  refine s_new (ci := 6) (n := 4) dX7_init_130 rfl ck_X7_43 nst_6 ini_RX6 (by decide) ?_
  show Rn g (d + 3) 56 57 mX7_init 133 [some (.ref 0), some (.int 5)] [.ref 55, .int 5, .ref 30] (zeroAt (putR (sI_53 (zeroAt (putR (sI_51 (zeroAt (putR (sI_49 (zeroAt (putR (sI_47 (zeroAt (putR (sI_45 (zeroAt (putR (sI_40 (zeroAt (putR (sI_33 (zeroAt (putR (zeroAt (putR (zeroAt (putR (zeroAt (putR (sI_27 (zeroAt (putR (sI_22 (zeroAt (putR (sI_13 (zeroAt (putR (sI_9 (zeroAt (putR (sI_5 (zeroAt (putR (sI_1 (zeroAt st 1)) 0 0 (some 1)) 5)) 0 1 (some 5)) 9)) 0 2 (some 9)) 13)) 0 3 (some 13)) 22)) 0 4 (some 22)) 27)) 0 5 (some 27)) 30) 0 6 (some 30)) 31) 0 7 (some 31)) 32) 0 8 (some 32)) 33)) 0 9 (some 33)) 40)) 0 10 (some 40)) 45)) 30 0 (some 45)) 47)) 30 1 (some 47)) 49)) 30 2 (some 49)) 51)) 30 3 (some 51)) 53)) 30 4 (some 53)) 55) Q
  refine s_dup dX7_init_133 rfl ?_
  refine s_callI (M' := mX6_init) (k := 0) (z1 := 57) (As := []) (rest := [.ref 55, .int 5, .ref 30]) dX7_init_134 ml_X7_70 miX6_init rfl rfl (o := 55) rfl (by decide) rfl (Nat.le_of_ble_eq_true rfl) (by decide) (by decide) (Nat.le_of_ble_eq_true rfl) (ci_55 (d := d + 1) ?_)
  show Rn g (d + 3) 57 57 mX7_init 137 [some (.ref 0), some (.int 5)] [.ref 55, .int 5, .ref 30] (sI_55 (zeroAt (putR (sI_53 (zeroAt (putR (sI_51 (zeroAt (putR (sI_49 (zeroAt (putR (sI_47 (zeroAt (putR (sI_45 (zeroAt (putR (sI_40 (zeroAt (putR (sI_33 (zeroAt (putR (zeroAt (putR (zeroAt (putR (zeroAt (putR (sI_27 (zeroAt (putR (sI_22 (zeroAt (putR (sI_13 (zeroAt (putR (sI_9 (zeroAt (putR (sI_5 (zeroAt (putR (sI_1 (zeroAt st 1)) 0 0 (some 1)) 5)) 0 1 (some 5)) 9)) 0 2 (some 9)) 13)) 0 3 (some 13)) 22)) 0 4 (some 22)) 27)) 0 5 (some 27)) 30) 0 6 (some 30)) 31) 0 7 (some 31)) 32) 0 8 (some 32)) 33)) 0 9 (some 33)) 40)) 0 10 (some 40)) 45)) 30 0 (some 45)) 47)) 30 1 (some 47)) 49)) 30 2 (some 49)) 51)) 30 3 (some 51)) 53)) 30 4 (some 53)) 55)) Q
  refine s_aast (n := 6) dX7_init_137 rfl (by decide) rfl (by decide) (show vp_in 5 6 from by unfold vp_in; decide) ?_
  refine s_iinc (w := 6) dX7_init_138 rfl (by decide) (by decide) rfl (L9 := [some (.ref 0), some (.int 6)]) rfl ?_
  refine s_goto (tgt := 119) dX7_init_141 (by decide) ?_
  show Rn g (d + 3) 57 57 mX7_init 119 [some (.ref 0), some (.int 6)] [] (putR (sI_55 (zeroAt (putR (sI_53 (zeroAt (putR (sI_51 (zeroAt (putR (sI_49 (zeroAt (putR (sI_47 (zeroAt (putR (sI_45 (zeroAt (putR (sI_40 (zeroAt (putR (sI_33 (zeroAt (putR (zeroAt (putR (zeroAt (putR (zeroAt (putR (sI_27 (zeroAt (putR (sI_22 (zeroAt (putR (sI_13 (zeroAt (putR (sI_9 (zeroAt (putR (sI_5 (zeroAt (putR (sI_1 (zeroAt st 1)) 0 0 (some 1)) 5)) 0 1 (some 5)) 9)) 0 2 (some 9)) 13)) 0 3 (some 13)) 22)) 0 4 (some 22)) 27)) 0 5 (some 27)) 30) 0 6 (some 30)) 31) 0 7 (some 31)) 32) 0 8 (some 32)) 33)) 0 9 (some 33)) 40)) 0 10 (some 40)) 45)) 30 0 (some 45)) 47)) 30 1 (some 47)) 49)) 30 2 (some 49)) 51)) 30 3 (some 51)) 53)) 30 4 (some 53)) 55)) 30 5 (some 55)) Q
  refine s_iload_n dX7_init_119 rfl rfl ?_
  refine s_bipush (v := 6) dX7_init_120 (by decide) ?_
  refine s_icmp_ge (tgt := 144) dX7_init_122 (by decide) (fun _ => ?_) (fun c => absurd (by decide) c)
  exact s_vret dX7_init_144 rfl h
def sI_57 (st : St) : St := (putR (zeroAt (putR (zeroAt (putR (zeroAt (putR (putI (putI (putI (putI (putI (putI (zeroAt (putR (zeroAt (putR (zeroAt (putR (zeroAt (putR (zeroAt (putR (zeroAt (putR (zeroAt (putR (zeroAt (putR (zeroAt (putR (zeroAt (putR (zeroAt (putR (zeroAt (putR (zeroAt (putR (zeroAt (putR (zeroAt (putR (zeroAt (putR (zeroAt (putR (zeroAt (putR (zeroAt (putR (zeroAt (putR (zeroAt (putR (zeroAt (putR (zeroAt (putR (zeroAt (putR (zeroAt (putR (zeroAt (putR (zeroAt (putR (zeroAt (putI (putR (zeroAt (putR (zeroAt (putR (zeroAt (putR (zeroAt st 58) 57 2 (some 58)) 59) 57 3 (some 59)) 60) 57 4 (some 60)) 61) 57 5 (some 61)) 57 6 3) 62) 57 9 (some 62)) 63) 57 10 (some 63)) 64) 57 11 (some 64)) 65) 57 12 (some 65)) 66) 57 13 (some 66)) 67) 57 19 (some 67)) 68) 57 20 (some 68)) 69) 57 21 (some 69)) 70) 57 22 (some 70)) 71) 57 23 (some 71)) 72) 57 24 (some 72)) 73) 57 25 (some 73)) 74) 57 27 (some 74)) 75) 57 28 (some 75)) 76) 57 29 (some 76)) 77) 57 30 (some 77)) 78) 57 31 (some 78)) 79) 57 32 (some 79)) 80) 57 34 (some 80)) 81) 57 37 (some 81)) 82) 57 38 (some 82)) 83) 57 41 (some 83)) 84) 57 42 (some 84)) 85) 57 43 (some 85)) 86) 57 44 (some 86)) 87) 57 46 (some 87)) 88) 57 48 (some 88)) 89) 89 0 (-1)) 89 1 (-1)) 89 2 (-1)) 89 3 (-1)) 89 4 (-1)) 89 5 (-1)) 57 49 (some 89)) 90) 57 50 (some 90)) 91) 57 51 (some 91)) 92) 57 52 (some 92))
set_option maxRecDepth 20000 in
theorem ci_57 {g : Gt} {d : Nat} {st : St} {Q : Option Value → St → Prop} (h : Q none (sI_57 st)) : Rn g (d + 1) 58 93 mX8_init 0 [some (.ref 57)] [] st Q := by
  refine s_aload_n dX8_init_0 rfl rfl ?_
  refine s_oinit dX8_init_1 oi_X8_1 oi_i oi_c (o := 57) rfl (by decide) (Nat.le_of_ble_eq_true rfl) (by omega) ?_
  show Rn g (d + 1) 58 93 mX8_init 4 [some (.ref 57)] [] st Q
  refine s_aload_n dX8_init_4 rfl rfl ?_
  refine s_bipush (v := 56) dX8_init_5 (by decide) ?_
  refine s_newa (c0 := 0) (n := 56) dX8_init_7 rfl (by decide) rfl arc_int (by decide) rfl (by decide) (by decide) ?_
  show Rn g (d + 1) 59 93 mX8_init 9 [some (.ref 57)] [.ref 58, .ref 57] (zeroAt st 58) Q
  refine s_putR dX8_init_9 fl_X8_7 (o := 57) rfl (by decide) rfl (Or.inr ⟨rfl, rfl, rfl, gw_at 927 (by decide +kernel) (by decide +kernel)⟩) ?_
  refine s_aload_n dX8_init_12 rfl rfl ?_
  refine s_bipush (v := 7) dX8_init_13 (by decide) ?_
  refine s_newa (c0 := 0) (n := 7) dX8_init_15 rfl (by decide) rfl arc_int (by decide) rfl (by decide) (by decide) ?_
  show Rn g (d + 1) 60 93 mX8_init 17 [some (.ref 57)] [.ref 59, .ref 57] (zeroAt (putR (zeroAt st 58) 57 2 (some 58)) 59) Q
  refine s_putR dX8_init_17 fl_X8_13 (o := 57) rfl (by decide) rfl (Or.inr ⟨rfl, rfl, rfl, gw_at 928 (by decide +kernel) (by decide +kernel)⟩) ?_
  refine s_aload_n dX8_init_20 rfl rfl ?_
  refine s_bipush (v := 7) dX8_init_21 (by decide) ?_
  refine s_newa (c0 := 0) (n := 7) dX8_init_23 rfl (by decide) rfl arc_int (by decide) rfl (by decide) (by decide) ?_
  show Rn g (d + 1) 61 93 mX8_init 25 [some (.ref 57)] [.ref 60, .ref 57] (zeroAt (putR (zeroAt (putR (zeroAt st 58) 57 2 (some 58)) 59) 57 3 (some 59)) 60) Q
  refine s_putR dX8_init_25 fl_X8_16 (o := 57) rfl (by decide) rfl (Or.inr ⟨rfl, rfl, rfl, gw_at 929 (by decide +kernel) (by decide +kernel)⟩) ?_
  refine s_aload_n dX8_init_28 rfl rfl ?_
  refine s_bipush (v := 10) dX8_init_29 (by decide) ?_
  refine s_newa (c0 := 0) (n := 10) dX8_init_31 rfl (by decide) rfl arc_int (by decide) rfl (by decide) (by decide) ?_
  show Rn g (d + 1) 62 93 mX8_init 33 [some (.ref 57)] [.ref 61, .ref 57] (zeroAt (putR (zeroAt (putR (zeroAt (putR (zeroAt st 58) 57 2 (some 58)) 59) 57 3 (some 59)) 60) 57 4 (some 60)) 61) Q
  refine s_putR dX8_init_33 fl_X8_19 (o := 57) rfl (by decide) rfl (Or.inr ⟨rfl, rfl, rfl, gw_at 930 (by decide +kernel) (by decide +kernel)⟩) ?_
  refine s_aload_n dX8_init_36 rfl rfl ?_
  refine s_iconst (v := 3) dX8_init_37 (by decide) ?_
  refine s_putI dX8_init_38 fl_X8_22 (o := 57) rfl (by decide) rfl rfl rfl rfl ?_
  refine s_aload_n dX8_init_41 rfl rfl ?_
  refine s_bipush (v := 40) dX8_init_42 (by decide) ?_
  refine s_newa (c0 := 0) (n := 40) dX8_init_44 rfl (by decide) rfl arc_int (by decide) rfl (by decide) (by decide) ?_
  show Rn g (d + 1) 63 93 mX8_init 46 [some (.ref 57)] [.ref 62, .ref 57] (zeroAt (putI (putR (zeroAt (putR (zeroAt (putR (zeroAt (putR (zeroAt st 58) 57 2 (some 58)) 59) 57 3 (some 59)) 60) 57 4 (some 60)) 61) 57 5 (some 61)) 57 6 3) 62) Q
  refine s_putR dX8_init_46 fl_X8_26 (o := 57) rfl (by decide) rfl (Or.inr ⟨rfl, rfl, rfl, gw_at 934 (by decide +kernel) (by decide +kernel)⟩) ?_
  refine s_aload_n dX8_init_49 rfl rfl ?_
  refine s_bipush (v := 40) dX8_init_50 (by decide) ?_
  refine s_newa (c0 := 0) (n := 40) dX8_init_52 rfl (by decide) rfl arc_int (by decide) rfl (by decide) (by decide) ?_
  show Rn g (d + 1) 64 93 mX8_init 54 [some (.ref 57)] [.ref 63, .ref 57] (zeroAt (putR (zeroAt (putI (putR (zeroAt (putR (zeroAt (putR (zeroAt (putR (zeroAt st 58) 57 2 (some 58)) 59) 57 3 (some 59)) 60) 57 4 (some 60)) 61) 57 5 (some 61)) 57 6 3) 62) 57 9 (some 62)) 63) Q
  refine s_putR dX8_init_54 fl_X8_29 (o := 57) rfl (by decide) rfl (Or.inr ⟨rfl, rfl, rfl, gw_at 935 (by decide +kernel) (by decide +kernel)⟩) ?_
  refine s_aload_n dX8_init_57 rfl rfl ?_
  refine s_bipush (v := 40) dX8_init_58 (by decide) ?_
  refine s_newa (c0 := 0) (n := 40) dX8_init_60 rfl (by decide) rfl arc_int (by decide) rfl (by decide) (by decide) ?_
  show Rn g (d + 1) 65 93 mX8_init 62 [some (.ref 57)] [.ref 64, .ref 57] (zeroAt (putR (zeroAt (putR (zeroAt (putI (putR (zeroAt (putR (zeroAt (putR (zeroAt (putR (zeroAt st 58) 57 2 (some 58)) 59) 57 3 (some 59)) 60) 57 4 (some 60)) 61) 57 5 (some 61)) 57 6 3) 62) 57 9 (some 62)) 63) 57 10 (some 63)) 64) Q
  refine s_putR dX8_init_62 fl_X8_32 (o := 57) rfl (by decide) rfl (Or.inr ⟨rfl, rfl, rfl, gw_at 936 (by decide +kernel) (by decide +kernel)⟩) ?_
  refine s_aload_n dX8_init_65 rfl rfl ?_
  refine s_bipush (v := 40) dX8_init_66 (by decide) ?_
  refine s_newa (c0 := 0) (n := 40) dX8_init_68 rfl (by decide) rfl arc_int (by decide) rfl (by decide) (by decide) ?_
  show Rn g (d + 1) 66 93 mX8_init 70 [some (.ref 57)] [.ref 65, .ref 57] (zeroAt (putR (zeroAt (putR (zeroAt (putR (zeroAt (putI (putR (zeroAt (putR (zeroAt (putR (zeroAt (putR (zeroAt st 58) 57 2 (some 58)) 59) 57 3 (some 59)) 60) 57 4 (some 60)) 61) 57 5 (some 61)) 57 6 3) 62) 57 9 (some 62)) 63) 57 10 (some 63)) 64) 57 11 (some 64)) 65) Q
  refine s_putR dX8_init_70 fl_X8_35 (o := 57) rfl (by decide) rfl (Or.inr ⟨rfl, rfl, rfl, gw_at 937 (by decide +kernel) (by decide +kernel)⟩) ?_
  refine s_aload_n dX8_init_73 rfl rfl ?_
  refine s_bipush (v := 120) dX8_init_74 (by decide) ?_
  refine s_newa (c0 := 1) (n := 120) dX8_init_76 rfl (by decide) rfl arc_byte (by decide) rfl (by decide) (by decide) ?_
  show Rn g (d + 1) 67 93 mX8_init 78 [some (.ref 57)] [.ref 66, .ref 57] (zeroAt (putR (zeroAt (putR (zeroAt (putR (zeroAt (putR (zeroAt (putI (putR (zeroAt (putR (zeroAt (putR (zeroAt (putR (zeroAt st 58) 57 2 (some 58)) 59) 57 3 (some 59)) 60) 57 4 (some 60)) 61) 57 5 (some 61)) 57 6 3) 62) 57 9 (some 62)) 63) 57 10 (some 63)) 64) 57 11 (some 64)) 65) 57 12 (some 65)) 66) Q
  refine s_putR dX8_init_78 fl_X8_38 (o := 57) rfl (by decide) rfl (Or.inr ⟨rfl, rfl, rfl, gw_at 938 (by decide +kernel) (by decide +kernel)⟩) ?_
  refine s_aload_n dX8_init_81 rfl rfl ?_
  refine s_sipush (v := 260) dX8_init_82 (by decide) ?_
  refine s_newa (c0 := 1) (n := 260) dX8_init_85 rfl (by decide) rfl arc_byte (by decide) rfl (by decide) (by decide) ?_
  show Rn g (d + 1) 68 93 mX8_init 87 [some (.ref 57)] [.ref 67, .ref 57] (zeroAt (putR (zeroAt (putR (zeroAt (putR (zeroAt (putR (zeroAt (putR (zeroAt (putI (putR (zeroAt (putR (zeroAt (putR (zeroAt (putR (zeroAt st 58) 57 2 (some 58)) 59) 57 3 (some 59)) 60) 57 4 (some 60)) 61) 57 5 (some 61)) 57 6 3) 62) 57 9 (some 62)) 63) 57 10 (some 63)) 64) 57 11 (some 64)) 65) 57 12 (some 65)) 66) 57 13 (some 66)) 67) Q
  refine s_putR dX8_init_87 fl_X8_42 (o := 57) rfl (by decide) rfl (Or.inr ⟨rfl, rfl, rfl, gw_at 944 (by decide +kernel) (by decide +kernel)⟩) ?_
  refine s_aload_n dX8_init_90 rfl rfl ?_
  refine s_sipush (v := 260) dX8_init_91 (by decide) ?_
  refine s_newa (c0 := 0) (n := 260) dX8_init_94 rfl (by decide) rfl arc_int (by decide) rfl (by decide) (by decide) ?_
  show Rn g (d + 1) 69 93 mX8_init 96 [some (.ref 57)] [.ref 68, .ref 57] (zeroAt (putR (zeroAt (putR (zeroAt (putR (zeroAt (putR (zeroAt (putR (zeroAt (putR (zeroAt (putI (putR (zeroAt (putR (zeroAt (putR (zeroAt (putR (zeroAt st 58) 57 2 (some 58)) 59) 57 3 (some 59)) 60) 57 4 (some 60)) 61) 57 5 (some 61)) 57 6 3) 62) 57 9 (some 62)) 63) 57 10 (some 63)) 64) 57 11 (some 64)) 65) 57 12 (some 65)) 66) 57 13 (some 66)) 67) 57 19 (some 67)) 68) Q
  refine s_putR dX8_init_96 fl_X8_45 (o := 57) rfl (by decide) rfl (Or.inr ⟨rfl, rfl, rfl, gw_at 945 (by decide +kernel) (by decide +kernel)⟩) ?_
  refine s_aload_n dX8_init_99 rfl rfl ?_
  refine s_iconst (v := 2) dX8_init_100 (by decide) ?_
  refine s_newa (c0 := 0) (n := 2) dX8_init_101 rfl (by decide) rfl arc_int (by decide) rfl (by decide) (by decide) ?_
  show Rn g (d + 1) 70 93 mX8_init 103 [some (.ref 57)] [.ref 69, .ref 57] (zeroAt (putR (zeroAt (putR (zeroAt (putR (zeroAt (putR (zeroAt (putR (zeroAt (putR (zeroAt (putR (zeroAt (putI (putR (zeroAt (putR (zeroAt (putR (zeroAt (putR (zeroAt st 58) 57 2 (some 58)) 59) 57 3 (some 59)) 60) 57 4 (some 60)) 61) 57 5 (some 61)) 57 6 3) 62) 57 9 (some 62)) 63) 57 10 (some 63)) 64) 57 11 (some 64)) 65) 57 12 (some 65)) 66) 57 13 (some 66)) 67) 57 19 (some 67)) 68) 57 20 (some 68)) 69) Q
  refine s_putR dX8_init_103 fl_X8_48 (o := 57) rfl (by decide) rfl (Or.inr ⟨rfl, rfl, rfl, gw_at 946 (by decide +kernel) (by decide +kernel)⟩) ?_
  refine s_aload_n dX8_init_106 rfl rfl ?_
  refine s_bipush (v := 122) dX8_init_107 (by decide) ?_
  refine s_newa (c0 := 2) (n := 122) dX8_init_109 rfl (by decide) rfl arc_short (by decide) rfl (by decide) (by decide) ?_
  show Rn g (d + 1) 71 93 mX8_init 111 [some (.ref 57)] [.ref 70, .ref 57] (zeroAt (putR (zeroAt (putR (zeroAt (putR (zeroAt (putR (zeroAt (putR (zeroAt (putR (zeroAt (putR (zeroAt (putR (zeroAt (putI (putR (zeroAt (putR (zeroAt (putR (zeroAt (putR (zeroAt st 58) 57 2 (some 58)) 59) 57 3 (some 59)) 60) 57 4 (some 60)) 61) 57 5 (some 61)) 57 6 3) 62) 57 9 (some 62)) 63) 57 10 (some 63)) 64) 57 11 (some 64)) 65) 57 12 (some 65)) 66) 57 13 (some 66)) 67) 57 19 (some 67)) 68) 57 20 (some 68)) 69) 57 21 (some 69)) 70) Q
  refine s_putR dX8_init_111 fl_X8_51 (o := 57) rfl (by decide) rfl (Or.inr ⟨rfl, rfl, rfl, gw_at 947 (by decide +kernel) (by decide +kernel)⟩) ?_
  refine s_aload_n dX8_init_114 rfl rfl ?_
  refine s_bipush (v := 122) dX8_init_115 (by decide) ?_
  refine s_newa (c0 := 2) (n := 122) dX8_init_117 rfl (by decide) rfl arc_short (by decide) rfl (by decide) (by decide) ?_
  show Rn g (d + 1) 72 93 mX8_init 119 [some (.ref 57)] [.ref 71, .ref 57] (zeroAt (putR (zeroAt (putR (zeroAt (putR (zeroAt (putR (zeroAt (putR (zeroAt (putR (zeroAt (putR (zeroAt (putR (zeroAt (putR (zeroAt (putI (putR (zeroAt (putR (zeroAt (putR (zeroAt (putR (zeroAt st 58) 57 2 (some 58)) 59) 57 3 (some 59)) 60) 57 4 (some 60)) 61) 57 5 (some 61)) 57 6 3) 62) 57 9 (some 62)) 63) 57 10 (some 63)) 64) 57 11 (some 64)) 65) 57 12 (some 65)) 66) 57 13 (some 66)) 67) 57 19 (some 67)) 68) 57 20 (some 68)) 69) 57 21 (some 69)) 70) 57 22 (some 70)) 71) Q
  refine s_putR dX8_init_119 fl_X8_55 (o := 57) rfl (by decide) rfl (Or.inr ⟨rfl, rfl, rfl, gw_at 948 (by decide +kernel) (by decide +kernel)⟩) ?_
  refine s_aload_n dX8_init_122 rfl rfl ?_
  refine s_bipush (v := 6) dX8_init_123 (by decide) ?_
  refine s_newa (c0 := 0) (n := 6) dX8_init_125 rfl (by decide) rfl arc_int (by decide) rfl (by decide) (by decide) ?_
  show Rn g (d + 1) 73 93 mX8_init 127 [some (.ref 57)] [.ref 72, .ref 57] (zeroAt (putR (zeroAt (putR (zeroAt (putR (zeroAt (putR (zeroAt (putR (zeroAt (putR (zeroAt (putR (zeroAt (putR (zeroAt (putR (zeroAt (putR (zeroAt (putI (putR (zeroAt (putR (zeroAt (putR (zeroAt (putR (zeroAt st 58) 57 2 (some 58)) 59) 57 3 (some 59)) 60) 57 4 (some 60)) 61) 57 5 (some 61)) 57 6 3) 62) 57 9 (some 62)) 63) 57 10 (some 63)) 64) 57 11 (some 64)) 65) 57 12 (some 65)) 66) 57 13 (some 66)) 67) 57 19 (some 67)) 68) 57 20 (some 68)) 69) 57 21 (some 69)) 70) 57 22 (some 70)) 71) 57 23 (some 71)) 72) Q
  refine s_putR dX8_init_127 fl_X8_58 (o := 57) rfl (by decide) rfl (Or.inr ⟨rfl, rfl, rfl, gw_at 949 (by decide +kernel) (by decide +kernel)⟩) ?_
  refine s_aload_n dX8_init_130 rfl rfl ?_
  refine s_sipush (v := 130) dX8_init_131 (by decide) ?_
  refine s_newa (c0 := 0) (n := 130) dX8_init_134 rfl (by decide) rfl arc_int (by decide) rfl (by decide) (by decide) ?_
  show Rn g (d + 1) 74 93 mX8_init 136 [some (.ref 57)] [.ref 73, .ref 57] (zeroAt (putR (zeroAt (putR (zeroAt (putR (zeroAt (putR (zeroAt (putR (zeroAt (putR (zeroAt (putR (zeroAt (putR (zeroAt (putR (zeroAt (putR (zeroAt (putR (zeroAt (putI (putR (zeroAt (putR (zeroAt (putR (zeroAt (putR (zeroAt st 58) 57 2 (some 58)) 59) 57 3 (some 59)) 60) 57 4 (some 60)) 61) 57 5 (some 61)) 57 6 3) 62) 57 9 (some 62)) 63) 57 10 (some 63)) 64) 57 11 (some 64)) 65) 57 12 (some 65)) 66) 57 13 (some 66)) 67) 57 19 (some 67)) 68) 57 20 (some 68)) 69) 57 21 (some 69)) 70) 57 22 (some 70)) 71) 57 23 (some 71)) 72) 57 24 (some 72)) 73) Q
  refine s_putR dX8_init_136 fl_X8_61 (o := 57) rfl (by decide) rfl (Or.inr ⟨rfl, rfl, rfl, gw_at 950 (by decide +kernel) (by decide +kernel)⟩) ?_
  refine s_aload_n dX8_init_139 rfl rfl ?_
  refine s_bipush (v := 56) dX8_init_140 (by decide) ?_
  refine s_newa (c0 := 0) (n := 56) dX8_init_142 rfl (by decide) rfl arc_int (by decide) rfl (by decide) (by decide) ?_
  show Rn g (d + 1) 75 93 mX8_init 144 [some (.ref 57)] [.ref 74, .ref 57] (zeroAt (putR (zeroAt (putR (zeroAt (putR (zeroAt (putR (zeroAt (putR (zeroAt (putR (zeroAt (putR (zeroAt (putR (zeroAt (putR (zeroAt (putR (zeroAt (putR (zeroAt (putR (zeroAt (putI (putR (zeroAt (putR (zeroAt (putR (zeroAt (putR (zeroAt st 58) 57 2 (some 58)) 59) 57 3 (some 59)) 60) 57 4 (some 60)) 61) 57 5 (some 61)) 57 6 3) 62) 57 9 (some 62)) 63) 57 10 (some 63)) 64) 57 11 (some 64)) 65) 57 12 (some 65)) 66) 57 13 (some 66)) 67) 57 19 (some 67)) 68) 57 20 (some 68)) 69) 57 21 (some 69)) 70) 57 22 (some 70)) 71) 57 23 (some 71)) 72) 57 24 (some 72)) 73) 57 25 (some 73)) 74) Q
  refine s_putR dX8_init_144 fl_X8_64 (o := 57) rfl (by decide) rfl (Or.inr ⟨rfl, rfl, rfl, gw_at 952 (by decide +kernel) (by decide +kernel)⟩) ?_
  refine s_aload_n dX8_init_147 rfl rfl ?_
  refine s_bipush (v := 7) dX8_init_148 (by decide) ?_
  refine s_newa (c0 := 0) (n := 7) dX8_init_150 rfl (by decide) rfl arc_int (by decide) rfl (by decide) (by decide) ?_
  show Rn g (d + 1) 76 93 mX8_init 152 [some (.ref 57)] [.ref 75, .ref 57] (zeroAt (putR (zeroAt (putR (zeroAt (putR (zeroAt (putR (zeroAt (putR (zeroAt (putR (zeroAt (putR (zeroAt (putR (zeroAt (putR (zeroAt (putR (zeroAt (putR (zeroAt (putR (zeroAt (putR (zeroAt (putI (putR (zeroAt (putR (zeroAt (putR (zeroAt (putR (zeroAt st 58) 57 2 (some 58)) 59) 57 3 (some 59)) 60) 57 4 (some 60)) 61) 57 5 (some 61)) 57 6 3) 62) 57 9 (some 62)) 63) 57 10 (some 63)) 64) 57 11 (some 64)) 65) 57 12 (some 65)) 66) 57 13 (some 66)) 67) 57 19 (some 67)) 68) 57 20 (some 68)) 69) 57 21 (some 69)) 70) 57 22 (some 70)) 71) 57 23 (some 71)) 72) 57 24 (some 72)) 73) 57 25 (some 73)) 74) 57 27 (some 74)) 75) Q
  refine s_putR dX8_init_152 fl_X8_67 (o := 57) rfl (by decide) rfl (Or.inr ⟨rfl, rfl, rfl, gw_at 953 (by decide +kernel) (by decide +kernel)⟩) ?_
  refine s_aload_n dX8_init_155 rfl rfl ?_
  refine s_bipush (v := 15) dX8_init_156 (by decide) ?_
  refine s_newa (c0 := 0) (n := 15) dX8_init_158 rfl (by decide) rfl arc_int (by decide) rfl (by decide) (by decide) ?_
  show Rn g (d + 1) 77 93 mX8_init 160 [some (.ref 57)] [.ref 76, .ref 57] (zeroAt (putR (zeroAt (putR (zeroAt (putR (zeroAt (putR (zeroAt (putR (zeroAt (putR (zeroAt (putR (zeroAt (putR (zeroAt (putR (zeroAt (putR (zeroAt (putR (zeroAt (putR (zeroAt (putR (zeroAt (putR (zeroAt (putI (putR (zeroAt (putR (zeroAt (putR (zeroAt (putR (zeroAt st 58) 57 2 (some 58)) 59) 57 3 (some 59)) 60) 57 4 (some 60)) 61) 57 5 (some 61)) 57 6 3) 62) 57 9 (some 62)) 63) 57 10 (some 63)) 64) 57 11 (some 64)) 65) 57 12 (some 65)) 66) 57 13 (some 66)) 67) 57 19 (some 67)) 68) 57 20 (some 68)) 69) 57 21 (some 69)) 70) 57 22 (some 70)) 71) 57 23 (some 71)) 72) 57 24 (some 72)) 73) 57 25 (some 73)) 74) 57 27 (some 74)) 75) 57 28 (some 75)) 76) Q
  refine s_putR dX8_init_160 fl_X8_70 (o := 57) rfl (by decide) rfl (Or.inr ⟨rfl, rfl, rfl, gw_at 954 (by decide +kernel) (by decide +kernel)⟩) ?_
  refine s_aload_n dX8_init_163 rfl rfl ?_
  refine s_bipush (v := 15) dX8_init_164 (by decide) ?_
  refine s_newa (c0 := 0) (n := 15) dX8_init_166 rfl (by decide) rfl arc_int (by decide) rfl (by decide) (by decide) ?_
  show Rn g (d + 1) 78 93 mX8_init 168 [some (.ref 57)] [.ref 77, .ref 57] (zeroAt (putR (zeroAt (putR (zeroAt (putR (zeroAt (putR (zeroAt (putR (zeroAt (putR (zeroAt (putR (zeroAt (putR (zeroAt (putR (zeroAt (putR (zeroAt (putR (zeroAt (putR (zeroAt (putR (zeroAt (putR (zeroAt (putR (zeroAt (putI (putR (zeroAt (putR (zeroAt (putR (zeroAt (putR (zeroAt st 58) 57 2 (some 58)) 59) 57 3 (some 59)) 60) 57 4 (some 60)) 61) 57 5 (some 61)) 57 6 3) 62) 57 9 (some 62)) 63) 57 10 (some 63)) 64) 57 11 (some 64)) 65) 57 12 (some 65)) 66) 57 13 (some 66)) 67) 57 19 (some 67)) 68) 57 20 (some 68)) 69) 57 21 (some 69)) 70) 57 22 (some 70)) 71) 57 23 (some 71)) 72) 57 24 (some 72)) 73) 57 25 (some 73)) 74) 57 27 (some 74)) 75) 57 28 (some 75)) 76) 57 29 (some 76)) 77) Q
  refine s_putR dX8_init_168 fl_X8_73 (o := 57) rfl (by decide) rfl (Or.inr ⟨rfl, rfl, rfl, gw_at 955 (by decide +kernel) (by decide +kernel)⟩) ?_
  refine s_aload_n dX8_init_171 rfl rfl ?_
  refine s_bipush (v := 15) dX8_init_172 (by decide) ?_
  refine s_newa (c0 := 0) (n := 15) dX8_init_174 rfl (by decide) rfl arc_int (by decide) rfl (by decide) (by decide) ?_
  show Rn g (d + 1) 79 93 mX8_init 176 [some (.ref 57)] [.ref 78, .ref 57] (zeroAt (putR (zeroAt (putR (zeroAt (putR (zeroAt (putR (zeroAt (putR (zeroAt (putR (zeroAt (putR (zeroAt (putR (zeroAt (putR (zeroAt (putR (zeroAt (putR (zeroAt (putR (zeroAt (putR (zeroAt (putR (zeroAt (putR (zeroAt (putR (zeroAt (putI (putR (zeroAt (putR (zeroAt (putR (zeroAt (putR (zeroAt st 58) 57 2 (some 58)) 59) 57 3 (some 59)) 60) 57 4 (some 60)) 61) 57 5 (some 61)) 57 6 3) 62) 57 9 (some 62)) 63) 57 10 (some 63)) 64) 57 11 (some 64)) 65) 57 12 (some 65)) 66) 57 13 (some 66)) 67) 57 19 (some 67)) 68) 57 20 (some 68)) 69) 57 21 (some 69)) 70) 57 22 (some 70)) 71) 57 23 (some 71)) 72) 57 24 (some 72)) 73) 57 25 (some 73)) 74) 57 27 (some 74)) 75) 57 28 (some 75)) 76) 57 29 (some 76)) 77) 57 30 (some 77)) 78) Q
  refine s_putR dX8_init_176 fl_X8_76 (o := 57) rfl (by decide) rfl (Or.inr ⟨rfl, rfl, rfl, gw_at 956 (by decide +kernel) (by decide +kernel)⟩) ?_
  refine s_aload_n dX8_init_179 rfl rfl ?_
  refine s_bipush (v := 15) dX8_init_180 (by decide) ?_
  refine s_newa (c0 := 0) (n := 15) dX8_init_182 rfl (by decide) rfl arc_int (by decide) rfl (by decide) (by decide) ?_
  show Rn g (d + 1) 80 93 mX8_init 184 [some (.ref 57)] [.ref 79, .ref 57] (zeroAt (putR (zeroAt (putR (zeroAt (putR (zeroAt (putR (zeroAt (putR (zeroAt (putR (zeroAt (putR (zeroAt (putR (zeroAt (putR (zeroAt (putR (zeroAt (putR (zeroAt (putR (zeroAt (putR (zeroAt (putR (zeroAt (putR (zeroAt (putR (zeroAt (putR (zeroAt (putI (putR (zeroAt (putR (zeroAt (putR (zeroAt (putR (zeroAt st 58) 57 2 (some 58)) 59) 57 3 (some 59)) 60) 57 4 (some 60)) 61) 57 5 (some 61)) 57 6 3) 62) 57 9 (some 62)) 63) 57 10 (some 63)) 64) 57 11 (some 64)) 65) 57 12 (some 65)) 66) 57 13 (some 66)) 67) 57 19 (some 67)) 68) 57 20 (some 68)) 69) 57 21 (some 69)) 70) 57 22 (some 70)) 71) 57 23 (some 71)) 72) 57 24 (some 72)) 73) 57 25 (some 73)) 74) 57 27 (some 74)) 75) 57 28 (some 75)) 76) 57 29 (some 76)) 77) 57 30 (some 77)) 78) 57 31 (some 78)) 79) Q
  refine s_putR dX8_init_184 fl_X8_79 (o := 57) rfl (by decide) rfl (Or.inr ⟨rfl, rfl, rfl, gw_at 957 (by decide +kernel) (by decide +kernel)⟩) ?_
  refine s_aload_n dX8_init_187 rfl rfl ?_
  refine s_bipush (v := 70) dX8_init_188 (by decide) ?_
  refine s_newa (c0 := 0) (n := 70) dX8_init_190 rfl (by decide) rfl arc_int (by decide) rfl (by decide) (by decide) ?_
  show Rn g (d + 1) 81 93 mX8_init 192 [some (.ref 57)] [.ref 80, .ref 57] (zeroAt (putR (zeroAt (putR (zeroAt (putR (zeroAt (putR (zeroAt (putR (zeroAt (putR (zeroAt (putR (zeroAt (putR (zeroAt (putR (zeroAt (putR (zeroAt (putR (zeroAt (putR (zeroAt (putR (zeroAt (putR (zeroAt (putR (zeroAt (putR (zeroAt (putR (zeroAt (putR (zeroAt (putI (putR (zeroAt (putR (zeroAt (putR (zeroAt (putR (zeroAt st 58) 57 2 (some 58)) 59) 57 3 (some 59)) 60) 57 4 (some 60)) 61) 57 5 (some 61)) 57 6 3) 62) 57 9 (some 62)) 63) 57 10 (some 63)) 64) 57 11 (some 64)) 65) 57 12 (some 65)) 66) 57 13 (some 66)) 67) 57 19 (some 67)) 68) 57 20 (some 68)) 69) 57 21 (some 69)) 70) 57 22 (some 70)) 71) 57 23 (some 71)) 72) 57 24 (some 72)) 73) 57 25 (some 73)) 74) 57 27 (some 74)) 75) 57 28 (some 75)) 76) 57 29 (some 76)) 77) 57 30 (some 77)) 78) 57 31 (some 78)) 79) 57 32 (some 79)) 80) Q
  refine s_putR dX8_init_192 fl_X8_82 (o := 57) rfl (by decide) rfl (Or.inr ⟨rfl, rfl, rfl, gw_at 959 (by decide +kernel) (by decide +kernel)⟩) ?_
  refine s_aload_n dX8_init_195 rfl rfl ?_
  refine s_bipush (v := 10) dX8_init_196 (by decide) ?_
  refine s_newa (c0 := 0) (n := 10) dX8_init_198 rfl (by decide) rfl arc_int (by decide) rfl (by decide) (by decide) ?_
  show Rn g (d + 1) 82 93 mX8_init 200 [some (.ref 57)] [.ref 81, .ref 57] (zeroAt (putR (zeroAt (putR (zeroAt (putR (zeroAt (putR (zeroAt (putR (zeroAt (putR (zeroAt (putR (zeroAt (putR (zeroAt (putR (zeroAt (putR (zeroAt (putR (zeroAt (putR (zeroAt (putR (zeroAt (putR (zeroAt (putR (zeroAt (putR (zeroAt (putR (zeroAt (putR (zeroAt (putR (zeroAt (putI (putR (zeroAt (putR (zeroAt (putR (zeroAt (putR (zeroAt st 58) 57 2 (some 58)) 59) 57 3 (some 59)) 60) 57 4 (some 60)) 61) 57 5 (some 61)) 57 6 3) 62) 57 9 (some 62)) 63) 57 10 (some 63)) 64) 57 11 (some 64)) 65) 57 12 (some 65)) 66) 57 13 (some 66)) 67) 57 19 (some 67)) 68) 57 20 (some 68)) 69) 57 21 (some 69)) 70) 57 22 (some 70)) 71) 57 23 (some 71)) 72) 57 24 (some 72)) 73) 57 25 (some 73)) 74) 57 27 (some 74)) 75) 57 28 (some 75)) 76) 57 29 (some 76)) 77) 57 30 (some 77)) 78) 57 31 (some 78)) 79) 57 32 (some 79)) 80) 57 34 (some 80)) 81) Q
  refine s_putR dX8_init_200 fl_X8_85 (o := 57) rfl (by decide) rfl (Or.inr ⟨rfl, rfl, rfl, gw_at 962 (by decide +kernel) (by decide +kernel)⟩) ?_
  refine s_aload_n dX8_init_203 rfl rfl ?_
  refine s_bipush (v := 6) dX8_init_204 (by decide) ?_
  refine s_newa (c0 := 0) (n := 6) dX8_init_206 rfl (by decide) rfl arc_int (by decide) rfl (by decide) (by decide) ?_
  show Rn g (d + 1) 83 93 mX8_init 208 [some (.ref 57)] [.ref 82, .ref 57] (zeroAt (putR (zeroAt (putR (zeroAt (putR (zeroAt (putR (zeroAt (putR (zeroAt (putR (zeroAt (putR (zeroAt (putR (zeroAt (putR (zeroAt (putR (zeroAt (putR (zeroAt (putR (zeroAt (putR (zeroAt (putR (zeroAt (putR (zeroAt (putR (zeroAt (putR (zeroAt (putR (zeroAt (putR (zeroAt (putR (zeroAt (putI (putR (zeroAt (putR (zeroAt (putR (zeroAt (putR (zeroAt st 58) 57 2 (some 58)) 59) 57 3 (some 59)) 60) 57 4 (some 60)) 61) 57 5 (some 61)) 57 6 3) 62) 57 9 (some 62)) 63) 57 10 (some 63)) 64) 57 11 (some 64)) 65) 57 12 (some 65)) 66) 57 13 (some 66)) 67) 57 19 (some 67)) 68) 57 20 (some 68)) 69) 57 21 (some 69)) 70) 57 22 (some 70)) 71) 57 23 (some 71)) 72) 57 24 (some 72)) 73) 57 25 (some 73)) 74) 57 27 (some 74)) 75) 57 28 (some 75)) 76) 57 29 (some 76)) 77) 57 30 (some 77)) 78) 57 31 (some 78)) 79) 57 32 (some 79)) 80) 57 34 (some 80)) 81) 57 37 (some 81)) 82) Q
  refine s_putR dX8_init_208 fl_X8_88 (o := 57) rfl (by decide) rfl (Or.inr ⟨rfl, rfl, rfl, gw_at 963 (by decide +kernel) (by decide +kernel)⟩) ?_
  refine s_aload_n dX8_init_211 rfl rfl ?_
  refine s_bipush (v := 56) dX8_init_212 (by decide) ?_
  refine s_newa (c0 := 0) (n := 56) dX8_init_214 rfl (by decide) rfl arc_int (by decide) rfl (by decide) (by decide) ?_
  show Rn g (d + 1) 84 93 mX8_init 216 [some (.ref 57)] [.ref 83, .ref 57] (zeroAt (putR (zeroAt (putR (zeroAt (putR (zeroAt (putR (zeroAt (putR (zeroAt (putR (zeroAt (putR (zeroAt (putR (zeroAt (putR (zeroAt (putR (zeroAt (putR (zeroAt (putR (zeroAt (putR (zeroAt (putR (zeroAt (putR (zeroAt (putR (zeroAt (putR (zeroAt (putR (zeroAt (putR (zeroAt (putR (zeroAt (putR (zeroAt (putI (putR (zeroAt (putR (zeroAt (putR (zeroAt (putR (zeroAt st 58) 57 2 (some 58)) 59) 57 3 (some 59)) 60) 57 4 (some 60)) 61) 57 5 (some 61)) 57 6 3) 62) 57 9 (some 62)) 63) 57 10 (some 63)) 64) 57 11 (some 64)) 65) 57 12 (some 65)) 66) 57 13 (some 66)) 67) 57 19 (some 67)) 68) 57 20 (some 68)) 69) 57 21 (some 69)) 70) 57 22 (some 70)) 71) 57 23 (some 71)) 72) 57 24 (some 72)) 73) 57 25 (some 73)) 74) 57 27 (some 74)) 75) 57 28 (some 75)) 76) 57 29 (some 76)) 77) 57 30 (some 77)) 78) 57 31 (some 78)) 79) 57 32 (some 79)) 80) 57 34 (some 80)) 81) 57 37 (some 81)) 82) 57 38 (some 82)) 83) Q
  refine s_putR dX8_init_216 fl_X8_91 (o := 57) rfl (by decide) rfl (Or.inr ⟨rfl, rfl, rfl, gw_at 966 (by decide +kernel) (by decide +kernel)⟩) ?_
  refine s_aload_n dX8_init_219 rfl rfl ?_
  refine s_bipush (v := 7) dX8_init_220 (by decide) ?_
  refine s_newa (c0 := 0) (n := 7) dX8_init_222 rfl (by decide) rfl arc_int (by decide) rfl (by decide) (by decide) ?_
  show Rn g (d + 1) 85 93 mX8_init 224 [some (.ref 57)] [.ref 84, .ref 57] (zeroAt (putR (zeroAt (putR (zeroAt (putR (zeroAt (putR (zeroAt (putR (zeroAt (putR (zeroAt (putR (zeroAt (putR (zeroAt (putR (zeroAt (putR (zeroAt (putR (zeroAt (putR (zeroAt (putR (zeroAt (putR (zeroAt (putR (zeroAt (putR (zeroAt (putR (zeroAt (putR (zeroAt (putR (zeroAt (putR (zeroAt (putR (zeroAt (putR (zeroAt (putI (putR (zeroAt (putR (zeroAt (putR (zeroAt (putR (zeroAt st 58) 57 2 (some 58)) 59) 57 3 (some 59)) 60) 57 4 (some 60)) 61) 57 5 (some 61)) 57 6 3) 62) 57 9 (some 62)) 63) 57 10 (some 63)) 64) 57 11 (some 64)) 65) 57 12 (some 65)) 66) 57 13 (some 66)) 67) 57 19 (some 67)) 68) 57 20 (some 68)) 69) 57 21 (some 69)) 70) 57 22 (some 70)) 71) 57 23 (some 71)) 72) 57 24 (some 72)) 73) 57 25 (some 73)) 74) 57 27 (some 74)) 75) 57 28 (some 75)) 76) 57 29 (some 76)) 77) 57 30 (some 77)) 78) 57 31 (some 78)) 79) 57 32 (some 79)) 80) 57 34 (some 80)) 81) 57 37 (some 81)) 82) 57 38 (some 82)) 83) 57 41 (some 83)) 84) Q
  refine s_putR dX8_init_224 fl_X8_94 (o := 57) rfl (by decide) rfl (Or.inr ⟨rfl, rfl, rfl, gw_at 967 (by decide +kernel) (by decide +kernel)⟩) ?_
  refine s_aload_n dX8_init_227 rfl rfl ?_
  refine s_bipush (v := 7) dX8_init_228 (by decide) ?_
  refine s_newa (c0 := 0) (n := 7) dX8_init_230 rfl (by decide) rfl arc_int (by decide) rfl (by decide) (by decide) ?_
  show Rn g (d + 1) 86 93 mX8_init 232 [some (.ref 57)] [.ref 85, .ref 57] (zeroAt (putR (zeroAt (putR (zeroAt (putR (zeroAt (putR (zeroAt (putR (zeroAt (putR (zeroAt (putR (zeroAt (putR (zeroAt (putR (zeroAt (putR (zeroAt (putR (zeroAt (putR (zeroAt (putR (zeroAt (putR (zeroAt (putR (zeroAt (putR (zeroAt (putR (zeroAt (putR (zeroAt (putR (zeroAt (putR (zeroAt (putR (zeroAt (putR (zeroAt (putR (zeroAt (putI (putR (zeroAt (putR (zeroAt (putR (zeroAt (putR (zeroAt st 58) 57 2 (some 58)) 59) 57 3 (some 59)) 60) 57 4 (some 60)) 61) 57 5 (some 61)) 57 6 3) 62) 57 9 (some 62)) 63) 57 10 (some 63)) 64) 57 11 (some 64)) 65) 57 12 (some 65)) 66) 57 13 (some 66)) 67) 57 19 (some 67)) 68) 57 20 (some 68)) 69) 57 21 (some 69)) 70) 57 22 (some 70)) 71) 57 23 (some 71)) 72) 57 24 (some 72)) 73) 57 25 (some 73)) 74) 57 27 (some 74)) 75) 57 28 (some 75)) 76) 57 29 (some 76)) 77) 57 30 (some 77)) 78) 57 31 (some 78)) 79) 57 32 (some 79)) 80) 57 34 (some 80)) 81) 57 37 (some 81)) 82) 57 38 (some 82)) 83) 57 41 (some 83)) 84) 57 42 (some 84)) 85) Q
  refine s_putR dX8_init_232 fl_X8_97 (o := 57) rfl (by decide) rfl (Or.inr ⟨rfl, rfl, rfl, gw_at 968 (by decide +kernel) (by decide +kernel)⟩) ?_
  refine s_aload_n dX8_init_235 rfl rfl ?_
  refine s_bipush (v := 6) dX8_init_236 (by decide) ?_
  refine s_newa (c0 := 0) (n := 6) dX8_init_238 rfl (by decide) rfl arc_int (by decide) rfl (by decide) (by decide) ?_
  show Rn g (d + 1) 87 93 mX8_init 240 [some (.ref 57)] [.ref 86, .ref 57] (zeroAt (putR (zeroAt (putR (zeroAt (putR (zeroAt (putR (zeroAt (putR (zeroAt (putR (zeroAt (putR (zeroAt (putR (zeroAt (putR (zeroAt (putR (zeroAt (putR (zeroAt (putR (zeroAt (putR (zeroAt (putR (zeroAt (putR (zeroAt (putR (zeroAt (putR (zeroAt (putR (zeroAt (putR (zeroAt (putR (zeroAt (putR (zeroAt (putR (zeroAt (putR (zeroAt (putR (zeroAt (putI (putR (zeroAt (putR (zeroAt (putR (zeroAt (putR (zeroAt st 58) 57 2 (some 58)) 59) 57 3 (some 59)) 60) 57 4 (some 60)) 61) 57 5 (some 61)) 57 6 3) 62) 57 9 (some 62)) 63) 57 10 (some 63)) 64) 57 11 (some 64)) 65) 57 12 (some 65)) 66) 57 13 (some 66)) 67) 57 19 (some 67)) 68) 57 20 (some 68)) 69) 57 21 (some 69)) 70) 57 22 (some 70)) 71) 57 23 (some 71)) 72) 57 24 (some 72)) 73) 57 25 (some 73)) 74) 57 27 (some 74)) 75) 57 28 (some 75)) 76) 57 29 (some 76)) 77) 57 30 (some 77)) 78) 57 31 (some 78)) 79) 57 32 (some 79)) 80) 57 34 (some 80)) 81) 57 37 (some 81)) 82) 57 38 (some 82)) 83) 57 41 (some 83)) 84) 57 42 (some 84)) 85) 57 43 (some 85)) 86) Q
  refine s_putR dX8_init_240 fl_X8_100 (o := 57) rfl (by decide) rfl (Or.inr ⟨rfl, rfl, rfl, gw_at 969 (by decide +kernel) (by decide +kernel)⟩) ?_
  refine s_aload_n dX8_init_243 rfl rfl ?_
  refine s_bipush (v := 50) dX8_init_244 (by decide) ?_
  refine s_newa (c0 := 0) (n := 50) dX8_init_246 rfl (by decide) rfl arc_int (by decide) rfl (by decide) (by decide) ?_
  show Rn g (d + 1) 88 93 mX8_init 248 [some (.ref 57)] [.ref 87, .ref 57] (zeroAt (putR (zeroAt (putR (zeroAt (putR (zeroAt (putR (zeroAt (putR (zeroAt (putR (zeroAt (putR (zeroAt (putR (zeroAt (putR (zeroAt (putR (zeroAt (putR (zeroAt (putR (zeroAt (putR (zeroAt (putR (zeroAt (putR (zeroAt (putR (zeroAt (putR (zeroAt (putR (zeroAt (putR (zeroAt (putR (zeroAt (putR (zeroAt (putR (zeroAt (putR (zeroAt (putR (zeroAt (putR (zeroAt (putI (putR (zeroAt (putR (zeroAt (putR (zeroAt (putR (zeroAt st 58) 57 2 (some 58)) 59) 57 3 (some 59)) 60) 57 4 (some 60)) 61) 57 5 (some 61)) 57 6 3) 62) 57 9 (some 62)) 63) 57 10 (some 63)) 64) 57 11 (some 64)) 65) 57 12 (some 65)) 66) 57 13 (some 66)) 67) 57 19 (some 67)) 68) 57 20 (some 68)) 69) 57 21 (some 69)) 70) 57 22 (some 70)) 71) 57 23 (some 71)) 72) 57 24 (some 72)) 73) 57 25 (some 73)) 74) 57 27 (some 74)) 75) 57 28 (some 75)) 76) 57 29 (some 76)) 77) 57 30 (some 77)) 78) 57 31 (some 78)) 79) 57 32 (some 79)) 80) 57 34 (some 80)) 81) 57 37 (some 81)) 82) 57 38 (some 82)) 83) 57 41 (some 83)) 84) 57 42 (some 84)) 85) 57 43 (some 85)) 86) 57 44 (some 86)) 87) Q
  refine s_putR dX8_init_248 fl_X8_103 (o := 57) rfl (by decide) rfl (Or.inr ⟨rfl, rfl, rfl, gw_at 971 (by decide +kernel) (by decide +kernel)⟩) ?_
  refine s_aload_n dX8_init_251 rfl rfl ?_
  refine s_bipush (v := 24) dX8_init_252 (by decide) ?_
  refine s_newa (c0 := 0) (n := 24) dX8_init_254 rfl (by decide) rfl arc_int (by decide) rfl (by decide) (by decide) ?_
  show Rn g (d + 1) 89 93 mX8_init 256 [some (.ref 57)] [.ref 88, .ref 57] (zeroAt (putR (zeroAt (putR (zeroAt (putR (zeroAt (putR (zeroAt (putR (zeroAt (putR (zeroAt (putR (zeroAt (putR (zeroAt (putR (zeroAt (putR (zeroAt (putR (zeroAt (putR (zeroAt (putR (zeroAt (putR (zeroAt (putR (zeroAt (putR (zeroAt (putR (zeroAt (putR (zeroAt (putR (zeroAt (putR (zeroAt (putR (zeroAt (putR (zeroAt (putR (zeroAt (putR (zeroAt (putR (zeroAt (putR (zeroAt (putI (putR (zeroAt (putR (zeroAt (putR (zeroAt (putR (zeroAt st 58) 57 2 (some 58)) 59) 57 3 (some 59)) 60) 57 4 (some 60)) 61) 57 5 (some 61)) 57 6 3) 62) 57 9 (some 62)) 63) 57 10 (some 63)) 64) 57 11 (some 64)) 65) 57 12 (some 65)) 66) 57 13 (some 66)) 67) 57 19 (some 67)) 68) 57 20 (some 68)) 69) 57 21 (some 69)) 70) 57 22 (some 70)) 71) 57 23 (some 71)) 72) 57 24 (some 72)) 73) 57 25 (some 73)) 74) 57 27 (some 74)) 75) 57 28 (some 75)) 76) 57 29 (some 76)) 77) 57 30 (some 77)) 78) 57 31 (some 78)) 79) 57 32 (some 79)) 80) 57 34 (some 80)) 81) 57 37 (some 81)) 82) 57 38 (some 82)) 83) 57 41 (some 83)) 84) 57 42 (some 84)) 85) 57 43 (some 85)) 86) 57 44 (some 86)) 87) 57 46 (some 87)) 88) Q
  refine s_putR dX8_init_256 fl_X8_106 (o := 57) rfl (by decide) rfl (Or.inr ⟨rfl, rfl, rfl, gw_at 973 (by decide +kernel) (by decide +kernel)⟩) ?_
  refine s_aload_n dX8_init_259 rfl rfl ?_
  refine s_bipush (v := 6) dX8_init_260 (by decide) ?_
  refine s_newa (c0 := 0) (n := 6) dX8_init_262 rfl (by decide) rfl arc_int (by decide) rfl (by decide) (by decide) ?_
  show Rn g (d + 1) 90 93 mX8_init 264 [some (.ref 57)] [.ref 89, .ref 57] (zeroAt (putR (zeroAt (putR (zeroAt (putR (zeroAt (putR (zeroAt (putR (zeroAt (putR (zeroAt (putR (zeroAt (putR (zeroAt (putR (zeroAt (putR (zeroAt (putR (zeroAt (putR (zeroAt (putR (zeroAt (putR (zeroAt (putR (zeroAt (putR (zeroAt (putR (zeroAt (putR (zeroAt (putR (zeroAt (putR (zeroAt (putR (zeroAt (putR (zeroAt (putR (zeroAt (putR (zeroAt (putR (zeroAt (putR (zeroAt (putR (zeroAt (putI (putR (zeroAt (putR (zeroAt (putR (zeroAt (putR (zeroAt st 58) 57 2 (some 58)) 59) 57 3 (some 59)) 60) 57 4 (some 60)) 61) 57 5 (some 61)) 57 6 3) 62) 57 9 (some 62)) 63) 57 10 (some 63)) 64) 57 11 (some 64)) 65) 57 12 (some 65)) 66) 57 13 (some 66)) 67) 57 19 (some 67)) 68) 57 20 (some 68)) 69) 57 21 (some 69)) 70) 57 22 (some 70)) 71) 57 23 (some 71)) 72) 57 24 (some 72)) 73) 57 25 (some 73)) 74) 57 27 (some 74)) 75) 57 28 (some 75)) 76) 57 29 (some 76)) 77) 57 30 (some 77)) 78) 57 31 (some 78)) 79) 57 32 (some 79)) 80) 57 34 (some 80)) 81) 57 37 (some 81)) 82) 57 38 (some 82)) 83) 57 41 (some 83)) 84) 57 42 (some 84)) 85) 57 43 (some 85)) 86) 57 44 (some 86)) 87) 57 46 (some 87)) 88) 57 48 (some 88)) 89) Q
  refine s_dup dX8_init_264 rfl ?_
  refine s_iconst (v := 0) dX8_init_265 (by decide) ?_
  refine s_iconst (v := (-1)) dX8_init_266 (by decide) ?_
  refine s_iast (n := 6) dX8_init_267 rfl (by decide) (show vp_in 0 6 from by unfold vp_in; decide) ?_
  refine s_dup dX8_init_268 rfl ?_
  refine s_iconst (v := 1) dX8_init_269 (by decide) ?_
  refine s_iconst (v := (-1)) dX8_init_270 (by decide) ?_
  refine s_iast (n := 6) dX8_init_271 rfl (by decide) (show vp_in 1 6 from by unfold vp_in; decide) ?_
  refine s_dup dX8_init_272 rfl ?_
  refine s_iconst (v := 2) dX8_init_273 (by decide) ?_
  refine s_iconst (v := (-1)) dX8_init_274 (by decide) ?_
  refine s_iast (n := 6) dX8_init_275 rfl (by decide) (show vp_in 2 6 from by unfold vp_in; decide) ?_
  refine s_dup dX8_init_276 rfl ?_
  refine s_iconst (v := 3) dX8_init_277 (by decide) ?_
  refine s_iconst (v := (-1)) dX8_init_278 (by decide) ?_
  refine s_iast (n := 6) dX8_init_279 rfl (by decide) (show vp_in 3 6 from by unfold vp_in; decide) ?_
  refine s_dup dX8_init_280 rfl ?_
  refine s_iconst (v := 4) dX8_init_281 (by decide) ?_
  refine s_iconst (v := (-1)) dX8_init_282 (by decide) ?_
  refine s_iast (n := 6) dX8_init_283 rfl (by decide) (show vp_in 4 6 from by unfold vp_in; decide) ?_
  refine s_dup dX8_init_284 rfl ?_
  refine s_iconst (v := 5) dX8_init_285 (by decide) ?_
  refine s_iconst (v := (-1)) dX8_init_286 (by decide) ?_
  refine s_iast (n := 6) dX8_init_287 rfl (by decide) (show vp_in 5 6 from by unfold vp_in; decide) ?_
  refine s_putR dX8_init_288 fl_X8_109 (o := 57) rfl (by decide) rfl (Or.inr ⟨rfl, rfl, rfl, gw_at 974 (by decide +kernel) (by decide +kernel)⟩) ?_
  refine s_aload_n dX8_init_291 rfl rfl ?_
  refine s_bipush (v := 6) dX8_init_292 (by decide) ?_
  refine s_newa (c0 := 0) (n := 6) dX8_init_294 rfl (by decide) rfl arc_int (by decide) rfl (by decide) (by decide) ?_
  show Rn g (d + 1) 91 93 mX8_init 296 [some (.ref 57)] [.ref 90, .ref 57] (zeroAt (putR (putI (putI (putI (putI (putI (putI (zeroAt (putR (zeroAt (putR (zeroAt (putR (zeroAt (putR (zeroAt (putR (zeroAt (putR (zeroAt (putR (zeroAt (putR (zeroAt (putR (zeroAt (putR (zeroAt (putR (zeroAt (putR (zeroAt (putR (zeroAt (putR (zeroAt (putR (zeroAt (putR (zeroAt (putR (zeroAt (putR (zeroAt (putR (zeroAt (putR (zeroAt (putR (zeroAt (putR (zeroAt (putR (zeroAt (putR (zeroAt (putR (zeroAt (putR (zeroAt (putR (zeroAt (putI (putR (zeroAt (putR (zeroAt (putR (zeroAt (putR (zeroAt st 58) 57 2 (some 58)) 59) 57 3 (some 59)) 60) 57 4 (some 60)) 61) 57 5 (some 61)) 57 6 3) 62) 57 9 (some 62)) 63) 57 10 (some 63)) 64) 57 11 (some 64)) 65) 57 12 (some 65)) 66) 57 13 (some 66)) 67) 57 19 (some 67)) 68) 57 20 (some 68)) 69) 57 21 (some 69)) 70) 57 22 (some 70)) 71) 57 23 (some 71)) 72) 57 24 (some 72)) 73) 57 25 (some 73)) 74) 57 27 (some 74)) 75) 57 28 (some 75)) 76) 57 29 (some 76)) 77) 57 30 (some 77)) 78) 57 31 (some 78)) 79) 57 32 (some 79)) 80) 57 34 (some 80)) 81) 57 37 (some 81)) 82) 57 38 (some 82)) 83) 57 41 (some 83)) 84) 57 42 (some 84)) 85) 57 43 (some 85)) 86) 57 44 (some 86)) 87) 57 46 (some 87)) 88) 57 48 (some 88)) 89) 89 0 (-1)) 89 1 (-1)) 89 2 (-1)) 89 3 (-1)) 89 4 (-1)) 89 5 (-1)) 57 49 (some 89)) 90) Q
  refine s_putR dX8_init_296 fl_X8_112 (o := 57) rfl (by decide) rfl (Or.inr ⟨rfl, rfl, rfl, gw_at 975 (by decide +kernel) (by decide +kernel)⟩) ?_
  refine s_aload_n dX8_init_299 rfl rfl ?_
  refine s_sipush (v := 360) dX8_init_300 (by decide) ?_
  refine s_newl (n := 360) dX8_init_303 rfl arc_long (by decide) rfl (by decide) (by decide) ?_
  show Rn g (d + 1) 92 93 mX8_init 305 [some (.ref 57)] [.ref 91, .ref 57] (zeroAt (putR (zeroAt (putR (putI (putI (putI (putI (putI (putI (zeroAt (putR (zeroAt (putR (zeroAt (putR (zeroAt (putR (zeroAt (putR (zeroAt (putR (zeroAt (putR (zeroAt (putR (zeroAt (putR (zeroAt (putR (zeroAt (putR (zeroAt (putR (zeroAt (putR (zeroAt (putR (zeroAt (putR (zeroAt (putR (zeroAt (putR (zeroAt (putR (zeroAt (putR (zeroAt (putR (zeroAt (putR (zeroAt (putR (zeroAt (putR (zeroAt (putR (zeroAt (putR (zeroAt (putR (zeroAt (putR (zeroAt (putI (putR (zeroAt (putR (zeroAt (putR (zeroAt (putR (zeroAt st 58) 57 2 (some 58)) 59) 57 3 (some 59)) 60) 57 4 (some 60)) 61) 57 5 (some 61)) 57 6 3) 62) 57 9 (some 62)) 63) 57 10 (some 63)) 64) 57 11 (some 64)) 65) 57 12 (some 65)) 66) 57 13 (some 66)) 67) 57 19 (some 67)) 68) 57 20 (some 68)) 69) 57 21 (some 69)) 70) 57 22 (some 70)) 71) 57 23 (some 71)) 72) 57 24 (some 72)) 73) 57 25 (some 73)) 74) 57 27 (some 74)) 75) 57 28 (some 75)) 76) 57 29 (some 76)) 77) 57 30 (some 77)) 78) 57 31 (some 78)) 79) 57 32 (some 79)) 80) 57 34 (some 80)) 81) 57 37 (some 81)) 82) 57 38 (some 82)) 83) 57 41 (some 83)) 84) 57 42 (some 84)) 85) 57 43 (some 85)) 86) 57 44 (some 86)) 87) 57 46 (some 87)) 88) 57 48 (some 88)) 89) 89 0 (-1)) 89 1 (-1)) 89 2 (-1)) 89 3 (-1)) 89 4 (-1)) 89 5 (-1)) 57 49 (some 89)) 90) 57 50 (some 90)) 91) Q
  refine s_putR dX8_init_305 fl_X8_115 (o := 57) rfl (by decide) rfl (Or.inr ⟨rfl, rfl, rfl, gw_at 976 (by decide +kernel) (by decide +kernel)⟩) ?_
  refine s_aload_n dX8_init_308 rfl rfl ?_
  refine s_bipush (v := 60) dX8_init_309 (by decide) ?_
  refine s_newl (n := 60) dX8_init_311 rfl arc_long (by decide) rfl (by decide) (by decide) ?_
  show Rn g (d + 1) 93 93 mX8_init 313 [some (.ref 57)] [.ref 92, .ref 57] (zeroAt (putR (zeroAt (putR (zeroAt (putR (putI (putI (putI (putI (putI (putI (zeroAt (putR (zeroAt (putR (zeroAt (putR (zeroAt (putR (zeroAt (putR (zeroAt (putR (zeroAt (putR (zeroAt (putR (zeroAt (putR (zeroAt (putR (zeroAt (putR (zeroAt (putR (zeroAt (putR (zeroAt (putR (zeroAt (putR (zeroAt (putR (zeroAt (putR (zeroAt (putR (zeroAt (putR (zeroAt (putR (zeroAt (putR (zeroAt (putR (zeroAt (putR (zeroAt (putR (zeroAt (putR (zeroAt (putR (zeroAt (putR (zeroAt (putI (putR (zeroAt (putR (zeroAt (putR (zeroAt (putR (zeroAt st 58) 57 2 (some 58)) 59) 57 3 (some 59)) 60) 57 4 (some 60)) 61) 57 5 (some 61)) 57 6 3) 62) 57 9 (some 62)) 63) 57 10 (some 63)) 64) 57 11 (some 64)) 65) 57 12 (some 65)) 66) 57 13 (some 66)) 67) 57 19 (some 67)) 68) 57 20 (some 68)) 69) 57 21 (some 69)) 70) 57 22 (some 70)) 71) 57 23 (some 71)) 72) 57 24 (some 72)) 73) 57 25 (some 73)) 74) 57 27 (some 74)) 75) 57 28 (some 75)) 76) 57 29 (some 76)) 77) 57 30 (some 77)) 78) 57 31 (some 78)) 79) 57 32 (some 79)) 80) 57 34 (some 80)) 81) 57 37 (some 81)) 82) 57 38 (some 82)) 83) 57 41 (some 83)) 84) 57 42 (some 84)) 85) 57 43 (some 85)) 86) 57 44 (some 86)) 87) 57 46 (some 87)) 88) 57 48 (some 88)) 89) 89 0 (-1)) 89 1 (-1)) 89 2 (-1)) 89 3 (-1)) 89 4 (-1)) 89 5 (-1)) 57 49 (some 89)) 90) 57 50 (some 90)) 91) 57 51 (some 91)) 92) Q
  refine s_putR dX8_init_313 fl_X8_119 (o := 57) rfl (by decide) rfl (Or.inr ⟨rfl, rfl, rfl, gw_at 977 (by decide +kernel) (by decide +kernel)⟩) ?_
  exact s_vret dX8_init_316 rfl h
-- depths: 3 1
section BOOT
def st0 : St := (fun _ _ => 0, fun _ _ => 0, fun _ _ => none)
def I0 (o : Nat) : Nat → Int32 := match o with
  | 1 => upd (fun _ => 0) 1 3
  | 5 => upd (fun _ => 0) 1 3
  | 9 => upd (fun _ => 0) 1 3
  | 17 => upd (fun _ => 0) 1 3
  | 45 => upd (fun _ => 0) 0 (-2)
  | 47 => upd (fun _ => 0) 0 (-2)
  | 49 => upd (fun _ => 0) 0 (-2)
  | 51 => upd (fun _ => 0) 0 (-2)
  | 53 => upd (fun _ => 0) 0 (-2)
  | 55 => upd (fun _ => 0) 0 (-2)
  | 57 => upd (fun _ => 0) 6 3
  | 89 => upd (upd (upd (upd (upd (upd (fun _ => 0) 0 (-1)) 1 (-1)) 2 (-1)) 3 (-1)) 4 (-1)) 5 (-1)
  | _ => fun _ => 0
def t0 : Tt := (I0, fun _ _ => 0, 40, 35)
theorem Rn.cg {g : Gt} {d z zf : Nat} {M : Mt} {pc : Nat} {L : List (Option Value)} {S : List Value} {st st' : St} {Q : Option Value → St → Prop} (hc : ∀ o, o < z → cellE g st o (kd o) = cellE g st' o (kd o)) (h : Rn g d z zf M pc L S st' Q) : Rn g d z zf M pc L S st Q := by
  intro p e R s m args below meth c H locs cells slots Q0 ls C E hl hr hk
  have e1 : wsO g z st = wsO g z st' := by
    unfold wsO
    apply List.map_congr_left
    intro o ho
    rw [hc o (List.mem_range.mp ho)]
  exact h p e R s m args below meth c H locs cells slots Q0 ls C ⟨by rw [← e1]; exact E.1, E.2⟩ hl hr hk
def sEnd : St := sI_57 (zeroAt (sI_0 (zeroAt st0 0)) 57)
set_option maxRecDepth 100000 in
theorem sEnd_I : ∀ o, o < 93 → sEnd.1 o = t0.1 o := by
  intro o ho
  match o, ho with
  | 0, _ => rfl
  | 1, _ => rfl
  | 2, _ => rfl
  | 3, _ => rfl
  | 4, _ => rfl
  | 5, _ => rfl
  | 6, _ => rfl
  | 7, _ => rfl
  | 8, _ => rfl
  | 9, _ => rfl
  | 10, _ => rfl
  | 11, _ => rfl
  | 12, _ => rfl
  | 13, _ => rfl
  | 14, _ => rfl
  | 15, _ => rfl
  | 16, _ => rfl
  | 17, _ => rfl
  | 18, _ => rfl
  | 19, _ => rfl
  | 20, _ => rfl
  | 21, _ => rfl
  | 22, _ => rfl
  | 23, _ => rfl
  | 24, _ => rfl
  | 25, _ => rfl
  | 26, _ => rfl
  | 27, _ => rfl
  | 28, _ => rfl
  | 29, _ => rfl
  | 30, _ => rfl
  | 31, _ => rfl
  | 32, _ => rfl
  | 33, _ => rfl
  | 34, _ => rfl
  | 35, _ => rfl
  | 36, _ => rfl
  | 37, _ => rfl
  | 38, _ => rfl
  | 39, _ => rfl
  | 40, _ => rfl
  | 41, _ => rfl
  | 42, _ => rfl
  | 43, _ => rfl
  | 44, _ => rfl
  | 45, _ => rfl
  | 46, _ => rfl
  | 47, _ => rfl
  | 48, _ => rfl
  | 49, _ => rfl
  | 50, _ => rfl
  | 51, _ => rfl
  | 52, _ => rfl
  | 53, _ => rfl
  | 54, _ => rfl
  | 55, _ => rfl
  | 56, _ => rfl
  | 57, _ => rfl
  | 58, _ => rfl
  | 59, _ => rfl
  | 60, _ => rfl
  | 61, _ => rfl
  | 62, _ => rfl
  | 63, _ => rfl
  | 64, _ => rfl
  | 65, _ => rfl
  | 66, _ => rfl
  | 67, _ => rfl
  | 68, _ => rfl
  | 69, _ => rfl
  | 70, _ => rfl
  | 71, _ => rfl
  | 72, _ => rfl
  | 73, _ => rfl
  | 74, _ => rfl
  | 75, _ => rfl
  | 76, _ => rfl
  | 77, _ => rfl
  | 78, _ => rfl
  | 79, _ => rfl
  | 80, _ => rfl
  | 81, _ => rfl
  | 82, _ => rfl
  | 83, _ => rfl
  | 84, _ => rfl
  | 85, _ => rfl
  | 86, _ => rfl
  | 87, _ => rfl
  | 88, _ => rfl
  | 89, _ => rfl
  | 90, _ => rfl
  | 91, _ => rfl
  | 92, _ => rfl
  | n + 93, h => exact absurd h (by omega)
set_option maxRecDepth 100000 in
theorem sEnd_J : ∀ o, o < 93 → sEnd.2.1 o = t0.2.1 o := by
  intro o ho
  match o, ho with
  | 0, _ => rfl
  | 1, _ => rfl
  | 2, _ => rfl
  | 3, _ => rfl
  | 4, _ => rfl
  | 5, _ => rfl
  | 6, _ => rfl
  | 7, _ => rfl
  | 8, _ => rfl
  | 9, _ => rfl
  | 10, _ => rfl
  | 11, _ => rfl
  | 12, _ => rfl
  | 13, _ => rfl
  | 14, _ => rfl
  | 15, _ => rfl
  | 16, _ => rfl
  | 17, _ => rfl
  | 18, _ => rfl
  | 19, _ => rfl
  | 20, _ => rfl
  | 21, _ => rfl
  | 22, _ => rfl
  | 23, _ => rfl
  | 24, _ => rfl
  | 25, _ => rfl
  | 26, _ => rfl
  | 27, _ => rfl
  | 28, _ => rfl
  | 29, _ => rfl
  | 30, _ => rfl
  | 31, _ => rfl
  | 32, _ => rfl
  | 33, _ => rfl
  | 34, _ => rfl
  | 35, _ => rfl
  | 36, _ => rfl
  | 37, _ => rfl
  | 38, _ => rfl
  | 39, _ => rfl
  | 40, _ => rfl
  | 41, _ => rfl
  | 42, _ => rfl
  | 43, _ => rfl
  | 44, _ => rfl
  | 45, _ => rfl
  | 46, _ => rfl
  | 47, _ => rfl
  | 48, _ => rfl
  | 49, _ => rfl
  | 50, _ => rfl
  | 51, _ => rfl
  | 52, _ => rfl
  | 53, _ => rfl
  | 54, _ => rfl
  | 55, _ => rfl
  | 56, _ => rfl
  | 57, _ => rfl
  | 58, _ => rfl
  | 59, _ => rfl
  | 60, _ => rfl
  | 61, _ => rfl
  | 62, _ => rfl
  | 63, _ => rfl
  | 64, _ => rfl
  | 65, _ => rfl
  | 66, _ => rfl
  | 67, _ => rfl
  | 68, _ => rfl
  | 69, _ => rfl
  | 70, _ => rfl
  | 71, _ => rfl
  | 72, _ => rfl
  | 73, _ => rfl
  | 74, _ => rfl
  | 75, _ => rfl
  | 76, _ => rfl
  | 77, _ => rfl
  | 78, _ => rfl
  | 79, _ => rfl
  | 80, _ => rfl
  | 81, _ => rfl
  | 82, _ => rfl
  | 83, _ => rfl
  | 84, _ => rfl
  | 85, _ => rfl
  | 86, _ => rfl
  | 87, _ => rfl
  | 88, _ => rfl
  | 89, _ => rfl
  | 90, _ => rfl
  | 91, _ => rfl
  | 92, _ => rfl
  | n + 93, h => exact absurd h (by omega)
theorem fV_cg {g : Gt} {st st' : St} {o ci j : Nat} (h1 : st.1 o = st'.1 o) (h2 : isRf (fTy ci j) = true → st.2.2 o j = st'.2.2 o j) : fVal g st o ci j = fVal g st' o ci j := by
  unfold fVal
  by_cases h : isRf (fTy ci j) = true
  · rw [if_pos h, if_pos h, h2 h]
  · rw [if_neg h, if_neg h, h1]
set_option maxRecDepth 100000 in
theorem sEnd_R : ∀ o, o < 93 → (kd o).1 = 0 → ∀ j, j < (kd o).2.2 → isRf (fTy (kd o).2.1 j) = true → sEnd.2.2 o j = (up t0).2.2 o j := by
  decide +kernel
set_option maxRecDepth 100000 in
theorem sEnd_Q : ∀ j, sEnd.2.2 30 j = (up t0).2.2 30 j := by
  intro j
  match j with
  | 0 => rfl
  | 1 => rfl
  | 2 => rfl
  | 3 => rfl
  | 4 => rfl
  | 5 => rfl
  | n + 6 =>
    show va_up (va_up (va_up (va_up (va_up (va_up (fun _ => none) 0 (some 45)) 1 (some 47)) 2 (some 49)) 3 (some 51)) 4 (some 53)) 5 (some 55) (n + 6) = none
    simp [va_up]
theorem kd3 : ∀ o, o < 93 → (kd o).1 = 3 → o = 30 ∧ (kd o).2.2 = 6 := by decide +kernel
theorem kd4 : ∀ o, o < 93 → (kd o).1 < 4 := by decide +kernel
theorem sEnd_cell (g : Gt) : ∀ o, o < 93 → cellE g sEnd o (kd o) = cellE g (up t0) o (kd o) := by
  intro o ho
  have h1 : sEnd.1 o = (up t0).1 o := sEnd_I o ho
  have h2 : sEnd.2.1 o = (up t0).2.1 o := sEnd_J o ho
  have h3 := sEnd_R o ho
  have h4 := kd3 o ho
  have h5 := kd4 o ho
  rcases hk : kd o with ⟨a, b, c⟩
  rw [hk] at h3 h4 h5
  dsimp only at h3 h4 h5
  rcases (show a = 0 ∨ a = 1 ∨ a = 2 ∨ a = 3 by omega) with rfl | rfl | rfl | rfl
  · show Sum.inr (b, (List.range c).map (fVal g sEnd o b)) = Sum.inr (b, (List.range c).map (fVal g (up t0) o b))
    have : (List.range c).map (fVal g sEnd o b) = (List.range c).map (fVal g (up t0) o b) := by
      apply List.map_congr_left
      intro j hj
      exact fV_cg h1 (fun q => h3 rfl j (List.mem_range.mp hj) q)
    rw [this]
  · show Sum.inl (gA g b, c, Sum.inl (sEnd.1 o)) = Sum.inl (gA g b, c, Sum.inl ((up t0).1 o))
    rw [h1]
  · show Sum.inl (gA g 3, c, Sum.inr (Sum.inl (sEnd.2.1 o))) = Sum.inl (gA g 3, c, Sum.inr (Sum.inl ((up t0).2.1 o)))
    rw [h2]
  · obtain ⟨rfl, -⟩ := h4 rfl
    have : sEnd.2.2 30 = (up t0).2.2 30 := funext sEnd_Q
    show Sum.inl (gA g 4, c, Sum.inr (Sum.inr (Sum.inr (Sum.inr (fun j => (sEnd.2.2 30 j).map (ad g)))))) = Sum.inl (gA g 4, c, Sum.inr (Sum.inr (Sum.inr (Sum.inr (fun j => ((up t0).2.2 30 j).map (ad g))))))
    rw [this]
/-- the law's two constructions -/
theorem law_boot {g : Gt} {d : Nat} {Q : Option Value → Tt → Prop} (h : Rt g (d + 4) mL_law 18 [some (.ref 1000), some (.ref 0), some (.ref 57), some (.int 0)] [] t0 Q) : Rn g (d + 4) 0 93 mL_law 0 [some (.ref 1000), none, none, none] [] st0 (QT Q) := by
  refine s_new (ci := 7) (n := 13) dL_law_0 rfl ck_L_7 nst_7 ini_RX7 (by decide) ?_
  refine s_dup dL_law_3 rfl ?_
  refine s_callI (M' := mX7_init) (k := 1) (z1 := 57) (As := []) (rest := [.ref 0]) dL_law_4 ml_L_9 miX7_init rfl rfl (o := 0) rfl (by decide) rfl (Nat.le_of_ble_eq_true rfl) (by decide) (by decide) (Nat.le_of_ble_eq_true rfl) (ci_0 (d := d) ?_)
  show Rn g (d + 4) 57 93 mL_law 7 [some (.ref 1000), none, none, none] [.ref 0] (sI_0 (zeroAt st0 0)) (QT Q)
  refine s_astore_n dL_law_7 rfl (by decide) rfl (L9 := [some (.ref 1000), some (.ref 0), none, none]) rfl ?_
  refine s_new (ci := 8) (n := 53) dL_law_8 rfl ck_L_10 nst_8 ini_RX8 (by decide) ?_
  refine s_dup dL_law_11 rfl ?_
  refine s_callI (M' := mX8_init) (k := 0) (z1 := 93) (As := []) (rest := [.ref 57]) dL_law_12 ml_L_12 miX8_init rfl rfl (o := 57) rfl (by decide) rfl (Nat.le_of_ble_eq_true rfl) (by decide) (by decide) (Nat.le_of_ble_eq_true rfl) (ci_57 (d := d + 2) ?_)
  show Rn g (d + 4) 93 93 mL_law 15 [some (.ref 1000), some (.ref 0), none, none] [.ref 57] sEnd (QT Q)
  refine Rn.cg (sEnd_cell g) ?_
  refine s_astore_n dL_law_15 rfl (by decide) rfl (L9 := [some (.ref 1000), some (.ref 0), some (.ref 57), none]) rfl ?_
  refine s_iconst (v := 0) dL_law_16 (by decide) ?_
  refine s_istore_n dL_law_17 rfl (by decide) rfl (L9 := [some (.ref 1000), some (.ref 0), some (.ref 57), some (.int 0)]) rfl ?_
  exact h
end BOOT
