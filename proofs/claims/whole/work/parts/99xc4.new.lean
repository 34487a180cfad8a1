def w_Mo (μ : Mem) : Mem := sI (sI (sI (sI (sI (sI (sI (sI (sI (sI (sI (sI (sI (sI (sI (sI μ 140 1 1) 140 2 1) 140 3 1) 140 4 1) 140 5 1) 140 10 1) 140 13 1) 140 19 (-1)) 140 20 1) 140 22 1) 140 23 1) 140 24 1) 140 25 1) 140 26 1) 141 (nx (6 : Int32)) 2) 141 (nx (8 : Int32)) 1
set_option maxRecDepth 100000 in
set_option maxHeartbeats 4000000 in
theorem k_Mo {g : Gl} {μ : Mem} (hG : GL g) : SpN g i_N_Mo 0 [.ref 140] 141 μ 154 (w_Mo μ) := by
  refine SpN.intro o_N_Mo rfl (Nat.le_of_ble_eq_true rfl) ?_
  refine wn_aload_n (i := 0) (a := 140) rfl (by decide +kernel) ?_
  refine wn_obj (idx := 7) (tb_of (i := 17067) (by decide +kernel)) tb_oi1 tb_oi2 (Nat.le_of_ble_eq_true rfl) (Nat.le_of_ble_eq_true rfl) (Nat.le_of_ble_eq_true rfl) (by decide +kernel) ?_
  refine wn_aload_n (i := 0) (a := 140) rfl (by decide +kernel) ?_
  refine wn_sipush (v := 2713) (x := (2713 : Int32)) (by decide) (by decide +kernel) ?_
  refine wn_newa (t := 0) (N := 2713) hG (by first | omega | decide) (by decide) (by decide +kernel) (tb_of (i := 11153) (by decide +kernel)) (by decide) (by decide +kernel) (Nat.le_of_ble_eq_true rfl) (Nat.le_of_ble_eq_true rfl) (Nat.le_of_ble_eq_true rfl) (by decide +kernel) ?_
  refine wn_putR (idx := 13) (ci := 11) (j := 1) (pl := 17070) hG rfl (by decide +kernel) (by decide +kernel) (by first | omega | decide) (by decide +kernel) (by first | omega | decide) (by decide +kernel) (by decide +kernel) ?_
  refine wn_aload_n (i := 0) (a := 140) rfl (by decide +kernel) ?_
  refine wn_sipush (v := 1864) (x := (1864 : Int32)) (by decide) (by decide +kernel) ?_
  refine wn_newa (t := 0) (N := 1864) hG (by first | omega | decide) (by decide) (by decide +kernel) (tb_of (i := 11153) (by decide +kernel)) (by decide) (by decide +kernel) (Nat.le_of_ble_eq_true rfl) (Nat.le_of_ble_eq_true rfl) (Nat.le_of_ble_eq_true rfl) (by decide +kernel) ?_
  refine wn_putR (idx := 17) (ci := 11) (j := 2) (pl := 17071) hG rfl (by decide +kernel) (by decide +kernel) (by first | omega | decide) (by decide +kernel) (by first | omega | decide) (by decide +kernel) (by decide +kernel) ?_
  refine wn_aload_n (i := 0) (a := 140) rfl (by decide +kernel) ?_
  refine wn_sipush (v := 1864) (x := (1864 : Int32)) (by decide) (by decide +kernel) ?_
  refine wn_newa (t := 0) (N := 1864) hG (by first | omega | decide) (by decide) (by decide +kernel) (tb_of (i := 11153) (by decide +kernel)) (by decide) (by decide +kernel) (Nat.le_of_ble_eq_true rfl) (Nat.le_of_ble_eq_true rfl) (Nat.le_of_ble_eq_true rfl) (by decide +kernel) ?_
  refine wn_putR (idx := 20) (ci := 11) (j := 3) (pl := 17072) hG rfl (by decide +kernel) (by decide +kernel) (by first | omega | decide) (by decide +kernel) (by first | omega | decide) (by decide +kernel) (by decide +kernel) ?_
  refine wn_aload_n (i := 0) (a := 140) rfl (by decide +kernel) ?_
  refine wn_sipush (v := 1015) (x := (1015 : Int32)) (by decide) (by decide +kernel) ?_
  refine wn_newa (t := 0) (N := 1015) hG (by first | omega | decide) (by decide) (by decide +kernel) (tb_of (i := 11153) (by decide +kernel)) (by decide) (by decide +kernel) (Nat.le_of_ble_eq_true rfl) (Nat.le_of_ble_eq_true rfl) (Nat.le_of_ble_eq_true rfl) (by decide +kernel) ?_
  refine wn_putR (idx := 23) (ci := 11) (j := 4) (pl := 17073) hG rfl (by decide +kernel) (by decide +kernel) (by first | omega | decide) (by decide +kernel) (by first | omega | decide) (by decide +kernel) (by decide +kernel) ?_
  refine wn_aload_n (i := 0) (a := 140) rfl (by decide +kernel) ?_
  refine wn_sipush (v := 12180) (x := (12180 : Int32)) (by decide) (by decide +kernel) ?_
  refine wn_newa (t := 0) (N := 12180) hG (by first | omega | decide) (by decide) (by decide +kernel) (tb_of (i := 11153) (by decide +kernel)) (by decide) (by decide +kernel) (Nat.le_of_ble_eq_true rfl) (Nat.le_of_ble_eq_true rfl) (Nat.le_of_ble_eq_true rfl) (by decide +kernel) ?_
  refine wn_putR (idx := 26) (ci := 11) (j := 5) (pl := 17074) hG rfl (by decide +kernel) (by decide +kernel) (by first | omega | decide) (by decide +kernel) (by first | omega | decide) (by decide +kernel) (by decide +kernel) ?_
  refine wn_aload_n (i := 0) (a := 140) rfl (by decide +kernel) ?_
  refine wn_bipush (v := 12) (x := (12 : Int32)) (by decide) (by decide +kernel) ?_
  refine wn_newa (t := 1) (N := 12) hG (by first | omega | decide) (by decide) (by decide +kernel) (tb_of (i := 12040) (by decide +kernel)) (by decide) (by decide +kernel) (Nat.le_of_ble_eq_true rfl) (Nat.le_of_ble_eq_true rfl) (Nat.le_of_ble_eq_true rfl) (by decide +kernel) ?_
  refine wn_putR (idx := 29) (ci := 11) (j := 10) (pl := 17079) hG rfl (by decide +kernel) (by decide +kernel) (by first | omega | decide) (by decide +kernel) (by first | omega | decide) (by decide +kernel) (by decide +kernel) ?_
  refine wn_aload_n (i := 0) (a := 140) rfl (by decide +kernel) ?_
  refine wn_sipush (v := 400) (x := (400 : Int32)) (by decide) (by decide +kernel) ?_
  refine wn_newa (t := 2) (N := 400) hG (by first | omega | decide) (by decide) (by decide +kernel) (tb_of (i := 11074) (by decide +kernel)) (by decide) (by decide +kernel) (Nat.le_of_ble_eq_true rfl) (Nat.le_of_ble_eq_true rfl) (Nat.le_of_ble_eq_true rfl) (by decide +kernel) ?_
  refine wn_putR (idx := 33) (ci := 11) (j := 13) (pl := 17082) hG rfl (by decide +kernel) (by decide +kernel) (by first | omega | decide) (by decide +kernel) (by first | omega | decide) (by decide +kernel) (by decide +kernel) ?_
  refine wn_aload_n (i := 0) (a := 140) rfl (by decide +kernel) ?_
  refine wn_iconst (v := (-1)) (x := (-1 : Int32)) (by decide) (by decide +kernel) ?_
  refine wn_putI (idx := 37) (ci := 11) (j := 19) (pl := 17088) hG (by decide +kernel) (by decide +kernel) (by first | omega | decide) (by decide +kernel) (by decide +kernel) ?_
  refine wn_aload_n (i := 0) (a := 140) rfl (by decide +kernel) ?_
  refine wn_iconst (v := 5) (x := (5 : Int32)) (by decide) (by decide +kernel) ?_
  refine wn_newa (t := 0) (N := 5) hG (by first | omega | decide) (by decide) (by decide +kernel) (tb_of (i := 11153) (by decide +kernel)) (by decide) (by decide +kernel) (Nat.le_of_ble_eq_true rfl) (Nat.le_of_ble_eq_true rfl) (Nat.le_of_ble_eq_true rfl) (by decide +kernel) ?_
  refine wn_putR (idx := 40) (ci := 11) (j := 20) (pl := 17089) hG rfl (by decide +kernel) (by decide +kernel) (by first | omega | decide) (by decide +kernel) (by first | omega | decide) (by decide +kernel) (by decide +kernel) ?_
  refine wn_aload_n (i := 0) (a := 140) rfl (by decide +kernel) ?_
  refine wn_sipush (v := 400) (x := (400 : Int32)) (by decide) (by decide +kernel) ?_
  refine wn_newa (t := 0) (N := 400) hG (by first | omega | decide) (by decide) (by decide +kernel) (tb_of (i := 11153) (by decide +kernel)) (by decide) (by decide +kernel) (Nat.le_of_ble_eq_true rfl) (Nat.le_of_ble_eq_true rfl) (Nat.le_of_ble_eq_true rfl) (by decide +kernel) ?_
  refine wn_putR (idx := 43) (ci := 11) (j := 22) (pl := 17091) hG rfl (by decide +kernel) (by decide +kernel) (by first | omega | decide) (by decide +kernel) (by first | omega | decide) (by decide +kernel) (by decide +kernel) ?_
  refine wn_aload_n (i := 0) (a := 140) rfl (by decide +kernel) ?_
  refine wn_bipush (v := 10) (x := (10 : Int32)) (by decide) (by decide +kernel) ?_
  refine wn_newa (t := 0) (N := 10) hG (by first | omega | decide) (by decide) (by decide +kernel) (tb_of (i := 11153) (by decide +kernel)) (by decide) (by decide +kernel) (Nat.le_of_ble_eq_true rfl) (Nat.le_of_ble_eq_true rfl) (Nat.le_of_ble_eq_true rfl) (by decide +kernel) ?_
  refine wn_putR (idx := 46) (ci := 11) (j := 23) (pl := 17092) hG rfl (by decide +kernel) (by decide +kernel) (by first | omega | decide) (by decide +kernel) (by first | omega | decide) (by decide +kernel) (by decide +kernel) ?_
  refine wn_aload_n (i := 0) (a := 140) rfl (by decide +kernel) ?_
  refine wn_bipush (v := 60) (x := (60 : Int32)) (by decide) (by decide +kernel) ?_
  refine wn_newa (t := 0) (N := 60) hG (by first | omega | decide) (by decide) (by decide +kernel) (tb_of (i := 11153) (by decide +kernel)) (by decide) (by decide +kernel) (Nat.le_of_ble_eq_true rfl) (Nat.le_of_ble_eq_true rfl) (Nat.le_of_ble_eq_true rfl) (by decide +kernel) ?_
  refine wn_putR (idx := 49) (ci := 11) (j := 24) (pl := 17093) hG rfl (by decide +kernel) (by decide +kernel) (by first | omega | decide) (by decide +kernel) (by first | omega | decide) (by decide +kernel) (by decide +kernel) ?_
  refine wn_aload_n (i := 0) (a := 140) rfl (by decide +kernel) ?_
  refine wn_ldc (idx := 52) (pl := 17068) (v := (65536 : Int32)) (by decide +kernel) (by decide +kernel) ?_
  refine wn_newa (t := 2) (N := 65536) hG (by first | omega | decide) (by decide) (by decide +kernel) (tb_of (i := 11074) (by decide +kernel)) (by decide) (by decide +kernel) (Nat.le_of_ble_eq_true rfl) (Nat.le_of_ble_eq_true rfl) (Nat.le_of_ble_eq_true rfl) (by decide +kernel) ?_
  refine wn_putR (idx := 53) (ci := 11) (j := 25) (pl := 17094) hG rfl (by decide +kernel) (by decide +kernel) (by first | omega | decide) (by decide +kernel) (by first | omega | decide) (by decide +kernel) (by decide +kernel) ?_
  refine wn_aload_n (i := 0) (a := 140) rfl (by decide +kernel) ?_
  refine wn_bipush (v := 10) (x := (10 : Int32)) (by decide) (by decide +kernel) ?_
  refine wn_newa (t := 0) (N := 10) hG (by first | omega | decide) (by decide) (by decide +kernel) (tb_of (i := 11153) (by decide +kernel)) (by decide) (by decide +kernel) (Nat.le_of_ble_eq_true rfl) (Nat.le_of_ble_eq_true rfl) (Nat.le_of_ble_eq_true rfl) (by decide +kernel) ?_
  refine wn_putR (idx := 56) (ci := 11) (j := 26) (pl := 17095) hG rfl (by decide +kernel) (by decide +kernel) (by first | omega | decide) (by decide +kernel) (by first | omega | decide) (by decide +kernel) (by decide +kernel) ?_
  refine wn_aload_n (i := 0) (a := 140) rfl (by decide +kernel) ?_
  refine wn_getR (idx := 13) (ci := 11) (j := 1) (pl := 17070) (v := 141) (by decide +kernel) (by decide +kernel) (by first | omega | decide) (by decide +kernel) (by first | omega | decide) (by decide +kernel) rfl (by decide +kernel) ?_
  refine wn_bipush (v := 6) (x := (6 : Int32)) (by decide) (by decide +kernel) ?_
  refine wn_iconst (v := 2) (x := (2 : Int32)) (by decide) (by decide +kernel) ?_
  refine wn_iast (k := 141) (N := 2713) (i := (6 : Int32)) (x := (2 : Int32)) hG (by first | omega | decide) (by decide +kernel) (by unfold vp_in; decide) (by decide +kernel) ?_
  refine wn_aload_n (i := 0) (a := 140) rfl (by decide +kernel) ?_
  refine wn_getR (idx := 13) (ci := 11) (j := 1) (pl := 17070) (v := 141) (by decide +kernel) (by decide +kernel) (by first | omega | decide) (by decide +kernel) (by first | omega | decide) (by decide +kernel) rfl (by decide +kernel) ?_
  refine wn_bipush (v := 8) (x := (8 : Int32)) (by decide) (by decide +kernel) ?_
  refine wn_iconst (v := 1) (x := (1 : Int32)) (by decide) (by decide +kernel) ?_
  refine wn_iast (k := 141) (N := 2713) (i := (8 : Int32)) (x := (1 : Int32)) hG (by first | omega | decide) (by decide +kernel) (by unfold vp_in; decide) (by decide +kernel) ?_
  exact wn_ret rfl rfl rfl (Nat.le_of_ble_eq_true rfl) (Nat.le_of_ble_eq_true rfl) (by decide +kernel)
