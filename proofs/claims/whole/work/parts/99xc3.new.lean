def w_Pl (μ : Mem) : Mem := sI (sI (sI μ 65 1 1) 65 2 1) 65 0 1
set_option maxRecDepth 100000 in
set_option maxHeartbeats 4000000 in
theorem k_Pl {g : Gl} {μ : Mem} (hG : GL g) : SpN g i_N_Pl 0 [.ref 65, .ref 3] 66 μ 68 (w_Pl μ) := by
  refine SpN.intro o_N_Pl rfl (Nat.le_of_ble_eq_true rfl) ?_
  refine wn_aload_n (i := 0) (a := 65) rfl (by decide +kernel) ?_
  refine wn_obj (idx := 3) (tb_of (i := 12075) (by decide +kernel)) tb_oi1 tb_oi2 (Nat.le_of_ble_eq_true rfl) (Nat.le_of_ble_eq_true rfl) (Nat.le_of_ble_eq_true rfl) (by decide +kernel) ?_
  refine wn_aload_n (i := 0) (a := 65) rfl (by decide +kernel) ?_
  refine wn_bipush (v := 60) (x := (60 : Int32)) (by decide) (by decide +kernel) ?_
  refine wn_newa (t := 0) (N := 60) hG (by first | omega | decide) (by decide) (by decide +kernel) (tb_of (i := 11153) (by decide +kernel)) (by decide) (by decide +kernel) (Nat.le_of_ble_eq_true rfl) (Nat.le_of_ble_eq_true rfl) (Nat.le_of_ble_eq_true rfl) (by decide +kernel) ?_
  refine wn_putR (idx := 9) (ci := 3) (j := 1) (pl := 12077) hG rfl (by decide +kernel) (by decide +kernel) (by first | omega | decide) (by decide +kernel) (by first | omega | decide) (by decide +kernel) (by decide +kernel) ?_
  refine wn_aload_n (i := 0) (a := 65) rfl (by decide +kernel) ?_
  refine wn_sipush (v := 1024) (x := (1024 : Int32)) (by decide) (by decide +kernel) ?_
  refine wn_newa (t := 1) (N := 1024) hG (by first | omega | decide) (by decide) (by decide +kernel) (tb_of (i := 12040) (by decide +kernel)) (by decide) (by decide +kernel) (Nat.le_of_ble_eq_true rfl) (Nat.le_of_ble_eq_true rfl) (Nat.le_of_ble_eq_true rfl) (by decide +kernel) ?_
  refine wn_putR (idx := 15) (ci := 3) (j := 2) (pl := 12078) hG rfl (by decide +kernel) (by decide +kernel) (by first | omega | decide) (by decide +kernel) (by first | omega | decide) (by decide +kernel) (by decide +kernel) ?_
  refine wn_aload_n (i := 0) (a := 65) rfl (by decide +kernel) ?_
  refine wn_aload_n (i := 1) (a := 3) rfl (by decide +kernel) ?_
  refine wn_putR (idx := 19) (ci := 3) (j := 0) (pl := 12076) hG rfl (by decide +kernel) (by decide +kernel) (by first | omega | decide) (by decide +kernel) (by first | omega | decide) (by decide +kernel) (by decide +kernel) ?_
  exact wn_ret rfl rfl rfl (Nat.le_of_ble_eq_true rfl) (Nat.le_of_ble_eq_true rfl) (by decide +kernel)
def w_Se (μ : Mem) : Mem := sI (sI μ 68 1 1) 68 0 1
set_option maxRecDepth 100000 in
set_option maxHeartbeats 4000000 in
theorem k_Se {g : Gl} {μ : Mem} (hG : GL g) : SpN g i_N_Se 0 [.ref 68, .ref 3] 69 μ 70 (w_Se μ) := by
  refine SpN.intro o_N_Se rfl (Nat.le_of_ble_eq_true rfl) ?_
  refine wn_aload_n (i := 0) (a := 68) rfl (by decide +kernel) ?_
  refine wn_obj (idx := 3) (tb_of (i := 12100) (by decide +kernel)) tb_oi1 tb_oi2 (Nat.le_of_ble_eq_true rfl) (Nat.le_of_ble_eq_true rfl) (Nat.le_of_ble_eq_true rfl) (by decide +kernel) ?_
  refine wn_aload_n (i := 0) (a := 68) rfl (by decide +kernel) ?_
  refine wn_bipush (v := 10) (x := (10 : Int32)) (by decide) (by decide +kernel) ?_
  refine wn_newa (t := 0) (N := 10) hG (by first | omega | decide) (by decide) (by decide +kernel) (tb_of (i := 11153) (by decide +kernel)) (by decide) (by decide +kernel) (Nat.le_of_ble_eq_true rfl) (Nat.le_of_ble_eq_true rfl) (Nat.le_of_ble_eq_true rfl) (by decide +kernel) ?_
  refine wn_putR (idx := 9) (ci := 6) (j := 1) (pl := 12102) hG rfl (by decide +kernel) (by decide +kernel) (by first | omega | decide) (by decide +kernel) (by first | omega | decide) (by decide +kernel) (by decide +kernel) ?_
  refine wn_aload_n (i := 0) (a := 68) rfl (by decide +kernel) ?_
  refine wn_aload_n (i := 1) (a := 3) rfl (by decide +kernel) ?_
  refine wn_putR (idx := 15) (ci := 6) (j := 0) (pl := 12101) hG rfl (by decide +kernel) (by decide +kernel) (by first | omega | decide) (by decide +kernel) (by first | omega | decide) (by decide +kernel) (by decide +kernel) ?_
  exact wn_ret rfl rfl rfl (Nat.le_of_ble_eq_true rfl) (Nat.le_of_ble_eq_true rfl) (by decide +kernel)
def w_SchR (μ : Mem) : Mem := sI (w_Sta 78 (sI (w_Set 71 (sI μ 70 0 1)) 70 1 1)) 70 2 1
set_option maxRecDepth 100000 in
set_option maxHeartbeats 4000000 in
theorem k_SchR {g : Gl} {μ : Mem} (hG : GL g) : SpN g i_N_SchR 0 [.ref 70, .ref 1] 71 μ 82 (w_SchR μ) := by
  refine SpN.intro o_N_SchR rfl (Nat.le_of_ble_eq_true rfl) ?_
  refine wn_aload_n (i := 0) (a := 70) rfl (by decide +kernel) ?_
  refine wn_aload_n (i := 1) (a := 1) rfl (by decide +kernel) ?_
  refine wn_call (idx := 3) (dx := 0) (cnt := 1) (k := 70) (As := [.ref 1]) (st := []) (n' := 71) rfl o_N_LineR rfl rfl rfl (Or.inl (tb_of (i := 12113) (by decide +kernel))) (tb_of (i := 12114) (by decide +kernel)) (tb_of (i := 11010) (by decide +kernel)) rfl (Nat.le_of_ble_eq_true rfl) ⟨(Nat.le_of_ble_eq_true rfl), (Nat.le_of_ble_eq_true rfl), (Nat.le_of_ble_eq_true rfl), (Nat.le_of_ble_eq_true rfl)⟩ (by decide +kernel) (k_LineR5 hG (by first | omega | decide)) ?_
  refine wn_aload_n (i := 0) (a := 70) rfl (by decide +kernel) ?_
  refine wn_new (idx := 9) (ci := 7) (r := ("SaidOnce$Setup", cT7, 11)) hG (by first | omega | decide) (by decide +kernel) rfl (tb_of (i := 12117) (by decide +kernel)) (tb_of (i := 11082) (by decide +kernel)) (tb_of (i := 11004) (by decide +kernel)) (Nat.le_of_ble_eq_true rfl) (Nat.le_of_ble_eq_true rfl) (by decide +kernel) ?_
  refine wn_dup rfl (by decide +kernel) ?_
  refine wn_call (idx := 11) (dx := 0) (cnt := 0) (k := 71) (As := []) (st := [.ref 71, .ref 70]) (n' := 78) rfl o_N_Set rfl rfl rfl (Or.inr (nw_of (i := 12118) (by decide +kernel))) (tb_of (i := 11084) (by decide +kernel)) (tb_of (i := 11004) (by decide +kernel)) rfl (Nat.le_of_ble_eq_true rfl) ⟨(Nat.le_of_ble_eq_true rfl), (Nat.le_of_ble_eq_true rfl), (Nat.le_of_ble_eq_true rfl), (Nat.le_of_ble_eq_true rfl)⟩ (by decide +kernel) (k_Set 71 hG (by decide +kernel)) ?_
  refine wn_putR (idx := 14) (ci := 5) (j := 1) (pl := 12121) hG rfl (by decide +kernel) (by decide +kernel) (by first | omega | decide) (by decide +kernel) (by first | omega | decide) (by decide +kernel) (by decide +kernel) ?_
  refine wn_aload_n (i := 0) (a := 70) rfl (by decide +kernel) ?_
  refine wn_new (idx := 20) (ci := 8) (r := ("SaidOnce$State", cT8, 8)) hG (by first | omega | decide) (by decide +kernel) rfl (tb_of (i := 12119) (by decide +kernel)) (tb_of (i := 11155) (by decide +kernel)) (tb_of (i := 11005) (by decide +kernel)) (Nat.le_of_ble_eq_true rfl) (Nat.le_of_ble_eq_true rfl) (by decide +kernel) ?_
  refine wn_dup rfl (by decide +kernel) ?_
  refine wn_call (idx := 22) (dx := 0) (cnt := 0) (k := 78) (As := []) (st := [.ref 78, .ref 70]) (n' := 82) rfl o_N_Sta rfl rfl rfl (Or.inr (nw_of (i := 12120) (by decide +kernel))) (tb_of (i := 11157) (by decide +kernel)) (tb_of (i := 11005) (by decide +kernel)) rfl (Nat.le_of_ble_eq_true rfl) ⟨(Nat.le_of_ble_eq_true rfl), (Nat.le_of_ble_eq_true rfl), (Nat.le_of_ble_eq_true rfl), (Nat.le_of_ble_eq_true rfl)⟩ (by decide +kernel) (k_Sta 78 hG (by decide +kernel)) ?_
  refine wn_putR (idx := 23) (ci := 5) (j := 2) (pl := 12122) hG rfl (by decide +kernel) (by decide +kernel) (by first | omega | decide) (by decide +kernel) (by first | omega | decide) (by decide +kernel) (by decide +kernel) ?_
  exact wn_ret rfl rfl rfl (Nat.le_of_ble_eq_true rfl) (Nat.le_of_ble_eq_true rfl) (by decide +kernel)
def w_LawR (μ : Mem) : Mem := sI (sI (w_Law 83 (sI μ 82 0 1)) 82 1 1) 82 2 1
set_option maxRecDepth 100000 in
set_option maxHeartbeats 4000000 in
theorem k_LawR {g : Gl} {μ : Mem} (hG : GL g) : SpN g i_N_LawR 0 [.ref 82, .ref 1] 83 μ 91 (w_LawR μ) := by
  refine SpN.intro o_N_LawR rfl (Nat.le_of_ble_eq_true rfl) ?_
  refine wn_aload_n (i := 0) (a := 82) rfl (by decide +kernel) ?_
  refine wn_aload_n (i := 1) (a := 1) rfl (by decide +kernel) ?_
  refine wn_call (idx := 3) (dx := 0) (cnt := 1) (k := 82) (As := [.ref 1]) (st := []) (n' := 83) rfl o_N_LineR rfl rfl rfl (Or.inl (tb_of (i := 12140) (by decide +kernel))) (tb_of (i := 12114) (by decide +kernel)) (tb_of (i := 11010) (by decide +kernel)) rfl (Nat.le_of_ble_eq_true rfl) ⟨(Nat.le_of_ble_eq_true rfl), (Nat.le_of_ble_eq_true rfl), (Nat.le_of_ble_eq_true rfl), (Nat.le_of_ble_eq_true rfl)⟩ (by decide +kernel) (k_LineR1 hG (by first | omega | decide)) ?_
  refine wn_aload_n (i := 0) (a := 82) rfl (by decide +kernel) ?_
  refine wn_new (idx := 9) (ci := 0) (r := ("SaidOnce$Law", cT0, 10)) hG (by first | omega | decide) (by decide +kernel) rfl (tb_of (i := 12141) (by decide +kernel)) (tb_of (i := 11205) (by decide +kernel)) (tb_of (i := 11006) (by decide +kernel)) (Nat.le_of_ble_eq_true rfl) (Nat.le_of_ble_eq_true rfl) (by decide +kernel) ?_
  refine wn_dup rfl (by decide +kernel) ?_
  refine wn_call (idx := 11) (dx := 0) (cnt := 0) (k := 83) (As := []) (st := [.ref 83, .ref 82]) (n' := 90) rfl o_N_Law rfl rfl rfl (Or.inr (nw_of (i := 12142) (by decide +kernel))) (tb_of (i := 11207) (by decide +kernel)) (tb_of (i := 11006) (by decide +kernel)) rfl (Nat.le_of_ble_eq_true rfl) ⟨(Nat.le_of_ble_eq_true rfl), (Nat.le_of_ble_eq_true rfl), (Nat.le_of_ble_eq_true rfl), (Nat.le_of_ble_eq_true rfl)⟩ (by decide +kernel) (k_Law 83 hG (by decide +kernel)) ?_
  refine wn_putR (idx := 14) (ci := 1) (j := 1) (pl := 12143) hG rfl (by decide +kernel) (by decide +kernel) (by first | omega | decide) (by decide +kernel) (by first | omega | decide) (by decide +kernel) (by decide +kernel) ?_
  refine wn_aload_n (i := 0) (a := 82) rfl (by decide +kernel) ?_
  refine wn_bipush (v := 32) (x := (32 : Int32)) (by decide) (by decide +kernel) ?_
  refine wn_newa (t := 0) (N := 32) hG (by first | omega | decide) (by decide) (by decide +kernel) (tb_of (i := 11153) (by decide +kernel)) (by decide) (by decide +kernel) (Nat.le_of_ble_eq_true rfl) (Nat.le_of_ble_eq_true rfl) (Nat.le_of_ble_eq_true rfl) (by decide +kernel) ?_
  refine wn_putR (idx := 20) (ci := 1) (j := 2) (pl := 12145) hG rfl (by decide +kernel) (by decide +kernel) (by first | omega | decide) (by decide +kernel) (by first | omega | decide) (by decide +kernel) (by decide +kernel) ?_
  exact wn_ret rfl rfl rfl (Nat.le_of_ble_eq_true rfl) (Nat.le_of_ble_eq_true rfl) (by decide +kernel)
