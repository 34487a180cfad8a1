def w_LineR5 (μ : Mem) : Mem := sI μ 70 0 1
set_option maxRecDepth 100000 in
set_option maxHeartbeats 4000000 in
theorem k_LineR5 {g : Gl} {μ : Mem} {n : Nat} (hG : GL g) (hk : 70 < n) : SpN g i_N_LineR 0 [.ref 70, .ref 1] n μ n (w_LineR5 μ) := by
  refine SpN.intro o_N_LineR rfl (Nat.le_of_ble_eq_true rfl) ?_
  refine wn_aload_n (i := 0) (a := 70) rfl (by decide +kernel) ?_
  refine wn_obj (idx := 3) (tb_of (i := 12116) (by decide +kernel)) tb_oi1 tb_oi2 (Nat.le_of_ble_eq_true rfl) (Nat.le_of_ble_eq_true rfl) (Nat.le_of_ble_eq_true rfl) (by decide +kernel) ?_
  refine wn_aload_n (i := 0) (a := 70) rfl (by decide +kernel) ?_
  refine wn_aload_n (i := 1) (a := 1) rfl (by decide +kernel) ?_
  refine wn_putR (idx := 9) (ci := 5) (j := 0) (pl := 12123) hG rfl (by decide +kernel) (by decide +kernel) (by first | omega | decide) (by decide +kernel) (by first | omega | decide) (by decide +kernel) (by decide +kernel) ?_
  exact wn_ret rfl rfl rfl (Nat.le_of_ble_eq_true rfl) (Nat.le_of_ble_eq_true rfl) (by decide +kernel)
def w_LineR1 (μ : Mem) : Mem := sI μ 82 0 1
set_option maxRecDepth 100000 in
set_option maxHeartbeats 4000000 in
theorem k_LineR1 {g : Gl} {μ : Mem} {n : Nat} (hG : GL g) (hk : 82 < n) : SpN g i_N_LineR 0 [.ref 82, .ref 1] n μ n (w_LineR1 μ) := by
  refine SpN.intro o_N_LineR rfl (Nat.le_of_ble_eq_true rfl) ?_
  refine wn_aload_n (i := 0) (a := 82) rfl (by decide +kernel) ?_
  refine wn_obj (idx := 3) (tb_of (i := 12116) (by decide +kernel)) tb_oi1 tb_oi2 (Nat.le_of_ble_eq_true rfl) (Nat.le_of_ble_eq_true rfl) (Nat.le_of_ble_eq_true rfl) (by decide +kernel) ?_
  refine wn_aload_n (i := 0) (a := 82) rfl (by decide +kernel) ?_
  refine wn_aload_n (i := 1) (a := 1) rfl (by decide +kernel) ?_
  refine wn_putR (idx := 9) (ci := 1) (j := 0) (pl := 12123) hG rfl (by decide +kernel) (by decide +kernel) (by first | omega | decide) (by decide +kernel) (by first | omega | decide) (by decide +kernel) (by decide +kernel) ?_
  exact wn_ret rfl rfl rfl (Nat.le_of_ble_eq_true rfl) (Nat.le_of_ble_eq_true rfl) (by decide +kernel)
def w_Sch (k : Nat) (μ : Mem) : Mem := sI (sI (w_Sta (k + 26) (sI (w_Log (k + 19) (sI (w_Law (k + 12) (sI (w_Sta (k + 8) (sI (w_Set (k + 1) μ) k 0 1)) k 1 1)) k 2 1)) k 3 1)) k 4 1) k 5 1
def ok_Sch (k : Nat) : Bool := decide (k + 31 ≤ NC ∧ (sh (k + 1)).1 = 7 ∧ ok_Set (k + 1) = true ∧ (sh k).1 = 4 ∧ rt k 0 = some (k + 1) ∧ (sh (k + 8)).1 = 8 ∧ ok_Sta (k + 8) = true ∧ rt k 1 = some (k + 8) ∧ (sh (k + 12)).1 = 0 ∧ ok_Law (k + 12) = true ∧ rt k 2 = some (k + 12) ∧ (sh (k + 19)).1 = 2 ∧ ok_Log (k + 19) = true ∧ rt k 3 = some (k + 19) ∧ (sh (k + 26)).1 = 8 ∧ ok_Sta (k + 26) = true ∧ rt k 4 = some (k + 26) ∧ sh (k + 30) = (100, 10) ∧ rt k 5 = some (k + 30))
set_option maxRecDepth 100000 in
set_option maxHeartbeats 4000000 in
theorem k_Sch {g : Gl} {μ : Mem} (k : Nat) (hG : GL g) (hk : ok_Sch k = true) : SpN g i_N_Sch 0 [.ref k] (k + 1) μ (k + 31) (w_Sch k μ) := by
  have hk := of_decide_eq_true hk
  obtain ⟨hN, h0, h1, h2, h3, h4, h5, h6, h7, h8, h9, h10, h11, h12, h13, h14, h15, h16, h17⟩ := hk
  refine SpN.intro o_N_Sch rfl (Nat.le_of_ble_eq_true rfl) ?_
  refine wn_aload_n (i := 0) (a := k) rfl (by decide +kernel) ?_
  refine wn_obj (idx := 3) (tb_of (i := 11080) (by decide +kernel)) tb_oi1 tb_oi2 (Nat.le_of_ble_eq_true rfl) (Nat.le_of_ble_eq_true rfl) (Nat.le_of_ble_eq_true rfl) (by decide +kernel) ?_
  refine wn_aload_n (i := 0) (a := k) rfl (by decide +kernel) ?_
  refine wn_new (idx := 9) (ci := 7) (r := ("SaidOnce$Setup", cT7, 11)) hG (by first | omega | decide) h0 rfl (tb_of (i := 11081) (by decide +kernel)) (tb_of (i := 11082) (by decide +kernel)) (tb_of (i := 11004) (by decide +kernel)) (Nat.le_of_ble_eq_true rfl) (Nat.le_of_ble_eq_true rfl) (by decide +kernel) ?_
  refine wn_dup rfl (by decide +kernel) ?_
  refine wn_call (idx := 11) (dx := 0) (cnt := 0) (k := (k + 1)) (As := []) (st := [.ref (k + 1), .ref k]) (n' := (k + 8)) rfl o_N_Set rfl rfl rfl (Or.inr (nw_of (i := 11083) (by decide +kernel))) (tb_of (i := 11084) (by decide +kernel)) (tb_of (i := 11004) (by decide +kernel)) rfl (Nat.le_of_ble_eq_true rfl) ⟨(Nat.le_of_ble_eq_true rfl), (Nat.le_of_ble_eq_true rfl), (Nat.le_of_ble_eq_true rfl), (Nat.le_of_ble_eq_true rfl)⟩ (by decide +kernel) (k_Set (k + 1) hG h1) ?_
  refine wn_putR (idx := 12) (ci := 4) (j := 0) (pl := 12042) hG rfl (by decide +kernel) (by decide +kernel) (by first | omega | decide) h2 (by first | omega | decide) h3 (by decide +kernel) ?_
  refine wn_aload_n (i := 0) (a := k) rfl (by decide +kernel) ?_
  refine wn_new (idx := 18) (ci := 8) (r := ("SaidOnce$State", cT8, 8)) hG (by first | omega | decide) h4 rfl (tb_of (i := 11154) (by decide +kernel)) (tb_of (i := 11155) (by decide +kernel)) (tb_of (i := 11005) (by decide +kernel)) (Nat.le_of_ble_eq_true rfl) (Nat.le_of_ble_eq_true rfl) (by decide +kernel) ?_
  refine wn_dup rfl (by decide +kernel) ?_
  refine wn_call (idx := 20) (dx := 0) (cnt := 0) (k := (k + 8)) (As := []) (st := [.ref (k + 8), .ref k]) (n' := (k + 12)) rfl o_N_Sta rfl rfl rfl (Or.inr (nw_of (i := 11156) (by decide +kernel))) (tb_of (i := 11157) (by decide +kernel)) (tb_of (i := 11005) (by decide +kernel)) rfl (Nat.le_of_ble_eq_true rfl) ⟨(Nat.le_of_ble_eq_true rfl), (Nat.le_of_ble_eq_true rfl), (Nat.le_of_ble_eq_true rfl), (Nat.le_of_ble_eq_true rfl)⟩ (by decide +kernel) (k_Sta (k + 8) hG h5) ?_
  refine wn_putR (idx := 21) (ci := 4) (j := 1) (pl := 12047) hG rfl (by decide +kernel) (by decide +kernel) (by first | omega | decide) h2 (by first | omega | decide) h6 (by decide +kernel) ?_
  refine wn_aload_n (i := 0) (a := k) rfl (by decide +kernel) ?_
  refine wn_new (idx := 25) (ci := 0) (r := ("SaidOnce$Law", cT0, 10)) hG (by first | omega | decide) h7 rfl (tb_of (i := 11204) (by decide +kernel)) (tb_of (i := 11205) (by decide +kernel)) (tb_of (i := 11006) (by decide +kernel)) (Nat.le_of_ble_eq_true rfl) (Nat.le_of_ble_eq_true rfl) (by decide +kernel) ?_
  refine wn_dup rfl (by decide +kernel) ?_
  refine wn_call (idx := 27) (dx := 0) (cnt := 0) (k := (k + 12)) (As := []) (st := [.ref (k + 12), .ref k]) (n' := (k + 19)) rfl o_N_Law rfl rfl rfl (Or.inr (nw_of (i := 11206) (by decide +kernel))) (tb_of (i := 11207) (by decide +kernel)) (tb_of (i := 11006) (by decide +kernel)) rfl (Nat.le_of_ble_eq_true rfl) ⟨(Nat.le_of_ble_eq_true rfl), (Nat.le_of_ble_eq_true rfl), (Nat.le_of_ble_eq_true rfl), (Nat.le_of_ble_eq_true rfl)⟩ (by decide +kernel) (k_Law (k + 12) hG h8) ?_
  refine wn_putR (idx := 28) (ci := 4) (j := 2) (pl := 12051) hG rfl (by decide +kernel) (by decide +kernel) (by first | omega | decide) h2 (by first | omega | decide) h9 (by decide +kernel) ?_
  refine wn_aload_n (i := 0) (a := k) rfl (by decide +kernel) ?_
  refine wn_new (idx := 32) (ci := 2) (r := ("SaidOnce$Log", cT2, 6)) hG (by first | omega | decide) h10 rfl (tb_of (i := 12004) (by decide +kernel)) (tb_of (i := 12005) (by decide +kernel)) (tb_of (i := 11007) (by decide +kernel)) (Nat.le_of_ble_eq_true rfl) (Nat.le_of_ble_eq_true rfl) (by decide +kernel) ?_
  refine wn_dup rfl (by decide +kernel) ?_
  refine wn_call (idx := 34) (dx := 0) (cnt := 0) (k := (k + 19)) (As := []) (st := [.ref (k + 19), .ref k]) (n' := (k + 26)) rfl o_N_Log rfl rfl rfl (Or.inr (nw_of (i := 12006) (by decide +kernel))) (tb_of (i := 12007) (by decide +kernel)) (tb_of (i := 11007) (by decide +kernel)) rfl (Nat.le_of_ble_eq_true rfl) ⟨(Nat.le_of_ble_eq_true rfl), (Nat.le_of_ble_eq_true rfl), (Nat.le_of_ble_eq_true rfl), (Nat.le_of_ble_eq_true rfl)⟩ (by decide +kernel) (k_Log (k + 19) hG h11) ?_
  refine wn_putR (idx := 35) (ci := 4) (j := 3) (pl := 12053) hG rfl (by decide +kernel) (by decide +kernel) (by first | omega | decide) h2 (by first | omega | decide) h12 (by decide +kernel) ?_
  refine wn_aload_n (i := 0) (a := k) rfl (by decide +kernel) ?_
  refine wn_new (idx := 18) (ci := 8) (r := ("SaidOnce$State", cT8, 8)) hG (by first | omega | decide) h13 rfl (tb_of (i := 11154) (by decide +kernel)) (tb_of (i := 11155) (by decide +kernel)) (tb_of (i := 11005) (by decide +kernel)) (Nat.le_of_ble_eq_true rfl) (Nat.le_of_ble_eq_true rfl) (by decide +kernel) ?_
  refine wn_dup rfl (by decide +kernel) ?_
  refine wn_call (idx := 20) (dx := 0) (cnt := 0) (k := (k + 26)) (As := []) (st := [.ref (k + 26), .ref k]) (n' := (k + 30)) rfl o_N_Sta rfl rfl rfl (Or.inr (nw_of (i := 11156) (by decide +kernel))) (tb_of (i := 11157) (by decide +kernel)) (tb_of (i := 11005) (by decide +kernel)) rfl (Nat.le_of_ble_eq_true rfl) ⟨(Nat.le_of_ble_eq_true rfl), (Nat.le_of_ble_eq_true rfl), (Nat.le_of_ble_eq_true rfl), (Nat.le_of_ble_eq_true rfl)⟩ (by decide +kernel) (k_Sta (k + 26) hG h14) ?_
  refine wn_putR (idx := 39) (ci := 4) (j := 4) (pl := 12055) hG rfl (by decide +kernel) (by decide +kernel) (by first | omega | decide) h2 (by first | omega | decide) h15 (by decide +kernel) ?_
  refine wn_aload_n (i := 0) (a := k) rfl (by decide +kernel) ?_
  refine wn_bipush (v := 10) (x := (10 : Int32)) (by decide) (by decide +kernel) ?_
  refine wn_newa (t := 0) (N := 10) hG (by first | omega | decide) (by decide) h16 (tb_of (i := 11153) (by decide +kernel)) (by decide) (by decide +kernel) (Nat.le_of_ble_eq_true rfl) (Nat.le_of_ble_eq_true rfl) (Nat.le_of_ble_eq_true rfl) (by decide +kernel) ?_
  refine wn_putR (idx := 42) (ci := 4) (j := 5) (pl := 12056) hG rfl (by decide +kernel) (by decide +kernel) (by first | omega | decide) h2 (by first | omega | decide) h17 (by decide +kernel) ?_
  exact wn_ret rfl rfl rfl (Nat.le_of_ble_eq_true rfl) (Nat.le_of_ble_eq_true rfl) (by decide +kernel)
