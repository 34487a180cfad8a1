/-! the constructors, by program (wip/whole/gen_new.py) -/
def i_N_Sta : MI := (⟨"SaidOnce$State", "<init>", "()V"⟩, prog_11_method_1_code, 1, none, [], 1, 3, 30)
theorem o_N_Sta : MOK i_N_Sta 0 := mok_of (pl := 11158) (by rfl) (by decide +kernel)
def i_N_Set : MI := (⟨"SaidOnce$Setup", "<init>", "()V"⟩, prog_10_method_1_code, 1, none, [], 1, 6, 66)
theorem o_N_Set : MOK i_N_Set 0 := mok_of (pl := 11085) (by rfl) (by decide +kernel)
def i_N_Law : MI := (⟨"SaidOnce$Law", "<init>", "()V"⟩, prog_2_method_1_code, 1, none, [], 1, 6, 476)
theorem o_N_Law : MOK i_N_Law 0 := mok_of (pl := 11208) (by rfl) (by decide +kernel)
def i_N_Log : MI := (⟨"SaidOnce$Log", "<init>", "()V"⟩, prog_5_method_1_code, 1, none, [], 1, 6, 360)
theorem o_N_Log : MOK i_N_Log 0 := mok_of (pl := 12008) (by rfl) (by decide +kernel)
def i_N_Tape : MI := (⟨"SaidOnce$Tape", "<init>", "()V"⟩, prog_12_method_1_code, 1, none, [], 1, 1, 400)
theorem o_N_Tape : MOK i_N_Tape 0 := mok_of (pl := 11043) (by rfl) (by decide +kernel)
def i_N_LineR : MI := (⟨"SaidOnce$LineReader", "<init>", "(LSaidOnce$Tape;)V"⟩, prog_4_method_1_code, 2, none, [], 1, 0, 0)
theorem o_N_LineR : MOK i_N_LineR 1 := mok_of (pl := 12115) (by rfl) (by decide +kernel)
def i_N_Sch : MI := (⟨"SaidOnce$School", "<init>", "()V"⟩, prog_7_method_1_code, 1, none, [], 2, 30, 1015)
theorem o_N_Sch : MOK i_N_Sch 0 := mok_of (pl := 11079) (by rfl) (by decide +kernel)
def i_N_Pl : MI := (⟨"SaidOnce$Planner", "<init>", "(LSaidOnce$School;)V"⟩, prog_6_method_1_code, 2, none, [], 1, 2, 1084)
theorem o_N_Pl : MOK i_N_Pl 1 := mok_of (pl := 12074) (by rfl) (by decide +kernel)
def i_N_Se : MI := (⟨"SaidOnce$Search", "<init>", "(LSaidOnce$School;)V"⟩, prog_9_method_1_code, 2, none, [], 1, 1, 10)
theorem o_N_Se : MOK i_N_Se 1 := mok_of (pl := 12099) (by rfl) (by decide +kernel)
def i_N_SchR : MI := (⟨"SaidOnce$SchoolReader", "<init>", "(LSaidOnce$Tape;)V"⟩, prog_8_method_1_code, 2, none, [], 2, 11, 115)
theorem o_N_SchR : MOK i_N_SchR 1 := mok_of (pl := 12112) (by rfl) (by decide +kernel)
def i_N_LawR : MI := (⟨"SaidOnce$LawReader", "<init>", "(LSaidOnce$Tape;)V"⟩, prog_3_method_1_code, 2, none, [], 2, 8, 518)
theorem o_N_LawR : MOK i_N_LawR 1 := mok_of (pl := 12139) (by rfl) (by decide +kernel)
def i_N_Mo : MI := (⟨"SaidOnceModel", "<init>", "()V"⟩, prog_14_method_5_code, 1, none, [], 1, 13, 86069)
theorem o_N_Mo : MOK i_N_Mo 0 := mok_of (pl := 17066) (by rfl) (by decide +kernel)
def i_N_SO : MI := (⟨"SaidOnce", "<init>", "()V"⟩, prog_1_method_1_code, 2, none, [], 3, 139, 4661)
theorem o_N_SO : MOK i_N_SO 0 := mok_of (pl := 11035) (by rfl) (by decide +kernel)
theorem tb_oi1 : Cond.instanceMethod Lib.objectInit ∈ TB := tb_of (i := 11037) (by decide +kernel)
theorem tb_oi2 : Cond.code Lib.objectInit ⟨#[0xb1]⟩ 1 none ∈ TB := tb_of (i := 11038) (by decide +kernel)
def w_Sta (k : Nat) (μ : Mem) : Mem := sI (sI (sI (sI μ k 1 1) k 2 1) k 3 1) k 6 1
def ok_Sta (k : Nat) : Bool := decide (k + 4 ≤ NC ∧ sh (k + 1) = (100, 10) ∧ (sh k).1 = 8 ∧ rt k 1 = some (k + 1) ∧ sh (k + 2) = (100, 10) ∧ rt k 2 = some (k + 2) ∧ sh (k + 3) = (100, 10) ∧ rt k 3 = some (k + 3))
set_option maxRecDepth 100000 in
set_option maxHeartbeats 4000000 in
theorem k_Sta {g : Gl} {μ : Mem} (k : Nat) (hG : GL g) (hk : ok_Sta k = true) : SpN g i_N_Sta 0 [.ref k] (k + 1) μ (k + 4) (w_Sta k μ) := by
  have hk := of_decide_eq_true hk
  obtain ⟨hN, h0, h1, h2, h3, h4, h5, h6⟩ := hk
  refine SpN.intro o_N_Sta rfl (Nat.le_of_ble_eq_true rfl) ?_
  refine wn_aload_n (i := 0) (a := k) rfl (by decide +kernel) ?_
  refine wn_obj (idx := 3) (tb_of (i := 11159) (by decide +kernel)) tb_oi1 tb_oi2 (Nat.le_of_ble_eq_true rfl) (Nat.le_of_ble_eq_true rfl) (Nat.le_of_ble_eq_true rfl) (by decide +kernel) ?_
  refine wn_aload_n (i := 0) (a := k) rfl (by decide +kernel) ?_
  refine wn_bipush (v := 10) (x := (10 : Int32)) (by decide) (by decide +kernel) ?_
  refine wn_newa (t := 0) (N := 10) hG (by first | omega | decide) (by decide) h0 (tb_of (i := 11153) (by decide +kernel)) (by decide) (by decide +kernel) (Nat.le_of_ble_eq_true rfl) (Nat.le_of_ble_eq_true rfl) (Nat.le_of_ble_eq_true rfl) (by decide +kernel) ?_
  refine wn_putR (idx := 9) (ci := 8) (j := 1) (pl := 11164) hG rfl (by decide +kernel) (by decide +kernel) (by first | omega | decide) h1 (by first | omega | decide) h2 (by decide +kernel) ?_
  refine wn_aload_n (i := 0) (a := k) rfl (by decide +kernel) ?_
  refine wn_bipush (v := 10) (x := (10 : Int32)) (by decide) (by decide +kernel) ?_
  refine wn_newa (t := 0) (N := 10) hG (by first | omega | decide) (by decide) h3 (tb_of (i := 11153) (by decide +kernel)) (by decide) (by decide +kernel) (Nat.le_of_ble_eq_true rfl) (Nat.le_of_ble_eq_true rfl) (Nat.le_of_ble_eq_true rfl) (by decide +kernel) ?_
  refine wn_putR (idx := 15) (ci := 8) (j := 2) (pl := 11168) hG rfl (by decide +kernel) (by decide +kernel) (by first | omega | decide) h1 (by first | omega | decide) h4 (by decide +kernel) ?_
  refine wn_aload_n (i := 0) (a := k) rfl (by decide +kernel) ?_
  refine wn_bipush (v := 10) (x := (10 : Int32)) (by decide) (by decide +kernel) ?_
  refine wn_newa (t := 0) (N := 10) hG (by first | omega | decide) (by decide) h5 (tb_of (i := 11153) (by decide +kernel)) (by decide) (by decide +kernel) (Nat.le_of_ble_eq_true rfl) (Nat.le_of_ble_eq_true rfl) (Nat.le_of_ble_eq_true rfl) (by decide +kernel) ?_
  refine wn_putR (idx := 18) (ci := 8) (j := 3) (pl := 11171) hG rfl (by decide +kernel) (by decide +kernel) (by first | omega | decide) h1 (by first | omega | decide) h6 (by decide +kernel) ?_
  refine wn_aload_n (i := 0) (a := k) rfl (by decide +kernel) ?_
  refine wn_iconst (v := 1) (x := (1 : Int32)) (by decide) (by decide +kernel) ?_
  refine wn_putI (idx := 21) (ci := 8) (j := 6) (pl := 11181) hG (by decide +kernel) (by decide +kernel) (by first | omega | decide) h1 (by decide +kernel) ?_
  exact wn_ret rfl rfl rfl (Nat.le_of_ble_eq_true rfl) (Nat.le_of_ble_eq_true rfl) (by decide +kernel)
def w_Set (k : Nat) (μ : Mem) : Mem := sI (sI (sI (sI (sI (sI (sI μ k 1 1) k 3 1) k 4 1) k 6 1) k 7 1) k 8 1) k 9 2
def ok_Set (k : Nat) : Bool := decide (k + 7 ≤ NC ∧ sh (k + 1) = (100, 10) ∧ (sh k).1 = 7 ∧ rt k 1 = some (k + 1) ∧ sh (k + 2) = (100, 10) ∧ rt k 3 = some (k + 2) ∧ sh (k + 3) = (100, 10) ∧ rt k 4 = some (k + 3) ∧ sh (k + 4) = (100, 12) ∧ rt k 6 = some (k + 4) ∧ sh (k + 5) = (100, 12) ∧ rt k 7 = some (k + 5) ∧ sh (k + 6) = (100, 12) ∧ rt k 8 = some (k + 6))
set_option maxRecDepth 100000 in
set_option maxHeartbeats 4000000 in
theorem k_Set {g : Gl} {μ : Mem} (k : Nat) (hG : GL g) (hk : ok_Set k = true) : SpN g i_N_Set 0 [.ref k] (k + 1) μ (k + 7) (w_Set k μ) := by
  have hk := of_decide_eq_true hk
  obtain ⟨hN, h0, h1, h2, h3, h4, h5, h6, h7, h8, h9, h10, h11, h12⟩ := hk
  refine SpN.intro o_N_Set rfl (Nat.le_of_ble_eq_true rfl) ?_
  refine wn_aload_n (i := 0) (a := k) rfl (by decide +kernel) ?_
  refine wn_obj (idx := 3) (tb_of (i := 11086) (by decide +kernel)) tb_oi1 tb_oi2 (Nat.le_of_ble_eq_true rfl) (Nat.le_of_ble_eq_true rfl) (Nat.le_of_ble_eq_true rfl) (by decide +kernel) ?_
  refine wn_aload_n (i := 0) (a := k) rfl (by decide +kernel) ?_
  refine wn_bipush (v := 10) (x := (10 : Int32)) (by decide) (by decide +kernel) ?_
  refine wn_newa (t := 0) (N := 10) hG (by first | omega | decide) (by decide) h0 (tb_of (i := 11153) (by decide +kernel)) (by decide) (by decide +kernel) (Nat.le_of_ble_eq_true rfl) (Nat.le_of_ble_eq_true rfl) (Nat.le_of_ble_eq_true rfl) (by decide +kernel) ?_
  refine wn_putR (idx := 9) (ci := 7) (j := 1) (pl := 11091) hG rfl (by decide +kernel) (by decide +kernel) (by first | omega | decide) h1 (by first | omega | decide) h2 (by decide +kernel) ?_
  refine wn_aload_n (i := 0) (a := k) rfl (by decide +kernel) ?_
  refine wn_bipush (v := 10) (x := (10 : Int32)) (by decide) (by decide +kernel) ?_
  refine wn_newa (t := 0) (N := 10) hG (by first | omega | decide) (by decide) h3 (tb_of (i := 11153) (by decide +kernel)) (by decide) (by decide +kernel) (Nat.le_of_ble_eq_true rfl) (Nat.le_of_ble_eq_true rfl) (Nat.le_of_ble_eq_true rfl) (by decide +kernel) ?_
  refine wn_putR (idx := 15) (ci := 7) (j := 3) (pl := 11103) hG rfl (by decide +kernel) (by decide +kernel) (by first | omega | decide) h1 (by first | omega | decide) h4 (by decide +kernel) ?_
  refine wn_aload_n (i := 0) (a := k) rfl (by decide +kernel) ?_
  refine wn_bipush (v := 10) (x := (10 : Int32)) (by decide) (by decide +kernel) ?_
  refine wn_newa (t := 0) (N := 10) hG (by first | omega | decide) (by decide) h5 (tb_of (i := 11153) (by decide +kernel)) (by decide) (by decide +kernel) (Nat.le_of_ble_eq_true rfl) (Nat.le_of_ble_eq_true rfl) (Nat.le_of_ble_eq_true rfl) (by decide +kernel) ?_
  refine wn_putR (idx := 18) (ci := 7) (j := 4) (pl := 11107) hG rfl (by decide +kernel) (by decide +kernel) (by first | omega | decide) h1 (by first | omega | decide) h6 (by decide +kernel) ?_
  refine wn_aload_n (i := 0) (a := k) rfl (by decide +kernel) ?_
  refine wn_bipush (v := 12) (x := (12 : Int32)) (by decide) (by decide +kernel) ?_
  refine wn_newa (t := 0) (N := 12) hG (by first | omega | decide) (by decide) h7 (tb_of (i := 11153) (by decide +kernel)) (by decide) (by decide +kernel) (Nat.le_of_ble_eq_true rfl) (Nat.le_of_ble_eq_true rfl) (Nat.le_of_ble_eq_true rfl) (by decide +kernel) ?_
  refine wn_putR (idx := 21) (ci := 7) (j := 6) (pl := 11115) hG rfl (by decide +kernel) (by decide +kernel) (by first | omega | decide) h1 (by first | omega | decide) h8 (by decide +kernel) ?_
  refine wn_aload_n (i := 0) (a := k) rfl (by decide +kernel) ?_
  refine wn_bipush (v := 12) (x := (12 : Int32)) (by decide) (by decide +kernel) ?_
  refine wn_newa (t := 0) (N := 12) hG (by first | omega | decide) (by decide) h9 (tb_of (i := 11153) (by decide +kernel)) (by decide) (by decide +kernel) (Nat.le_of_ble_eq_true rfl) (Nat.le_of_ble_eq_true rfl) (Nat.le_of_ble_eq_true rfl) (by decide +kernel) ?_
  refine wn_putR (idx := 24) (ci := 7) (j := 7) (pl := 11118) hG rfl (by decide +kernel) (by decide +kernel) (by first | omega | decide) h1 (by first | omega | decide) h10 (by decide +kernel) ?_
  refine wn_aload_n (i := 0) (a := k) rfl (by decide +kernel) ?_
  refine wn_bipush (v := 12) (x := (12 : Int32)) (by decide) (by decide +kernel) ?_
  refine wn_newa (t := 0) (N := 12) hG (by first | omega | decide) (by decide) h11 (tb_of (i := 11153) (by decide +kernel)) (by decide) (by decide +kernel) (Nat.le_of_ble_eq_true rfl) (Nat.le_of_ble_eq_true rfl) (Nat.le_of_ble_eq_true rfl) (by decide +kernel) ?_
  refine wn_putR (idx := 27) (ci := 7) (j := 8) (pl := 11121) hG rfl (by decide +kernel) (by decide +kernel) (by first | omega | decide) h1 (by first | omega | decide) h12 (by decide +kernel) ?_
  refine wn_aload_n (i := 0) (a := k) rfl (by decide +kernel) ?_
  refine wn_iconst (v := 2) (x := (2 : Int32)) (by decide) (by decide +kernel) ?_
  refine wn_putI (idx := 30) (ci := 7) (j := 9) (pl := 11124) hG (by decide +kernel) (by decide +kernel) (by first | omega | decide) h1 (by decide +kernel) ?_
  exact wn_ret rfl rfl rfl (Nat.le_of_ble_eq_true rfl) (Nat.le_of_ble_eq_true rfl) (by decide +kernel)
def w_Law (k : Nat) (μ : Mem) : Mem := sI (sI (sI (sI (sI (sI (sI μ k 0 (-1)) k 1 1) k 2 1) k 3 1) k 4 1) k 6 1) k 7 1
def ok_Law (k : Nat) : Bool := decide (k + 7 ≤ NC ∧ (sh k).1 = 0 ∧ sh (k + 1) = (100, 12) ∧ rt k 1 = some (k + 1) ∧ sh (k + 2) = (100, 12) ∧ rt k 2 = some (k + 2) ∧ sh (k + 3) = (100, 12) ∧ rt k 3 = some (k + 3) ∧ sh (k + 4) = (100, 400) ∧ rt k 4 = some (k + 4) ∧ sh (k + 5) = (100, 8) ∧ rt k 6 = some (k + 5) ∧ sh (k + 6) = (100, 32) ∧ rt k 7 = some (k + 6))
set_option maxRecDepth 100000 in
set_option maxHeartbeats 4000000 in
theorem k_Law {g : Gl} {μ : Mem} (k : Nat) (hG : GL g) (hk : ok_Law k = true) : SpN g i_N_Law 0 [.ref k] (k + 1) μ (k + 7) (w_Law k μ) := by
  have hk := of_decide_eq_true hk
  obtain ⟨hN, h0, h1, h2, h3, h4, h5, h6, h7, h8, h9, h10, h11, h12⟩ := hk
  refine SpN.intro o_N_Law rfl (Nat.le_of_ble_eq_true rfl) ?_
  refine wn_aload_n (i := 0) (a := k) rfl (by decide +kernel) ?_
  refine wn_obj (idx := 3) (tb_of (i := 11209) (by decide +kernel)) tb_oi1 tb_oi2 (Nat.le_of_ble_eq_true rfl) (Nat.le_of_ble_eq_true rfl) (Nat.le_of_ble_eq_true rfl) (by decide +kernel) ?_
  refine wn_aload_n (i := 0) (a := k) rfl (by decide +kernel) ?_
  refine wn_iconst (v := (-1)) (x := (-1 : Int32)) (by decide) (by decide +kernel) ?_
  refine wn_putI (idx := 9) (ci := 0) (j := 0) (pl := 11210) hG (by decide +kernel) (by decide +kernel) (by first | omega | decide) h0 (by decide +kernel) ?_
  refine wn_aload_n (i := 0) (a := k) rfl (by decide +kernel) ?_
  refine wn_bipush (v := 12) (x := (12 : Int32)) (by decide) (by decide +kernel) ?_
  refine wn_newa (t := 0) (N := 12) hG (by first | omega | decide) (by decide) h1 (tb_of (i := 11153) (by decide +kernel)) (by decide) (by decide +kernel) (Nat.le_of_ble_eq_true rfl) (Nat.le_of_ble_eq_true rfl) (Nat.le_of_ble_eq_true rfl) (by decide +kernel) ?_
  refine wn_putR (idx := 15) (ci := 0) (j := 1) (pl := 11212) hG rfl (by decide +kernel) (by decide +kernel) (by first | omega | decide) h0 (by first | omega | decide) h2 (by decide +kernel) ?_
  refine wn_aload_n (i := 0) (a := k) rfl (by decide +kernel) ?_
  refine wn_bipush (v := 12) (x := (12 : Int32)) (by decide) (by decide +kernel) ?_
  refine wn_newa (t := 0) (N := 12) hG (by first | omega | decide) (by decide) h3 (tb_of (i := 11153) (by decide +kernel)) (by decide) (by decide +kernel) (Nat.le_of_ble_eq_true rfl) (Nat.le_of_ble_eq_true rfl) (Nat.le_of_ble_eq_true rfl) (by decide +kernel) ?_
  refine wn_putR (idx := 19) (ci := 0) (j := 2) (pl := 11213) hG rfl (by decide +kernel) (by decide +kernel) (by first | omega | decide) h0 (by first | omega | decide) h4 (by decide +kernel) ?_
  refine wn_aload_n (i := 0) (a := k) rfl (by decide +kernel) ?_
  refine wn_bipush (v := 12) (x := (12 : Int32)) (by decide) (by decide +kernel) ?_
  refine wn_newa (t := 0) (N := 12) hG (by first | omega | decide) (by decide) h5 (tb_of (i := 11153) (by decide +kernel)) (by decide) (by decide +kernel) (Nat.le_of_ble_eq_true rfl) (Nat.le_of_ble_eq_true rfl) (Nat.le_of_ble_eq_true rfl) (by decide +kernel) ?_
  refine wn_putR (idx := 22) (ci := 0) (j := 3) (pl := 11214) hG rfl (by decide +kernel) (by decide +kernel) (by first | omega | decide) h0 (by first | omega | decide) h6 (by decide +kernel) ?_
  refine wn_aload_n (i := 0) (a := k) rfl (by decide +kernel) ?_
  refine wn_sipush (v := 400) (x := (400 : Int32)) (by decide) (by decide +kernel) ?_
  refine wn_newa (t := 0) (N := 400) hG (by first | omega | decide) (by decide) h7 (tb_of (i := 11153) (by decide +kernel)) (by decide) (by decide +kernel) (Nat.le_of_ble_eq_true rfl) (Nat.le_of_ble_eq_true rfl) (Nat.le_of_ble_eq_true rfl) (by decide +kernel) ?_
  refine wn_putR (idx := 25) (ci := 0) (j := 4) (pl := 11215) hG rfl (by decide +kernel) (by decide +kernel) (by first | omega | decide) h0 (by first | omega | decide) h8 (by decide +kernel) ?_
  refine wn_aload_n (i := 0) (a := k) rfl (by decide +kernel) ?_
  refine wn_bipush (v := 8) (x := (8 : Int32)) (by decide) (by decide +kernel) ?_
  refine wn_newa (t := 0) (N := 8) hG (by first | omega | decide) (by decide) h9 (tb_of (i := 11153) (by decide +kernel)) (by decide) (by decide +kernel) (Nat.le_of_ble_eq_true rfl) (Nat.le_of_ble_eq_true rfl) (Nat.le_of_ble_eq_true rfl) (by decide +kernel) ?_
  refine wn_putR (idx := 28) (ci := 0) (j := 6) (pl := 11217) hG rfl (by decide +kernel) (by decide +kernel) (by first | omega | decide) h0 (by first | omega | decide) h10 (by decide +kernel) ?_
  refine wn_aload_n (i := 0) (a := k) rfl (by decide +kernel) ?_
  refine wn_bipush (v := 32) (x := (32 : Int32)) (by decide) (by decide +kernel) ?_
  refine wn_newa (t := 0) (N := 32) hG (by first | omega | decide) (by decide) h11 (tb_of (i := 11153) (by decide +kernel)) (by decide) (by decide +kernel) (Nat.le_of_ble_eq_true rfl) (Nat.le_of_ble_eq_true rfl) (Nat.le_of_ble_eq_true rfl) (by decide +kernel) ?_
  refine wn_putR (idx := 31) (ci := 0) (j := 7) (pl := 11218) hG rfl (by decide +kernel) (by decide +kernel) (by first | omega | decide) h0 (by first | omega | decide) h12 (by decide +kernel) ?_
  exact wn_ret rfl rfl rfl (Nat.le_of_ble_eq_true rfl) (Nat.le_of_ble_eq_true rfl) (by decide +kernel)
def w_Log (k : Nat) (μ : Mem) : Mem := sI (sI (sI (sI (sI (sI μ k 0 1) k 1 1) k 2 1) k 3 1) k 4 1) k 5 1
def ok_Log (k : Nat) : Bool := decide (k + 7 ≤ NC ∧ sh (k + 1) = (100, 60) ∧ (sh k).1 = 2 ∧ rt k 0 = some (k + 1) ∧ sh (k + 2) = (100, 60) ∧ rt k 1 = some (k + 2) ∧ sh (k + 3) = (100, 60) ∧ rt k 2 = some (k + 3) ∧ sh (k + 4) = (100, 60) ∧ rt k 3 = some (k + 4) ∧ sh (k + 5) = (101, 60) ∧ rt k 4 = some (k + 5) ∧ sh (k + 6) = (103, 60) ∧ rt k 5 = some (k + 6))
set_option maxRecDepth 100000 in
set_option maxHeartbeats 4000000 in
theorem k_Log {g : Gl} {μ : Mem} (k : Nat) (hG : GL g) (hk : ok_Log k = true) : SpN g i_N_Log 0 [.ref k] (k + 1) μ (k + 7) (w_Log k μ) := by
  have hk := of_decide_eq_true hk
  obtain ⟨hN, h0, h1, h2, h3, h4, h5, h6, h7, h8, h9, h10, h11, h12⟩ := hk
  refine SpN.intro o_N_Log rfl (Nat.le_of_ble_eq_true rfl) ?_
  refine wn_aload_n (i := 0) (a := k) rfl (by decide +kernel) ?_
  refine wn_obj (idx := 3) (tb_of (i := 12009) (by decide +kernel)) tb_oi1 tb_oi2 (Nat.le_of_ble_eq_true rfl) (Nat.le_of_ble_eq_true rfl) (Nat.le_of_ble_eq_true rfl) (by decide +kernel) ?_
  refine wn_aload_n (i := 0) (a := k) rfl (by decide +kernel) ?_
  refine wn_bipush (v := 60) (x := (60 : Int32)) (by decide) (by decide +kernel) ?_
  refine wn_newa (t := 0) (N := 60) hG (by first | omega | decide) (by decide) h0 (tb_of (i := 11153) (by decide +kernel)) (by decide) (by decide +kernel) (Nat.le_of_ble_eq_true rfl) (Nat.le_of_ble_eq_true rfl) (Nat.le_of_ble_eq_true rfl) (by decide +kernel) ?_
  refine wn_putR (idx := 9) (ci := 2) (j := 0) (pl := 12010) hG rfl (by decide +kernel) (by decide +kernel) (by first | omega | decide) h1 (by first | omega | decide) h2 (by decide +kernel) ?_
  refine wn_aload_n (i := 0) (a := k) rfl (by decide +kernel) ?_
  refine wn_bipush (v := 60) (x := (60 : Int32)) (by decide) (by decide +kernel) ?_
  refine wn_newa (t := 0) (N := 60) hG (by first | omega | decide) (by decide) h3 (tb_of (i := 11153) (by decide +kernel)) (by decide) (by decide +kernel) (Nat.le_of_ble_eq_true rfl) (Nat.le_of_ble_eq_true rfl) (Nat.le_of_ble_eq_true rfl) (by decide +kernel) ?_
  refine wn_putR (idx := 15) (ci := 2) (j := 1) (pl := 12013) hG rfl (by decide +kernel) (by decide +kernel) (by first | omega | decide) h1 (by first | omega | decide) h4 (by decide +kernel) ?_
  refine wn_aload_n (i := 0) (a := k) rfl (by decide +kernel) ?_
  refine wn_bipush (v := 60) (x := (60 : Int32)) (by decide) (by decide +kernel) ?_
  refine wn_newa (t := 0) (N := 60) hG (by first | omega | decide) (by decide) h5 (tb_of (i := 11153) (by decide +kernel)) (by decide) (by decide +kernel) (Nat.le_of_ble_eq_true rfl) (Nat.le_of_ble_eq_true rfl) (Nat.le_of_ble_eq_true rfl) (by decide +kernel) ?_
  refine wn_putR (idx := 18) (ci := 2) (j := 2) (pl := 12016) hG rfl (by decide +kernel) (by decide +kernel) (by first | omega | decide) h1 (by first | omega | decide) h6 (by decide +kernel) ?_
  refine wn_aload_n (i := 0) (a := k) rfl (by decide +kernel) ?_
  refine wn_bipush (v := 60) (x := (60 : Int32)) (by decide) (by decide +kernel) ?_
  refine wn_newa (t := 0) (N := 60) hG (by first | omega | decide) (by decide) h7 (tb_of (i := 11153) (by decide +kernel)) (by decide) (by decide +kernel) (Nat.le_of_ble_eq_true rfl) (Nat.le_of_ble_eq_true rfl) (Nat.le_of_ble_eq_true rfl) (by decide +kernel) ?_
  refine wn_putR (idx := 21) (ci := 2) (j := 3) (pl := 12019) hG rfl (by decide +kernel) (by decide +kernel) (by first | omega | decide) h1 (by first | omega | decide) h8 (by decide +kernel) ?_
  refine wn_aload_n (i := 0) (a := k) rfl (by decide +kernel) ?_
  refine wn_bipush (v := 60) (x := (60 : Int32)) (by decide) (by decide +kernel) ?_
  refine wn_newa (t := 1) (N := 60) hG (by first | omega | decide) (by decide) h9 (tb_of (i := 12040) (by decide +kernel)) (by decide) (by decide +kernel) (Nat.le_of_ble_eq_true rfl) (Nat.le_of_ble_eq_true rfl) (Nat.le_of_ble_eq_true rfl) (by decide +kernel) ?_
  refine wn_putR (idx := 24) (ci := 2) (j := 4) (pl := 12022) hG rfl (by decide +kernel) (by decide +kernel) (by first | omega | decide) h1 (by first | omega | decide) h10 (by decide +kernel) ?_
  refine wn_aload_n (i := 0) (a := k) rfl (by decide +kernel) ?_
  refine wn_bipush (v := 60) (x := (60 : Int32)) (by decide) (by decide +kernel) ?_
  refine wn_newa (t := 3) (N := 60) hG (by first | omega | decide) (by decide) h11 (tb_of (i := 12041) (by decide +kernel)) (by decide) (by decide +kernel) (Nat.le_of_ble_eq_true rfl) (Nat.le_of_ble_eq_true rfl) (Nat.le_of_ble_eq_true rfl) (by decide +kernel) ?_
  refine wn_putR (idx := 28) (ci := 2) (j := 5) (pl := 12024) hG rfl (by decide +kernel) (by decide +kernel) (by first | omega | decide) h1 (by first | omega | decide) h12 (by decide +kernel) ?_
  exact wn_ret rfl rfl rfl (Nat.le_of_ble_eq_true rfl) (Nat.le_of_ble_eq_true rfl) (by decide +kernel)
def w_Tape (k : Nat) (μ : Mem) : Mem := sI (sI μ k 0 1) k 2 (-1)
def ok_Tape (k : Nat) : Bool := decide (k + 2 ≤ NC ∧ sh (k + 1) = (102, 400) ∧ (sh k).1 = 9 ∧ rt k 0 = some (k + 1))
set_option maxRecDepth 100000 in
set_option maxHeartbeats 4000000 in
theorem k_Tape {g : Gl} {μ : Mem} (k : Nat) (hG : GL g) (hk : ok_Tape k = true) : SpN g i_N_Tape 0 [.ref k] (k + 1) μ (k + 2) (w_Tape k μ) := by
  have hk := of_decide_eq_true hk
  obtain ⟨hN, h0, h1, h2⟩ := hk
  refine SpN.intro o_N_Tape rfl (Nat.le_of_ble_eq_true rfl) ?_
  refine wn_aload_n (i := 0) (a := k) rfl (by decide +kernel) ?_
  refine wn_obj (idx := 3) (tb_of (i := 11044) (by decide +kernel)) tb_oi1 tb_oi2 (Nat.le_of_ble_eq_true rfl) (Nat.le_of_ble_eq_true rfl) (Nat.le_of_ble_eq_true rfl) (by decide +kernel) ?_
  refine wn_aload_n (i := 0) (a := k) rfl (by decide +kernel) ?_
  refine wn_sipush (v := 400) (x := (400 : Int32)) (by decide) (by decide +kernel) ?_
  refine wn_newa (t := 2) (N := 400) hG (by first | omega | decide) (by decide) h0 (tb_of (i := 11074) (by decide +kernel)) (by decide) (by decide +kernel) (Nat.le_of_ble_eq_true rfl) (Nat.le_of_ble_eq_true rfl) (Nat.le_of_ble_eq_true rfl) (by decide +kernel) ?_
  refine wn_putR (idx := 9) (ci := 9) (j := 0) (pl := 11045) hG rfl (by decide +kernel) (by decide +kernel) (by first | omega | decide) h1 (by first | omega | decide) h2 (by decide +kernel) ?_
  refine wn_aload_n (i := 0) (a := k) rfl (by decide +kernel) ?_
  refine wn_iconst (v := (-1)) (x := (-1 : Int32)) (by decide) (by decide +kernel) ?_
  refine wn_putI (idx := 15) (ci := 9) (j := 2) (pl := 11048) hG (by decide +kernel) (by decide +kernel) (by first | omega | decide) h1 (by decide +kernel) ?_
  exact wn_ret rfl rfl rfl (Nat.le_of_ble_eq_true rfl) (Nat.le_of_ble_eq_true rfl) (by decide +kernel)
