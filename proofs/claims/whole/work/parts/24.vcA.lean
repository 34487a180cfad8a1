abbrev WW (g : Gl) (mi : MI) (dx : Nat) (Φ : Out → Mem → Prop) := Wm g mi (rm mi dx) (QM g mi Φ)
set_option maxRecDepth 100000 in
set_option maxHeartbeats 4000000 in
theorem v_Tape_put_0 {g : Gl} {Φ : Out → Mem → Prop} {μ : Mem} {a : Int32} (H : WW g i_Tape_put 0 Φ 0 0 3 [(0, .ref 1), (1, .int a), (2, .int (24 : Int32))] [] μ) : WW g i_Tape_put 0 Φ 0 0 0 [(0, .ref 1), (1, .int a)] [] μ :=
  reg1_sound (cs := [(3, [0, 1, 2])]) T_Tape_put po_Tape (rtM_ok H_Tape_put) 3 H
set_option maxRecDepth 100000 in
set_option maxHeartbeats 4000000 in
theorem v_Tape_put_3 {g : Gl} {Φ : Out → Mem → Prop} {μ : Mem} {x1 : Int32} {x2 : Int32} (H : (x2 < 0 → Φ (.inl none) μ) ∧ (¬ x2 < 0 → ((400 : Int32) ≤ (mI μ 1 1) → WW g i_Tape_put 0 Φ 0 0 3 [(0, .ref 1), (1, .int x1), (2, .int (x2 + (-8 : Int32)))] [] μ) ∧ (¬ (400 : Int32) ≤ (mI μ 1 1) → vp_in (mI μ 1 1) 400 ∧ WW g i_Tape_put 0 Φ 0 0 3 [(0, .ref 1), (1, .int x1), (2, .int (x2 + (-8 : Int32)))] [] (sI (sI μ 2 (nx (mI μ 1 1)) (((x1 >>> (x2 &&& 31)).toInt8.toInt32).toInt8.toInt32)) 1 1 ((mI μ 1 1) + (1 : Int32)))))) : WW g i_Tape_put 0 Φ 0 0 3 [(0, .ref 1), (1, .int x1), (2, .int x2)] [] μ :=
  reg1_sound (cs := [(3, [0, 1, 2])]) T_Tape_put po_Tape (rtM_ok H_Tape_put) 24 H
set_option maxRecDepth 100000 in
set_option maxHeartbeats 4000000 in
theorem v_Sta_copyFrom_29_11_0 {g : Gl} {Φ : Out → Mem → Prop} {μ : Mem}  (H : acpOK (0 : Int32) (0 : Int32) (10 : Int32) 12 30 ∧ acpOK (0 : Int32) (0 : Int32) (10 : Int32) 13 31 ∧ acpOK (0 : Int32) (0 : Int32) (10 : Int32) 14 32 ∧ Φ (.inl none) (sRI (sRI (sRI (sI (sI (sI (sI (sL μ 29 0 (mL μ 11 0)) 29 4 (mI μ 11 4)) 29 5 (mI μ 11 5)) 29 6 (mI μ 11 6)) 29 7 (mI μ 11 7)) 30 (va_cpy (mI μ 12) (mI μ 30) (nx (0 : Int32)) (nx (0 : Int32)) (nx (10 : Int32)))) 31 (va_cpy (mI μ 13) (mI μ 31) (nx (0 : Int32)) (nx (0 : Int32)) (nx (10 : Int32)))) 32 (va_cpy (mI μ 14) (mI μ 32) (nx (0 : Int32)) (nx (0 : Int32)) (nx (10 : Int32))))) : WW g i_Sta_copyFrom 0 Φ 0 0 0 [(0, .ref 29), (1, .ref 11)] [] μ :=
  reg1_sound (cs := []) T_Sta_copyFrom po_Sta (rtM_ok H_Sta_copyFrom) 45 H
set_option maxRecDepth 100000 in
set_option maxHeartbeats 4000000 in
theorem v_Sta_copyFrom_11_29_0 {g : Gl} {Φ : Out → Mem → Prop} {μ : Mem}  (H : acpOK (0 : Int32) (0 : Int32) (10 : Int32) 30 12 ∧ acpOK (0 : Int32) (0 : Int32) (10 : Int32) 31 13 ∧ acpOK (0 : Int32) (0 : Int32) (10 : Int32) 32 14 ∧ Φ (.inl none) (sRI (sRI (sRI (sI (sI (sI (sI (sL μ 11 0 (mL μ 29 0)) 11 4 (mI μ 29 4)) 11 5 (mI μ 29 5)) 11 6 (mI μ 29 6)) 11 7 (mI μ 29 7)) 12 (va_cpy (mI μ 30) (mI μ 12) (nx (0 : Int32)) (nx (0 : Int32)) (nx (10 : Int32)))) 13 (va_cpy (mI μ 31) (mI μ 13) (nx (0 : Int32)) (nx (0 : Int32)) (nx (10 : Int32)))) 14 (va_cpy (mI μ 32) (mI μ 14) (nx (0 : Int32)) (nx (0 : Int32)) (nx (10 : Int32))))) : WW g i_Sta_copyFrom 0 Φ 0 0 0 [(0, .ref 11), (1, .ref 29)] [] μ :=
  reg1_sound (cs := []) T_Sta_copyFrom po_Sta (rtM_ok H_Sta_copyFrom) 45 H
set_option maxRecDepth 100000 in
set_option maxHeartbeats 4000000 in
theorem v_Sta_copyFrom_42_11_0 {g : Gl} {Φ : Out → Mem → Prop} {μ : Mem}  (H : acpOK (0 : Int32) (0 : Int32) (10 : Int32) 12 43 ∧ acpOK (0 : Int32) (0 : Int32) (10 : Int32) 13 44 ∧ acpOK (0 : Int32) (0 : Int32) (10 : Int32) 14 45 ∧ Φ (.inl none) (sRI (sRI (sRI (sI (sI (sI (sI (sL μ 42 0 (mL μ 11 0)) 42 4 (mI μ 11 4)) 42 5 (mI μ 11 5)) 42 6 (mI μ 11 6)) 42 7 (mI μ 11 7)) 43 (va_cpy (mI μ 12) (mI μ 43) (nx (0 : Int32)) (nx (0 : Int32)) (nx (10 : Int32)))) 44 (va_cpy (mI μ 13) (mI μ 44) (nx (0 : Int32)) (nx (0 : Int32)) (nx (10 : Int32)))) 45 (va_cpy (mI μ 14) (mI μ 45) (nx (0 : Int32)) (nx (0 : Int32)) (nx (10 : Int32))))) : WW g i_Sta_copyFrom 0 Φ 0 0 0 [(0, .ref 42), (1, .ref 11)] [] μ :=
  reg1_sound (cs := []) T_Sta_copyFrom po_Sta (rtM_ok H_Sta_copyFrom) 45 H
set_option maxRecDepth 100000 in
set_option maxHeartbeats 4000000 in
theorem v_Sta_copyFrom_11_42_0 {g : Gl} {Φ : Out → Mem → Prop} {μ : Mem}  (H : acpOK (0 : Int32) (0 : Int32) (10 : Int32) 43 12 ∧ acpOK (0 : Int32) (0 : Int32) (10 : Int32) 44 13 ∧ acpOK (0 : Int32) (0 : Int32) (10 : Int32) 45 14 ∧ Φ (.inl none) (sRI (sRI (sRI (sI (sI (sI (sI (sL μ 11 0 (mL μ 42 0)) 11 4 (mI μ 42 4)) 11 5 (mI μ 42 5)) 11 6 (mI μ 42 6)) 11 7 (mI μ 42 7)) 12 (va_cpy (mI μ 43) (mI μ 12) (nx (0 : Int32)) (nx (0 : Int32)) (nx (10 : Int32)))) 13 (va_cpy (mI μ 44) (mI μ 13) (nx (0 : Int32)) (nx (0 : Int32)) (nx (10 : Int32)))) 14 (va_cpy (mI μ 45) (mI μ 14) (nx (0 : Int32)) (nx (0 : Int32)) (nx (10 : Int32))))) : WW g i_Sta_copyFrom 0 Φ 0 0 0 [(0, .ref 11), (1, .ref 42)] [] μ :=
  reg1_sound (cs := []) T_Sta_copyFrom po_Sta (rtM_ok H_Sta_copyFrom) 45 H
set_option maxRecDepth 100000 in
set_option maxHeartbeats 4000000 in
theorem v_Sta_copyFrom_78_11_0 {g : Gl} {Φ : Out → Mem → Prop} {μ : Mem}  (H : acpOK (0 : Int32) (0 : Int32) (10 : Int32) 12 79 ∧ acpOK (0 : Int32) (0 : Int32) (10 : Int32) 13 80 ∧ acpOK (0 : Int32) (0 : Int32) (10 : Int32) 14 81 ∧ Φ (.inl none) (sRI (sRI (sRI (sI (sI (sI (sI (sL μ 78 0 (mL μ 11 0)) 78 4 (mI μ 11 4)) 78 5 (mI μ 11 5)) 78 6 (mI μ 11 6)) 78 7 (mI μ 11 7)) 79 (va_cpy (mI μ 12) (mI μ 79) (nx (0 : Int32)) (nx (0 : Int32)) (nx (10 : Int32)))) 80 (va_cpy (mI μ 13) (mI μ 80) (nx (0 : Int32)) (nx (0 : Int32)) (nx (10 : Int32)))) 81 (va_cpy (mI μ 14) (mI μ 81) (nx (0 : Int32)) (nx (0 : Int32)) (nx (10 : Int32))))) : WW g i_Sta_copyFrom 0 Φ 0 0 0 [(0, .ref 78), (1, .ref 11)] [] μ :=
  reg1_sound (cs := []) T_Sta_copyFrom po_Sta (rtM_ok H_Sta_copyFrom) 45 H
set_option maxRecDepth 100000 in
set_option maxHeartbeats 4000000 in
theorem v_Sta_copyFrom_11_78_0 {g : Gl} {Φ : Out → Mem → Prop} {μ : Mem}  (H : acpOK (0 : Int32) (0 : Int32) (10 : Int32) 79 12 ∧ acpOK (0 : Int32) (0 : Int32) (10 : Int32) 80 13 ∧ acpOK (0 : Int32) (0 : Int32) (10 : Int32) 81 14 ∧ Φ (.inl none) (sRI (sRI (sRI (sI (sI (sI (sI (sL μ 11 0 (mL μ 78 0)) 11 4 (mI μ 78 4)) 11 5 (mI μ 78 5)) 11 6 (mI μ 78 6)) 11 7 (mI μ 78 7)) 12 (va_cpy (mI μ 79) (mI μ 12) (nx (0 : Int32)) (nx (0 : Int32)) (nx (10 : Int32)))) 13 (va_cpy (mI μ 80) (mI μ 13) (nx (0 : Int32)) (nx (0 : Int32)) (nx (10 : Int32)))) 14 (va_cpy (mI μ 81) (mI μ 14) (nx (0 : Int32)) (nx (0 : Int32)) (nx (10 : Int32))))) : WW g i_Sta_copyFrom 0 Φ 0 0 0 [(0, .ref 11), (1, .ref 78)] [] μ :=
  reg1_sound (cs := []) T_Sta_copyFrom po_Sta (rtM_ok H_Sta_copyFrom) 45 H
set_option maxRecDepth 100000 in
set_option maxHeartbeats 4000000 in
theorem v_Sta_copyFrom_92_11_0 {g : Gl} {Φ : Out → Mem → Prop} {μ : Mem}  (H : acpOK (0 : Int32) (0 : Int32) (10 : Int32) 12 93 ∧ acpOK (0 : Int32) (0 : Int32) (10 : Int32) 13 94 ∧ acpOK (0 : Int32) (0 : Int32) (10 : Int32) 14 95 ∧ Φ (.inl none) (sRI (sRI (sRI (sI (sI (sI (sI (sL μ 92 0 (mL μ 11 0)) 92 4 (mI μ 11 4)) 92 5 (mI μ 11 5)) 92 6 (mI μ 11 6)) 92 7 (mI μ 11 7)) 93 (va_cpy (mI μ 12) (mI μ 93) (nx (0 : Int32)) (nx (0 : Int32)) (nx (10 : Int32)))) 94 (va_cpy (mI μ 13) (mI μ 94) (nx (0 : Int32)) (nx (0 : Int32)) (nx (10 : Int32)))) 95 (va_cpy (mI μ 14) (mI μ 95) (nx (0 : Int32)) (nx (0 : Int32)) (nx (10 : Int32))))) : WW g i_Sta_copyFrom 0 Φ 0 0 0 [(0, .ref 92), (1, .ref 11)] [] μ :=
  reg1_sound (cs := []) T_Sta_copyFrom po_Sta (rtM_ok H_Sta_copyFrom) 45 H
set_option maxRecDepth 100000 in
set_option maxHeartbeats 4000000 in
theorem v_Sta_copyFrom_96_11_0 {g : Gl} {Φ : Out → Mem → Prop} {μ : Mem}  (H : acpOK (0 : Int32) (0 : Int32) (10 : Int32) 12 97 ∧ acpOK (0 : Int32) (0 : Int32) (10 : Int32) 13 98 ∧ acpOK (0 : Int32) (0 : Int32) (10 : Int32) 14 99 ∧ Φ (.inl none) (sRI (sRI (sRI (sI (sI (sI (sI (sL μ 96 0 (mL μ 11 0)) 96 4 (mI μ 11 4)) 96 5 (mI μ 11 5)) 96 6 (mI μ 11 6)) 96 7 (mI μ 11 7)) 97 (va_cpy (mI μ 12) (mI μ 97) (nx (0 : Int32)) (nx (0 : Int32)) (nx (10 : Int32)))) 98 (va_cpy (mI μ 13) (mI μ 98) (nx (0 : Int32)) (nx (0 : Int32)) (nx (10 : Int32)))) 99 (va_cpy (mI μ 14) (mI μ 99) (nx (0 : Int32)) (nx (0 : Int32)) (nx (10 : Int32))))) : WW g i_Sta_copyFrom 0 Φ 0 0 0 [(0, .ref 96), (1, .ref 11)] [] μ :=
  reg1_sound (cs := []) T_Sta_copyFrom po_Sta (rtM_ok H_Sta_copyFrom) 45 H
set_option maxRecDepth 100000 in
set_option maxHeartbeats 4000000 in
theorem v_Sta_copyFrom_100_11_0 {g : Gl} {Φ : Out → Mem → Prop} {μ : Mem}  (H : acpOK (0 : Int32) (0 : Int32) (10 : Int32) 12 101 ∧ acpOK (0 : Int32) (0 : Int32) (10 : Int32) 13 102 ∧ acpOK (0 : Int32) (0 : Int32) (10 : Int32) 14 103 ∧ Φ (.inl none) (sRI (sRI (sRI (sI (sI (sI (sI (sL μ 100 0 (mL μ 11 0)) 100 4 (mI μ 11 4)) 100 5 (mI μ 11 5)) 100 6 (mI μ 11 6)) 100 7 (mI μ 11 7)) 101 (va_cpy (mI μ 12) (mI μ 101) (nx (0 : Int32)) (nx (0 : Int32)) (nx (10 : Int32)))) 102 (va_cpy (mI μ 13) (mI μ 102) (nx (0 : Int32)) (nx (0 : Int32)) (nx (10 : Int32)))) 103 (va_cpy (mI μ 14) (mI μ 103) (nx (0 : Int32)) (nx (0 : Int32)) (nx (10 : Int32))))) : WW g i_Sta_copyFrom 0 Φ 0 0 0 [(0, .ref 100), (1, .ref 11)] [] μ :=
  reg1_sound (cs := []) T_Sta_copyFrom po_Sta (rtM_ok H_Sta_copyFrom) 45 H
set_option maxRecDepth 100000 in
set_option maxHeartbeats 4000000 in
theorem v_Sta_copyFrom_104_11_0 {g : Gl} {Φ : Out → Mem → Prop} {μ : Mem}  (H : acpOK (0 : Int32) (0 : Int32) (10 : Int32) 12 105 ∧ acpOK (0 : Int32) (0 : Int32) (10 : Int32) 13 106 ∧ acpOK (0 : Int32) (0 : Int32) (10 : Int32) 14 107 ∧ Φ (.inl none) (sRI (sRI (sRI (sI (sI (sI (sI (sL μ 104 0 (mL μ 11 0)) 104 4 (mI μ 11 4)) 104 5 (mI μ 11 5)) 104 6 (mI μ 11 6)) 104 7 (mI μ 11 7)) 105 (va_cpy (mI μ 12) (mI μ 105) (nx (0 : Int32)) (nx (0 : Int32)) (nx (10 : Int32)))) 106 (va_cpy (mI μ 13) (mI μ 106) (nx (0 : Int32)) (nx (0 : Int32)) (nx (10 : Int32)))) 107 (va_cpy (mI μ 14) (mI μ 107) (nx (0 : Int32)) (nx (0 : Int32)) (nx (10 : Int32))))) : WW g i_Sta_copyFrom 0 Φ 0 0 0 [(0, .ref 104), (1, .ref 11)] [] μ :=
  reg1_sound (cs := []) T_Sta_copyFrom po_Sta (rtM_ok H_Sta_copyFrom) 45 H
set_option maxRecDepth 100000 in
set_option maxHeartbeats 4000000 in
theorem v_Sta_copyFrom_108_11_0 {g : Gl} {Φ : Out → Mem → Prop} {μ : Mem}  (H : acpOK (0 : Int32) (0 : Int32) (10 : Int32) 12 109 ∧ acpOK (0 : Int32) (0 : Int32) (10 : Int32) 13 110 ∧ acpOK (0 : Int32) (0 : Int32) (10 : Int32) 14 111 ∧ Φ (.inl none) (sRI (sRI (sRI (sI (sI (sI (sI (sL μ 108 0 (mL μ 11 0)) 108 4 (mI μ 11 4)) 108 5 (mI μ 11 5)) 108 6 (mI μ 11 6)) 108 7 (mI μ 11 7)) 109 (va_cpy (mI μ 12) (mI μ 109) (nx (0 : Int32)) (nx (0 : Int32)) (nx (10 : Int32)))) 110 (va_cpy (mI μ 13) (mI μ 110) (nx (0 : Int32)) (nx (0 : Int32)) (nx (10 : Int32)))) 111 (va_cpy (mI μ 14) (mI μ 111) (nx (0 : Int32)) (nx (0 : Int32)) (nx (10 : Int32))))) : WW g i_Sta_copyFrom 0 Φ 0 0 0 [(0, .ref 108), (1, .ref 11)] [] μ :=
  reg1_sound (cs := []) T_Sta_copyFrom po_Sta (rtM_ok H_Sta_copyFrom) 45 H
set_option maxRecDepth 100000 in
set_option maxHeartbeats 4000000 in
theorem v_Sta_copyFrom_112_11_0 {g : Gl} {Φ : Out → Mem → Prop} {μ : Mem}  (H : acpOK (0 : Int32) (0 : Int32) (10 : Int32) 12 113 ∧ acpOK (0 : Int32) (0 : Int32) (10 : Int32) 13 114 ∧ acpOK (0 : Int32) (0 : Int32) (10 : Int32) 14 115 ∧ Φ (.inl none) (sRI (sRI (sRI (sI (sI (sI (sI (sL μ 112 0 (mL μ 11 0)) 112 4 (mI μ 11 4)) 112 5 (mI μ 11 5)) 112 6 (mI μ 11 6)) 112 7 (mI μ 11 7)) 113 (va_cpy (mI μ 12) (mI μ 113) (nx (0 : Int32)) (nx (0 : Int32)) (nx (10 : Int32)))) 114 (va_cpy (mI μ 13) (mI μ 114) (nx (0 : Int32)) (nx (0 : Int32)) (nx (10 : Int32)))) 115 (va_cpy (mI μ 14) (mI μ 115) (nx (0 : Int32)) (nx (0 : Int32)) (nx (10 : Int32))))) : WW g i_Sta_copyFrom 0 Φ 0 0 0 [(0, .ref 112), (1, .ref 11)] [] μ :=
  reg1_sound (cs := []) T_Sta_copyFrom po_Sta (rtM_ok H_Sta_copyFrom) 45 H
set_option maxRecDepth 100000 in
set_option maxHeartbeats 4000000 in
theorem v_Sta_copyFrom_116_11_0 {g : Gl} {Φ : Out → Mem → Prop} {μ : Mem}  (H : acpOK (0 : Int32) (0 : Int32) (10 : Int32) 12 117 ∧ acpOK (0 : Int32) (0 : Int32) (10 : Int32) 13 118 ∧ acpOK (0 : Int32) (0 : Int32) (10 : Int32) 14 119 ∧ Φ (.inl none) (sRI (sRI (sRI (sI (sI (sI (sI (sL μ 116 0 (mL μ 11 0)) 116 4 (mI μ 11 4)) 116 5 (mI μ 11 5)) 116 6 (mI μ 11 6)) 116 7 (mI μ 11 7)) 117 (va_cpy (mI μ 12) (mI μ 117) (nx (0 : Int32)) (nx (0 : Int32)) (nx (10 : Int32)))) 118 (va_cpy (mI μ 13) (mI μ 118) (nx (0 : Int32)) (nx (0 : Int32)) (nx (10 : Int32)))) 119 (va_cpy (mI μ 14) (mI μ 119) (nx (0 : Int32)) (nx (0 : Int32)) (nx (10 : Int32))))) : WW g i_Sta_copyFrom 0 Φ 0 0 0 [(0, .ref 116), (1, .ref 11)] [] μ :=
  reg1_sound (cs := []) T_Sta_copyFrom po_Sta (rtM_ok H_Sta_copyFrom) 45 H
set_option maxRecDepth 100000 in
set_option maxHeartbeats 4000000 in
theorem v_Sta_copyFrom_120_11_0 {g : Gl} {Φ : Out → Mem → Prop} {μ : Mem}  (H : acpOK (0 : Int32) (0 : Int32) (10 : Int32) 12 121 ∧ acpOK (0 : Int32) (0 : Int32) (10 : Int32) 13 122 ∧ acpOK (0 : Int32) (0 : Int32) (10 : Int32) 14 123 ∧ Φ (.inl none) (sRI (sRI (sRI (sI (sI (sI (sI (sL μ 120 0 (mL μ 11 0)) 120 4 (mI μ 11 4)) 120 5 (mI μ 11 5)) 120 6 (mI μ 11 6)) 120 7 (mI μ 11 7)) 121 (va_cpy (mI μ 12) (mI μ 121) (nx (0 : Int32)) (nx (0 : Int32)) (nx (10 : Int32)))) 122 (va_cpy (mI μ 13) (mI μ 122) (nx (0 : Int32)) (nx (0 : Int32)) (nx (10 : Int32)))) 123 (va_cpy (mI μ 14) (mI μ 123) (nx (0 : Int32)) (nx (0 : Int32)) (nx (10 : Int32))))) : WW g i_Sta_copyFrom 0 Φ 0 0 0 [(0, .ref 120), (1, .ref 11)] [] μ :=
  reg1_sound (cs := []) T_Sta_copyFrom po_Sta (rtM_ok H_Sta_copyFrom) 45 H
set_option maxRecDepth 100000 in
set_option maxHeartbeats 4000000 in
theorem v_Sta_copyFrom_124_11_0 {g : Gl} {Φ : Out → Mem → Prop} {μ : Mem}  (H : acpOK (0 : Int32) (0 : Int32) (10 : Int32) 12 125 ∧ acpOK (0 : Int32) (0 : Int32) (10 : Int32) 13 126 ∧ acpOK (0 : Int32) (0 : Int32) (10 : Int32) 14 127 ∧ Φ (.inl none) (sRI (sRI (sRI (sI (sI (sI (sI (sL μ 124 0 (mL μ 11 0)) 124 4 (mI μ 11 4)) 124 5 (mI μ 11 5)) 124 6 (mI μ 11 6)) 124 7 (mI μ 11 7)) 125 (va_cpy (mI μ 12) (mI μ 125) (nx (0 : Int32)) (nx (0 : Int32)) (nx (10 : Int32)))) 126 (va_cpy (mI μ 13) (mI μ 126) (nx (0 : Int32)) (nx (0 : Int32)) (nx (10 : Int32)))) 127 (va_cpy (mI μ 14) (mI μ 127) (nx (0 : Int32)) (nx (0 : Int32)) (nx (10 : Int32))))) : WW g i_Sta_copyFrom 0 Φ 0 0 0 [(0, .ref 124), (1, .ref 11)] [] μ :=
  reg1_sound (cs := []) T_Sta_copyFrom po_Sta (rtM_ok H_Sta_copyFrom) 45 H
set_option maxRecDepth 100000 in
set_option maxHeartbeats 4000000 in
theorem v_Sta_copyFrom_128_11_0 {g : Gl} {Φ : Out → Mem → Prop} {μ : Mem}  (H : acpOK (0 : Int32) (0 : Int32) (10 : Int32) 12 129 ∧ acpOK (0 : Int32) (0 : Int32) (10 : Int32) 13 130 ∧ acpOK (0 : Int32) (0 : Int32) (10 : Int32) 14 131 ∧ Φ (.inl none) (sRI (sRI (sRI (sI (sI (sI (sI (sL μ 128 0 (mL μ 11 0)) 128 4 (mI μ 11 4)) 128 5 (mI μ 11 5)) 128 6 (mI μ 11 6)) 128 7 (mI μ 11 7)) 129 (va_cpy (mI μ 12) (mI μ 129) (nx (0 : Int32)) (nx (0 : Int32)) (nx (10 : Int32)))) 130 (va_cpy (mI μ 13) (mI μ 130) (nx (0 : Int32)) (nx (0 : Int32)) (nx (10 : Int32)))) 131 (va_cpy (mI μ 14) (mI μ 131) (nx (0 : Int32)) (nx (0 : Int32)) (nx (10 : Int32))))) : WW g i_Sta_copyFrom 0 Φ 0 0 0 [(0, .ref 128), (1, .ref 11)] [] μ :=
  reg1_sound (cs := []) T_Sta_copyFrom po_Sta (rtM_ok H_Sta_copyFrom) 45 H
set_option maxRecDepth 100000 in
set_option maxHeartbeats 4000000 in
theorem v_Sta_copyFrom_132_11_0 {g : Gl} {Φ : Out → Mem → Prop} {μ : Mem}  (H : acpOK (0 : Int32) (0 : Int32) (10 : Int32) 12 133 ∧ acpOK (0 : Int32) (0 : Int32) (10 : Int32) 13 134 ∧ acpOK (0 : Int32) (0 : Int32) (10 : Int32) 14 135 ∧ Φ (.inl none) (sRI (sRI (sRI (sI (sI (sI (sI (sL μ 132 0 (mL μ 11 0)) 132 4 (mI μ 11 4)) 132 5 (mI μ 11 5)) 132 6 (mI μ 11 6)) 132 7 (mI μ 11 7)) 133 (va_cpy (mI μ 12) (mI μ 133) (nx (0 : Int32)) (nx (0 : Int32)) (nx (10 : Int32)))) 134 (va_cpy (mI μ 13) (mI μ 134) (nx (0 : Int32)) (nx (0 : Int32)) (nx (10 : Int32)))) 135 (va_cpy (mI μ 14) (mI μ 135) (nx (0 : Int32)) (nx (0 : Int32)) (nx (10 : Int32))))) : WW g i_Sta_copyFrom 0 Φ 0 0 0 [(0, .ref 132), (1, .ref 11)] [] μ :=
  reg1_sound (cs := []) T_Sta_copyFrom po_Sta (rtM_ok H_Sta_copyFrom) 45 H
set_option maxRecDepth 100000 in
set_option maxHeartbeats 4000000 in
theorem v_Sta_copyFrom_136_11_0 {g : Gl} {Φ : Out → Mem → Prop} {μ : Mem}  (H : acpOK (0 : Int32) (0 : Int32) (10 : Int32) 12 137 ∧ acpOK (0 : Int32) (0 : Int32) (10 : Int32) 13 138 ∧ acpOK (0 : Int32) (0 : Int32) (10 : Int32) 14 139 ∧ Φ (.inl none) (sRI (sRI (sRI (sI (sI (sI (sI (sL μ 136 0 (mL μ 11 0)) 136 4 (mI μ 11 4)) 136 5 (mI μ 11 5)) 136 6 (mI μ 11 6)) 136 7 (mI μ 11 7)) 137 (va_cpy (mI μ 12) (mI μ 137) (nx (0 : Int32)) (nx (0 : Int32)) (nx (10 : Int32)))) 138 (va_cpy (mI μ 13) (mI μ 138) (nx (0 : Int32)) (nx (0 : Int32)) (nx (10 : Int32)))) 139 (va_cpy (mI μ 14) (mI μ 139) (nx (0 : Int32)) (nx (0 : Int32)) (nx (10 : Int32))))) : WW g i_Sta_copyFrom 0 Φ 0 0 0 [(0, .ref 136), (1, .ref 11)] [] μ :=
  reg1_sound (cs := []) T_Sta_copyFrom po_Sta (rtM_ok H_Sta_copyFrom) 45 H
set_option maxRecDepth 100000 in
set_option maxHeartbeats 4000000 in
theorem v_Sta_copyFrom_11_92_0 {g : Gl} {Φ : Out → Mem → Prop} {μ : Mem}  (H : acpOK (0 : Int32) (0 : Int32) (10 : Int32) 93 12 ∧ acpOK (0 : Int32) (0 : Int32) (10 : Int32) 94 13 ∧ acpOK (0 : Int32) (0 : Int32) (10 : Int32) 95 14 ∧ Φ (.inl none) (sRI (sRI (sRI (sI (sI (sI (sI (sL μ 11 0 (mL μ 92 0)) 11 4 (mI μ 92 4)) 11 5 (mI μ 92 5)) 11 6 (mI μ 92 6)) 11 7 (mI μ 92 7)) 12 (va_cpy (mI μ 93) (mI μ 12) (nx (0 : Int32)) (nx (0 : Int32)) (nx (10 : Int32)))) 13 (va_cpy (mI μ 94) (mI μ 13) (nx (0 : Int32)) (nx (0 : Int32)) (nx (10 : Int32)))) 14 (va_cpy (mI μ 95) (mI μ 14) (nx (0 : Int32)) (nx (0 : Int32)) (nx (10 : Int32))))) : WW g i_Sta_copyFrom 0 Φ 0 0 0 [(0, .ref 11), (1, .ref 92)] [] μ :=
  reg1_sound (cs := []) T_Sta_copyFrom po_Sta (rtM_ok H_Sta_copyFrom) 45 H
set_option maxRecDepth 100000 in
set_option maxHeartbeats 4000000 in
theorem v_Sta_copyFrom_11_96_0 {g : Gl} {Φ : Out → Mem → Prop} {μ : Mem}  (H : acpOK (0 : Int32) (0 : Int32) (10 : Int32) 97 12 ∧ acpOK (0 : Int32) (0 : Int32) (10 : Int32) 98 13 ∧ acpOK (0 : Int32) (0 : Int32) (10 : Int32) 99 14 ∧ Φ (.inl none) (sRI (sRI (sRI (sI (sI (sI (sI (sL μ 11 0 (mL μ 96 0)) 11 4 (mI μ 96 4)) 11 5 (mI μ 96 5)) 11 6 (mI μ 96 6)) 11 7 (mI μ 96 7)) 12 (va_cpy (mI μ 97) (mI μ 12) (nx (0 : Int32)) (nx (0 : Int32)) (nx (10 : Int32)))) 13 (va_cpy (mI μ 98) (mI μ 13) (nx (0 : Int32)) (nx (0 : Int32)) (nx (10 : Int32)))) 14 (va_cpy (mI μ 99) (mI μ 14) (nx (0 : Int32)) (nx (0 : Int32)) (nx (10 : Int32))))) : WW g i_Sta_copyFrom 0 Φ 0 0 0 [(0, .ref 11), (1, .ref 96)] [] μ :=
  reg1_sound (cs := []) T_Sta_copyFrom po_Sta (rtM_ok H_Sta_copyFrom) 45 H
set_option maxRecDepth 100000 in
set_option maxHeartbeats 4000000 in
theorem v_Sta_copyFrom_11_100_0 {g : Gl} {Φ : Out → Mem → Prop} {μ : Mem}  (H : acpOK (0 : Int32) (0 : Int32) (10 : Int32) 101 12 ∧ acpOK (0 : Int32) (0 : Int32) (10 : Int32) 102 13 ∧ acpOK (0 : Int32) (0 : Int32) (10 : Int32) 103 14 ∧ Φ (.inl none) (sRI (sRI (sRI (sI (sI (sI (sI (sL μ 11 0 (mL μ 100 0)) 11 4 (mI μ 100 4)) 11 5 (mI μ 100 5)) 11 6 (mI μ 100 6)) 11 7 (mI μ 100 7)) 12 (va_cpy (mI μ 101) (mI μ 12) (nx (0 : Int32)) (nx (0 : Int32)) (nx (10 : Int32)))) 13 (va_cpy (mI μ 102) (mI μ 13) (nx (0 : Int32)) (nx (0 : Int32)) (nx (10 : Int32)))) 14 (va_cpy (mI μ 103) (mI μ 14) (nx (0 : Int32)) (nx (0 : Int32)) (nx (10 : Int32))))) : WW g i_Sta_copyFrom 0 Φ 0 0 0 [(0, .ref 11), (1, .ref 100)] [] μ :=
  reg1_sound (cs := []) T_Sta_copyFrom po_Sta (rtM_ok H_Sta_copyFrom) 45 H
set_option maxRecDepth 100000 in
set_option maxHeartbeats 4000000 in
theorem v_Sta_copyFrom_11_104_0 {g : Gl} {Φ : Out → Mem → Prop} {μ : Mem}  (H : acpOK (0 : Int32) (0 : Int32) (10 : Int32) 105 12 ∧ acpOK (0 : Int32) (0 : Int32) (10 : Int32) 106 13 ∧ acpOK (0 : Int32) (0 : Int32) (10 : Int32) 107 14 ∧ Φ (.inl none) (sRI (sRI (sRI (sI (sI (sI (sI (sL μ 11 0 (mL μ 104 0)) 11 4 (mI μ 104 4)) 11 5 (mI μ 104 5)) 11 6 (mI μ 104 6)) 11 7 (mI μ 104 7)) 12 (va_cpy (mI μ 105) (mI μ 12) (nx (0 : Int32)) (nx (0 : Int32)) (nx (10 : Int32)))) 13 (va_cpy (mI μ 106) (mI μ 13) (nx (0 : Int32)) (nx (0 : Int32)) (nx (10 : Int32)))) 14 (va_cpy (mI μ 107) (mI μ 14) (nx (0 : Int32)) (nx (0 : Int32)) (nx (10 : Int32))))) : WW g i_Sta_copyFrom 0 Φ 0 0 0 [(0, .ref 11), (1, .ref 104)] [] μ :=
  reg1_sound (cs := []) T_Sta_copyFrom po_Sta (rtM_ok H_Sta_copyFrom) 45 H
set_option maxRecDepth 100000 in
set_option maxHeartbeats 4000000 in
theorem v_Sta_copyFrom_11_108_0 {g : Gl} {Φ : Out → Mem → Prop} {μ : Mem}  (H : acpOK (0 : Int32) (0 : Int32) (10 : Int32) 109 12 ∧ acpOK (0 : Int32) (0 : Int32) (10 : Int32) 110 13 ∧ acpOK (0 : Int32) (0 : Int32) (10 : Int32) 111 14 ∧ Φ (.inl none) (sRI (sRI (sRI (sI (sI (sI (sI (sL μ 11 0 (mL μ 108 0)) 11 4 (mI μ 108 4)) 11 5 (mI μ 108 5)) 11 6 (mI μ 108 6)) 11 7 (mI μ 108 7)) 12 (va_cpy (mI μ 109) (mI μ 12) (nx (0 : Int32)) (nx (0 : Int32)) (nx (10 : Int32)))) 13 (va_cpy (mI μ 110) (mI μ 13) (nx (0 : Int32)) (nx (0 : Int32)) (nx (10 : Int32)))) 14 (va_cpy (mI μ 111) (mI μ 14) (nx (0 : Int32)) (nx (0 : Int32)) (nx (10 : Int32))))) : WW g i_Sta_copyFrom 0 Φ 0 0 0 [(0, .ref 11), (1, .ref 108)] [] μ :=
  reg1_sound (cs := []) T_Sta_copyFrom po_Sta (rtM_ok H_Sta_copyFrom) 45 H
set_option maxRecDepth 100000 in
set_option maxHeartbeats 4000000 in
theorem v_Sta_copyFrom_11_112_0 {g : Gl} {Φ : Out → Mem → Prop} {μ : Mem}  (H : acpOK (0 : Int32) (0 : Int32) (10 : Int32) 113 12 ∧ acpOK (0 : Int32) (0 : Int32) (10 : Int32) 114 13 ∧ acpOK (0 : Int32) (0 : Int32) (10 : Int32) 115 14 ∧ Φ (.inl none) (sRI (sRI (sRI (sI (sI (sI (sI (sL μ 11 0 (mL μ 112 0)) 11 4 (mI μ 112 4)) 11 5 (mI μ 112 5)) 11 6 (mI μ 112 6)) 11 7 (mI μ 112 7)) 12 (va_cpy (mI μ 113) (mI μ 12) (nx (0 : Int32)) (nx (0 : Int32)) (nx (10 : Int32)))) 13 (va_cpy (mI μ 114) (mI μ 13) (nx (0 : Int32)) (nx (0 : Int32)) (nx (10 : Int32)))) 14 (va_cpy (mI μ 115) (mI μ 14) (nx (0 : Int32)) (nx (0 : Int32)) (nx (10 : Int32))))) : WW g i_Sta_copyFrom 0 Φ 0 0 0 [(0, .ref 11), (1, .ref 112)] [] μ :=
  reg1_sound (cs := []) T_Sta_copyFrom po_Sta (rtM_ok H_Sta_copyFrom) 45 H
set_option maxRecDepth 100000 in
set_option maxHeartbeats 4000000 in
theorem v_Sta_copyFrom_11_116_0 {g : Gl} {Φ : Out → Mem → Prop} {μ : Mem}  (H : acpOK (0 : Int32) (0 : Int32) (10 : Int32) 117 12 ∧ acpOK (0 : Int32) (0 : Int32) (10 : Int32) 118 13 ∧ acpOK (0 : Int32) (0 : Int32) (10 : Int32) 119 14 ∧ Φ (.inl none) (sRI (sRI (sRI (sI (sI (sI (sI (sL μ 11 0 (mL μ 116 0)) 11 4 (mI μ 116 4)) 11 5 (mI μ 116 5)) 11 6 (mI μ 116 6)) 11 7 (mI μ 116 7)) 12 (va_cpy (mI μ 117) (mI μ 12) (nx (0 : Int32)) (nx (0 : Int32)) (nx (10 : Int32)))) 13 (va_cpy (mI μ 118) (mI μ 13) (nx (0 : Int32)) (nx (0 : Int32)) (nx (10 : Int32)))) 14 (va_cpy (mI μ 119) (mI μ 14) (nx (0 : Int32)) (nx (0 : Int32)) (nx (10 : Int32))))) : WW g i_Sta_copyFrom 0 Φ 0 0 0 [(0, .ref 11), (1, .ref 116)] [] μ :=
  reg1_sound (cs := []) T_Sta_copyFrom po_Sta (rtM_ok H_Sta_copyFrom) 45 H
set_option maxRecDepth 100000 in
set_option maxHeartbeats 4000000 in
theorem v_Sta_copyFrom_11_120_0 {g : Gl} {Φ : Out → Mem → Prop} {μ : Mem}  (H : acpOK (0 : Int32) (0 : Int32) (10 : Int32) 121 12 ∧ acpOK (0 : Int32) (0 : Int32) (10 : Int32) 122 13 ∧ acpOK (0 : Int32) (0 : Int32) (10 : Int32) 123 14 ∧ Φ (.inl none) (sRI (sRI (sRI (sI (sI (sI (sI (sL μ 11 0 (mL μ 120 0)) 11 4 (mI μ 120 4)) 11 5 (mI μ 120 5)) 11 6 (mI μ 120 6)) 11 7 (mI μ 120 7)) 12 (va_cpy (mI μ 121) (mI μ 12) (nx (0 : Int32)) (nx (0 : Int32)) (nx (10 : Int32)))) 13 (va_cpy (mI μ 122) (mI μ 13) (nx (0 : Int32)) (nx (0 : Int32)) (nx (10 : Int32)))) 14 (va_cpy (mI μ 123) (mI μ 14) (nx (0 : Int32)) (nx (0 : Int32)) (nx (10 : Int32))))) : WW g i_Sta_copyFrom 0 Φ 0 0 0 [(0, .ref 11), (1, .ref 120)] [] μ :=
  reg1_sound (cs := []) T_Sta_copyFrom po_Sta (rtM_ok H_Sta_copyFrom) 45 H
set_option maxRecDepth 100000 in
set_option maxHeartbeats 4000000 in
theorem v_Sta_copyFrom_11_124_0 {g : Gl} {Φ : Out → Mem → Prop} {μ : Mem}  (H : acpOK (0 : Int32) (0 : Int32) (10 : Int32) 125 12 ∧ acpOK (0 : Int32) (0 : Int32) (10 : Int32) 126 13 ∧ acpOK (0 : Int32) (0 : Int32) (10 : Int32) 127 14 ∧ Φ (.inl none) (sRI (sRI (sRI (sI (sI (sI (sI (sL μ 11 0 (mL μ 124 0)) 11 4 (mI μ 124 4)) 11 5 (mI μ 124 5)) 11 6 (mI μ 124 6)) 11 7 (mI μ 124 7)) 12 (va_cpy (mI μ 125) (mI μ 12) (nx (0 : Int32)) (nx (0 : Int32)) (nx (10 : Int32)))) 13 (va_cpy (mI μ 126) (mI μ 13) (nx (0 : Int32)) (nx (0 : Int32)) (nx (10 : Int32)))) 14 (va_cpy (mI μ 127) (mI μ 14) (nx (0 : Int32)) (nx (0 : Int32)) (nx (10 : Int32))))) : WW g i_Sta_copyFrom 0 Φ 0 0 0 [(0, .ref 11), (1, .ref 124)] [] μ :=
  reg1_sound (cs := []) T_Sta_copyFrom po_Sta (rtM_ok H_Sta_copyFrom) 45 H
set_option maxRecDepth 100000 in
set_option maxHeartbeats 4000000 in
theorem v_Sta_copyFrom_11_128_0 {g : Gl} {Φ : Out → Mem → Prop} {μ : Mem}  (H : acpOK (0 : Int32) (0 : Int32) (10 : Int32) 129 12 ∧ acpOK (0 : Int32) (0 : Int32) (10 : Int32) 130 13 ∧ acpOK (0 : Int32) (0 : Int32) (10 : Int32) 131 14 ∧ Φ (.inl none) (sRI (sRI (sRI (sI (sI (sI (sI (sL μ 11 0 (mL μ 128 0)) 11 4 (mI μ 128 4)) 11 5 (mI μ 128 5)) 11 6 (mI μ 128 6)) 11 7 (mI μ 128 7)) 12 (va_cpy (mI μ 129) (mI μ 12) (nx (0 : Int32)) (nx (0 : Int32)) (nx (10 : Int32)))) 13 (va_cpy (mI μ 130) (mI μ 13) (nx (0 : Int32)) (nx (0 : Int32)) (nx (10 : Int32)))) 14 (va_cpy (mI μ 131) (mI μ 14) (nx (0 : Int32)) (nx (0 : Int32)) (nx (10 : Int32))))) : WW g i_Sta_copyFrom 0 Φ 0 0 0 [(0, .ref 11), (1, .ref 128)] [] μ :=
  reg1_sound (cs := []) T_Sta_copyFrom po_Sta (rtM_ok H_Sta_copyFrom) 45 H
set_option maxRecDepth 100000 in
set_option maxHeartbeats 4000000 in
theorem v_Sta_copyFrom_11_132_0 {g : Gl} {Φ : Out → Mem → Prop} {μ : Mem}  (H : acpOK (0 : Int32) (0 : Int32) (10 : Int32) 133 12 ∧ acpOK (0 : Int32) (0 : Int32) (10 : Int32) 134 13 ∧ acpOK (0 : Int32) (0 : Int32) (10 : Int32) 135 14 ∧ Φ (.inl none) (sRI (sRI (sRI (sI (sI (sI (sI (sL μ 11 0 (mL μ 132 0)) 11 4 (mI μ 132 4)) 11 5 (mI μ 132 5)) 11 6 (mI μ 132 6)) 11 7 (mI μ 132 7)) 12 (va_cpy (mI μ 133) (mI μ 12) (nx (0 : Int32)) (nx (0 : Int32)) (nx (10 : Int32)))) 13 (va_cpy (mI μ 134) (mI μ 13) (nx (0 : Int32)) (nx (0 : Int32)) (nx (10 : Int32)))) 14 (va_cpy (mI μ 135) (mI μ 14) (nx (0 : Int32)) (nx (0 : Int32)) (nx (10 : Int32))))) : WW g i_Sta_copyFrom 0 Φ 0 0 0 [(0, .ref 11), (1, .ref 132)] [] μ :=
  reg1_sound (cs := []) T_Sta_copyFrom po_Sta (rtM_ok H_Sta_copyFrom) 45 H
set_option maxRecDepth 100000 in
set_option maxHeartbeats 4000000 in
theorem v_Sta_copyFrom_11_136_0 {g : Gl} {Φ : Out → Mem → Prop} {μ : Mem}  (H : acpOK (0 : Int32) (0 : Int32) (10 : Int32) 137 12 ∧ acpOK (0 : Int32) (0 : Int32) (10 : Int32) 138 13 ∧ acpOK (0 : Int32) (0 : Int32) (10 : Int32) 139 14 ∧ Φ (.inl none) (sRI (sRI (sRI (sI (sI (sI (sI (sL μ 11 0 (mL μ 136 0)) 11 4 (mI μ 136 4)) 11 5 (mI μ 136 5)) 11 6 (mI μ 136 6)) 11 7 (mI μ 136 7)) 12 (va_cpy (mI μ 137) (mI μ 12) (nx (0 : Int32)) (nx (0 : Int32)) (nx (10 : Int32)))) 13 (va_cpy (mI μ 138) (mI μ 13) (nx (0 : Int32)) (nx (0 : Int32)) (nx (10 : Int32)))) 14 (va_cpy (mI μ 139) (mI μ 14) (nx (0 : Int32)) (nx (0 : Int32)) (nx (10 : Int32))))) : WW g i_Sta_copyFrom 0 Φ 0 0 0 [(0, .ref 11), (1, .ref 136)] [] μ :=
  reg1_sound (cs := []) T_Sta_copyFrom po_Sta (rtM_ok H_Sta_copyFrom) 45 H
set_option maxRecDepth 100000 in
set_option maxHeartbeats 4000000 in
theorem v_Sta_isAbsent_0 {g : Gl} {Φ : Out → Mem → Prop} {μ : Mem} {a : Int32} (H : ((((mI μ 11 4) >>> (a &&& 31)) &&& (1 : Int32)) = 0 → ((0 : Int32) = 0 ∨ (0 : Int32) = 1) ∧ Φ (.inl (some (.int (0 : Int32)))) μ) ∧ (¬ (((mI μ 11 4) >>> (a &&& 31)) &&& (1 : Int32)) = 0 → ((1 : Int32) = 0 ∨ (1 : Int32) = 1) ∧ Φ (.inl (some (.int (1 : Int32)))) μ)) : WW g i_Sta_isAbsent 0 Φ 0 0 0 [(0, .ref 11), (1, .int a)] [] μ :=
  reg1_sound (cs := []) T_Sta_isAbsent po_Sta (rtM_ok H_Sta_isAbsent) 10 H
set_option maxRecDepth 100000 in
set_option maxHeartbeats 4000000 in
theorem v_Set_following_0 {g : Gl} {Φ : Out → Mem → Prop} {μ : Mem} {a : Int32} (H : WW g i_Set_following 0 Φ 0 0 4 [(0, .ref 4), (2, .int a), (3, .int (0 : Int32))] [] μ) : WW g i_Set_following 0 Φ 0 0 0 [(0, .ref 4), (1, .int a)] [] μ :=
  reg1_sound (cs := [(4, [0, 2, 3]), (16, [0, 2, 3, 4, 5])]) T_Set_following po_Set (rtM_ok H_Set_following) 5 H
set_option maxRecDepth 100000 in
set_option maxHeartbeats 4000000 in
theorem v_Set_following_4 {g : Gl} {Φ : Out → Mem → Prop} {μ : Mem} {x2 : Int32} {x3 : Int32} (H : ((10 : Int32) ≤ x3 → Φ (.inl (some (.int x2))) μ) ∧ (¬ (10 : Int32) ≤ x3 → WW g i_Set_following 0 Φ 0 0 16 [(0, .ref 4), (2, .int x2), (3, .int x3), (4, .int x2), (5, .int (0 : Int32))] [] μ)) : WW g i_Set_following 0 Φ 0 0 4 [(0, .ref 4), (2, .int x2), (3, .int x3)] [] μ :=
  reg1_sound (cs := [(4, [0, 2, 3]), (16, [0, 2, 3, 4, 5])]) T_Set_following po_Set (rtM_ok H_Set_following) 8 H
set_option maxRecDepth 100000 in
set_option maxHeartbeats 4000000 in
theorem v_Sta_distance_0 {g : Gl} {Φ : Out → Mem → Prop} {μ : Mem} {a : Int32} {b : Int32} (H : vp_in a 10 ∧ vp_in b 10 ∧ vp_in a 10 ∧ vp_in b 10 ∧ Φ (.inl (some (.int (mmax (mabs ((mI μ 13 (nx a)) - (mI μ 13 (nx b)))) (mabs ((mI μ 14 (nx a)) - (mI μ 14 (nx b)))))))) μ) : WW g i_Sta_distance 0 Φ 0 0 0 [(0, .ref 11), (1, .int a), (2, .int b)] [] μ :=
  reg1_sound (cs := []) T_Sta_distance po_Sta (rtM_ok H_Sta_distance) 22 H
set_option maxRecDepth 100000 in
set_option maxHeartbeats 4000000 in
theorem v_Law_tell_0 {g : Gl} {Φ : Out → Mem → Prop} {μ : Mem} {a : Int32} {b : Int32} {c : Int32} {d : Int32} (H : vp_in (0 : Int32) 8 ∧ vp_in (1 : Int32) 8 ∧ vp_in (2 : Int32) 8 ∧ vp_in (3 : Int32) 8 ∧ Φ (.inl none) (sI (sI (sI (sI μ 20 (nx (0 : Int32)) b) 20 (nx (1 : Int32)) c) 20 (nx (2 : Int32)) a) 20 (nx (3 : Int32)) d)) : WW g i_Law_tell 0 Φ 0 0 0 [(0, .ref 15), (1, .int a), (2, .int b), (3, .int c), (4, .int d)] [] μ :=
  reg1_sound (cs := []) T_Law_tell po_Law (rtM_ok H_Law_tell) 21 H
set_option maxRecDepth 100000 in
set_option maxHeartbeats 4000000 in
theorem v_Law_judge_0 {g : Gl} {Φ : Out → Mem → Prop} {μ : Mem} {a : Int32} {b : Int32} {c : Int32} {d : Int32} (H : vp_in (4 : Int32) 8 ∧ vp_in (5 : Int32) 8 ∧ vp_in (6 : Int32) 8 ∧ (d = 0 → vp_in (7 : Int32) 8 ∧ WW g i_Law_judge 0 Φ 0 0 52 [(0, .ref 15), (5, .int (0 : Int32))] [] (sI (sI (sI (sI (sI (sI μ 20 (nx (4 : Int32)) a) 20 (nx (5 : Int32)) b) 20 (nx (6 : Int32)) c) 20 (nx (7 : Int32)) (0 : Int32)) 15 8 (0 : Int32)) 15 9 (0 : Int32))) ∧ (¬ d = 0 → vp_in (7 : Int32) 8 ∧ WW g i_Law_judge 0 Φ 0 0 52 [(0, .ref 15), (5, .int (0 : Int32))] [] (sI (sI (sI (sI (sI (sI μ 20 (nx (4 : Int32)) a) 20 (nx (5 : Int32)) b) 20 (nx (6 : Int32)) c) 20 (nx (7 : Int32)) (1 : Int32)) 15 8 (0 : Int32)) 15 9 (0 : Int32)))) : WW g i_Law_judge 0 Φ 0 0 0 [(0, .ref 15), (1, .int a), (2, .int b), (3, .int c), (4, .int d)] [] μ :=
  reg1_sound (cs := [(52, [0, 5])]) T_Law_judge po_Law (rtM_ok H_Law_judge) 32 H
set_option maxRecDepth 100000 in
set_option maxHeartbeats 4000000 in
theorem v_Law_holds_0 {g : Gl} {Φ : Out → Mem → Prop} {μ : Mem} {a : Int32} (H : (¬ a = 0 → vp_in (a - (1 : Int32)) 12 ∧ WW g i_Law_holds 0 Φ 0 0 19 [(0, .ref 15), (1, .int a), (2, .int (0 : Int32)), (3, .int (mI μ 18 (nx (a - (1 : Int32)))))] [] μ) ∧ (a = 0 → WW g i_Law_holds 0 Φ 0 0 19 [(0, .ref 15), (1, .int a), (2, .int (0 : Int32)), (3, .int (0 : Int32))] [] μ)) : WW g i_Law_holds 0 Φ 0 0 0 [(0, .ref 15), (1, .int a)] [] μ :=
  reg1_sound (cs := [(19, [0, 1, 2, 3])]) T_Law_holds po_Law (rtM_ok H_Law_holds) 12 H
set_option maxRecDepth 100000 in
set_option maxHeartbeats 4000000 in
theorem v_Log_taughtBy_0 {g : Gl} {Φ : Out → Mem → Prop} {μ : Mem} {a : Int32} {b : Int32} (H : WW g i_Log_taughtBy 0 Φ 0 0 5 [(0, .ref 22), (1, .int a), (2, .int b), (3, .int (0 : Int32)), (4, .int (0 : Int32))] [] μ) : WW g i_Log_taughtBy 0 Φ 0 0 0 [(0, .ref 22), (1, .int a), (2, .int b)] [] μ :=
  reg1_sound (cs := [(5, [0, 1, 2, 3, 4])]) T_Log_taughtBy po_Log (rtM_ok H_Log_taughtBy) 5 H
set_option maxRecDepth 100000 in
set_option maxHeartbeats 4000000 in
theorem v_Log_taughtBy_5 {g : Gl} {Φ : Out → Mem → Prop} {μ : Mem} {x1 : Int32} {x2 : Int32} {x3 : Int32} {x4 : Int32} (H : (x2 ≤ x4 → Φ (.inl (some (.int x3))) μ) ∧ (¬ x2 ≤ x4 → vp_in x4 60 ∧ (¬ (mI μ 24 (nx x4)) = x1 → WW g i_Log_taughtBy 0 Φ 0 0 5 [(0, .ref 22), (1, .int x1), (2, .int x2), (3, .int (x3 + (0 : Int32))), (4, .int (x4 + (1 : Int32)))] [] μ) ∧ ((mI μ 24 (nx x4)) = x1 → vp_in x4 60 ∧ Spec g i_Int_bitCount 0 [.int (mI μ 26 (nx x4))] μ (onI (fun r2 μ1 => WW g i_Log_taughtBy 0 Φ 0 0 5 [(0, .ref 22), (1, .int x1), (2, .int x2), (3, .int (x3 + r2)), (4, .int (x4 + (1 : Int32)))] [] μ1) (fun e μ1 => rtM i_Log_taughtBy Φ (.inr e) 0 0 μ1))))) : WW g i_Log_taughtBy 0 Φ 0 0 5 [(0, .ref 22), (1, .int x1), (2, .int x2), (3, .int x3), (4, .int x4)] [] μ :=
  reg1_sound (cs := [(5, [0, 1, 2, 3, 4])]) T_Log_taughtBy po_Log (rtM_ok H_Log_taughtBy) 21 H
set_option maxRecDepth 100000 in
set_option maxHeartbeats 4000000 in
theorem v_Set_copyFrom_35_4_0 {g : Gl} {Φ : Out → Mem → Prop} {μ : Mem}  (H : acpOK (0 : Int32) (0 : Int32) (10 : Int32) 5 36 ∧ acpOK (0 : Int32) (0 : Int32) (10 : Int32) 6 37 ∧ acpOK (0 : Int32) (0 : Int32) (10 : Int32) 7 38 ∧ acpOK (0 : Int32) (0 : Int32) (12 : Int32) 8 39 ∧ acpOK (0 : Int32) (0 : Int32) (12 : Int32) 9 40 ∧ acpOK (0 : Int32) (0 : Int32) (12 : Int32) 10 41 ∧ Φ (.inl none) (sRI (sRI (sRI (sRI (sRI (sRI (sI (sI (sI (sI (sI μ 35 0 (mI μ 4 0)) 35 2 (mI μ 4 2)) 35 5 (mI μ 4 5)) 35 9 (mI μ 4 9)) 35 10 (mI μ 4 10)) 36 (va_cpy (mI μ 5) (mI μ 36) (nx (0 : Int32)) (nx (0 : Int32)) (nx (10 : Int32)))) 37 (va_cpy (mI μ 6) (mI μ 37) (nx (0 : Int32)) (nx (0 : Int32)) (nx (10 : Int32)))) 38 (va_cpy (mI μ 7) (mI μ 38) (nx (0 : Int32)) (nx (0 : Int32)) (nx (10 : Int32)))) 39 (va_cpy (mI μ 8) (mI μ 39) (nx (0 : Int32)) (nx (0 : Int32)) (nx (12 : Int32)))) 40 (va_cpy (mI μ 9) (mI μ 40) (nx (0 : Int32)) (nx (0 : Int32)) (nx (12 : Int32)))) 41 (va_cpy (mI μ 10) (mI μ 41) (nx (0 : Int32)) (nx (0 : Int32)) (nx (12 : Int32))))) : WW g i_Set_copyFrom 0 Φ 0 0 0 [(0, .ref 35), (1, .ref 4)] [] μ :=
  reg1_sound (cs := []) T_Set_copyFrom po_Set (rtM_ok H_Set_copyFrom) 69 H
set_option maxRecDepth 100000 in
set_option maxHeartbeats 4000000 in
theorem v_Set_copyFrom_4_35_0 {g : Gl} {Φ : Out → Mem → Prop} {μ : Mem}  (H : acpOK (0 : Int32) (0 : Int32) (10 : Int32) 36 5 ∧ acpOK (0 : Int32) (0 : Int32) (10 : Int32) 37 6 ∧ acpOK (0 : Int32) (0 : Int32) (10 : Int32) 38 7 ∧ acpOK (0 : Int32) (0 : Int32) (12 : Int32) 39 8 ∧ acpOK (0 : Int32) (0 : Int32) (12 : Int32) 40 9 ∧ acpOK (0 : Int32) (0 : Int32) (12 : Int32) 41 10 ∧ Φ (.inl none) (sRI (sRI (sRI (sRI (sRI (sRI (sI (sI (sI (sI (sI μ 4 0 (mI μ 35 0)) 4 2 (mI μ 35 2)) 4 5 (mI μ 35 5)) 4 9 (mI μ 35 9)) 4 10 (mI μ 35 10)) 5 (va_cpy (mI μ 36) (mI μ 5) (nx (0 : Int32)) (nx (0 : Int32)) (nx (10 : Int32)))) 6 (va_cpy (mI μ 37) (mI μ 6) (nx (0 : Int32)) (nx (0 : Int32)) (nx (10 : Int32)))) 7 (va_cpy (mI μ 38) (mI μ 7) (nx (0 : Int32)) (nx (0 : Int32)) (nx (10 : Int32)))) 8 (va_cpy (mI μ 39) (mI μ 8) (nx (0 : Int32)) (nx (0 : Int32)) (nx (12 : Int32)))) 9 (va_cpy (mI μ 40) (mI μ 9) (nx (0 : Int32)) (nx (0 : Int32)) (nx (12 : Int32)))) 10 (va_cpy (mI μ 41) (mI μ 10) (nx (0 : Int32)) (nx (0 : Int32)) (nx (12 : Int32))))) : WW g i_Set_copyFrom 0 Φ 0 0 0 [(0, .ref 4), (1, .ref 35)] [] μ :=
  reg1_sound (cs := []) T_Set_copyFrom po_Set (rtM_ok H_Set_copyFrom) 69 H
set_option maxRecDepth 100000 in
set_option maxHeartbeats 4000000 in
theorem v_Set_copyFrom_71_4_0 {g : Gl} {Φ : Out → Mem → Prop} {μ : Mem}  (H : acpOK (0 : Int32) (0 : Int32) (10 : Int32) 5 72 ∧ acpOK (0 : Int32) (0 : Int32) (10 : Int32) 6 73 ∧ acpOK (0 : Int32) (0 : Int32) (10 : Int32) 7 74 ∧ acpOK (0 : Int32) (0 : Int32) (12 : Int32) 8 75 ∧ acpOK (0 : Int32) (0 : Int32) (12 : Int32) 9 76 ∧ acpOK (0 : Int32) (0 : Int32) (12 : Int32) 10 77 ∧ Φ (.inl none) (sRI (sRI (sRI (sRI (sRI (sRI (sI (sI (sI (sI (sI μ 71 0 (mI μ 4 0)) 71 2 (mI μ 4 2)) 71 5 (mI μ 4 5)) 71 9 (mI μ 4 9)) 71 10 (mI μ 4 10)) 72 (va_cpy (mI μ 5) (mI μ 72) (nx (0 : Int32)) (nx (0 : Int32)) (nx (10 : Int32)))) 73 (va_cpy (mI μ 6) (mI μ 73) (nx (0 : Int32)) (nx (0 : Int32)) (nx (10 : Int32)))) 74 (va_cpy (mI μ 7) (mI μ 74) (nx (0 : Int32)) (nx (0 : Int32)) (nx (10 : Int32)))) 75 (va_cpy (mI μ 8) (mI μ 75) (nx (0 : Int32)) (nx (0 : Int32)) (nx (12 : Int32)))) 76 (va_cpy (mI μ 9) (mI μ 76) (nx (0 : Int32)) (nx (0 : Int32)) (nx (12 : Int32)))) 77 (va_cpy (mI μ 10) (mI μ 77) (nx (0 : Int32)) (nx (0 : Int32)) (nx (12 : Int32))))) : WW g i_Set_copyFrom 0 Φ 0 0 0 [(0, .ref 71), (1, .ref 4)] [] μ :=
  reg1_sound (cs := []) T_Set_copyFrom po_Set (rtM_ok H_Set_copyFrom) 69 H
set_option maxRecDepth 100000 in
set_option maxHeartbeats 4000000 in
theorem v_Set_copyFrom_4_71_0 {g : Gl} {Φ : Out → Mem → Prop} {μ : Mem}  (H : acpOK (0 : Int32) (0 : Int32) (10 : Int32) 72 5 ∧ acpOK (0 : Int32) (0 : Int32) (10 : Int32) 73 6 ∧ acpOK (0 : Int32) (0 : Int32) (10 : Int32) 74 7 ∧ acpOK (0 : Int32) (0 : Int32) (12 : Int32) 75 8 ∧ acpOK (0 : Int32) (0 : Int32) (12 : Int32) 76 9 ∧ acpOK (0 : Int32) (0 : Int32) (12 : Int32) 77 10 ∧ Φ (.inl none) (sRI (sRI (sRI (sRI (sRI (sRI (sI (sI (sI (sI (sI μ 4 0 (mI μ 71 0)) 4 2 (mI μ 71 2)) 4 5 (mI μ 71 5)) 4 9 (mI μ 71 9)) 4 10 (mI μ 71 10)) 5 (va_cpy (mI μ 72) (mI μ 5) (nx (0 : Int32)) (nx (0 : Int32)) (nx (10 : Int32)))) 6 (va_cpy (mI μ 73) (mI μ 6) (nx (0 : Int32)) (nx (0 : Int32)) (nx (10 : Int32)))) 7 (va_cpy (mI μ 74) (mI μ 7) (nx (0 : Int32)) (nx (0 : Int32)) (nx (10 : Int32)))) 8 (va_cpy (mI μ 75) (mI μ 8) (nx (0 : Int32)) (nx (0 : Int32)) (nx (12 : Int32)))) 9 (va_cpy (mI μ 76) (mI μ 9) (nx (0 : Int32)) (nx (0 : Int32)) (nx (12 : Int32)))) 10 (va_cpy (mI μ 77) (mI μ 10) (nx (0 : Int32)) (nx (0 : Int32)) (nx (12 : Int32))))) : WW g i_Set_copyFrom 0 Φ 0 0 0 [(0, .ref 4), (1, .ref 71)] [] μ :=
  reg1_sound (cs := []) T_Set_copyFrom po_Set (rtM_ok H_Set_copyFrom) 69 H
set_option maxRecDepth 100000 in
set_option maxHeartbeats 4000000 in
theorem v_Law_copyFrom_46_15_0 {g : Gl} {Φ : Out → Mem → Prop} {μ : Mem}  (H : acpOK (0 : Int32) (0 : Int32) (12 : Int32) 16 47 ∧ acpOK (0 : Int32) (0 : Int32) (12 : Int32) 17 48 ∧ acpOK (0 : Int32) (0 : Int32) (12 : Int32) 18 49 ∧ acpOK (0 : Int32) (0 : Int32) (mI μ 15 5) 19 50 ∧ Φ (.inl none) (sRI (sRI (sRI (sRI (sI (sI μ 46 0 (mI μ 15 0)) 46 5 (mI μ 15 5)) 47 (va_cpy (mI μ 16) (mI μ 47) (nx (0 : Int32)) (nx (0 : Int32)) (nx (12 : Int32)))) 48 (va_cpy (mI μ 17) (mI μ 48) (nx (0 : Int32)) (nx (0 : Int32)) (nx (12 : Int32)))) 49 (va_cpy (mI μ 18) (mI μ 49) (nx (0 : Int32)) (nx (0 : Int32)) (nx (12 : Int32)))) 50 (va_cpy (mI μ 19) (mI μ 50) (nx (0 : Int32)) (nx (0 : Int32)) (nx (mI μ 15 5))))) : WW g i_Law_copyFrom 0 Φ 0 0 0 [(0, .ref 46), (1, .ref 15)] [] μ :=
  reg1_sound (cs := []) T_Law_copyFrom po_Law (rtM_ok H_Law_copyFrom) 42 H
set_option maxRecDepth 100000 in
set_option maxHeartbeats 4000000 in
theorem v_Law_copyFrom_15_46_0 {g : Gl} {Φ : Out → Mem → Prop} {μ : Mem}  (H : acpOK (0 : Int32) (0 : Int32) (12 : Int32) 47 16 ∧ acpOK (0 : Int32) (0 : Int32) (12 : Int32) 48 17 ∧ acpOK (0 : Int32) (0 : Int32) (12 : Int32) 49 18 ∧ acpOK (0 : Int32) (0 : Int32) (mI μ 46 5) 50 19 ∧ Φ (.inl none) (sRI (sRI (sRI (sRI (sI (sI μ 15 0 (mI μ 46 0)) 15 5 (mI μ 46 5)) 16 (va_cpy (mI μ 47) (mI μ 16) (nx (0 : Int32)) (nx (0 : Int32)) (nx (12 : Int32)))) 17 (va_cpy (mI μ 48) (mI μ 17) (nx (0 : Int32)) (nx (0 : Int32)) (nx (12 : Int32)))) 18 (va_cpy (mI μ 49) (mI μ 18) (nx (0 : Int32)) (nx (0 : Int32)) (nx (12 : Int32)))) 19 (va_cpy (mI μ 50) (mI μ 19) (nx (0 : Int32)) (nx (0 : Int32)) (nx (mI μ 46 5))))) : WW g i_Law_copyFrom 0 Φ 0 0 0 [(0, .ref 15), (1, .ref 46)] [] μ :=
  reg1_sound (cs := []) T_Law_copyFrom po_Law (rtM_ok H_Law_copyFrom) 42 H
set_option maxRecDepth 100000 in
set_option maxHeartbeats 4000000 in
theorem v_Law_copyFrom_15_83_0 {g : Gl} {Φ : Out → Mem → Prop} {μ : Mem}  (H : acpOK (0 : Int32) (0 : Int32) (12 : Int32) 84 16 ∧ acpOK (0 : Int32) (0 : Int32) (12 : Int32) 85 17 ∧ acpOK (0 : Int32) (0 : Int32) (12 : Int32) 86 18 ∧ acpOK (0 : Int32) (0 : Int32) (mI μ 83 5) 87 19 ∧ Φ (.inl none) (sRI (sRI (sRI (sRI (sI (sI μ 15 0 (mI μ 83 0)) 15 5 (mI μ 83 5)) 16 (va_cpy (mI μ 84) (mI μ 16) (nx (0 : Int32)) (nx (0 : Int32)) (nx (12 : Int32)))) 17 (va_cpy (mI μ 85) (mI μ 17) (nx (0 : Int32)) (nx (0 : Int32)) (nx (12 : Int32)))) 18 (va_cpy (mI μ 86) (mI μ 18) (nx (0 : Int32)) (nx (0 : Int32)) (nx (12 : Int32)))) 19 (va_cpy (mI μ 87) (mI μ 19) (nx (0 : Int32)) (nx (0 : Int32)) (nx (mI μ 83 5))))) : WW g i_Law_copyFrom 0 Φ 0 0 0 [(0, .ref 15), (1, .ref 83)] [] μ :=
  reg1_sound (cs := []) T_Law_copyFrom po_Law (rtM_ok H_Law_copyFrom) 42 H
set_option maxRecDepth 100000 in
set_option maxHeartbeats 4000000 in
theorem v_Log_copyFrom_53_22_0 {g : Gl} {Φ : Out → Mem → Prop} {μ : Mem}  (H : acpOK (0 : Int32) (0 : Int32) (60 : Int32) 23 54 ∧ acpOK (0 : Int32) (0 : Int32) (60 : Int32) 24 55 ∧ acpOK (0 : Int32) (0 : Int32) (60 : Int32) 25 56 ∧ acpOK (0 : Int32) (0 : Int32) (60 : Int32) 26 57 ∧ acpOK (0 : Int32) (0 : Int32) (60 : Int32) 27 58 ∧ acpOK (0 : Int32) (0 : Int32) (60 : Int32) 28 59 ∧ (∀ i, i < nx (60 : Int32) → mI μ 28 (nx (0 : Int32) + i) = 0 ∨ mI μ 28 (nx (0 : Int32) + i) = 1) ∧ Φ (.inl none) (sRI (sRL (sRI (sRI (sRI (sRI μ 54 (va_cpy (mI μ 23) (mI μ 54) (nx (0 : Int32)) (nx (0 : Int32)) (nx (60 : Int32)))) 55 (va_cpy (mI μ 24) (mI μ 55) (nx (0 : Int32)) (nx (0 : Int32)) (nx (60 : Int32)))) 56 (va_cpy (mI μ 25) (mI μ 56) (nx (0 : Int32)) (nx (0 : Int32)) (nx (60 : Int32)))) 57 (va_cpy (mI μ 26) (mI μ 57) (nx (0 : Int32)) (nx (0 : Int32)) (nx (60 : Int32)))) 58 (va_cpy (mL μ 27) (mL μ 58) (nx (0 : Int32)) (nx (0 : Int32)) (nx (60 : Int32)))) 59 (va_cpy (mI μ 28) (mI μ 59) (nx (0 : Int32)) (nx (0 : Int32)) (nx (60 : Int32))))) : WW g i_Log_copyFrom 0 Φ 0 0 0 [(0, .ref 53), (1, .ref 22)] [] μ :=
  reg1_sound (cs := []) T_Log_copyFrom po_Log (rtM_ok H_Log_copyFrom) 49 H
set_option maxRecDepth 100000 in
set_option maxHeartbeats 4000000 in
theorem v_Log_copyFrom_22_53_0 {g : Gl} {Φ : Out → Mem → Prop} {μ : Mem}  (H : acpOK (0 : Int32) (0 : Int32) (60 : Int32) 54 23 ∧ acpOK (0 : Int32) (0 : Int32) (60 : Int32) 55 24 ∧ acpOK (0 : Int32) (0 : Int32) (60 : Int32) 56 25 ∧ acpOK (0 : Int32) (0 : Int32) (60 : Int32) 57 26 ∧ acpOK (0 : Int32) (0 : Int32) (60 : Int32) 58 27 ∧ acpOK (0 : Int32) (0 : Int32) (60 : Int32) 59 28 ∧ (∀ i, i < nx (60 : Int32) → mI μ 59 (nx (0 : Int32) + i) = 0 ∨ mI μ 59 (nx (0 : Int32) + i) = 1) ∧ Φ (.inl none) (sRI (sRL (sRI (sRI (sRI (sRI μ 23 (va_cpy (mI μ 54) (mI μ 23) (nx (0 : Int32)) (nx (0 : Int32)) (nx (60 : Int32)))) 24 (va_cpy (mI μ 55) (mI μ 24) (nx (0 : Int32)) (nx (0 : Int32)) (nx (60 : Int32)))) 25 (va_cpy (mI μ 56) (mI μ 25) (nx (0 : Int32)) (nx (0 : Int32)) (nx (60 : Int32)))) 26 (va_cpy (mI μ 57) (mI μ 26) (nx (0 : Int32)) (nx (0 : Int32)) (nx (60 : Int32)))) 27 (va_cpy (mL μ 58) (mL μ 27) (nx (0 : Int32)) (nx (0 : Int32)) (nx (60 : Int32)))) 28 (va_cpy (mI μ 59) (mI μ 28) (nx (0 : Int32)) (nx (0 : Int32)) (nx (60 : Int32))))) : WW g i_Log_copyFrom 0 Φ 0 0 0 [(0, .ref 22), (1, .ref 53)] [] μ :=
  reg1_sound (cs := []) T_Log_copyFrom po_Log (rtM_ok H_Log_copyFrom) 49 H
set_option maxRecDepth 100000 in
set_option maxHeartbeats 4000000 in
theorem v_SchR_begin_0 {g : Gl} {Φ : Out → Mem → Prop} {μ : Mem}  (H : Spec g i_Set_copyFrom 0 [.ref 71, .ref 4] μ (onV (fun μ1 => Spec g i_Sta_copyFrom 0 [.ref 78, .ref 11] μ1 (onV (fun μ2 => Φ (.inl none) μ2) (fun e μ2 => rtM i_SchR_begin Φ (.inr e) 0 0 μ2))) (fun e μ1 => rtM i_SchR_begin Φ (.inr e) 0 0 μ1))) : WW g i_SchR_begin 0 Φ 0 0 0 [(0, .ref 70), (1, .ref 3)] [] μ :=
  reg1_sound (cs := []) T_SchR_begin po_SchR (rtM_ok H_SchR_begin) 11 H
set_option maxRecDepth 100000 in
set_option maxHeartbeats 4000000 in
theorem v_LineR_readLines_S_0 {g : Gl} {Φ : Out → Mem → Prop} {μ : Mem} {a : Int32} (H : Spec g i_Tape_open 0 [.ref 1] μ (onV (fun μ1 => Spec g i_Tape_atEnd 0 [.ref 1] μ1 (onI (fun r3 μ2 => (r3 = 0 → WW g i_LineR_readLines 0 Φ 0 0 21 [(0, .ref 70), (1, .int a), (2, .int (1 : Int32))] [] μ2) ∧ (¬ r3 = 0 → Φ (.inl (some (.int (0 : Int32)))) μ2)) (fun e μ2 => rtM i_LineR_readLines Φ (.inr e) 0 0 μ2))) (fun e μ1 => rtM i_LineR_readLines Φ (.inr e) 0 0 μ1))) : WW g i_LineR_readLines 0 Φ 0 0 0 [(0, .ref 70), (1, .int a)] [] μ :=
  reg1_sound (cs := [(21, [0, 1, 2])]) T_LineR_readLines_S po_LineRS (rtM_ok H_LineR_readLines_S) 10 H
set_option maxRecDepth 100000 in
set_option maxHeartbeats 4000000 in
theorem v_LineR_readLines_S_21 {g : Gl} {Φ : Out → Mem → Prop} {μ : Mem} {x1 : Int32} {x2 : Int32} (H : (x1 < x2 → Φ (.inl (some (.int (-1 : Int32)))) (sI μ 1 2 (mI μ 1 4))) ∧ (¬ x1 < x2 → Spec g i_SchR_readLine 0 [.ref 70] μ (onI (fun r2 μ1 => (¬ r2 = 0 → Spec g i_Tape_atEnd 0 [.ref 1] μ1 (onI (fun r4 μ3 => (r4 = 0 → Spec g i_Tape_takeSign 0 [.ref 1, .int (59 : Int32)] μ3 (onI (fun r6 μ5 => (¬ r6 = 0 → WW g i_LineR_readLines 0 Φ 0 0 21 [(0, .ref 70), (1, .int x1), (2, .int (x2 + (1 : Int32)))] [] μ5) ∧ (r6 = 0 → Φ (.inl (some (.int (-1 : Int32)))) (sI μ5 1 2 (mI μ5 1 4)))) (fun e μ5 => rtM i_LineR_readLines Φ (.inr e) 0 0 μ5))) ∧ (¬ r4 = 0 → Φ (.inl (some (.int x2))) μ3)) (fun e μ3 => rtM i_LineR_readLines Φ (.inr e) 0 0 μ3))) ∧ (r2 = 0 → Φ (.inl (some (.int (-1 : Int32)))) (sI μ1 1 2 (mI μ1 1 4)))) (fun _ _ => False)))) : WW g i_LineR_readLines 0 Φ 0 0 21 [(0, .ref 70), (1, .int x1), (2, .int x2)] [] μ :=
  reg1_sound (cs := [(21, [0, 1, 2])]) T_LineR_readLines_S po_LineRS (rtM_ok H_LineR_readLines_S) 24 H
set_option maxRecDepth 100000 in
set_option maxHeartbeats 4000000 in
theorem v_LineR_readLines_L_0 {g : Gl} {Φ : Out → Mem → Prop} {μ : Mem} {a : Int32} (H : Spec g i_Tape_open 0 [.ref 1] μ (onV (fun μ1 => Spec g i_Tape_atEnd 0 [.ref 1] μ1 (onI (fun r3 μ2 => (r3 = 0 → WW g i_LineR_readLines 0 Φ 0 0 21 [(0, .ref 82), (1, .int a), (2, .int (1 : Int32))] [] μ2) ∧ (¬ r3 = 0 → Φ (.inl (some (.int (0 : Int32)))) μ2)) (fun e μ2 => rtM i_LineR_readLines Φ (.inr e) 0 0 μ2))) (fun e μ1 => rtM i_LineR_readLines Φ (.inr e) 0 0 μ1))) : WW g i_LineR_readLines 0 Φ 0 0 0 [(0, .ref 82), (1, .int a)] [] μ :=
  reg1_sound (cs := [(21, [0, 1, 2])]) T_LineR_readLines_L po_LineRL (rtM_ok H_LineR_readLines_L) 10 H
set_option maxRecDepth 100000 in
set_option maxHeartbeats 4000000 in
theorem v_LineR_readLines_L_21 {g : Gl} {Φ : Out → Mem → Prop} {μ : Mem} {x1 : Int32} {x2 : Int32} (H : (x1 < x2 → Φ (.inl (some (.int (-1 : Int32)))) (sI μ 1 2 (mI μ 1 4))) ∧ (¬ x1 < x2 → Spec g i_LawR_readLine 0 [.ref 82] μ (onI (fun r2 μ1 => (¬ r2 = 0 → Spec g i_Tape_atEnd 0 [.ref 1] μ1 (onI (fun r4 μ3 => (r4 = 0 → Spec g i_Tape_takeSign 0 [.ref 1, .int (59 : Int32)] μ3 (onI (fun r6 μ5 => (¬ r6 = 0 → WW g i_LineR_readLines 0 Φ 0 0 21 [(0, .ref 82), (1, .int x1), (2, .int (x2 + (1 : Int32)))] [] μ5) ∧ (r6 = 0 → Φ (.inl (some (.int (-1 : Int32)))) (sI μ5 1 2 (mI μ5 1 4)))) (fun e μ5 => rtM i_LineR_readLines Φ (.inr e) 0 0 μ5))) ∧ (¬ r4 = 0 → Φ (.inl (some (.int x2))) μ3)) (fun e μ3 => rtM i_LineR_readLines Φ (.inr e) 0 0 μ3))) ∧ (r2 = 0 → Φ (.inl (some (.int (-1 : Int32)))) (sI μ1 1 2 (mI μ1 1 4)))) (fun _ _ => False)))) : WW g i_LineR_readLines 0 Φ 0 0 21 [(0, .ref 82), (1, .int x1), (2, .int x2)] [] μ :=
  reg1_sound (cs := [(21, [0, 1, 2])]) T_LineR_readLines_L po_LineRL (rtM_ok H_LineR_readLines_L) 24 H
set_option maxRecDepth 100000 in
set_option maxHeartbeats 4000000 in
theorem v_Tape_open_0 {g : Gl} {Φ : Out → Mem → Prop} {μ : Mem}  (H : Spec g i_Tape_next 0 [.ref 1] (sI (sI μ 1 2 (-1 : Int32)) 1 5 (0 : Int32)) (onV (fun μ1 => Φ (.inl none) μ1) (fun e μ1 => rtM i_Tape_open Φ (.inr e) 0 0 μ1))) : WW g i_Tape_open 0 Φ 0 0 0 [(0, .ref 1)] [] μ :=
  reg1_sound (cs := []) T_Tape_open po_Tape (rtM_ok H_Tape_open) 9 H
set_option maxRecDepth 100000 in
set_option maxHeartbeats 4000000 in
theorem v_Tape_next_0 {g : Gl} {Φ : Out → Mem → Prop} {μ : Mem}  (H : WW g i_Tape_next 0 Φ 0 0 5 [(0, .ref 1), (1, .int (mI μ 1 5))] [] μ) : WW g i_Tape_next 0 Φ 0 0 0 [(0, .ref 1)] [] μ :=
  reg1_sound (cs := [(5, [0, 1]), (73, [0, 1]), (116, [0, 1])]) T_Tape_next po_Tape (rtM_ok H_Tape_next) 4 H
set_option maxRecDepth 100000 in
set_option maxHeartbeats 4000000 in
theorem v_Tape_next_116 {g : Gl} {Φ : Out → Mem → Prop} {μ : Mem} {x1 : Int32} (H : ((mI μ 1 1) ≤ x1 → Φ (.inl none) (sI μ 1 5 x1)) ∧ (¬ (mI μ 1 1) ≤ x1 → Spec g i_Tape_isWithin 0 [.ref 1, .int x1, .int (48 : Int32), .int (57 : Int32)] μ (onI (fun r2 μ1 => (r2 = 0 → Φ (.inl none) (sI μ1 1 5 x1)) ∧ (¬ r2 = 0 → ((3 : Int32) ≤ (x1 - (mI μ1 1 4)) → WW g i_Tape_next 0 Φ 0 0 116 [(0, .ref 1), (1, .int (x1 + (1 : Int32)))] [] (sI μ1 1 6 (1000 : Int32))) ∧ (¬ (3 : Int32) ≤ (x1 - (mI μ1 1 4)) → vp_in x1 400 ∧ WW g i_Tape_next 0 Φ 0 0 116 [(0, .ref 1), (1, .int (x1 + (1 : Int32)))] [] (sI μ1 1 6 ((((10 : Int32) * (mI μ1 1 6)) + (mI μ1 2 (nx x1))) - (48 : Int32)))))) (fun e μ1 => rtM i_Tape_next Φ (.inr e) 0 0 μ1)))) : WW g i_Tape_next 0 Φ 0 0 116 [(0, .ref 1), (1, .int x1)] [] μ :=
  reg1_sound (cs := [(5, [0, 1]), (73, [0, 1]), (116, [0, 1])]) T_Tape_next po_Tape (rtM_ok H_Tape_next) 33 H
set_option maxRecDepth 100000 in
set_option maxHeartbeats 4000000 in
theorem v_Tape_next_73 {g : Gl} {Φ : Out → Mem → Prop} {μ : Mem} {x1 : Int32} (H : ((mI μ 1 1) ≤ x1 → Φ (.inl none) (sI μ 1 5 x1)) ∧ (¬ (mI μ 1 1) ≤ x1 → Spec g i_Tape_isWithin 0 [.ref 1, .int x1, .int (97 : Int32), .int (122 : Int32)] μ (onI (fun r2 μ1 => (r2 = 0 → Φ (.inl none) (sI μ1 1 5 x1)) ∧ (¬ r2 = 0 → WW g i_Tape_next 0 Φ 0 0 73 [(0, .ref 1), (1, .int (x1 + (1 : Int32)))] [] μ1)) (fun e μ1 => rtM i_Tape_next Φ (.inr e) 0 0 μ1)))) : WW g i_Tape_next 0 Φ 0 0 73 [(0, .ref 1), (1, .int x1)] [] μ :=
  reg1_sound (cs := [(5, [0, 1]), (73, [0, 1]), (116, [0, 1])]) T_Tape_next po_Tape (rtM_ok H_Tape_next) 14 H
set_option maxRecDepth 100000 in
set_option maxHeartbeats 4000000 in
theorem v_Tape_isWithin_0 {g : Gl} {Φ : Out → Mem → Prop} {μ : Mem} {a : Int32} {b : Int32} {c : Int32} (H : vp_in a 400 ∧ ((mI μ 2 (nx a)) < b → ((0 : Int32) = 0 ∨ (0 : Int32) = 1) ∧ Φ (.inl (some (.int (0 : Int32)))) μ) ∧ (¬ (mI μ 2 (nx a)) < b → vp_in a 400 ∧ (c < (mI μ 2 (nx a)) → ((0 : Int32) = 0 ∨ (0 : Int32) = 1) ∧ Φ (.inl (some (.int (0 : Int32)))) μ) ∧ (¬ c < (mI μ 2 (nx a)) → ((1 : Int32) = 0 ∨ (1 : Int32) = 1) ∧ Φ (.inl (some (.int (1 : Int32)))) μ))) : WW g i_Tape_isWithin 0 Φ 0 0 0 [(0, .ref 1), (1, .int a), (2, .int b), (3, .int c)] [] μ :=
  reg1_sound (cs := []) T_Tape_isWithin po_Tape (rtM_ok H_Tape_isWithin) 15 H
set_option maxRecDepth 100000 in
set_option maxHeartbeats 4000000 in
theorem v_Tape_atEnd_0 {g : Gl} {Φ : Out → Mem → Prop} {μ : Mem}  (H : (¬ (mI μ 1 3) = 0 → ((0 : Int32) = 0 ∨ (0 : Int32) = 1) ∧ Φ (.inl (some (.int (0 : Int32)))) μ) ∧ ((mI μ 1 3) = 0 → ((1 : Int32) = 0 ∨ (1 : Int32) = 1) ∧ Φ (.inl (some (.int (1 : Int32)))) μ)) : WW g i_Tape_atEnd 0 Φ 0 0 0 [(0, .ref 1)] [] μ :=
  reg1_sound (cs := []) T_Tape_atEnd po_Tape (rtM_ok H_Tape_atEnd) 6 H
set_option maxRecDepth 100000 in
set_option maxHeartbeats 4000000 in
theorem v_Tape_atWord_0 {g : Gl} {Φ : Out → Mem → Prop} {μ : Mem} {w : Nat} (H : (¬ (mI μ 1 3) = (1 : Int32) → ((0 : Int32) = 0 ∨ (0 : Int32) = 1) ∧ Φ (.inl (some (.int (0 : Int32)))) μ) ∧ ((mI μ 1 3) = (1 : Int32) → isT (isS w) (Spec g i_Str_length 0 [.ref w] μ (onI (fun r2 μ1 => (((mI μ 1 5) - (mI μ 1 4)) = r2 → WW g i_Tape_atWord 0 Φ 0 0 28 [(0, .ref 1), (1, .ref w), (2, .int (0 : Int32))] [] μ1) ∧ (¬ ((mI μ 1 5) - (mI μ 1 4)) = r2 → ((0 : Int32) = 0 ∨ (0 : Int32) = 1) ∧ Φ (.inl (some (.int (0 : Int32)))) μ1)) (fun _ _ => False))))) : WW g i_Tape_atWord 0 Φ 0 0 0 [(0, .ref 1), (1, .ref w)] [] μ :=
  reg1_sound (cs := [(28, [0, 1, 2])]) T_Tape_atWord po_Tape (rtM_ok H_Tape_atWord) 15 H
set_option maxRecDepth 100000 in
set_option maxHeartbeats 4000000 in
theorem v_Tape_atWord_28 {g : Gl} {Φ : Out → Mem → Prop} {μ : Mem} {w : Nat} {x2 : Int32} (H : isT (isS w) (Spec g i_Str_length 0 [.ref w] μ (onI (fun r2 μ1 => (r2 ≤ x2 → ((1 : Int32) = 0 ∨ (1 : Int32) = 1) ∧ Φ (.inl (some (.int (1 : Int32)))) μ1) ∧ (¬ r2 ≤ x2 → vp_in ((mI μ1 1 4) + x2) 400 ∧ isT (isS w) (Spec g i_Str_charAt 0 [.ref w, .int x2] μ1 (onI (fun r4 μ3 => ((mI μ1 2 (nx ((mI μ1 1 4) + x2))) = r4 → WW g i_Tape_atWord 0 Φ 0 0 28 [(0, .ref 1), (1, .ref w), (2, .int (x2 + (1 : Int32)))] [] μ3) ∧ (¬ (mI μ1 2 (nx ((mI μ1 1 4) + x2))) = r4 → ((0 : Int32) = 0 ∨ (0 : Int32) = 1) ∧ Φ (.inl (some (.int (0 : Int32)))) μ3)) (fun _ _ => False))))) (fun _ _ => False)))) : WW g i_Tape_atWord 0 Φ 0 0 28 [(0, .ref 1), (1, .ref w), (2, .int x2)] [] μ :=
  reg1_sound (cs := [(28, [0, 1, 2])]) T_Tape_atWord po_Tape (rtM_ok H_Tape_atWord) 18 H
set_option maxRecDepth 100000 in
set_option maxHeartbeats 4000000 in
theorem v_Str_coder_0 {g : Gl} {Φ : Out → Mem → Prop} {μ : Mem} {w : Nat} (H : ((1 : Int32) = 0 → narrow .byte (.int (1 : Int32)) = .int (1 : Int32) ∧ Φ (.inl (some (.int (1 : Int32)))) μ) ∧ (¬ (1 : Int32) = 0 → isT (isS w) (narrow .byte (.int (0 : Int32)) = .int (0 : Int32) ∧ Φ (.inl (some (.int (0 : Int32)))) μ))) : WW g i_Str_coder 0 Φ 0 0 0 [(0, .ref w)] [] μ :=
  reg1_sound (cs := []) T_Str_coder po_Str (rtM_ok H_Str_coder) 6 H
set_option maxRecDepth 100000 in
set_option maxHeartbeats 4000000 in
theorem v_Str_charAt_0 {g : Gl} {Φ : Out → Mem → Prop} {μ : Mem} {w : Nat} {a : Int32} (H : isT (isS w) (Spec g i_Str_isLatin1 0 [.ref w] μ (onI (fun r2 μ1 => (r2 = 0 → isT (isS w) (False)) ∧ (¬ r2 = 0 → isT (isS w) (Spec g i_StrL_charAt 0 [.ref (w + 2000), .int a] μ1 (onI (fun r4 μ3 => narrow .char (.int r4) = .int r4 ∧ Φ (.inl (some (.int r4))) μ3) (fun e μ3 => rtM i_Str_charAt Φ (.inr e) 0 0 μ3))))) (fun _ _ => False)))) : WW g i_Str_charAt 0 Φ 0 0 0 [(0, .ref w), (1, .int a)] [] μ :=
  reg1_sound (cs := []) T_Str_charAt po_Str (rtM_ok H_Str_charAt) 8 H
set_option maxRecDepth 100000 in
set_option maxHeartbeats 4000000 in
theorem v_Str_isLatin1_0 {g : Gl} {Φ : Out → Mem → Prop} {μ : Mem} {w : Nat} (H : ((1 : Int32) = 0 → ((0 : Int32) = 0 ∨ (0 : Int32) = 1) ∧ Φ (.inl (some (.int (0 : Int32)))) μ) ∧ (¬ (1 : Int32) = 0 → isT (isS w) ((¬ (0 : Int32) = 0 → ((0 : Int32) = 0 ∨ (0 : Int32) = 1) ∧ Φ (.inl (some (.int (0 : Int32)))) μ) ∧ ((0 : Int32) = 0 → ((1 : Int32) = 0 ∨ (1 : Int32) = 1) ∧ Φ (.inl (some (.int (1 : Int32)))) μ)))) : WW g i_Str_isLatin1 0 Φ 0 0 0 [(0, .ref w)] [] μ :=
  reg1_sound (cs := []) T_Str_isLatin1 po_Str (rtM_ok H_Str_isLatin1) 8 H
set_option maxRecDepth 100000 in
set_option maxHeartbeats 4000000 in
theorem v_Str_checkIndex_0 {g : Gl} {Φ : Out → Mem → Prop} {μ : Mem} {a : Int32} {b : Int32} (H : Spec g i_Pre_checkIndex 0 [.int a, .int b, szv g] μ (onI (fun r2 μ1 => Φ (.inl none) μ1) (fun e μ1 => rtM i_Str_checkIndex Φ (.inr e) 0 0 μ1))) : WW g i_Str_checkIndex 0 Φ 0 0 0 [(0, .int a), (1, .int b)] [] μ :=
  reg1_sound (cs := []) T_Str_checkIndex po_Str (rtM_ok H_Str_checkIndex) 6 H
theorem v_Pre_checkIndex_0 {g : Gl} {Φ : Out → Mem → Prop} {μ : Mem} {a : Int32} {b : Int32} (h1 : ¬ a < 0) (h2 : a < b) (H : Φ (.inl (some (.int a))) μ) : WW g i_Pre_checkIndex 0 Φ 0 0 0 [(0, .int a), (1, .int b), (2, szv g)] [] μ :=
  reg1_sound (cs := []) T_Pre_checkIndex po_Pre (rtM_ok H_Pre_checkIndex) 9 (And.intro (fun h => absurd h h1) (fun _ => And.intro (fun _ => H) (fun h => absurd h2 h)))
set_option maxRecDepth 100000 in
set_option maxHeartbeats 4000000 in
theorem v_Tape_takeNumber_0 {g : Gl} {Φ : Out → Mem → Prop} {μ : Mem} {a : Int32} {b : Int32} (H : Spec g i_Tape_atNumber 0 [.ref 1, .int a, .int b] μ (onI (fun r2 μ1 => (¬ r2 = 0 → Spec g i_Tape_next 0 [.ref 1] μ1 (onV (fun μ3 => Φ (.inl (some (.int (mI μ1 1 6)))) μ3) (fun e μ3 => rtM i_Tape_takeNumber Φ (.inr e) 0 0 μ3))) ∧ (r2 = 0 → Φ (.inl (some (.int (-1 : Int32)))) μ1)) (fun e μ1 => rtM i_Tape_takeNumber Φ (.inr e) 0 0 μ1))) : WW g i_Tape_takeNumber 0 Φ 0 0 0 [(0, .ref 1), (1, .int a), (2, .int b)] [] μ :=
  reg1_sound (cs := []) T_Tape_takeNumber po_Tape (rtM_ok H_Tape_takeNumber) 12 H
set_option maxRecDepth 100000 in
set_option maxHeartbeats 4000000 in
theorem v_Tape_atNumber_0 {g : Gl} {Φ : Out → Mem → Prop} {μ : Mem} {a : Int32} {b : Int32} (H : (¬ (mI μ 1 3) = (2 : Int32) → ((0 : Int32) = 0 ∨ (0 : Int32) = 1) ∧ Φ (.inl (some (.int (0 : Int32)))) μ) ∧ ((mI μ 1 3) = (2 : Int32) → ((mI μ 1 6) < a → ((0 : Int32) = 0 ∨ (0 : Int32) = 1) ∧ Φ (.inl (some (.int (0 : Int32)))) μ) ∧ (¬ (mI μ 1 6) < a → (b < (mI μ 1 6) → ((0 : Int32) = 0 ∨ (0 : Int32) = 1) ∧ Φ (.inl (some (.int (0 : Int32)))) μ) ∧ (¬ b < (mI μ 1 6) → ((1 : Int32) = 0 ∨ (1 : Int32) = 1) ∧ Φ (.inl (some (.int (1 : Int32)))) μ)))) : WW g i_Tape_atNumber 0 Φ 0 0 0 [(0, .ref 1), (1, .int a), (2, .int b)] [] μ :=
  reg1_sound (cs := []) T_Tape_atNumber po_Tape (rtM_ok H_Tape_atNumber) 15 H
set_option maxRecDepth 100000 in
set_option maxHeartbeats 4000000 in
theorem v_Tape_takeWord_0 {g : Gl} {Φ : Out → Mem → Prop} {μ : Mem} {w : Nat} (H : Spec g i_Tape_atWord 0 [.ref 1, .ref w] μ (onI (fun r2 μ1 => (¬ r2 = 0 → Spec g i_Tape_next 0 [.ref 1] μ1 (onV (fun μ3 => ((1 : Int32) = 0 ∨ (1 : Int32) = 1) ∧ Φ (.inl (some (.int (1 : Int32)))) μ3) (fun e μ3 => rtM i_Tape_takeWord Φ (.inr e) 0 0 μ3))) ∧ (r2 = 0 → ((0 : Int32) = 0 ∨ (0 : Int32) = 1) ∧ Φ (.inl (some (.int (0 : Int32)))) μ1)) (fun e μ1 => rtM i_Tape_takeWord Φ (.inr e) 0 0 μ1))) : WW g i_Tape_takeWord 0 Φ 0 0 0 [(0, .ref 1), (1, .ref w)] [] μ :=
  reg1_sound (cs := []) T_Tape_takeWord po_Tape (rtM_ok H_Tape_takeWord) 8 H
set_option maxRecDepth 100000 in
set_option maxHeartbeats 4000000 in
theorem v_LawR_readCondition_0 {g : Gl} {Φ : Out → Mem → Prop} {μ : Mem}  (H : WW g i_LawR_readCondition 0 Φ 0 0 17 [(0, .ref 82), (1, .int (0 : Int32))] [] (sI (sI (sI μ 82 3 (0 : Int32)) 82 4 (0 : Int32)) 82 5 (0 : Int32))) : WW g i_LawR_readCondition 0 Φ 0 0 0 [(0, .ref 82)] [] μ :=
  reg1_sound (cs := [(17, [0, 1])]) T_LawR_readCondition po_LawR (rtM_ok H_LawR_readCondition) 12 H
set_option maxRecDepth 100000 in
set_option maxHeartbeats 4000000 in
theorem v_LawR_readOpenings_0 {g : Gl} {Φ : Out → Mem → Prop} {μ : Mem}  (H : WW g i_LawR_readOpenings 0 Φ 0 0 2 [(0, .ref 82), (1, .int (0 : Int32))] [] μ) : WW g i_LawR_readOpenings 0 Φ 0 0 0 [(0, .ref 82)] [] μ :=
  reg1_sound (cs := [(2, [0, 1])]) T_LawR_readOpenings po_LawR (rtM_ok H_LawR_readOpenings) 3 H
set_option maxRecDepth 100000 in
set_option maxHeartbeats 4000000 in
theorem v_Tape_atSign_0 {g : Gl} {Φ : Out → Mem → Prop} {μ : Mem} {a : Int32} (H : (¬ (mI μ 1 3) = (3 : Int32) → ((0 : Int32) = 0 ∨ (0 : Int32) = 1) ∧ Φ (.inl (some (.int (0 : Int32)))) μ) ∧ ((mI μ 1 3) = (3 : Int32) → vp_in (mI μ 1 4) 400 ∧ (¬ (mI μ 2 (nx (mI μ 1 4))) = a → ((0 : Int32) = 0 ∨ (0 : Int32) = 1) ∧ Φ (.inl (some (.int (0 : Int32)))) μ) ∧ ((mI μ 2 (nx (mI μ 1 4))) = a → ((1 : Int32) = 0 ∨ (1 : Int32) = 1) ∧ Φ (.inl (some (.int (1 : Int32)))) μ))) : WW g i_Tape_atSign 0 Φ 0 0 0 [(0, .ref 1), (1, .int a)] [] μ :=
  reg1_sound (cs := []) T_Tape_atSign po_Tape (rtM_ok H_Tape_atSign) 14 H
set_option maxRecDepth 100000 in
set_option maxHeartbeats 4000000 in
theorem v_LawR_await_0 {g : Gl} {Φ : Out → Mem → Prop} {μ : Mem} {a : Int32} (H : ((nI 32) ≤ (mI μ 82 3) → Φ (.inl none) μ) ∧ (¬ (nI 32) ≤ (mI μ 82 3) → vp_in (mI μ 82 3) 32 ∧ Φ (.inl none) (sI (sI μ 90 (nx (mI μ 82 3)) a) 82 3 ((mI μ 82 3) + (1 : Int32))))) : WW g i_LawR_await 0 Φ 0 0 0 [(0, .ref 82), (1, .int a)] [] μ :=
  reg1_sound (cs := []) T_LawR_await po_LawR (rtM_ok H_LawR_await) 19 H
set_option maxRecDepth 100000 in
set_option maxHeartbeats 4000000 in
theorem v_LawR_readFact_0 {g : Gl} {Φ : Out → Mem → Prop} {μ : Mem}  (H : Spec g i_Tape_takeWord 0 [.ref 1, .ref 1005] μ (onI (fun r2 μ1 => (r2 = 0 → WW g i_LawR_readFact 0 Φ 0 0 29 [(0, .ref 82), (1, .int (-1 : Int32)), (2, .int (0 : Int32)), (3, .int (0 : Int32))] [] μ1) ∧ (¬ r2 = 0 → Spec g i_Law_addCode 0 [.ref 83, .int (-8 : Int32)] μ1 (onV (fun μ3 => ((1 : Int32) = 0 ∨ (1 : Int32) = 1) ∧ Φ (.inl (some (.int (1 : Int32)))) μ3) (fun e μ3 => rtM i_LawR_readFact Φ (.inr e) 0 0 μ3)))) (fun e μ1 => rtM i_LawR_readFact Φ (.inr e) 0 0 μ1))) : WW g i_LawR_readFact 0 Φ 0 0 0 [(0, .ref 82)] [] μ :=
  reg1_sound (cs := [(29, [0, 1, 2, 3])]) T_LawR_readFact po_LawR (rtM_ok H_LawR_readFact) 12 H
set_option maxRecDepth 100000 in
set_option maxHeartbeats 4000000 in
theorem v_Law_addCode_0 {g : Gl} {Φ : Out → Mem → Prop} {μ : Mem} {a : Int32} (H : ((400 : Int32) ≤ (mI μ 83 5) → Φ (.inl none) μ) ∧ (¬ (400 : Int32) ≤ (mI μ 83 5) → vp_in (mI μ 83 5) 400 ∧ Φ (.inl none) (sI (sI μ 87 (nx (mI μ 83 5)) a) 83 5 ((mI μ 83 5) + (1 : Int32))))) : WW g i_Law_addCode 0 Φ 0 0 0 [(0, .ref 83), (1, .int a)] [] μ :=
  reg1_sound (cs := []) T_Law_addCode po_Law (rtM_ok H_Law_addCode) 17 H
set_option maxRecDepth 100000 in
set_option maxHeartbeats 4000000 in
theorem v_LawR_readClosings_0 {g : Gl} {Φ : Out → Mem → Prop} {μ : Mem}  (H : Spec g i_LawR_settle 0 [.ref 82, .int (-12 : Int32)] μ (onV (fun μ1 => WW g i_LawR_readClosings 0 Φ 0 0 8 [(0, .ref 82), (1, .int (0 : Int32))] [] μ1) (fun e μ1 => rtM i_LawR_readClosings Φ (.inr e) 0 0 μ1))) : WW g i_LawR_readClosings 0 Φ 0 0 0 [(0, .ref 82)] [] μ :=
  reg1_sound (cs := [(8, [0, 1])]) T_LawR_readClosings po_LawR (rtM_ok H_LawR_readClosings) 6 H
set_option maxRecDepth 100000 in
set_option maxHeartbeats 4000000 in
theorem v_LawR_readClosings_8 {g : Gl} {Φ : Out → Mem → Prop} {μ : Mem} {x1 : Int32} (H : ((6 : Int32) ≤ x1 → Φ (.inl none) μ) ∧ (¬ (6 : Int32) ≤ x1 → ((mI μ 82 5) ≤ 0 → Φ (.inl none) μ) ∧ (¬ (mI μ 82 5) ≤ 0 → Spec g i_Tape_takeSign 0 [.ref 1, .int (41 : Int32)] μ (onI (fun r2 μ1 => (r2 = 0 → Φ (.inl none) μ1) ∧ (¬ r2 = 0 → Spec g i_LawR_settle 0 [.ref 82, .int (-14 : Int32)] μ1 (onV (fun μ3 => Spec g i_LawR_settle 0 [.ref 82, .int (-12 : Int32)] (sI (sI (sI μ3 82 3 ((mI μ3 82 3) - (1 : Int32))) 82 5 ((mI μ3 82 5) - (1 : Int32))) 82 4 ((mI μ3 82 4) - (1 : Int32))) (onV (fun μ4 => WW g i_LawR_readClosings 0 Φ 0 0 8 [(0, .ref 82), (1, .int (x1 + (1 : Int32)))] [] μ4) (fun e μ4 => rtM i_LawR_readClosings Φ (.inr e) 0 0 μ4))) (fun e μ3 => rtM i_LawR_readClosings Φ (.inr e) 0 0 μ3)))) (fun e μ1 => rtM i_LawR_readClosings Φ (.inr e) 0 0 μ1))))) : WW g i_LawR_readClosings 0 Φ 0 0 8 [(0, .ref 82), (1, .int x1)] [] μ :=
  reg1_sound (cs := [(8, [0, 1])]) T_LawR_readClosings po_LawR (rtM_ok H_LawR_readClosings) 38 H
set_option maxRecDepth 100000 in
set_option maxHeartbeats 4000000 in
theorem v_LawR_settle_0 {g : Gl} {Φ : Out → Mem → Prop} {μ : Mem} {a : Int32} (H : WW g i_LawR_settle 0 Φ 0 0 7 [(0, .ref 82), (1, .int a), (2, .int ((mI μ 82 3) - (1 : Int32)))] [] μ) : WW g i_LawR_settle 0 Φ 0 0 0 [(0, .ref 82), (1, .int a)] [] μ :=
  reg1_sound (cs := [(7, [0, 1, 2])]) T_LawR_settle po_LawR (rtM_ok H_LawR_settle) 6 H
set_option maxRecDepth 100000 in
set_option maxHeartbeats 4000000 in
theorem v_LawR_settle_7 {g : Gl} {Φ : Out → Mem → Prop} {μ : Mem} {x1 : Int32} {x2 : Int32} (H : (x2 < 0 → Φ (.inl none) μ) ∧ (¬ x2 < 0 → vp_in x2 32 ∧ ((mI μ 90 (nx x2)) < x1 → Φ (.inl none) μ) ∧ (¬ (mI μ 90 (nx x2)) < x1 → vp_in x2 32 ∧ Spec g i_Law_addCode 0 [.ref 83, .int (mI μ 90 (nx x2))] μ (onV (fun μ1 => vp_in x2 32 ∧ (¬ (mI μ1 90 (nx x2)) = (-12 : Int32) → WW g i_LawR_settle 0 Φ 0 0 7 [(0, .ref 82), (1, .int x1), (2, .int (x2 + (-1 : Int32)))] [] (sI (sI μ1 82 4 ((mI μ1 82 4) - (0 : Int32))) 82 3 x2)) ∧ ((mI μ1 90 (nx x2)) = (-12 : Int32) → WW g i_LawR_settle 0 Φ 0 0 7 [(0, .ref 82), (1, .int x1), (2, .int (x2 + (-1 : Int32)))] [] (sI (sI μ1 82 4 ((mI μ1 82 4) - (1 : Int32))) 82 3 x2))) (fun e μ1 => rtM i_LawR_settle Φ (.inr e) 0 0 μ1))))) : WW g i_LawR_settle 0 Φ 0 0 7 [(0, .ref 82), (1, .int x1), (2, .int x2)] [] μ :=
  reg1_sound (cs := [(7, [0, 1, 2])]) T_LawR_settle po_LawR (rtM_ok H_LawR_settle) 34 H
set_option maxRecDepth 100000 in
set_option maxHeartbeats 4000000 in
theorem v_Tape_takeSign_0 {g : Gl} {Φ : Out → Mem → Prop} {μ : Mem} {a : Int32} (H : Spec g i_Tape_atSign 0 [.ref 1, .int a] μ (onI (fun r2 μ1 => (¬ r2 = 0 → Spec g i_Tape_next 0 [.ref 1] μ1 (onV (fun μ3 => ((1 : Int32) = 0 ∨ (1 : Int32) = 1) ∧ Φ (.inl (some (.int (1 : Int32)))) μ3) (fun e μ3 => rtM i_Tape_takeSign Φ (.inr e) 0 0 μ3))) ∧ (r2 = 0 → ((0 : Int32) = 0 ∨ (0 : Int32) = 1) ∧ Φ (.inl (some (.int (0 : Int32)))) μ1)) (fun e μ1 => rtM i_Tape_takeSign Φ (.inr e) 0 0 μ1))) : WW g i_Tape_takeSign 0 Φ 0 0 0 [(0, .ref 1), (1, .int a)] [] μ :=
  reg1_sound (cs := []) T_Tape_takeSign po_Tape (rtM_ok H_Tape_takeSign) 8 H
set_option maxRecDepth 100000 in
set_option maxHeartbeats 4000000 in
theorem v_Law_addLine_0 {g : Gl} {Φ : Out → Mem → Prop} {μ : Mem} {a : Int32} {b : Int32} (H : ((mI μ 83 0) < 0 → Φ (.inl none) μ) ∧ (¬ (mI μ 83 0) < 0 → ((12 : Int32) ≤ (mI μ 83 0) → Φ (.inl none) μ) ∧ (¬ (12 : Int32) ≤ (mI μ 83 0) → vp_in (mI μ 83 0) 12 ∧ vp_in (mI μ 83 0) 12 ∧ vp_in (mI μ 83 0) 12 ∧ Φ (.inl none) (sI (sI (sI (sI μ 84 (nx (mI μ 83 0)) a) 85 (nx (mI μ 83 0)) b) 86 (nx (mI μ 83 0)) (mI μ 83 5)) 83 0 ((mI μ 83 0) + (1 : Int32)))))) : WW g i_Law_addLine 0 Φ 0 0 0 [(0, .ref 83), (1, .int a), (2, .int b)] [] μ :=
  reg1_sound (cs := []) T_Law_addLine po_Law (rtM_ok H_Law_addLine) 33 H
set_option maxRecDepth 100000 in
set_option maxHeartbeats 4000000 in
theorem v_SchR_readThing_0 {g : Gl} {Φ : Out → Mem → Prop} {μ : Mem}  (H : Spec g i_Tape_next 0 [.ref 1] μ (onV (fun μ1 => Spec g i_Tape_takeNumber 0 [.ref 1, .int (1 : Int32), .int (6 : Int32)] μ1 (onI (fun r3 μ2 => (¬ r3 = (-1 : Int32) → vp_in (mI μ2 71 0) 10 ∧ ((1 : Int32) = 0 ∨ (1 : Int32) = 1) ∧ Φ (.inl (some (.int (1 : Int32)))) (sI (sI μ2 72 (nx (mI μ2 71 0)) r3) 71 0 ((mI μ2 71 0) + (1 : Int32)))) ∧ (r3 = (-1 : Int32) → ((0 : Int32) = 0 ∨ (0 : Int32) = 1) ∧ Φ (.inl (some (.int (0 : Int32)))) μ2)) (fun e μ2 => rtM i_SchR_readThing Φ (.inr e) 0 0 μ2))) (fun e μ1 => rtM i_SchR_readThing Φ (.inr e) 0 0 μ1))) : WW g i_SchR_readThing 0 Φ 0 0 0 [(0, .ref 70)] [] μ :=
  reg1_sound (cs := []) T_SchR_readThing po_SchR (rtM_ok H_SchR_readThing) 29 H
set_option maxRecDepth 100000 in
set_option maxHeartbeats 4000000 in
theorem v_Sta_seatedAt_11_0 {g : Gl} {Φ : Out → Mem → Prop} {μ : Mem} {a : Int32} {b : Int32} {c : Int32} (H : WW g i_Sta_seatedAt 0 Φ 0 0 3 [(0, .ref 11), (1, .int a), (2, .int b), (3, .int c), (4, .int (0 : Int32))] [] μ) : WW g i_Sta_seatedAt 0 Φ 0 0 0 [(0, .ref 11), (1, .int a), (2, .int b), (3, .int c)] [] μ :=
  reg1_sound (cs := [(3, [0, 1, 2, 3, 4])]) T_Sta_seatedAt po_Sta (rtM_ok H_Sta_seatedAt) 3 H
set_option maxRecDepth 100000 in
set_option maxHeartbeats 4000000 in
theorem v_Sta_seatedAt_11_3 {g : Gl} {Φ : Out → Mem → Prop} {μ : Mem} {x1 : Int32} {x2 : Int32} {x3 : Int32} {x4 : Int32} (H : (x3 ≤ x4 → Φ (.inl (some (.int (-1 : Int32)))) μ) ∧ (¬ x3 ≤ x4 → vp_in x4 10 ∧ (¬ (mI μ 13 (nx x4)) = x1 → WW g i_Sta_seatedAt 0 Φ 0 0 3 [(0, .ref 11), (1, .int x1), (2, .int x2), (3, .int x3), (4, .int (x4 + (1 : Int32)))] [] μ) ∧ ((mI μ 13 (nx x4)) = x1 → vp_in x4 10 ∧ (¬ (mI μ 14 (nx x4)) = x2 → WW g i_Sta_seatedAt 0 Φ 0 0 3 [(0, .ref 11), (1, .int x1), (2, .int x2), (3, .int x3), (4, .int (x4 + (1 : Int32)))] [] μ) ∧ ((mI μ 14 (nx x4)) = x2 → Φ (.inl (some (.int x4))) μ)))) : WW g i_Sta_seatedAt 0 Φ 0 0 3 [(0, .ref 11), (1, .int x1), (2, .int x2), (3, .int x3), (4, .int x4)] [] μ :=
  reg1_sound (cs := [(3, [0, 1, 2, 3, 4])]) T_Sta_seatedAt po_Sta (rtM_ok H_Sta_seatedAt) 18 H
set_option maxRecDepth 100000 in
set_option maxHeartbeats 4000000 in
theorem v_Sta_seatedAt_78_0 {g : Gl} {Φ : Out → Mem → Prop} {μ : Mem} {a : Int32} {b : Int32} {c : Int32} (H : WW g i_Sta_seatedAt 0 Φ 0 0 3 [(0, .ref 78), (1, .int a), (2, .int b), (3, .int c), (4, .int (0 : Int32))] [] μ) : WW g i_Sta_seatedAt 0 Φ 0 0 0 [(0, .ref 78), (1, .int a), (2, .int b), (3, .int c)] [] μ :=
  reg1_sound (cs := [(3, [0, 1, 2, 3, 4])]) T_Sta_seatedAt po_Sta (rtM_ok H_Sta_seatedAt) 3 H
set_option maxRecDepth 100000 in
set_option maxHeartbeats 4000000 in
theorem v_Sta_seatedAt_78_3 {g : Gl} {Φ : Out → Mem → Prop} {μ : Mem} {x1 : Int32} {x2 : Int32} {x3 : Int32} {x4 : Int32} (H : (x3 ≤ x4 → Φ (.inl (some (.int (-1 : Int32)))) μ) ∧ (¬ x3 ≤ x4 → vp_in x4 10 ∧ (¬ (mI μ 80 (nx x4)) = x1 → WW g i_Sta_seatedAt 0 Φ 0 0 3 [(0, .ref 78), (1, .int x1), (2, .int x2), (3, .int x3), (4, .int (x4 + (1 : Int32)))] [] μ) ∧ ((mI μ 80 (nx x4)) = x1 → vp_in x4 10 ∧ (¬ (mI μ 81 (nx x4)) = x2 → WW g i_Sta_seatedAt 0 Φ 0 0 3 [(0, .ref 78), (1, .int x1), (2, .int x2), (3, .int x3), (4, .int (x4 + (1 : Int32)))] [] μ) ∧ ((mI μ 81 (nx x4)) = x2 → Φ (.inl (some (.int x4))) μ)))) : WW g i_Sta_seatedAt 0 Φ 0 0 3 [(0, .ref 78), (1, .int x1), (2, .int x2), (3, .int x3), (4, .int x4)] [] μ :=
  reg1_sound (cs := [(3, [0, 1, 2, 3, 4])]) T_Sta_seatedAt po_Sta (rtM_ok H_Sta_seatedAt) 18 H
set_option maxRecDepth 100000 in
set_option maxHeartbeats 4000000 in
theorem v_SchR_readThings_0 {g : Gl} {Φ : Out → Mem → Prop} {μ : Mem}  (H : WW g i_SchR_readThings 0 Φ 0 0 4 [(0, .ref 70), (1, .int (0 : Int32)), (2, .int (0 : Int32))] [] μ) : WW g i_SchR_readThings 0 Φ 0 0 0 [(0, .ref 70)] [] μ :=
  reg1_sound (cs := [(4, [0, 1, 2])]) T_SchR_readThings po_SchR (rtM_ok H_SchR_readThings) 5 H
set_option maxRecDepth 100000 in
set_option maxHeartbeats 4000000 in
theorem v_SchR_readThings_4 {g : Gl} {Φ : Out → Mem → Prop} {μ : Mem} {x1 : Int32} {x2 : Int32} (H : ((400 : Int32) ≤ x2 → Φ (.inl (some (.int x1))) μ) ∧ (¬ (400 : Int32) ≤ x2 → Spec g i_Tape_takeNumber 0 [.ref 1, .int (0 : Int32), .int ((mI μ 71 0) - (1 : Int32))] μ (onI (fun r2 μ1 => (¬ r2 = (-1 : Int32) → ((mI μ1 1 3) = (2 : Int32) → WW g i_SchR_readThings 0 Φ 0 0 4 [(0, .ref 70), (1, .int (x1 ||| ((1 : Int32) <<< (r2 &&& 31)))), (2, .int (x2 + (1 : Int32)))] [] μ1) ∧ (¬ (mI μ1 1 3) = (2 : Int32) → Φ (.inl (some (.int (x1 ||| ((1 : Int32) <<< (r2 &&& 31)))))) μ1)) ∧ (r2 = (-1 : Int32) → Φ (.inl (some (.int (-1 : Int32)))) μ1)) (fun e μ1 => rtM i_SchR_readThings Φ (.inr e) 0 0 μ1)))) : WW g i_SchR_readThings 0 Φ 0 0 4 [(0, .ref 70), (1, .int x1), (2, .int x2)] [] μ :=
  reg1_sound (cs := [(4, [0, 1, 2])]) T_SchR_readThings po_SchR (rtM_ok H_SchR_readThings) 30 H
set_option maxRecDepth 100000 in
set_option maxHeartbeats 4000000 in
theorem v_Sta_seat_11_0 {g : Gl} {Φ : Out → Mem → Prop} {μ : Mem} {a : Int32} {b : Int32} {c : Int32} (H : vp_in a 10 ∧ vp_in a 10 ∧ Φ (.inl none) (sI (sI μ 13 (nx a) b) 14 (nx a) c)) : WW g i_Sta_seat 0 Φ 0 0 0 [(0, .ref 11), (1, .int a), (2, .int b), (3, .int c)] [] μ :=
  reg1_sound (cs := []) T_Sta_seat po_Sta (rtM_ok H_Sta_seat) 11 H
set_option maxRecDepth 100000 in
set_option maxHeartbeats 4000000 in
theorem v_Sta_seat_78_0 {g : Gl} {Φ : Out → Mem → Prop} {μ : Mem} {a : Int32} {b : Int32} {c : Int32} (H : vp_in a 10 ∧ vp_in a 10 ∧ Φ (.inl none) (sI (sI μ 80 (nx a) b) 81 (nx a) c)) : WW g i_Sta_seat 0 Φ 0 0 0 [(0, .ref 78), (1, .int a), (2, .int b), (3, .int c)] [] μ :=
  reg1_sound (cs := []) T_Sta_seat po_Sta (rtM_ok H_Sta_seat) 11 H
set_option maxRecDepth 100000 in
set_option maxHeartbeats 4000000 in
theorem v_SchR_readAbsent_0 {g : Gl} {Φ : Out → Mem → Prop} {μ : Mem}  (H : Spec g i_Tape_takeNumber 0 [.ref 1, .int (0 : Int32), .int ((mI μ 71 2) - (1 : Int32))] μ (onI (fun r2 μ1 => (¬ r2 = (-1 : Int32) → ((1 : Int32) = 0 ∨ (1 : Int32) = 1) ∧ Φ (.inl (some (.int (1 : Int32)))) (sI μ1 78 4 ((mI μ1 78 4) ||| ((1 : Int32) <<< (r2 &&& 31))))) ∧ (r2 = (-1 : Int32) → ((0 : Int32) = 0 ∨ (0 : Int32) = 1) ∧ Φ (.inl (some (.int (0 : Int32)))) μ1)) (fun e μ1 => rtM i_SchR_readAbsent Φ (.inr e) 0 0 μ1))) : WW g i_SchR_readAbsent 0 Φ 0 0 0 [(0, .ref 70)] [] μ :=
  reg1_sound (cs := []) T_SchR_readAbsent po_SchR (rtM_ok H_SchR_readAbsent) 24 H
set_option maxRecDepth 100000 in
set_option maxHeartbeats 4000000 in
theorem v_SchR_readLoud_0 {g : Gl} {Φ : Out → Mem → Prop} {μ : Mem}  (H : Spec g i_Tape_takeNumber 0 [.ref 1, .int (0 : Int32), .int (9 : Int32)] μ (onI (fun r2 μ1 => (¬ r2 = (-1 : Int32) → ((1 : Int32) = 0 ∨ (1 : Int32) = 1) ∧ Φ (.inl (some (.int (1 : Int32)))) (sI μ1 71 9 r2)) ∧ (r2 = (-1 : Int32) → ((0 : Int32) = 0 ∨ (0 : Int32) = 1) ∧ Φ (.inl (some (.int (0 : Int32)))) μ1)) (fun e μ1 => rtM i_SchR_readLoud Φ (.inr e) 0 0 μ1))) : WW g i_SchR_readLoud 0 Φ 0 0 0 [(0, .ref 70)] [] μ :=
  reg1_sound (cs := []) T_SchR_readLoud po_SchR (rtM_ok H_SchR_readLoud) 15 H
set_option maxRecDepth 100000 in
set_option maxHeartbeats 4000000 in
theorem v_Tape_useUp_0 {g : Gl} {Φ : Out → Mem → Prop} {μ : Mem}  (H : Φ (.inl (some (.int (mI μ 1 1)))) (sI μ 1 1 (0 : Int32))) : WW g i_Tape_useUp 0 Φ 0 0 0 [(0, .ref 1)] [] μ :=
  reg1_sound (cs := []) T_Tape_useUp po_Tape (rtM_ok H_Tape_useUp) 8 H
set_option maxRecDepth 100000 in
set_option maxHeartbeats 4000000 in
theorem v_SchR_deliver_0 {g : Gl} {Φ : Out → Mem → Prop} {μ : Mem}  (H : Spec g i_Set_copyFrom 0 [.ref 4, .ref 71] μ (onV (fun μ1 => Spec g i_Sta_copyFrom 0 [.ref 11, .ref 78] μ1 (onV (fun μ2 => Φ (.inl none) μ2) (fun e μ2 => rtM i_SchR_deliver Φ (.inr e) 0 0 μ2))) (fun e μ1 => rtM i_SchR_deliver Φ (.inr e) 0 0 μ1))) : WW g i_SchR_deliver 0 Φ 0 0 0 [(0, .ref 70), (1, .ref 3)] [] μ :=
  reg1_sound (cs := []) T_SchR_deliver po_SchR (rtM_ok H_SchR_deliver) 11 H
set_option maxRecDepth 100000 in
set_option maxHeartbeats 4000000 in
theorem v_LawR_begin_0 {g : Gl} {Φ : Out → Mem → Prop} {μ : Mem}  (H : Spec g i_Law_clear 0 [.ref 83] μ (onV (fun μ1 => Φ (.inl none) μ1) (fun e μ1 => rtM i_LawR_begin Φ (.inr e) 0 0 μ1))) : WW g i_LawR_begin 0 Φ 0 0 0 [(0, .ref 82)] [] μ :=
  reg1_sound (cs := []) T_LawR_begin po_LawR (rtM_ok H_LawR_begin) 4 H
set_option maxRecDepth 100000 in
set_option maxHeartbeats 4000000 in
theorem v_Law_clear_0 {g : Gl} {Φ : Out → Mem → Prop} {μ : Mem}  (H : Φ (.inl none) (sI (sI μ 83 0 (0 : Int32)) 83 5 (0 : Int32))) : WW g i_Law_clear 0 Φ 0 0 0 [(0, .ref 83)] [] μ :=
  reg1_sound (cs := []) T_Law_clear po_Law (rtM_ok H_Law_clear) 7 H
set_option maxRecDepth 100000 in
set_option maxHeartbeats 4000000 in
theorem v_Sta_isKnown_0 {g : Gl} {Φ : Out → Mem → Prop} {μ : Mem} {a : Int32} {b : Int32} (H : vp_in a 10 ∧ ((((mI μ 12 (nx a)) >>> (b &&& 31)) &&& (1 : Int32)) = 0 → ((0 : Int32) = 0 ∨ (0 : Int32) = 1) ∧ Φ (.inl (some (.int (0 : Int32)))) μ) ∧ (¬ (((mI μ 12 (nx a)) >>> (b &&& 31)) &&& (1 : Int32)) = 0 → ((1 : Int32) = 0 ∨ (1 : Int32) = 1) ∧ Φ (.inl (some (.int (1 : Int32)))) μ)) : WW g i_Sta_isKnown 0 Φ 0 0 0 [(0, .ref 11), (1, .int a), (2, .int b)] [] μ :=
  reg1_sound (cs := []) T_Sta_isKnown po_Sta (rtM_ok H_Sta_isKnown) 12 H
set_option maxRecDepth 100000 in
set_option maxHeartbeats 4000000 in
theorem v_Sta_draw_0 {g : Gl} {Φ : Out → Mem → Prop} {μ : Mem}  (H : Φ (.inl (some (.int ((ush (((1103515245 : Int32) * (mI μ 11 6)) + (12345 : Int32)) (16 : Int32)) &&& (32767 : Int32))))) (sI μ 11 6 (((1103515245 : Int32) * (mI μ 11 6)) + (12345 : Int32)))) : WW g i_Sta_draw 0 Φ 0 0 0 [(0, .ref 11)] [] μ :=
  reg1_sound (cs := []) T_Sta_draw po_Sta (rtM_ok H_Sta_draw) 15 H
set_option maxRecDepth 100000 in
set_option maxHeartbeats 4000000 in
theorem v_Sta_swapSeats_0 {g : Gl} {Φ : Out → Mem → Prop} {μ : Mem} {a : Int32} {b : Int32} (H : vp_in a 10 ∧ vp_in a 10 ∧ vp_in b 10 ∧ vp_in b 10 ∧ Spec g i_Sta_seat 0 [.ref 11, .int a, .int (mI μ 13 (nx b)), .int (mI μ 14 (nx b))] μ (onV (fun μ1 => Spec g i_Sta_seat 0 [.ref 11, .int b, .int (mI μ 13 (nx a)), .int (mI μ 14 (nx a))] μ1 (onV (fun μ2 => Φ (.inl none) μ2) (fun e μ2 => rtM i_Sta_swapSeats Φ (.inr e) 0 0 μ2))) (fun e μ1 => rtM i_Sta_swapSeats Φ (.inr e) 0 0 μ1))) : WW g i_Sta_swapSeats 0 Φ 0 0 0 [(0, .ref 11), (1, .int a), (2, .int b)] [] μ :=
  reg1_sound (cs := []) T_Sta_swapSeats po_Sta (rtM_ok H_Sta_swapSeats) 27 H
set_option maxRecDepth 100000 in
set_option maxHeartbeats 4000000 in
theorem v_Tape_byteAt_0 {g : Gl} {Φ : Out → Mem → Prop} {μ : Mem} {a : Int32} (H : (a < 0 → Φ (.inl (some (.int (255 : Int32)))) μ) ∧ (¬ a < 0 → ((400 : Int32) ≤ a → Φ (.inl (some (.int (255 : Int32)))) μ) ∧ (¬ (400 : Int32) ≤ a → vp_in a 400 ∧ Φ (.inl (some (.int ((mI μ 2 (nx a)) &&& (255 : Int32))))) μ))) : WW g i_Tape_byteAt 0 Φ 0 0 0 [(0, .ref 1), (1, .int a)] [] μ :=
  reg1_sound (cs := []) T_Tape_byteAt po_Tape (rtM_ok H_Tape_byteAt) 13 H
set_option maxRecDepth 100000 in
set_option maxHeartbeats 4000000 in
theorem v_Log_rowBefore_0 {g : Gl} {Φ : Out → Mem → Prop} {μ : Mem} {a : Int32} {b : Int32} {c : Int32} (H : WW g i_Log_rowBefore 0 Φ 0 0 5 [(0, .ref 22), (2, .int b), (3, .int c), (4, .int (a - (1 : Int32)))] [] μ) : WW g i_Log_rowBefore 0 Φ 0 0 0 [(0, .ref 22), (1, .int a), (2, .int b), (3, .int c)] [] μ :=
  reg1_sound (cs := [(5, [0, 2, 3, 4])]) T_Log_rowBefore po_Log (rtM_ok H_Log_rowBefore) 5 H
set_option maxRecDepth 100000 in
set_option maxHeartbeats 4000000 in
theorem v_Log_rowBefore_5 {g : Gl} {Φ : Out → Mem → Prop} {μ : Mem} {x2 : Int32} {x3 : Int32} {x4 : Int32} (H : (x4 < 0 → Φ (.inl (some (.int (-1 : Int32)))) μ) ∧ (¬ x4 < 0 → Spec g i_Log_learntBy 0 [.ref 22, .int x4, .int x2] μ (onI (fun r2 μ1 => (¬ r2 = x3 → WW g i_Log_rowBefore 0 Φ 0 0 5 [(0, .ref 22), (2, .int x2), (3, .int x3), (4, .int (x4 + (-1 : Int32)))] [] μ1) ∧ (r2 = x3 → Φ (.inl (some (.int x4))) μ1)) (fun e μ1 => rtM i_Log_rowBefore Φ (.inr e) 0 0 μ1)))) : WW g i_Log_rowBefore 0 Φ 0 0 5 [(0, .ref 22), (2, .int x2), (3, .int x3), (4, .int x4)] [] μ :=
  reg1_sound (cs := [(5, [0, 2, 3, 4])]) T_Log_rowBefore po_Log (rtM_ok H_Log_rowBefore) 11 H
set_option maxRecDepth 100000 in
set_option maxHeartbeats 4000000 in
theorem v_Log_learntBy_0 {g : Gl} {Φ : Out → Mem → Prop} {μ : Mem} {a : Int32} {b : Int32} (H : vp_in a 60 ∧ (¬ (((mI μ 26 (nx a)) >>> (b &&& 31)) &&& (1 : Int32)) = 0 → vp_in a 60 ∧ Φ (.inl (some (.int (((lush (mL μ 27 (nx a)) ((4 : Int32) * b)).toInt32) &&& (15 : Int32))))) μ) ∧ ((((mI μ 26 (nx a)) >>> (b &&& 31)) &&& (1 : Int32)) = 0 → Φ (.inl (some (.int (-1 : Int32)))) μ)) : WW g i_Log_learntBy 0 Φ 0 0 0 [(0, .ref 22), (1, .int a), (2, .int b)] [] μ :=
  reg1_sound (cs := []) T_Log_learntBy po_Log (rtM_ok H_Log_learntBy) 21 H
set_option maxRecDepth 100000 in
set_option maxHeartbeats 4000000 in
theorem v_Log_chainBegin_0 {g : Gl} {Φ : Out → Mem → Prop} {μ : Mem} {a : Int32} {b : Int32} {c : Int32} (H : Spec g i_Log_rowBefore 0 [.ref 22, .int a, .int b, .int c] μ (onI (fun r2 μ1 => WW g i_Log_chainBegin 0 Φ 0 0 15 [(0, .ref 22), (4, .int b), (5, .int r2), (6, .int (0 : Int32))] [] μ1) (fun e μ1 => rtM i_Log_chainBegin Φ (.inr e) 0 0 μ1))) : WW g i_Log_chainBegin 0 Φ 0 0 0 [(0, .ref 22), (1, .int a), (2, .int b), (3, .int c)] [] μ :=
  reg1_sound (cs := [(15, [0, 4, 5, 6])]) T_Log_chainBegin po_Log (rtM_ok H_Log_chainBegin) 11 H
set_option maxRecDepth 100000 in
set_option maxHeartbeats 4000000 in
theorem v_Log_chainBegin_15 {g : Gl} {Φ : Out → Mem → Prop} {μ : Mem} {x4 : Int32} {x5 : Int32} {x6 : Int32} (H : ((60 : Int32) ≤ x6 → Φ (.inl (some (.int x4))) μ) ∧ (¬ (60 : Int32) ≤ x6 → (x5 < 0 → Φ (.inl (some (.int x4))) μ) ∧ (¬ x5 < 0 → vp_in x5 60 ∧ vp_in x5 60 ∧ (¬ (6 : Int32) = 0) ∧ Spec g i_Log_rowBefore 0 [.ref 22, .int x5, .int (mI μ 24 (nx x5)), .int ((mI μ 25 (nx x5)) / (6 : Int32))] μ (onI (fun r2 μ1 => WW g i_Log_chainBegin 0 Φ 0 0 15 [(0, .ref 22), (4, .int (mI μ 24 (nx x5))), (5, .int r2), (6, .int (x6 + (1 : Int32)))] [] μ1) (fun e μ1 => rtM i_Log_chainBegin Φ (.inr e) 0 0 μ1))))) : WW g i_Log_chainBegin 0 Φ 0 0 15 [(0, .ref 22), (4, .int x4), (5, .int x5), (6, .int x6)] [] μ :=
  reg1_sound (cs := [(15, [0, 4, 5, 6])]) T_Log_chainBegin po_Log (rtM_ok H_Log_chainBegin) 24 H
set_option maxRecDepth 100000 in
set_option maxHeartbeats 4000000 in
theorem v_Log_chainLength_0 {g : Gl} {Φ : Out → Mem → Prop} {μ : Mem} {a : Int32} {b : Int32} {c : Int32} (H : Spec g i_Log_rowBefore 0 [.ref 22, .int a, .int b, .int c] μ (onI (fun r2 μ1 => WW g i_Log_chainLength 0 Φ 0 0 12 [(0, .ref 22), (4, .int (0 : Int32)), (5, .int r2)] [] μ1) (fun e μ1 => rtM i_Log_chainLength Φ (.inr e) 0 0 μ1))) : WW g i_Log_chainLength 0 Φ 0 0 0 [(0, .ref 22), (1, .int a), (2, .int b), (3, .int c)] [] μ :=
  reg1_sound (cs := [(12, [0, 4, 5])]) T_Log_chainLength po_Log (rtM_ok H_Log_chainLength) 9 H
set_option maxRecDepth 100000 in
set_option maxHeartbeats 4000000 in
theorem v_Log_chainLength_12 {g : Gl} {Φ : Out → Mem → Prop} {μ : Mem} {x4 : Int32} {x5 : Int32} (H : (x5 < 0 → Φ (.inl (some (.int x4))) μ) ∧ (¬ x5 < 0 → ((60 : Int32) ≤ x4 → Φ (.inl (some (.int x4))) μ) ∧ (¬ (60 : Int32) ≤ x4 → vp_in x5 60 ∧ vp_in x5 60 ∧ (¬ (6 : Int32) = 0) ∧ Spec g i_Log_rowBefore 0 [.ref 22, .int x5, .int (mI μ 24 (nx x5)), .int ((mI μ 25 (nx x5)) / (6 : Int32))] μ (onI (fun r2 μ1 => WW g i_Log_chainLength 0 Φ 0 0 12 [(0, .ref 22), (4, .int (x4 + (1 : Int32))), (5, .int r2)] [] μ1) (fun e μ1 => rtM i_Log_chainLength Φ (.inr e) 0 0 μ1))))) : WW g i_Log_chainLength 0 Φ 0 0 12 [(0, .ref 22), (4, .int x4), (5, .int x5)] [] μ :=
  reg1_sound (cs := [(12, [0, 4, 5])]) T_Log_chainLength po_Log (rtM_ok H_Log_chainLength) 22 H
