set_option maxRecDepth 100000 in
set_option maxHeartbeats 4000000 in
theorem v_L_school_0 {g : Gl} {Φ : Out → Mem → Prop} {μ : Mem}  (H : Spec g i_SO_school 0 [.ref 0] μ (onI (fun r2 μ1 => vp_in (0 : Int32) 1 ∧ Φ (.inl (some (.int (0 : Int32)))) (sL μ1 154 (nx (0 : Int32)) r2.toInt64)) (fun e μ1 => hx (fun hp n ln => reg (rm i_L_school 0) (rtM i_L_school Φ) g i_L_school M_L_school [] (WW g i_L_school 0 Φ) 37 1 6 (hp + ln) (List.filter (fun q => Nat.ble (q.1 + q.2.category) n) [(0, .ref 0), (1, .ref 154)]) [] μ1) 3 e [(0, 8, 11, 13, 0, 2, 1), (0, 8, 14, 15, 1, 2, 1)]))) : WW g i_L_school 0 Φ 0 0 0 [(0, .ref 0), (1, .ref 154)] [] μ :=
  reg1_sound (cs := []) T_L_school po_L (rtM_ok H_L_school) 40 H
set_option maxRecDepth 100000 in
set_option maxHeartbeats 4000000 in
theorem v_L_law_0 {g : Gl} {Φ : Out → Mem → Prop} {μ : Mem}  (H : Spec g i_SO_law 0 [.ref 0] μ (onI (fun r2 μ1 => vp_in (0 : Int32) 1 ∧ Φ (.inl (some (.int (0 : Int32)))) (sL μ1 154 (nx (0 : Int32)) r2.toInt64)) (fun e μ1 => hx (fun hp n ln => reg (rm i_L_law 0) (rtM i_L_law Φ) g i_L_law M_L_law [] (WW g i_L_law 0 Φ) 37 1 6 (hp + ln) (List.filter (fun q => Nat.ble (q.1 + q.2.category) n) [(0, .ref 0), (1, .ref 154)]) [] μ1) 3 e [(0, 8, 11, 13, 0, 2, 1)]))) : WW g i_L_law 0 Φ 0 0 0 [(0, .ref 0), (1, .ref 154)] [] μ :=
  reg1_sound (cs := []) T_L_law po_L (rtM_ok H_L_law) 40 H
set_option maxRecDepth 100000 in
set_option maxHeartbeats 4000000 in
theorem v_L_thing_0 {g : Gl} {Φ : Out → Mem → Prop} {μ : Mem} {a : Int32} {b : Int32} (H : Spec g i_SO_thing 0 [.ref 0, .int a, .int b] μ (onI (fun r2 μ1 => vp_in (0 : Int32) 1 ∧ Φ (.inl (some (.int (0 : Int32)))) (sL μ1 154 (nx (0 : Int32)) r2.toInt64)) (fun e μ1 => hx (fun hp n ln => reg (rm i_L_thing 0) (rtM i_L_thing Φ) g i_L_thing M_L_thing [] (WW g i_L_thing 0 Φ) 35 2 12 (hp + ln) (List.filter (fun q => Nat.ble (q.1 + q.2.category) n) [(0, .ref 0), (1, .int a), (2, .int b), (3, .ref 154)]) [] μ1) 5 e [(0, 10, 13, 24, 2, 4, 2), (0, 10, 17, 26, 3, 4, 2)]))) : WW g i_L_thing 0 Φ 0 0 0 [(0, .ref 0), (1, .int a), (2, .int b), (3, .ref 154)] [] μ :=
  reg1_sound (cs := []) T_L_thing po_L (rtM_ok H_L_thing) 40 H
set_option maxRecDepth 100000 in
set_option maxHeartbeats 4000000 in
theorem v_L_person_0 {g : Gl} {Φ : Out → Mem → Prop} {μ : Mem} {a : Int32} {b : Int32} (H : Spec g i_SO_person 0 [.ref 0, .int a, .int b] μ (onI (fun r2 μ1 => vp_in (0 : Int32) 1 ∧ Φ (.inl (some (.int (0 : Int32)))) (sL μ1 154 (nx (0 : Int32)) r2.toInt64)) (fun e μ1 => hx (fun hp n ln => reg (rm i_L_person 0) (rtM i_L_person Φ) g i_L_person M_L_person [] (WW g i_L_person 0 Φ) 35 2 12 (hp + ln) (List.filter (fun q => Nat.ble (q.1 + q.2.category) n) [(0, .ref 0), (1, .int a), (2, .int b), (3, .ref 154)]) [] μ1) 5 e [(0, 10, 13, 24, 2, 4, 2), (0, 10, 17, 26, 3, 4, 2)]))) : WW g i_L_person 0 Φ 0 0 0 [(0, .ref 0), (1, .int a), (2, .int b), (3, .ref 154)] [] μ :=
  reg1_sound (cs := []) T_L_person po_L (rtM_ok H_L_person) 40 H
set_option maxRecDepth 100000 in
set_option maxHeartbeats 4000000 in
theorem v_L_rule_0 {g : Gl} {Φ : Out → Mem → Prop} {μ : Mem} {a : Int32} {b : Int32} (H : Spec g i_SO_rule 0 [.ref 0, .int a, .int b] μ (onI (fun r2 μ1 => vp_in (0 : Int32) 1 ∧ Φ (.inl (some (.int (0 : Int32)))) (sL μ1 154 (nx (0 : Int32)) r2.toInt64)) (fun e μ1 => hx (fun hp n ln => reg (rm i_L_rule 0) (rtM i_L_rule Φ) g i_L_rule M_L_rule [] (WW g i_L_rule 0 Φ) 35 1 6 (hp + ln) (List.filter (fun q => Nat.ble (q.1 + q.2.category) n) [(0, .ref 0), (1, .int a), (2, .int b), (3, .ref 154)]) [] μ1) 5 e [(0, 10, 13, 26, 3, 4, 2)]))) : WW g i_L_rule 0 Φ 0 0 0 [(0, .ref 0), (1, .int a), (2, .int b), (3, .ref 154)] [] μ :=
  reg1_sound (cs := []) T_L_rule po_L (rtM_ok H_L_rule) 40 H
set_option maxRecDepth 100000 in
set_option maxHeartbeats 4000000 in
theorem v_L_apart_0 {g : Gl} {Φ : Out → Mem → Prop} {μ : Mem} {a : Int32} {b : Int32} (H : Spec g i_SO_apart 0 [.ref 0, .int a, .int b] μ (onI (fun r2 μ1 => vp_in (0 : Int32) 1 ∧ Φ (.inl (some (.int (0 : Int32)))) (sL μ1 154 (nx (0 : Int32)) r2.toInt64)) (fun e μ1 => hx (fun hp n ln => reg (rm i_L_apart 0) (rtM i_L_apart Φ) g i_L_apart M_L_apart [] (WW g i_L_apart 0 Φ) 35 3 18 (hp + ln) (List.filter (fun q => Nat.ble (q.1 + q.2.category) n) [(0, .ref 0), (1, .int a), (2, .int b), (3, .ref 154)]) [] μ1) 5 e [(0, 10, 13, 24, 2, 4, 2), (0, 10, 17, 13, 0, 4, 2)]))) : WW g i_L_apart 0 Φ 0 0 0 [(0, .ref 0), (1, .int a), (2, .int b), (3, .ref 154)] [] μ :=
  reg1_sound (cs := []) T_L_apart po_L (rtM_ok H_L_apart) 40 H
set_option maxRecDepth 100000 in
set_option maxHeartbeats 4000000 in
theorem v_L_hears_0 {g : Gl} {Φ : Out → Mem → Prop} {μ : Mem} {a : Int32} {b : Int32} {c : Int32} {d : Int32} (H : Spec g i_SO_hears 0 [.ref 0, .int a, .int b, .int c, .int d] μ (onI (fun r2 μ1 => vp_in (0 : Int32) 1 ∧ Φ (.inl (some (.int (0 : Int32)))) (sL μ1 154 (nx (0 : Int32)) r2.toInt64)) (fun e μ1 => hx (fun hp n ln => reg (rm i_L_hears 0) (rtM i_L_hears Φ) g i_L_hears M_L_hears [] (WW g i_L_hears 0 Φ) 33 5 30 (hp + ln) (List.filter (fun q => Nat.ble (q.1 + q.2.category) n) [(0, .ref 0), (1, .int a), (2, .int b), (3, .int c), (4, .int d), (5, .ref 154)]) [] μ1) 9 e [(0, 14, 17, 24, 2, 6, 2), (0, 14, 21, 13, 0, 6, 2)]))) : WW g i_L_hears 0 Φ 0 0 0 [(0, .ref 0), (1, .int a), (2, .int b), (3, .int c), (4, .int d), (5, .ref 154)] [] μ :=
  reg1_sound (cs := []) T_L_hears po_L (rtM_ok H_L_hears) 40 H
set_option maxRecDepth 100000 in
set_option maxHeartbeats 4000000 in
theorem v_L_audience_0 {g : Gl} {Φ : Out → Mem → Prop} {μ : Mem} {a : Int32} {b : Int32} {c : Int32} {d : Int32} (H : Spec g i_SO_audience 0 [.ref 0, .int a, .int b, .int c, .int d] μ (onI (fun r2 μ1 => vp_in (0 : Int32) 1 ∧ Φ (.inl (some (.int (0 : Int32)))) (sL μ1 154 (nx (0 : Int32)) r2.toInt64)) (fun e μ1 => hx (fun hp n ln => reg (rm i_L_audience 0) (rtM i_L_audience Φ) g i_L_audience M_L_audience [] (WW g i_L_audience 0 Φ) 33 3 18 (hp + ln) (List.filter (fun q => Nat.ble (q.1 + q.2.category) n) [(0, .ref 0), (1, .int a), (2, .int b), (3, .int c), (4, .int d), (5, .ref 154)]) [] μ1) 9 e [(0, 14, 17, 24, 2, 6, 2)]))) : WW g i_L_audience 0 Φ 0 0 0 [(0, .ref 0), (1, .int a), (2, .int b), (3, .int c), (4, .int d), (5, .ref 154)] [] μ :=
  reg1_sound (cs := []) T_L_audience po_L (rtM_ok H_L_audience) 40 H
set_option maxRecDepth 100000 in
set_option maxHeartbeats 4000000 in
theorem v_L_say_0 {g : Gl} {Φ : Out → Mem → Prop} {μ : Mem} {a : Int32} {b : Int32} {c : Int32} (H : Spec g i_SO_say 0 [.ref 0, .int a, .int b, .int c] μ (onI (fun r2 μ1 => vp_in (0 : Int32) 1 ∧ Φ (.inl (some (.int (0 : Int32)))) (sL μ1 154 (nx (0 : Int32)) r2.toInt64)) (fun e μ1 => hx (fun hp n ln => reg (rm i_L_say 0) (rtM i_L_say Φ) g i_L_say M_L_say [] (WW g i_L_say 0 Φ) 34 4 24 (hp + ln) (List.filter (fun q => Nat.ble (q.1 + q.2.category) n) [(0, .ref 0), (1, .int a), (2, .int b), (3, .int c), (4, .ref 154)]) [] μ1) 7 e [(0, 12, 15, 24, 2, 5, 2), (0, 12, 19, 49, 4, 5, 2)]))) : WW g i_L_say 0 Φ 0 0 0 [(0, .ref 0), (1, .int a), (2, .int b), (3, .int c), (4, .ref 154)] [] μ :=
  reg1_sound (cs := []) T_L_say po_L (rtM_ok H_L_say) 40 H
set_option maxRecDepth 100000 in
set_option maxHeartbeats 4000000 in
theorem v_L_think_0 {g : Gl} {Φ : Out → Mem → Prop} {μ : Mem} {a : Int32} (H : Spec g i_SO_think 0 [.ref 0, .int a] μ (onI (fun r2 μ1 => vp_in (0 : Int32) 1 ∧ Φ (.inl (some (.int (0 : Int32)))) (sL μ1 154 (nx (0 : Int32)) r2.toInt64)) (fun e μ1 => hx (fun hp n ln => reg (rm i_L_think 0) (rtM i_L_think Φ) g i_L_think M_L_think [] (WW g i_L_think 0 Φ) 36 1 6 (hp + ln) (List.filter (fun q => Nat.ble (q.1 + q.2.category) n) [(0, .ref 0), (1, .int a), (2, .ref 154)]) [] μ1) 4 e [(0, 9, 12, 24, 2, 3, 1)]))) : WW g i_L_think 0 Φ 0 0 0 [(0, .ref 0), (1, .int a), (2, .ref 154)] [] μ :=
  reg1_sound (cs := []) T_L_think po_L (rtM_ok H_L_think) 40 H
set_option maxRecDepth 100000 in
set_option maxHeartbeats 4000000 in
theorem v_L_away_0 {g : Gl} {Φ : Out → Mem → Prop} {μ : Mem} {a : Int32} {b : Int32} (H : Spec g i_SO_away 0 [.ref 0, .int a, .int b] μ (onI (fun r2 μ1 => (r2 = 0 → vp_in (0 : Int32) 1 ∧ Φ (.inl (some (.int (0 : Int32)))) (sL μ1 154 (nx (0 : Int32)) (0 : Int64))) ∧ (¬ r2 = 0 → vp_in (0 : Int32) 1 ∧ Φ (.inl (some (.int (0 : Int32)))) (sL μ1 154 (nx (0 : Int32)) (1 : Int64)))) (fun e μ1 => hx (fun hp n ln => reg (rm i_L_away 0) (rtM i_L_away Φ) g i_L_away M_L_away [] (WW g i_L_away 0 Φ) 35 1 6 (hp + ln) (List.filter (fun q => Nat.ble (q.1 + q.2.category) n) [(0, .ref 0), (1, .int a), (2, .int b), (3, .ref 154)]) [] μ1) 5 e [(0, 17, 20, 24, 2, 4, 2)]))) : WW g i_L_away 0 Φ 0 0 0 [(0, .ref 0), (1, .int a), (2, .int b), (3, .ref 154)] [] μ :=
  reg1_sound (cs := []) T_L_away po_L (rtM_ok H_L_away) 40 H
set_option maxRecDepth 100000 in
set_option maxHeartbeats 4000000 in
theorem v_L_change_0 {g : Gl} {Φ : Out → Mem → Prop} {μ : Mem} {a : Int32} {b : Int32} (H : Spec g i_SO_change 0 [.ref 0, .int a, .int b] μ (onI (fun r2 μ1 => vp_in (0 : Int32) 1 ∧ Φ (.inl (some (.int (0 : Int32)))) (sL μ1 154 (nx (0 : Int32)) r2.toInt64)) (fun e μ1 => hx (fun hp n ln => reg (rm i_L_change 0) (rtM i_L_change Φ) g i_L_change M_L_change [] (WW g i_L_change 0 Φ) 35 3 18 (hp + ln) (List.filter (fun q => Nat.ble (q.1 + q.2.category) n) [(0, .ref 0), (1, .int a), (2, .int b), (3, .ref 154)]) [] μ1) 5 e [(0, 10, 13, 24, 2, 4, 2), (0, 10, 17, 13, 0, 4, 2)]))) : WW g i_L_change 0 Φ 0 0 0 [(0, .ref 0), (1, .int a), (2, .int b), (3, .ref 154)] [] μ :=
  reg1_sound (cs := []) T_L_change po_L (rtM_ok H_L_change) 40 H
set_option maxRecDepth 100000 in
set_option maxHeartbeats 4000000 in
theorem v_L_term_0 {g : Gl} {Φ : Out → Mem → Prop} {μ : Mem} {a : Int32} (H : Spec g i_SO_term 0 [.ref 0, .int a] μ (onI (fun r2 μ1 => vp_in (0 : Int32) 1 ∧ Φ (.inl (some (.int (0 : Int32)))) (sL μ1 154 (nx (0 : Int32)) r2.toInt64)) (fun e μ1 => hx (fun hp n ln => reg (rm i_L_term 0) (rtM i_L_term Φ) g i_L_term M_L_term [] (WW g i_L_term 0 Φ) 36 1 6 (hp + ln) (List.filter (fun q => Nat.ble (q.1 + q.2.category) n) [(0, .ref 0), (1, .int a), (2, .ref 154)]) [] μ1) 4 e [(0, 9, 12, 13, 0, 3, 1)]))) : WW g i_L_term 0 Φ 0 0 0 [(0, .ref 0), (1, .int a), (2, .ref 154)] [] μ :=
  reg1_sound (cs := []) T_L_term po_L (rtM_ok H_L_term) 40 H
set_option maxRecDepth 100000 in
set_option maxHeartbeats 4000000 in
theorem v_L_plan_0 {g : Gl} {Φ : Out → Mem → Prop} {μ : Mem} {a : Int32} {b : Int32} (H : Spec g i_SO_plan 0 [.ref 0, .int a, .int b] μ (onI (fun r2 μ1 => vp_in (0 : Int32) 1 ∧ Φ (.inl (some (.int (0 : Int32)))) (sL μ1 154 (nx (0 : Int32)) r2.toInt64)) (fun e μ1 => hx (fun hp n ln => reg (rm i_L_plan 0) (rtM i_L_plan Φ) g i_L_plan M_L_plan [] (WW g i_L_plan 0 Φ) 35 1 6 (hp + ln) (List.filter (fun q => Nat.ble (q.1 + q.2.category) n) [(0, .ref 0), (1, .int a), (2, .int b), (3, .ref 154)]) [] μ1) 5 e [(0, 10, 13, 24, 2, 4, 2)]))) : WW g i_L_plan 0 Φ 0 0 0 [(0, .ref 0), (1, .int a), (2, .int b), (3, .ref 154)] [] μ :=
  reg1_sound (cs := []) T_L_plan po_L (rtM_ok H_L_plan) 40 H
set_option maxRecDepth 100000 in
set_option maxHeartbeats 4000000 in
theorem v_L_kept_0 {g : Gl} {Φ : Out → Mem → Prop} {μ : Mem} {a : Int32} {b : Int32} (H : Spec g i_SO_kept 0 [.ref 0, .int a, .int b] μ (onI (fun r2 μ1 => vp_in (0 : Int32) 1 ∧ Φ (.inl (some (.int (0 : Int32)))) (sL μ1 154 (nx (0 : Int32)) r2.toInt64)) (fun e μ1 => hx (fun hp n ln => reg (rm i_L_kept 0) (rtM i_L_kept Φ) g i_L_kept M_L_kept [] (WW g i_L_kept 0 Φ) 35 2 12 (hp + ln) (List.filter (fun q => Nat.ble (q.1 + q.2.category) n) [(0, .ref 0), (1, .int a), (2, .int b), (3, .ref 154)]) [] μ1) 5 e [(0, 10, 13, 24, 2, 4, 2)]))) : WW g i_L_kept 0 Φ 0 0 0 [(0, .ref 0), (1, .int a), (2, .int b), (3, .ref 154)] [] μ :=
  reg1_sound (cs := []) T_L_kept po_L (rtM_ok H_L_kept) 40 H
set_option maxRecDepth 100000 in
set_option maxHeartbeats 4000000 in
theorem v_L_seats_0 {g : Gl} {Φ : Out → Mem → Prop} {μ : Mem} {a : Int32} {b : Int32} {c : Int32} {d : Int32} (H : Spec g i_SO_seats 0 [.ref 0, .int a, .int b, .int c, .int d] μ (onI (fun r2 μ1 => vp_in (0 : Int32) 1 ∧ Φ (.inl (some (.int (0 : Int32)))) (sL μ1 154 (nx (0 : Int32)) r2.toInt64)) (fun e μ1 => hx (fun hp n ln => reg (rm i_L_seats 0) (rtM i_L_seats Φ) g i_L_seats M_L_seats [] (WW g i_L_seats 0 Φ) 33 3 18 (hp + ln) (List.filter (fun q => Nat.ble (q.1 + q.2.category) n) [(0, .ref 0), (1, .int a), (2, .int b), (3, .int c), (4, .int d), (5, .ref 154)]) [] μ1) 9 e [(0, 14, 17, 24, 2, 6, 2)]))) : WW g i_L_seats 0 Φ 0 0 0 [(0, .ref 0), (1, .int a), (2, .int b), (3, .int c), (4, .int d), (5, .ref 154)] [] μ :=
  reg1_sound (cs := []) T_L_seats po_L (rtM_ok H_L_seats) 40 H
set_option maxRecDepth 100000 in
set_option maxHeartbeats 4000000 in
theorem v_L_what_0 {g : Gl} {Φ : Out → Mem → Prop} {μ : Mem} {a : Int32} (H : Spec g i_SO_what 0 [.ref 0, .int a] μ (onL (fun r2 μ1 => vp_in (0 : Int32) 1 ∧ Φ (.inl (some (.int (0 : Int32)))) (sL μ1 154 (nx (0 : Int32)) r2)) (fun e μ1 => hx (fun hp n ln => reg (rm i_L_what 0) (rtM i_L_what Φ) g i_L_what M_L_what [] (WW g i_L_what 0 Φ) 36 2 12 (hp + ln) (List.filter (fun q => Nat.ble (q.1 + q.2.category) n) [(0, .ref 0), (1, .int a), (2, .ref 154)]) [] μ1) 4 e [(0, 8, 11, 24, 2, 3, 1), (0, 8, 14, 13, 0, 3, 1)]))) : WW g i_L_what 0 Φ 0 0 0 [(0, .ref 0), (1, .int a), (2, .ref 154)] [] μ :=
  reg1_sound (cs := []) T_L_what po_L (rtM_ok H_L_what) 40 H
set_option maxRecDepth 100000 in
set_option maxHeartbeats 4000000 in
theorem v_L_alike_0 {g : Gl} {Φ : Out → Mem → Prop} {μ : Mem} {a : Int32} {b : Int32} (H : Spec g i_SO_alike 0 [.ref 0, .int a, .int b] μ (onI (fun r2 μ1 => vp_in (0 : Int32) 1 ∧ Φ (.inl (some (.int (0 : Int32)))) (sL μ1 154 (nx (0 : Int32)) r2.toInt64)) (fun e μ1 => hx (fun hp n ln => reg (rm i_L_alike 0) (rtM i_L_alike Φ) g i_L_alike M_L_alike [] (WW g i_L_alike 0 Φ) 35 3 18 (hp + ln) (List.filter (fun q => Nat.ble (q.1 + q.2.category) n) [(0, .ref 0), (1, .int a), (2, .int b), (3, .ref 154)]) [] μ1) 5 e [(0, 10, 13, 24, 2, 4, 2), (0, 10, 17, 13, 0, 4, 2)]))) : WW g i_L_alike 0 Φ 0 0 0 [(0, .ref 0), (1, .int a), (2, .int b), (3, .ref 154)] [] μ :=
  reg1_sound (cs := []) T_L_alike po_L (rtM_ok H_L_alike) 40 H
set_option maxRecDepth 100000 in
set_option maxHeartbeats 4000000 in
theorem v_L_ask_0 {g : Gl} {Φ : Out → Mem → Prop} {μ : Mem} {a : Int32} {b : Int32} (H : Spec g i_SO_ask 0 [.ref 0, .int a, .int b] μ (onI (fun r2 μ1 => vp_in (0 : Int32) 1 ∧ Φ (.inl (some (.int (0 : Int32)))) (sL μ1 154 (nx (0 : Int32)) r2.toInt64)) (fun e μ1 => hx (fun hp n ln => reg (rm i_L_ask 0) (rtM i_L_ask Φ) g i_L_ask M_L_ask [] (WW g i_L_ask 0 Φ) 35 3 18 (hp + ln) (List.filter (fun q => Nat.ble (q.1 + q.2.category) n) [(0, .ref 0), (1, .int a), (2, .int b), (3, .ref 154)]) [] μ1) 5 e [(0, 10, 13, 24, 2, 4, 2), (0, 10, 17, 13, 0, 4, 2)]))) : WW g i_L_ask 0 Φ 0 0 0 [(0, .ref 0), (1, .int a), (2, .int b), (3, .ref 154)] [] μ :=
  reg1_sound (cs := []) T_L_ask po_L (rtM_ok H_L_ask) 40 H
set_option maxRecDepth 100000 in
set_option maxHeartbeats 4000000 in
theorem v_L_keeps_0 {g : Gl} {Φ : Out → Mem → Prop} {μ : Mem} {a : Int32} {b : Int32} (H : Spec g i_SO_keeps 0 [.ref 0, .int a, .int b] μ (onI (fun r2 μ1 => (r2 = 0 → vp_in (0 : Int32) 1 ∧ Φ (.inl (some (.int (0 : Int32)))) (sL μ1 154 (nx (0 : Int32)) (0 : Int64))) ∧ (¬ r2 = 0 → vp_in (0 : Int32) 1 ∧ Φ (.inl (some (.int (0 : Int32)))) (sL μ1 154 (nx (0 : Int32)) (1 : Int64)))) (fun e μ1 => hx (fun hp n ln => reg (rm i_L_keeps 0) (rtM i_L_keeps Φ) g i_L_keeps M_L_keeps [] (WW g i_L_keeps 0 Φ) 35 3 18 (hp + ln) (List.filter (fun q => Nat.ble (q.1 + q.2.category) n) [(0, .ref 0), (1, .int a), (2, .int b), (3, .ref 154)]) [] μ1) 5 e [(0, 17, 20, 24, 2, 4, 2), (0, 17, 24, 13, 0, 4, 2)]))) : WW g i_L_keeps 0 Φ 0 0 0 [(0, .ref 0), (1, .int a), (2, .int b), (3, .ref 154)] [] μ :=
  reg1_sound (cs := []) T_L_keeps po_L (rtM_ok H_L_keeps) 40 H
set_option maxRecDepth 100000 in
set_option maxHeartbeats 4000000 in
theorem v_L_margin_0 {g : Gl} {Φ : Out → Mem → Prop} {μ : Mem} {a : Int32} {b : Int32} (H : Spec g i_SO_margin 0 [.ref 0, .int a, .int b] μ (onI (fun r2 μ1 => vp_in (0 : Int32) 1 ∧ Φ (.inl (some (.int (0 : Int32)))) (sL μ1 154 (nx (0 : Int32)) r2.toInt64)) (fun e μ1 => hx (fun hp n ln => reg (rm i_L_margin 0) (rtM i_L_margin Φ) g i_L_margin M_L_margin [] (WW g i_L_margin 0 Φ) 35 3 18 (hp + ln) (List.filter (fun q => Nat.ble (q.1 + q.2.category) n) [(0, .ref 0), (1, .int a), (2, .int b), (3, .ref 154)]) [] μ1) 5 e [(0, 10, 13, 24, 2, 4, 2), (0, 10, 17, 13, 0, 4, 2)]))) : WW g i_L_margin 0 Φ 0 0 0 [(0, .ref 0), (1, .int a), (2, .int b), (3, .ref 154)] [] μ :=
  reg1_sound (cs := []) T_L_margin po_L (rtM_ok H_L_margin) 40 H
set_option maxRecDepth 100000 in
set_option maxHeartbeats 4000000 in
theorem v_L_call_0 {g : Gl} {Φ : Out → Mem → Prop} {μ : Mem} {a : Int32} {b : Int32} (H : Spec g i_SO_call 0 [.ref 0, .int a, .int b] μ (onI (fun r2 μ1 => vp_in (0 : Int32) 1 ∧ Φ (.inl (some (.int (0 : Int32)))) (sL μ1 154 (nx (0 : Int32)) r2.toInt64)) (fun e μ1 => hx (fun hp n ln => reg (rm i_L_call 0) (rtM i_L_call Φ) g i_L_call M_L_call [] (WW g i_L_call 0 Φ) 35 1 6 (hp + ln) (List.filter (fun q => Nat.ble (q.1 + q.2.category) n) [(0, .ref 0), (1, .int a), (2, .int b), (3, .ref 154)]) [] μ1) 5 e [(0, 10, 13, 24, 2, 4, 2)]))) : WW g i_L_call 0 Φ 0 0 0 [(0, .ref 0), (1, .int a), (2, .int b), (3, .ref 154)] [] μ :=
  reg1_sound (cs := []) T_L_call po_L (rtM_ok H_L_call) 40 H
set_option maxRecDepth 100000 in
set_option maxHeartbeats 4000000 in
theorem v_L_trial_0 {g : Gl} {Φ : Out → Mem → Prop} {μ : Mem} {a : Int32} {b : Int32} (H : Spec g i_SO_trial 0 [.ref 0, .int a, .int b] μ (onI (fun r2 μ1 => vp_in (0 : Int32) 1 ∧ Φ (.inl (some (.int (0 : Int32)))) (sL μ1 154 (nx (0 : Int32)) r2.toInt64)) (fun e μ1 => hx (fun hp n ln => reg (rm i_L_trial 0) (rtM i_L_trial Φ) g i_L_trial M_L_trial [] (WW g i_L_trial 0 Φ) 35 2 12 (hp + ln) (List.filter (fun q => Nat.ble (q.1 + q.2.category) n) [(0, .ref 0), (1, .int a), (2, .int b), (3, .ref 154)]) [] μ1) 5 e [(0, 10, 13, 24, 2, 4, 2), (0, 10, 17, 13, 0, 4, 2)]))) : WW g i_L_trial 0 Φ 0 0 0 [(0, .ref 0), (1, .int a), (2, .int b), (3, .ref 154)] [] μ :=
  reg1_sound (cs := []) T_L_trial po_L (rtM_ok H_L_trial) 40 H
set_option maxRecDepth 100000 in
set_option maxHeartbeats 4000000 in
theorem v_L_span_0 {g : Gl} {Φ : Out → Mem → Prop} {μ : Mem} {a : Int32} {b : Int32} (H : Spec g i_SO_span 0 [.ref 0, .int a, .int b] μ (onI (fun r2 μ1 => vp_in (0 : Int32) 1 ∧ Φ (.inl (some (.int (0 : Int32)))) (sL μ1 154 (nx (0 : Int32)) r2.toInt64)) (fun e μ1 => hx (fun hp n ln => reg (rm i_L_span 0) (rtM i_L_span Φ) g i_L_span M_L_span [] (WW g i_L_span 0 Φ) 35 1 6 (hp + ln) (List.filter (fun q => Nat.ble (q.1 + q.2.category) n) [(0, .ref 0), (1, .int a), (2, .int b), (3, .ref 154)]) [] μ1) 5 e [(0, 10, 13, 13, 0, 4, 2)]))) : WW g i_L_span 0 Φ 0 0 0 [(0, .ref 0), (1, .int a), (2, .int b), (3, .ref 154)] [] μ :=
  reg1_sound (cs := []) T_L_span po_L (rtM_ok H_L_span) 40 H
set_option maxRecDepth 100000 in
set_option maxHeartbeats 4000000 in
theorem v_L_how_0 {g : Gl} {Φ : Out → Mem → Prop} {μ : Mem} {a : Int32} {b : Int32} (H : Spec g i_SO_how 0 [.ref 0, .int a, .int b] μ (onI (fun r2 μ1 => vp_in (0 : Int32) 1 ∧ Φ (.inl (some (.int (0 : Int32)))) (sL μ1 154 (nx (0 : Int32)) r2.toInt64)) (fun e μ1 => hx (fun hp n ln => reg (rm i_L_how 0) (rtM i_L_how Φ) g i_L_how M_L_how [] (WW g i_L_how 0 Φ) 35 2 12 (hp + ln) (List.filter (fun q => Nat.ble (q.1 + q.2.category) n) [(0, .ref 0), (1, .int a), (2, .int b), (3, .ref 154)]) [] μ1) 5 e [(0, 10, 13, 24, 2, 4, 2)]))) : WW g i_L_how 0 Φ 0 0 0 [(0, .ref 0), (1, .int a), (2, .int b), (3, .ref 154)] [] μ :=
  reg1_sound (cs := []) T_L_how po_L (rtM_ok H_L_how) 40 H
set_option maxRecDepth 100000 in
set_option maxHeartbeats 4000000 in
theorem v_L_chain_0 {g : Gl} {Φ : Out → Mem → Prop} {μ : Mem} {a : Int32} {b : Int32} {c : Int32} (H : Spec g i_SO_chain 0 [.ref 0, .int a, .int b, .int c] μ (onI (fun r2 μ1 => vp_in (0 : Int32) 1 ∧ Φ (.inl (some (.int (0 : Int32)))) (sL μ1 154 (nx (0 : Int32)) r2.toInt64)) (fun e μ1 => hx (fun hp n ln => reg (rm i_L_chain 0) (rtM i_L_chain Φ) g i_L_chain M_L_chain [] (WW g i_L_chain 0 Φ) 34 2 12 (hp + ln) (List.filter (fun q => Nat.ble (q.1 + q.2.category) n) [(0, .ref 0), (1, .int a), (2, .int b), (3, .int c), (4, .ref 154)]) [] μ1) 7 e [(0, 12, 15, 24, 2, 5, 2)]))) : WW g i_L_chain 0 Φ 0 0 0 [(0, .ref 0), (1, .int a), (2, .int b), (3, .int c), (4, .ref 154)] [] μ :=
  reg1_sound (cs := []) T_L_chain po_L (rtM_ok H_L_chain) 40 H
set_option maxRecDepth 100000 in
set_option maxHeartbeats 4000000 in
theorem v_L_spot_0 {g : Gl} {Φ : Out → Mem → Prop} {μ : Mem} {a : Int32} {b : Int32} {c : Int32} {d : Int32} (H : Spec g i_SO_spot 0 [.ref 0, .int a, .int b, .int c, .int d] μ (onI (fun r2 μ1 => vp_in (0 : Int32) 1 ∧ Φ (.inl (some (.int (0 : Int32)))) (sL μ1 154 (nx (0 : Int32)) r2.toInt64)) (fun e μ1 => hx (fun hp n ln => reg (rm i_L_spot 0) (rtM i_L_spot Φ) g i_L_spot M_L_spot [] (WW g i_L_spot 0 Φ) 33 5 30 (hp + ln) (List.filter (fun q => Nat.ble (q.1 + q.2.category) n) [(0, .ref 0), (1, .int a), (2, .int b), (3, .int c), (4, .int d), (5, .ref 154)]) [] μ1) 9 e [(0, 14, 17, 24, 2, 6, 2), (0, 14, 21, 13, 0, 6, 2)]))) : WW g i_L_spot 0 Φ 0 0 0 [(0, .ref 0), (1, .int a), (2, .int b), (3, .int c), (4, .int d), (5, .ref 154)] [] μ :=
  reg1_sound (cs := []) T_L_spot po_L (rtM_ok H_L_spot) 40 H
set_option maxRecDepth 100000 in
set_option maxHeartbeats 4000000 in
theorem v_L_speakers_0 {g : Gl} {Φ : Out → Mem → Prop} {μ : Mem} {a : Int32} (H : Spec g i_SO_speakers 0 [.ref 0, .int a] μ (onI (fun r2 μ1 => vp_in (0 : Int32) 1 ∧ Φ (.inl (some (.int (0 : Int32)))) (sL μ1 154 (nx (0 : Int32)) r2.toInt64)) (fun e μ1 => hx (fun hp n ln => reg (rm i_L_speakers 0) (rtM i_L_speakers Φ) g i_L_speakers M_L_speakers [] (WW g i_L_speakers 0 Φ) 36 1 6 (hp + ln) (List.filter (fun q => Nat.ble (q.1 + q.2.category) n) [(0, .ref 0), (1, .int a), (2, .ref 154)]) [] μ1) 4 e [(0, 9, 12, 24, 2, 3, 1)]))) : WW g i_L_speakers 0 Φ 0 0 0 [(0, .ref 0), (1, .int a), (2, .ref 154)] [] μ :=
  reg1_sound (cs := []) T_L_speakers po_L (rtM_ok H_L_speakers) 40 H
set_option maxRecDepth 100000 in
set_option maxHeartbeats 4000000 in
theorem v_L_between_0 {g : Gl} {Φ : Out → Mem → Prop} {μ : Mem} {a : Int32} {b : Int32} (H : Spec g i_SO_between 0 [.ref 0, .int a, .int b] μ (onI (fun r2 μ1 => vp_in (0 : Int32) 1 ∧ Φ (.inl (some (.int (0 : Int32)))) (sL μ1 154 (nx (0 : Int32)) r2.toInt64)) (fun e μ1 => hx (fun hp n ln => reg (rm i_L_between 0) (rtM i_L_between Φ) g i_L_between M_L_between [] (WW g i_L_between 0 Φ) 35 3 18 (hp + ln) (List.filter (fun q => Nat.ble (q.1 + q.2.category) n) [(0, .ref 0), (1, .int a), (2, .int b), (3, .ref 154)]) [] μ1) 5 e [(0, 10, 13, 24, 2, 4, 2), (0, 10, 17, 13, 0, 4, 2)]))) : WW g i_L_between 0 Φ 0 0 0 [(0, .ref 0), (1, .int a), (2, .int b), (3, .ref 154)] [] μ :=
  reg1_sound (cs := []) T_L_between po_L (rtM_ok H_L_between) 40 H
set_option maxRecDepth 100000 in
set_option maxHeartbeats 4000000 in
theorem v_L_echo_0 {g : Gl} {Φ : Out → Mem → Prop} {μ : Mem} {a : Int32} {b : Int32} {c : Int32} {d : Int32} (H : Spec g i_SO_echo 0 [.ref 0, .int a, .int b, .int c, .int d] μ (onI (fun r2 μ1 => vp_in (0 : Int32) 1 ∧ Φ (.inl (some (.int (0 : Int32)))) (sL μ1 154 (nx (0 : Int32)) r2.toInt64)) (fun e μ1 => hx (fun hp n ln => reg (rm i_L_echo 0) (rtM i_L_echo Φ) g i_L_echo M_L_echo [] (WW g i_L_echo 0 Φ) 33 3 18 (hp + ln) (List.filter (fun q => Nat.ble (q.1 + q.2.category) n) [(0, .ref 0), (1, .int a), (2, .int b), (3, .int c), (4, .int d), (5, .ref 154)]) [] μ1) 9 e [(0, 14, 17, 24, 2, 6, 2)]))) : WW g i_L_echo 0 Φ 0 0 0 [(0, .ref 0), (1, .int a), (2, .int b), (3, .int c), (4, .int d), (5, .ref 154)] [] μ :=
  reg1_sound (cs := []) T_L_echo po_L (rtM_ok H_L_echo) 40 H
set_option maxRecDepth 100000 in
set_option maxHeartbeats 4000000 in
theorem v_L_learnt_0 {g : Gl} {Φ : Out → Mem → Prop} {μ : Mem} {a : Int32} {b : Int32} (H : Spec g i_SO_learnt 0 [.ref 0, .int a, .int b] μ (onI (fun r2 μ1 => vp_in (0 : Int32) 1 ∧ Φ (.inl (some (.int (0 : Int32)))) (sL μ1 154 (nx (0 : Int32)) r2.toInt64)) (fun e μ1 => hx (fun hp n ln => reg (rm i_L_learnt 0) (rtM i_L_learnt Φ) g i_L_learnt M_L_learnt [] (WW g i_L_learnt 0 Φ) 35 1 6 (hp + ln) (List.filter (fun q => Nat.ble (q.1 + q.2.category) n) [(0, .ref 0), (1, .int a), (2, .int b), (3, .ref 154)]) [] μ1) 5 e [(0, 10, 13, 24, 2, 4, 2)]))) : WW g i_L_learnt 0 Φ 0 0 0 [(0, .ref 0), (1, .int a), (2, .int b), (3, .ref 154)] [] μ :=
  reg1_sound (cs := []) T_L_learnt po_L (rtM_ok H_L_learnt) 40 H
set_option maxRecDepth 100000 in
set_option maxHeartbeats 4000000 in
theorem v_L_log_0 {g : Gl} {Φ : Out → Mem → Prop} {μ : Mem} {a : Int32} {b : Int32} (H : Spec g i_SO_log 0 [.ref 0, .int a, .int b] μ (onI (fun r2 μ1 => vp_in (0 : Int32) 1 ∧ Φ (.inl (some (.int (0 : Int32)))) (sL μ1 154 (nx (0 : Int32)) r2.toInt64)) (fun e μ1 => hx (fun hp n ln => reg (rm i_L_log 0) (rtM i_L_log Φ) g i_L_log M_L_log [] (WW g i_L_log 0 Φ) 35 1 6 (hp + ln) (List.filter (fun q => Nat.ble (q.1 + q.2.category) n) [(0, .ref 0), (1, .int a), (2, .int b), (3, .ref 154)]) [] μ1) 5 e [(0, 10, 13, 26, 3, 4, 2)]))) : WW g i_L_log 0 Φ 0 0 0 [(0, .ref 0), (1, .int a), (2, .int b), (3, .ref 154)] [] μ :=
  reg1_sound (cs := []) T_L_log po_L (rtM_ok H_L_log) 40 H
