set_option maxRecDepth 100000 in
set_option maxHeartbeats 4000000 in
theorem v_SO_feed_0 {g : Gl} {Φ : Out → Mem → Prop} {μ : Mem} {a : Int32} {b : Int32} {c : Int32} {d : Int32} {e : Int32} (H : ((mI μ 1 1) ≤ (380 : Int32) → Spec g i_Tape_put 0 [.ref 1, .int a] μ (onV (fun μ1 => Spec g i_Tape_put 0 [.ref 1, .int b] μ1 (onV (fun μ2 => Spec g i_Tape_put 0 [.ref 1, .int c] μ2 (onV (fun μ3 => Spec g i_Tape_put 0 [.ref 1, .int d] μ3 (onV (fun μ4 => Spec g i_Tape_put 0 [.ref 1, .int e] μ4 (onV (fun μ5 => Φ (.inl (some (.int (mI μ5 1 1)))) μ5) (fun e μ5 => rtM i_SO_feed Φ (.inr e) 0 0 μ5))) (fun e μ4 => rtM i_SO_feed Φ (.inr e) 0 0 μ4))) (fun e μ3 => rtM i_SO_feed Φ (.inr e) 0 0 μ3))) (fun e μ2 => rtM i_SO_feed Φ (.inr e) 0 0 μ2))) (fun e μ1 => rtM i_SO_feed Φ (.inr e) 0 0 μ1))) ∧ (¬ (mI μ 1 1) ≤ (380 : Int32) → Φ (.inl (some (.int (-1 : Int32)))) μ)) : WW g i_SO_feed 0 Φ 0 0 0 [(0, .ref 0), (1, .int a), (2, .int b), (3, .int c), (4, .int d), (5, .int e)] [] μ :=
  reg1_sound (cs := []) T_SO_feed po_SO (rtM_ok H_SO_feed) 29 H
set_option maxRecDepth 100000 in
set_option maxHeartbeats 4000000 in
theorem v_SO_end_0 {g : Gl} {Φ : Out → Mem → Prop} {μ : Mem} {a : Int32} (H : (a < 0 → ((0 : Int32) = 0 ∨ (0 : Int32) = 1) ∧ Φ (.inl (some (.int (0 : Int32)))) μ) ∧ (¬ a < 0 → (a ≤ (mI μ 1 1) → ((1 : Int32) = 0 ∨ (1 : Int32) = 1) ∧ Φ (.inl (some (.int (1 : Int32)))) (sI μ 1 1 a)) ∧ (¬ a ≤ (mI μ 1 1) → ((0 : Int32) = 0 ∨ (0 : Int32) = 1) ∧ Φ (.inl (some (.int (0 : Int32)))) μ))) : WW g i_SO_end 0 Φ 0 0 0 [(0, .ref 0), (1, .int a)] [] μ :=
  reg1_sound (cs := []) T_SO_end po_SO (rtM_ok H_SO_end) 13 H
set_option maxRecDepth 100000 in
set_option maxHeartbeats 4000000 in
theorem v_SO_fault_0 {g : Gl} {Φ : Out → Mem → Prop} {μ : Mem}  (H : Φ (.inl (some (.int (mI μ 1 2)))) μ) : WW g i_SO_fault 0 Φ 0 0 0 [(0, .ref 0)] [] μ :=
  reg1_sound (cs := []) T_SO_fault po_SO (rtM_ok H_SO_fault) 4 H
set_option maxRecDepth 100000 in
set_option maxHeartbeats 4000000 in
theorem v_SO_store_0 {g : Gl} {Φ : Out → Mem → Prop} {μ : Mem}  (H : Φ (.inl (some (.long (mL μ 11 0)))) μ) : WW g i_SO_store 0 Φ 0 0 0 [(0, .ref 0)] [] μ :=
  reg1_sound (cs := []) T_SO_store po_SO (rtM_ok H_SO_store) 5 H
set_option maxRecDepth 100000 in
set_option maxHeartbeats 4000000 in
theorem v_SO_day_0 {g : Gl} {Φ : Out → Mem → Prop} {μ : Mem}  (H : Spec g i_SO_remember 0 [.ref 0] μ (onV (fun μ1 => Spec g i_Int_bitCount 0 [.int (mI μ1 11 4)] μ1 (onI (fun r3 μ2 => Φ (.inl (some (.int r3))) (sI (sI μ2 11 4 (0 : Int32)) 11 5 ((mI μ2 11 5) + (1 : Int32)))) (fun e μ2 => rtM i_SO_day Φ (.inr e) 0 0 μ2))) (fun e μ1 => rtM i_SO_day Φ (.inr e) 0 0 μ1))) : WW g i_SO_day 0 Φ 0 0 0 [(0, .ref 0)] [] μ :=
  reg1_sound (cs := []) T_SO_day po_SO (rtM_ok H_SO_day) 23 H
set_option maxRecDepth 100000 in
set_option maxHeartbeats 4000000 in
theorem v_SO_remember_0 {g : Gl} {Φ : Out → Mem → Prop} {μ : Mem}  (H : (¬ (mI μ 0 8) = (12 : Int32) → vp_in (mI μ 0 8) 12 ∧ mP μ (nx (mI μ 0 8)) < NC ∧ isK (mP μ (nx (mI μ 0 8))) 8 (Spec g i_Sta_copyFrom 0 [.ref (mP μ (nx (mI μ 0 8))), .ref 11] μ (onV (fun μ1 => Φ (.inl none) (sI μ1 0 8 ((mI μ1 0 8) + (1 : Int32)))) (fun e μ1 => rtM i_SO_remember Φ (.inr e) 0 0 μ1)))) ∧ ((mI μ 0 8) = (12 : Int32) → vp_in (0 : Int32) 12 ∧ mP μ (nx (0 : Int32)) < NC ∧ WW g i_SO_remember 0 Φ 0 0 18 [(0, .ref 0), (1, .ref (mP μ (nx (0 : Int32)))), (2, .int (1 : Int32))] [] μ)) : WW g i_SO_remember 0 Φ 0 0 0 [(0, .ref 0)] [] μ :=
  reg1_sound (cs := [(18, [0, 1, 2])]) T_SO_remember po_SO (rtM_ok H_SO_remember) 20 H
set_option maxRecDepth 100000 in
set_option maxHeartbeats 4000000 in
theorem v_SO_remember_18 {g : Gl} {Φ : Out → Mem → Prop} {μ : Mem} {o1 : Nat} {x2 : Int32} (H : ((12 : Int32) ≤ x2 → vp_in (11 : Int32) 12 ∧ isK o1 8 (vp_in ((mI μ 0 8) - (1 : Int32)) 12 ∧ mP (sI (sP μ (nx (11 : Int32)) o1) 0 8 ((mI μ 0 8) - (1 : Int32))) (nx ((mI μ 0 8) - (1 : Int32))) < NC ∧ isK (mP (sP μ (nx (11 : Int32)) o1) (nx ((mI μ 0 8) - (1 : Int32)))) 8 (Spec g i_Sta_copyFrom 0 [.ref (mP (sP μ (nx (11 : Int32)) o1) (nx ((mI μ 0 8) - (1 : Int32)))), .ref 11] (sI (sP μ (nx (11 : Int32)) o1) 0 8 ((mI μ 0 8) - (1 : Int32))) (onV (fun μ1 => Φ (.inl none) (sI μ1 0 8 ((mI μ1 0 8) + (1 : Int32)))) (fun e μ1 => rtM i_SO_remember Φ (.inr e) 0 0 μ1))))) ∧ (¬ (12 : Int32) ≤ x2 → vp_in x2 12 ∧ mP μ (nx x2) < NC ∧ vp_in (x2 - (1 : Int32)) 12 ∧ isK (mP μ (nx x2)) 8 (WW g i_SO_remember 0 Φ 0 0 18 [(0, .ref 0), (1, .ref o1), (2, .int (x2 + (1 : Int32)))] [] (sP μ (nx (x2 - (1 : Int32))) (mP μ (nx x2)))))) : WW g i_SO_remember 0 Φ 0 0 18 [(0, .ref 0), (1, .ref o1), (2, .int x2)] [] μ :=
  reg1_sound (cs := [(18, [0, 1, 2])]) T_SO_remember po_SO (rtM_ok H_SO_remember) 30 H
set_option maxRecDepth 100000 in
set_option maxHeartbeats 4000000 in
theorem v_SO_sayable_0 {g : Gl} {Φ : Out → Mem → Prop} {μ : Mem}  (H : Spec g i_Sch_present 0 [.ref 3] μ (onI (fun r2 μ1 => Spec g i_Sch_knownBy 0 [.ref 3, .int r2] μ1 (onI (fun r4 μ3 => Spec g i_Sch_leftThings 0 [.ref 3] μ3 (onI (fun r6 μ5 => Φ (.inl (some (.int (r4 &&& r6)))) μ5) (fun e μ5 => rtM i_SO_sayable Φ (.inr e) 0 0 μ5))) (fun e μ3 => rtM i_SO_sayable Φ (.inr e) 0 0 μ3))) (fun e μ1 => rtM i_SO_sayable Φ (.inr e) 0 0 μ1))) : WW g i_SO_sayable 0 Φ 0 0 0 [(0, .ref 0)] [] μ :=
  reg1_sound (cs := []) T_SO_sayable po_SO (rtM_ok H_SO_sayable) 11 H
set_option maxRecDepth 100000 in
set_option maxHeartbeats 4000000 in
theorem v_SO_dumb_0 {g : Gl} {Φ : Out → Mem → Prop} {μ : Mem}  (H : WW g i_SO_dumb 0 Φ 0 0 4 [(0, .ref 0), (1, .int (0 : Int32)), (2, .int (0 : Int32))] [] μ) : WW g i_SO_dumb 0 Φ 0 0 0 [(0, .ref 0)] [] μ :=
  reg1_sound (cs := [(4, [0, 1, 2])]) T_SO_dumb po_SO (rtM_ok H_SO_dumb) 5 H
set_option maxRecDepth 100000 in
set_option maxHeartbeats 4000000 in
theorem v_SO_dumb_4 {g : Gl} {Φ : Out → Mem → Prop} {μ : Mem} {x1 : Int32} {x2 : Int32} (H : ((mI μ 4 2) ≤ x2 → Φ (.inl (some (.int x1))) μ) ∧ (¬ (mI μ 4 2) ≤ x2 → Spec g i_Sta_isAbsent 0 [.ref 11, .int x2] μ (onI (fun r2 μ1 => (¬ r2 = 0 → WW g i_SO_dumb 0 Φ 0 0 4 [(0, .ref 0), (1, .int (x1 ||| ((1 : Int32) <<< (x2 &&& 31)))), (2, .int (x2 + (1 : Int32)))] [] μ1) ∧ (r2 = 0 → vp_in x2 10 ∧ Spec g i_Sch_leftThings 0 [.ref 3] μ1 (onI (fun r4 μ3 => (¬ ((mI μ1 12 (nx x2)) &&& r4) = 0 → WW g i_SO_dumb 0 Φ 0 0 4 [(0, .ref 0), (1, .int x1), (2, .int (x2 + (1 : Int32)))] [] μ3) ∧ (((mI μ1 12 (nx x2)) &&& r4) = 0 → WW g i_SO_dumb 0 Φ 0 0 4 [(0, .ref 0), (1, .int (x1 ||| ((1 : Int32) <<< (x2 &&& 31)))), (2, .int (x2 + (1 : Int32)))] [] μ3)) (fun e μ3 => rtM i_SO_dumb Φ (.inr e) 0 0 μ3)))) (fun e μ1 => rtM i_SO_dumb Φ (.inr e) 0 0 μ1)))) : WW g i_SO_dumb 0 Φ 0 0 4 [(0, .ref 0), (1, .int x1), (2, .int x2)] [] μ :=
  reg1_sound (cs := [(4, [0, 1, 2])]) T_SO_dumb po_SO (rtM_ok H_SO_dumb) 32 H
set_option maxRecDepth 100000 in
set_option maxHeartbeats 4000000 in
theorem v_SO_silent_0 {g : Gl} {Φ : Out → Mem → Prop} {μ : Mem}  (H : Spec g i_Sch_allThings 0 [.ref 3] μ (onI (fun r2 μ1 => Spec g i_Sch_leftThings 0 [.ref 3] μ1 (onI (fun r4 μ3 => Φ (.inl (some (.int (r2 &&& (r4 ^^^ (-1 : Int32)))))) μ3) (fun e μ3 => rtM i_SO_silent Φ (.inr e) 0 0 μ3))) (fun e μ1 => rtM i_SO_silent Φ (.inr e) 0 0 μ1))) : WW g i_SO_silent 0 Φ 0 0 0 [(0, .ref 0)] [] μ :=
  reg1_sound (cs := []) T_SO_silent po_SO (rtM_ok H_SO_silent) 10 H
set_option maxRecDepth 100000 in
set_option maxHeartbeats 4000000 in
theorem v_SO_exam_0 {g : Gl} {Φ : Out → Mem → Prop} {μ : Mem}  (H : WW g i_SO_exam 0 Φ 0 0 4 [(0, .ref 0), (1, .int (0 : Int32)), (2, .int (0 : Int32))] [] μ) : WW g i_SO_exam 0 Φ 0 0 0 [(0, .ref 0)] [] μ :=
  reg1_sound (cs := [(4, [0, 1, 2])]) T_SO_exam po_SO (rtM_ok H_SO_exam) 5 H
set_option maxRecDepth 100000 in
set_option maxHeartbeats 4000000 in
theorem v_SO_exam_4 {g : Gl} {Φ : Out → Mem → Prop} {μ : Mem} {x1 : Int32} {x2 : Int32} (H : ((mI μ 4 2) ≤ x2 → Spec g i_Sch_saidThings 0 [.ref 3] μ (onI (fun r2 μ1 => Φ (.inl (some (.int (x1 &&& (r2 ^^^ (-1 : Int32)))))) μ1) (fun e μ1 => rtM i_SO_exam Φ (.inr e) 0 0 μ1))) ∧ (¬ (mI μ 4 2) ≤ x2 → Spec g i_Sta_isAbsent 0 [.ref 11, .int x2] μ (onI (fun r4 μ3 => (¬ r4 = 0 → WW g i_SO_exam 0 Φ 0 0 4 [(0, .ref 0), (1, .int x1), (2, .int (x2 + (1 : Int32)))] [] μ3) ∧ (r4 = 0 → vp_in x2 10 ∧ Spec g i_Set_following 0 [.ref 4, .int (mI μ3 12 (nx x2))] μ3 (onI (fun r6 μ5 => vp_in x2 10 ∧ WW g i_SO_exam 0 Φ 0 0 4 [(0, .ref 0), (1, .int (x1 ||| (r6 &&& ((mI μ5 12 (nx x2)) ^^^ (-1 : Int32))))), (2, .int (x2 + (1 : Int32)))] [] μ5) (fun e μ5 => rtM i_SO_exam Φ (.inr e) 0 0 μ5)))) (fun e μ3 => rtM i_SO_exam Φ (.inr e) 0 0 μ3)))) : WW g i_SO_exam 0 Φ 0 0 4 [(0, .ref 0), (1, .int x1), (2, .int x2)] [] μ :=
  reg1_sound (cs := [(4, [0, 1, 2])]) T_SO_exam po_SO (rtM_ok H_SO_exam) 37 H
set_option maxRecDepth 100000 in
set_option maxHeartbeats 4000000 in
theorem v_SO_last_0 {g : Gl} {Φ : Out → Mem → Prop} {μ : Mem}  (H : Spec g i_Sch_countLast 0 [.ref 3] μ (onI (fun r2 μ1 => Φ (.inl (some (.int r2))) μ1) (fun e μ1 => rtM i_SO_last Φ (.inr e) 0 0 μ1))) : WW g i_SO_last 0 Φ 0 0 0 [(0, .ref 0)] [] μ :=
  reg1_sound (cs := []) T_SO_last po_SO (rtM_ok H_SO_last) 4 H
set_option maxRecDepth 100000 in
set_option maxHeartbeats 4000000 in
theorem v_SO_groups_0 {g : Gl} {Φ : Out → Mem → Prop} {μ : Mem} {a : Int32} (H : WW g i_SO_groups 0 Φ 0 0 7 [(0, .ref 0), (1, .int a), (2, .int (0 : Int32)), (3, .int (0 : Int32)), (4, .int (0 : Int32))] [] μ) : WW g i_SO_groups 0 Φ 0 0 0 [(0, .ref 0), (1, .int a)] [] μ :=
  reg1_sound (cs := [(7, [0, 1, 2, 3, 4]), (31, [0, 1, 2, 3, 4, 5, 6, 7])]) T_SO_groups po_SO (rtM_ok H_SO_groups) 7 H
set_option maxRecDepth 100000 in
set_option maxHeartbeats 4000000 in
theorem v_SO_groups_7 {g : Gl} {Φ : Out → Mem → Prop} {μ : Mem} {x1 : Int32} {x2 : Int32} {x3 : Int32} {x4 : Int32} (H : ((mI μ 4 2) ≤ x4 → (x1 = 0 → Φ (.inl (some (.int x2))) μ) ∧ (¬ x1 = 0 → Φ (.inl (some (.int x3))) μ)) ∧ (¬ (mI μ 4 2) ≤ x4 → WW g i_SO_groups 0 Φ 0 0 31 [(0, .ref 0), (1, .int x1), (2, .int x2), (3, .int x3), (4, .int x4), (5, .int (0 : Int32)), (6, .int (1 : Int32)), (7, .int (0 : Int32))] [] μ)) : WW g i_SO_groups 0 Φ 0 0 7 [(0, .ref 0), (1, .int x1), (2, .int x2), (3, .int x3), (4, .int x4)] [] μ :=
  reg1_sound (cs := [(7, [0, 1, 2, 3, 4]), (31, [0, 1, 2, 3, 4, 5, 6, 7])]) T_SO_groups po_SO (rtM_ok H_SO_groups) 13 H
set_option maxRecDepth 100000 in
set_option maxHeartbeats 4000000 in
theorem v_SO_groups_31 {g : Gl} {Φ : Out → Mem → Prop} {μ : Mem} {x1 : Int32} {x2 : Int32} {x3 : Int32} {x4 : Int32} {x5 : Int32} {x6 : Int32} {x7 : Int32} (H : ((mI μ 4 2) ≤ x7 → (x6 = 0 → WW g i_SO_groups 0 Φ 0 0 7 [(0, .ref 0), (1, .int x1), (2, .int (x2 + (0 : Int32))), (3, .int (mmax x3 x5)), (4, .int (x4 + (1 : Int32)))] [] μ) ∧ (¬ x6 = 0 → WW g i_SO_groups 0 Φ 0 0 7 [(0, .ref 0), (1, .int x1), (2, .int (x2 + (1 : Int32))), (3, .int (mmax x3 x5)), (4, .int (x4 + (1 : Int32)))] [] μ)) ∧ (¬ (mI μ 4 2) ≤ x7 → vp_in x4 10 ∧ vp_in x7 10 ∧ (¬ (mI μ 12 (nx x4)) = (mI μ 12 (nx x7)) → WW g i_SO_groups 0 Φ 0 0 31 [(0, .ref 0), (1, .int x1), (2, .int x2), (3, .int x3), (4, .int x4), (5, .int x5), (6, .int x6), (7, .int (x7 + (1 : Int32)))] [] μ) ∧ ((mI μ 12 (nx x4)) = (mI μ 12 (nx x7)) → (x6 = 0 → WW g i_SO_groups 0 Φ 0 0 31 [(0, .ref 0), (1, .int x1), (2, .int x2), (3, .int x3), (4, .int x4), (5, .int (x5 + (1 : Int32))), (6, .int (0 : Int32)), (7, .int (x7 + (1 : Int32)))] [] μ) ∧ (¬ x6 = 0 → (x7 < x4 → WW g i_SO_groups 0 Φ 0 0 31 [(0, .ref 0), (1, .int x1), (2, .int x2), (3, .int x3), (4, .int x4), (5, .int (x5 + (1 : Int32))), (6, .int (0 : Int32)), (7, .int (x7 + (1 : Int32)))] [] μ) ∧ (¬ x7 < x4 → WW g i_SO_groups 0 Φ 0 0 31 [(0, .ref 0), (1, .int x1), (2, .int x2), (3, .int x3), (4, .int x4), (5, .int (x5 + (1 : Int32))), (6, .int (1 : Int32)), (7, .int (x7 + (1 : Int32)))] [] μ))))) : WW g i_SO_groups 0 Φ 0 0 31 [(0, .ref 0), (1, .int x1), (2, .int x2), (3, .int x3), (4, .int x4), (5, .int x5), (6, .int x6), (7, .int x7)] [] μ :=
  reg1_sound (cs := [(7, [0, 1, 2, 3, 4]), (31, [0, 1, 2, 3, 4, 5, 6, 7])]) T_SO_groups po_SO (rtM_ok H_SO_groups) 31 H
set_option maxRecDepth 100000 in
set_option maxHeartbeats 4000000 in
theorem v_SO_teacher_0 {g : Gl} {Φ : Out → Mem → Prop} {μ : Mem}  (H : WW g i_SO_teacher 0 Φ 0 0 6 [(0, .ref 0), (1, .int (-1 : Int32)), (2, .int (0 : Int32)), (3, .int (0 : Int32))] [] μ) : WW g i_SO_teacher 0 Φ 0 0 0 [(0, .ref 0)] [] μ :=
  reg1_sound (cs := [(6, [0, 1, 2, 3])]) T_SO_teacher po_SO (rtM_ok H_SO_teacher) 7 H
set_option maxRecDepth 100000 in
set_option maxHeartbeats 4000000 in
theorem v_SO_teacher_6 {g : Gl} {Φ : Out → Mem → Prop} {μ : Mem} {x1 : Int32} {x2 : Int32} {x3 : Int32} (H : ((mI μ 4 2) ≤ x3 → Φ (.inl (some (.int x1))) μ) ∧ (¬ (mI μ 4 2) ≤ x3 → Spec g i_Log_taughtBy 0 [.ref 22, .int x3, .int (mI μ 11 7)] μ (onI (fun r2 μ1 => (r2 ≤ x2 → WW g i_SO_teacher 0 Φ 0 0 6 [(0, .ref 0), (1, .int x1), (2, .int x2), (3, .int (x3 + (1 : Int32)))] [] μ1) ∧ (¬ r2 ≤ x2 → WW g i_SO_teacher 0 Φ 0 0 6 [(0, .ref 0), (1, .int x3), (2, .int r2), (3, .int (x3 + (1 : Int32)))] [] μ1)) (fun e μ1 => rtM i_SO_teacher Φ (.inr e) 0 0 μ1)))) : WW g i_SO_teacher 0 Φ 0 0 6 [(0, .ref 0), (1, .int x1), (2, .int x2), (3, .int x3)] [] μ :=
  reg1_sound (cs := [(6, [0, 1, 2, 3])]) T_SO_teacher po_SO (rtM_ok H_SO_teacher) 26 H
set_option maxRecDepth 100000 in
set_option maxHeartbeats 4000000 in
theorem v_SO_seed_0 {g : Gl} {Φ : Out → Mem → Prop} {μ : Mem} {a : Int32} (H : Φ (.inl (some (.int (mI μ 11 6)))) (sI μ 11 6 a)) : WW g i_SO_seed 0 Φ 0 0 0 [(0, .ref 0), (1, .int a)] [] μ :=
  reg1_sound (cs := []) T_SO_seed po_SO (rtM_ok H_SO_seed) 12 H
set_option maxRecDepth 100000 in
set_option maxHeartbeats 4000000 in
theorem v_SO_undo_0 {g : Gl} {Φ : Out → Mem → Prop} {μ : Mem}  (H : (¬ (mI μ 0 8) = 0 → vp_in ((mI μ 0 8) - (1 : Int32)) 12 ∧ mP (sI μ 0 8 ((mI μ 0 8) - (1 : Int32))) (nx ((mI μ 0 8) - (1 : Int32))) < NC ∧ Spec g i_Sta_copyFrom 0 [.ref 11, .ref (mP μ (nx ((mI μ 0 8) - (1 : Int32))))] (sI μ 0 8 ((mI μ 0 8) - (1 : Int32))) (onV (fun μ1 => ((1 : Int32) = 0 ∨ (1 : Int32) = 1) ∧ Φ (.inl (some (.int (1 : Int32)))) μ1) (fun e μ1 => rtM i_SO_undo Φ (.inr e) 0 0 μ1))) ∧ ((mI μ 0 8) = 0 → ((0 : Int32) = 0 ∨ (0 : Int32) = 1) ∧ Φ (.inl (some (.int (0 : Int32)))) μ)) : WW g i_SO_undo 0 Φ 0 0 0 [(0, .ref 0)] [] μ :=
  reg1_sound (cs := []) T_SO_undo po_SO (rtM_ok H_SO_undo) 20 H
set_option maxRecDepth 100000 in
set_option maxHeartbeats 4000000 in
theorem v_SO_image_0 {g : Gl} {Φ : Out → Mem → Prop} {μ : Mem}  (H : Spec g i_Sch_copyFrom 0 [.ref 34, .ref 3] μ (onV (fun μ1 => ((1 : Int32) = 0 ∨ (1 : Int32) = 1) ∧ Φ (.inl none) (sI μ1 0 9 (1 : Int32))) (fun e μ1 => rtM i_SO_image Φ (.inr e) 0 0 μ1))) : WW g i_SO_image 0 Φ 0 0 0 [(0, .ref 0)] [] μ :=
  reg1_sound (cs := []) T_SO_image po_SO (rtM_ok H_SO_image) 9 H
set_option maxRecDepth 100000 in
set_option maxHeartbeats 4000000 in
theorem v_SO_back_0 {g : Gl} {Φ : Out → Mem → Prop} {μ : Mem}  (H : (¬ (mI μ 0 9) = 0 → Spec g i_Sch_copyFrom 0 [.ref 3, .ref 34] μ (onV (fun μ1 => ((1 : Int32) = 0 ∨ (1 : Int32) = 1) ∧ Φ (.inl (some (.int (1 : Int32)))) (sI μ1 0 8 (0 : Int32))) (fun e μ1 => rtM i_SO_back Φ (.inr e) 0 0 μ1))) ∧ ((mI μ 0 9) = 0 → ((0 : Int32) = 0 ∨ (0 : Int32) = 1) ∧ Φ (.inl (some (.int (0 : Int32)))) μ)) : WW g i_SO_back 0 Φ 0 0 0 [(0, .ref 0)] [] μ :=
  reg1_sound (cs := []) T_SO_back po_SO (rtM_ok H_SO_back) 13 H
set_option maxRecDepth 100000 in
set_option maxHeartbeats 4000000 in
theorem v_SO_count_0 {g : Gl} {Φ : Out → Mem → Prop} {μ : Mem} {a : Int32} (H : (a = (0 : Int32) → Φ (.inl (some (.int (mI μ 4 0)))) μ) ∧ (¬ a = (0 : Int32) → (a = (1 : Int32) → Φ (.inl (some (.int (mI μ 4 2)))) μ) ∧ (¬ a = (1 : Int32) → (a = (2 : Int32) → Φ (.inl (some (.int (mI μ 4 5)))) μ) ∧ (¬ a = (2 : Int32) → (a = (3 : Int32) → Φ (.inl (some (.int (mI μ 4 10)))) μ) ∧ (¬ a = (3 : Int32) → (a = (4 : Int32) → Φ (.inl (some (.int (mI μ 15 0)))) μ) ∧ (¬ a = (4 : Int32) → (a = (5 : Int32) → Φ (.inl (some (.int (mI μ 11 5)))) μ) ∧ (¬ a = (5 : Int32) → (a = (6 : Int32) → Φ (.inl (some (.int (mI μ 4 9)))) μ) ∧ (¬ a = (6 : Int32) → (a = (7 : Int32) → Spec g i_Lng_bitCount 0 [.long (mL μ 11 0)] μ (onI (fun r6 μ5 => Φ (.inl (some (.int r6))) μ5) (fun e μ5 => rtM i_SO_count Φ (.inr e) 0 0 μ5))) ∧ (¬ a = (7 : Int32) → (a = (8 : Int32) → Spec g i_Sch_allThings 0 [.ref 3] μ (onI (fun r2 μ1 => Spec g i_Sch_countLeftOf 0 [.ref 3, .int r2] μ1 (onI (fun r4 μ3 => Φ (.inl (some (.int r4))) μ3) (fun e μ3 => rtM i_SO_count Φ (.inr e) 0 0 μ3))) (fun e μ1 => rtM i_SO_count Φ (.inr e) 0 0 μ1))) ∧ (¬ a = (8 : Int32) → (a = (9 : Int32) → Φ (.inl (some (.int (mI μ 11 4)))) μ) ∧ (¬ a = (9 : Int32) → (a = (10 : Int32) → Φ (.inl (some (.int (mI μ 11 7)))) μ) ∧ (¬ a = (10 : Int32) → (a = (11 : Int32) → Φ (.inl (some (.int (mI μ 0 8)))) μ) ∧ (¬ a = (11 : Int32) → Φ (.inl (some (.int (-1 : Int32)))) μ))))))))))))) : WW g i_SO_count 0 Φ 0 0 0 [(0, .ref 0), (1, .int a)] [] μ :=
  reg1_sound (cs := []) T_SO_count po_SO (rtM_ok H_SO_count) 9 H
set_option maxRecDepth 100000 in
set_option maxHeartbeats 4000000 in
theorem v_SO_school_0 {g : Gl} {Φ : Out → Mem → Prop} {μ : Mem}  (H : Spec g i_SchR_begin 0 [.ref 70, .ref 3] μ (onV (fun μ1 => Spec g i_LineR_readLines 0 [.ref 70, .int (14 : Int32)] μ1 (onI (fun r3 μ2 => Spec g i_Tape_useUp 0 [.ref 1] μ2 (onI (fun r5 μ4 => (¬ r3 = (-1 : Int32) → ((mI μ4 4 10) < (12 : Int32) → Spec g i_SchR_deliver 0 [.ref 70, .ref 3] μ4 (onV (fun μ6 => Φ (.inl (some (.int ((mI μ6 4 10) + (1 : Int32))))) (sI (sI μ6 4 10 ((mI μ6 4 10) + (1 : Int32))) 0 8 (0 : Int32))) (fun e μ6 => rtM i_SO_school Φ (.inr e) 0 0 μ6))) ∧ (¬ (mI μ4 4 10) < (12 : Int32) → Φ (.inr 1) μ4)) ∧ (r3 = (-1 : Int32) → Φ (.inr 0) μ4)) (fun e μ4 => rtM i_SO_school Φ (.inr e) 0 0 μ4))) (fun _ _ => False))) (fun e μ1 => rtM i_SO_school Φ (.inr e) 0 0 μ1))) : WW g i_SO_school 0 Φ 0 0 0 [(0, .ref 0)] [] μ :=
  reg1_sound (cs := []) T_SO_school po_SO (rtM_ok H_SO_school) 44 H
set_option maxRecDepth 100000 in
set_option maxHeartbeats 4000000 in
theorem v_SO_numberOf_0 {g : Gl} {Φ : Out → Mem → Prop} {μ : Mem} {a : Int32} {b : Int32} (H : Φ (.inl (some (.int (((6 : Int32) * a) + b)))) μ) : WW g i_SO_numberOf 0 Φ 0 0 0 [(0, .int a), (1, .int b)] [] μ :=
  reg1_sound (cs := []) T_SO_numberOf po_SO (rtM_ok H_SO_numberOf) 6 H
set_option maxRecDepth 100000 in
set_option maxHeartbeats 4000000 in
theorem v_SO_law_0 {g : Gl} {Φ : Out → Mem → Prop} {μ : Mem}  (H : Spec g i_LawR_begin 0 [.ref 82] μ (onV (fun μ1 => Spec g i_LineR_readLines 0 [.ref 82, .int (12 : Int32)] μ1 (onI (fun r3 μ2 => Spec g i_Tape_useUp 0 [.ref 1] μ2 (onI (fun r5 μ4 => (¬ r3 = (-1 : Int32) → Spec g i_Law_copyFrom 0 [.ref 15, .ref 83] μ4 (onV (fun μ6 => Φ (.inl (some (.int r3))) (sI μ6 0 8 (0 : Int32))) (fun e μ6 => rtM i_SO_law Φ (.inr e) 0 0 μ6))) ∧ (r3 = (-1 : Int32) → Φ (.inr 0) μ4)) (fun e μ4 => rtM i_SO_law Φ (.inr e) 0 0 μ4))) (fun _ _ => False))) (fun e μ1 => rtM i_SO_law Φ (.inr e) 0 0 μ1))) : WW g i_SO_law 0 Φ 0 0 0 [(0, .ref 0)] [] μ :=
  reg1_sound (cs := []) T_SO_law po_SO (rtM_ok H_SO_law) 27 H
set_option maxRecDepth 100000 in
set_option maxHeartbeats 4000000 in
theorem v_SO_thing_0 {g : Gl} {Φ : Out → Mem → Prop} {μ : Mem} {a : Int32} {b : Int32} (H : Spec g i_SO_needThing 0 [.ref 0, .int a] μ (onV (fun μ1 => (b = (0 : Int32) → vp_in a 10 ∧ Φ (.inl (some (.int (mI μ1 5 (nx a))))) μ1) ∧ (¬ b = (0 : Int32) → (b = (1 : Int32) → Spec g i_Sch_countLeft 0 [.ref 3, .int a] μ1 (onI (fun r7 μ6 => Φ (.inl (some (.int r7))) μ6) (fun e μ6 => rtM i_SO_thing Φ (.inr e) 1 6 μ6))) ∧ (¬ b = (1 : Int32) → (b = (2 : Int32) → Spec g i_Sch_knowers 0 [.ref 3, .int a] μ1 (onI (fun r5 μ4 => Φ (.inl (some (.int r5))) μ4) (fun e μ4 => rtM i_SO_thing Φ (.inr e) 1 6 μ4))) ∧ (¬ b = (2 : Int32) → (b = (3 : Int32) → Spec g i_Se_sources 0 [.ref 68, .int a] μ1 (onI (fun r3 μ2 => Φ (.inl (some (.int r3))) μ2) (fun e μ2 => rtM i_SO_thing Φ (.inr e) 1 6 μ2))) ∧ (¬ b = (3 : Int32) → Φ (.inr 3) μ1))))) (fun e μ1 => rtM i_SO_thing Φ (.inr e) 1 6 μ1))) : WW g i_SO_thing 0 Φ 0 0 0 [(0, .ref 0), (1, .int a), (2, .int b)] [] μ :=
  reg1_sound (cs := []) T_SO_thing po_SO (rtM_ok H_SO_thing) 12 H
set_option maxRecDepth 100000 in
set_option maxHeartbeats 4000000 in
theorem v_SO_needThing_0 {g : Gl} {Φ : Out → Mem → Prop} {μ : Mem} {a : Int32} (H : (a < 0 → Φ (.inr 2) μ) ∧ (¬ a < 0 → (a < (mI μ 4 0) → Φ (.inl none) μ) ∧ (¬ a < (mI μ 4 0) → Φ (.inr 2) μ))) : WW g i_SO_needThing 0 Φ 0 0 0 [(0, .ref 0), (1, .int a)] [] μ :=
  reg1_sound (cs := []) T_SO_needThing po_SO (rtM_ok H_SO_needThing) 9 H
set_option maxRecDepth 100000 in
set_option maxHeartbeats 4000000 in
theorem v_SO_person_0 {g : Gl} {Φ : Out → Mem → Prop} {μ : Mem} {a : Int32} {b : Int32} (H : Spec g i_SO_needPerson 0 [.ref 0, .int a] μ (onV (fun μ1 => (b = (0 : Int32) → vp_in a 10 ∧ Φ (.inl (some (.int (mI μ1 13 (nx a))))) μ1) ∧ (¬ b = (0 : Int32) → (b = (1 : Int32) → vp_in a 10 ∧ Φ (.inl (some (.int (mI μ1 14 (nx a))))) μ1) ∧ (¬ b = (1 : Int32) → (b = (2 : Int32) → vp_in a 10 ∧ Φ (.inl (some (.int (mI μ1 6 (nx a))))) μ1) ∧ (¬ b = (2 : Int32) → (b = (3 : Int32) → vp_in a 10 ∧ Φ (.inl (some (.int (mI μ1 7 (nx a))))) μ1) ∧ (¬ b = (3 : Int32) → (b = (4 : Int32) → vp_in a 10 ∧ Φ (.inl (some (.int (mI μ1 12 (nx a))))) μ1) ∧ (¬ b = (4 : Int32) → (b = (5 : Int32) → Spec g i_Sta_isAbsent 0 [.ref 11, .int a] μ1 (onI (fun r9 μ8 => (r9 = 0 → Φ (.inl (some (.int (0 : Int32)))) μ8) ∧ (¬ r9 = 0 → Φ (.inl (some (.int (1 : Int32)))) μ8)) (fun e μ8 => rtM i_SO_person Φ (.inr e) 1 6 μ8))) ∧ (¬ b = (5 : Int32) → (b = (6 : Int32) → vp_in a 10 ∧ Spec g i_Set_following 0 [.ref 4, .int (mI μ1 12 (nx a))] μ1 (onI (fun r7 μ6 => Φ (.inl (some (.int r7))) μ6) (fun e μ6 => rtM i_SO_person Φ (.inr e) 1 6 μ6))) ∧ (¬ b = (6 : Int32) → (b = (7 : Int32) → vp_in a 10 ∧ Spec g i_Sch_present 0 [.ref 3] μ1 (onI (fun r3 μ2 => Spec g i_Sch_knownBy 0 [.ref 3, .int (r3 &&& (((1 : Int32) <<< (a &&& 31)) ^^^ (-1 : Int32)))] μ2 (onI (fun r5 μ4 => Φ (.inl (some (.int ((mI μ1 12 (nx a)) &&& (r5 ^^^ (-1 : Int32)))))) μ4) (fun e μ4 => rtM i_SO_person Φ (.inr e) 1 6 μ4))) (fun e μ2 => rtM i_SO_person Φ (.inr e) 1 6 μ2))) ∧ (¬ b = (7 : Int32) → Φ (.inr 3) μ1))))))))) (fun e μ1 => rtM i_SO_person Φ (.inr e) 1 6 μ1))) : WW g i_SO_person 0 Φ 0 0 0 [(0, .ref 0), (1, .int a), (2, .int b)] [] μ :=
  reg1_sound (cs := []) T_SO_person po_SO (rtM_ok H_SO_person) 27 H
set_option maxRecDepth 100000 in
set_option maxHeartbeats 4000000 in
theorem v_SO_needPerson_0 {g : Gl} {Φ : Out → Mem → Prop} {μ : Mem} {a : Int32} (H : (a < 0 → Φ (.inr 2) μ) ∧ (¬ a < 0 → (a < (mI μ 4 2) → Φ (.inl none) μ) ∧ (¬ a < (mI μ 4 2) → Φ (.inr 2) μ))) : WW g i_SO_needPerson 0 Φ 0 0 0 [(0, .ref 0), (1, .int a)] [] μ :=
  reg1_sound (cs := []) T_SO_needPerson po_SO (rtM_ok H_SO_needPerson) 9 H
set_option maxRecDepth 100000 in
set_option maxHeartbeats 4000000 in
theorem v_SO_rule_0 {g : Gl} {Φ : Out → Mem → Prop} {μ : Mem} {a : Int32} {b : Int32} (H : (b < 0 → Φ (.inr 3) μ) ∧ (¬ b < 0 → (b ≤ (2 : Int32) → (a < 0 → Φ (.inl (some (.int (-1 : Int32)))) μ) ∧ (¬ a < 0 → (a < (mI μ 4 5) → (¬ b = 0 → (¬ b = (1 : Int32) → vp_in a 12 ∧ Φ (.inl (some (.int (mI μ 10 (nx a))))) μ) ∧ (b = (1 : Int32) → vp_in a 12 ∧ Φ (.inl (some (.int (mI μ 9 (nx a))))) μ)) ∧ (b = 0 → vp_in a 12 ∧ Φ (.inl (some (.int (mI μ 8 (nx a))))) μ)) ∧ (¬ a < (mI μ 4 5) → Φ (.inl (some (.int (-1 : Int32)))) μ))) ∧ (¬ b ≤ (2 : Int32) → Φ (.inr 3) μ))) : WW g i_SO_rule 0 Φ 0 0 0 [(0, .ref 0), (1, .int a), (2, .int b)] [] μ :=
  reg1_sound (cs := []) T_SO_rule po_SO (rtM_ok H_SO_rule) 26 H
set_option maxRecDepth 100000 in
set_option maxHeartbeats 4000000 in
theorem v_SO_apart_0 {g : Gl} {Φ : Out → Mem → Prop} {μ : Mem} {a : Int32} {b : Int32} (H : Spec g i_SO_needTwo 0 [.ref 0, .int a, .int b] μ (onV (fun μ1 => Spec g i_Sta_distance 0 [.ref 11, .int a, .int b] μ1 (onI (fun r3 μ2 => Φ (.inl (some (.int r3))) μ2) (fun e μ2 => rtM i_SO_apart Φ (.inr e) 3 18 μ2))) (fun e μ1 => rtM i_SO_apart Φ (.inr e) 3 18 μ1))) : WW g i_SO_apart 0 Φ 0 0 0 [(0, .ref 0), (1, .int a), (2, .int b)] [] μ :=
  reg1_sound (cs := []) T_SO_apart po_SO (rtM_ok H_SO_apart) 11 H
set_option maxRecDepth 100000 in
set_option maxHeartbeats 4000000 in
theorem v_SO_needTwo_0 {g : Gl} {Φ : Out → Mem → Prop} {μ : Mem} {a : Int32} {b : Int32} (H : Spec g i_SO_needPerson 0 [.ref 0, .int a] μ (onV (fun μ1 => Spec g i_SO_needPerson 0 [.ref 0, .int b] μ1 (onV (fun μ2 => (¬ a = b → Φ (.inl none) μ2) ∧ (a = b → Φ (.inr 0) μ2)) (fun e μ2 => rtM i_SO_needTwo Φ (.inr e) 2 12 μ2))) (fun e μ1 => rtM i_SO_needTwo Φ (.inr e) 1 6 μ1))) : WW g i_SO_needTwo 0 Φ 0 0 0 [(0, .ref 0), (1, .int a), (2, .int b)] [] μ :=
  reg1_sound (cs := []) T_SO_needTwo po_SO (rtM_ok H_SO_needTwo) 10 H
set_option maxRecDepth 100000 in
set_option maxHeartbeats 4000000 in
theorem v_SO_hears_0 {g : Gl} {Φ : Out → Mem → Prop} {μ : Mem} {a : Int32} {b : Int32} {c : Int32} {d : Int32} (H : Spec g i_SO_needSaying 0 [.ref 0, .int b, .int c] μ (onV (fun μ1 => Spec g i_SO_needTwo 0 [.ref 0, .int a, .int d] μ1 (onV (fun μ2 => Spec g i_Sch_takenNow 0 [.ref 3, .int a, .int b, .int c, .int d] μ2 (onI (fun r4 μ3 => Φ (.inl (some (.int r4))) μ3) (fun e μ3 => rtM i_SO_hears Φ (.inr e) 5 30 μ3))) (fun e μ2 => rtM i_SO_hears Φ (.inr e) 5 30 μ2))) (fun e μ1 => rtM i_SO_hears Φ (.inr e) 2 12 μ1))) : WW g i_SO_hears 0 Φ 0 0 0 [(0, .ref 0), (1, .int a), (2, .int b), (3, .int c), (4, .int d)] [] μ :=
  reg1_sound (cs := []) T_SO_hears po_SO (rtM_ok H_SO_hears) 16 H
set_option maxRecDepth 100000 in
set_option maxHeartbeats 4000000 in
theorem v_SO_needSaying_0 {g : Gl} {Φ : Out → Mem → Prop} {μ : Mem} {a : Int32} {b : Int32} (H : Spec g i_SO_needThing 0 [.ref 0, .int a] μ (onV (fun μ1 => (b < 0 → Φ (.inr 2) μ1) ∧ (¬ b < 0 → vp_in a 10 ∧ (b < (mI μ1 5 (nx a)) → Φ (.inl none) μ1) ∧ (¬ b < (mI μ1 5 (nx a)) → Φ (.inr 2) μ1))) (fun e μ1 => rtM i_SO_needSaying Φ (.inr e) 1 6 μ1))) : WW g i_SO_needSaying 0 Φ 0 0 0 [(0, .ref 0), (1, .int a), (2, .int b)] [] μ :=
  reg1_sound (cs := []) T_SO_needSaying po_SO (rtM_ok H_SO_needSaying) 14 H
set_option maxRecDepth 100000 in
set_option maxHeartbeats 4000000 in
theorem v_SO_audience_0 {g : Gl} {Φ : Out → Mem → Prop} {μ : Mem} {a : Int32} {b : Int32} {c : Int32} {d : Int32} (H : Spec g i_SO_needPerson 0 [.ref 0, .int a] μ (onV (fun μ1 => Spec g i_SO_needSaying 0 [.ref 0, .int b, .int c] μ1 (onV (fun μ2 => (d = 0 → Spec g i_Sch_hearers 0 [.ref 3, .int a, .int b, .int c] μ2 (onI (fun r4 μ3 => Φ (.inl (some (.int r4))) μ3) (fun e μ3 => rtM i_SO_audience Φ (.inr e) 3 18 μ3))) ∧ (¬ d = 0 → Spec g i_Sch_takers 0 [.ref 3, .int a, .int b, .int c, .int b] μ2 (onI (fun r6 μ5 => Φ (.inl (some (.int r6))) μ5) (fun e μ5 => rtM i_SO_audience Φ (.inr e) 3 18 μ5)))) (fun e μ2 => rtM i_SO_audience Φ (.inr e) 3 18 μ2))) (fun e μ1 => rtM i_SO_audience Φ (.inr e) 1 6 μ1))) : WW g i_SO_audience 0 Φ 0 0 0 [(0, .ref 0), (1, .int a), (2, .int b), (3, .int c), (4, .int d)] [] μ :=
  reg1_sound (cs := []) T_SO_audience po_SO (rtM_ok H_SO_audience) 18 H
set_option maxRecDepth 100000 in
set_option maxHeartbeats 4000000 in
theorem v_SO_say_0 {g : Gl} {Φ : Out → Mem → Prop} {μ : Mem} {a : Int32} {b : Int32} {c : Int32} (H : Spec g i_SO_needPerson 0 [.ref 0, .int a] μ (onV (fun μ1 => Spec g i_SO_needSaying 0 [.ref 0, .int b, .int c] μ1 (onV (fun μ2 => Spec g i_Sch_canTell 0 [.ref 3, .int a, .int b] μ2 (onI (fun r4 μ3 => (r4 = 0 → Φ (.inr 4) μ3) ∧ (¬ r4 = 0 → Spec g i_Sch_isLeft 0 [.ref 3, .int b, .int c] μ3 (onI (fun r6 μ5 => (¬ r6 = 0 → Spec g i_SO_remember 0 [.ref 0] μ5 (onV (fun μ7 => Spec g i_Sch_speak 0 [.ref 3, .int a, .int b, .int c] μ7 (onI (fun r9 μ8 => Φ (.inl (some (.int r9))) μ8) (fun e μ8 => rtM i_SO_say Φ (.inr e) 3 18 μ8))) (fun e μ7 => rtM i_SO_say Φ (.inr e) 3 18 μ7))) ∧ (r6 = 0 → Φ (.inr 4) μ5)) (fun e μ5 => rtM i_SO_say Φ (.inr e) 3 18 μ5)))) (fun e μ3 => rtM i_SO_say Φ (.inr e) 3 18 μ3))) (fun e μ2 => rtM i_SO_say Φ (.inr e) 3 18 μ2))) (fun e μ1 => rtM i_SO_say Φ (.inr e) 1 6 μ1))) : WW g i_SO_say 0 Φ 0 0 0 [(0, .ref 0), (1, .int a), (2, .int b), (3, .int c)] [] μ :=
  reg1_sound (cs := []) T_SO_say po_SO (rtM_ok H_SO_say) 28 H
set_option maxRecDepth 100000 in
set_option maxHeartbeats 4000000 in
theorem v_SO_think_0 {g : Gl} {Φ : Out → Mem → Prop} {μ : Mem} {a : Int32} (H : Spec g i_SO_needPerson 0 [.ref 0, .int a] μ (onV (fun μ1 => Spec g i_SO_remember 0 [.ref 0] μ1 (onV (fun μ2 => vp_in a 10 ∧ Spec g i_Set_following 0 [.ref 4, .int (mI μ2 12 (nx a))] μ2 (onI (fun r4 μ3 => vp_in a 10 ∧ vp_in a 10 ∧ Φ (.inl (some (.int ((mI (sI μ3 12 (nx a) r4) 12 (nx a)) &&& ((mI μ2 12 (nx a)) ^^^ (-1 : Int32)))))) (sI μ3 12 (nx a) r4)) (fun e μ3 => rtM i_SO_think Φ (.inr e) 1 6 μ3))) (fun e μ2 => rtM i_SO_think Φ (.inr e) 1 6 μ2))) (fun e μ1 => rtM i_SO_think Φ (.inr e) 1 6 μ1))) : WW g i_SO_think 0 Φ 0 0 0 [(0, .ref 0), (1, .int a)] [] μ :=
  reg1_sound (cs := []) T_SO_think po_SO (rtM_ok H_SO_think) 34 H
set_option maxRecDepth 100000 in
set_option maxHeartbeats 4000000 in
theorem v_SO_away_0 {g : Gl} {Φ : Out → Mem → Prop} {μ : Mem} {a : Int32} {b : Int32} (H : Spec g i_SO_needPerson 0 [.ref 0, .int a] μ (onV (fun μ1 => Spec g i_SO_remember 0 [.ref 0] μ1 (onV (fun μ2 => Spec g i_Sta_isAbsent 0 [.ref 11, .int a] μ2 (onI (fun r4 μ3 => (b = 0 → (r4 = b → ((0 : Int32) = 0 ∨ (0 : Int32) = 1) ∧ Φ (.inl (some (.int (0 : Int32)))) (sI μ3 11 4 ((mI μ3 11 4) &&& (((1 : Int32) <<< (a &&& 31)) ^^^ (-1 : Int32))))) ∧ (¬ r4 = b → ((1 : Int32) = 0 ∨ (1 : Int32) = 1) ∧ Φ (.inl (some (.int (1 : Int32)))) (sI μ3 11 4 ((mI μ3 11 4) &&& (((1 : Int32) <<< (a &&& 31)) ^^^ (-1 : Int32)))))) ∧ (¬ b = 0 → (r4 = b → ((0 : Int32) = 0 ∨ (0 : Int32) = 1) ∧ Φ (.inl (some (.int (0 : Int32)))) (sI μ3 11 4 ((mI μ3 11 4) ||| ((1 : Int32) <<< (a &&& 31))))) ∧ (¬ r4 = b → ((1 : Int32) = 0 ∨ (1 : Int32) = 1) ∧ Φ (.inl (some (.int (1 : Int32)))) (sI μ3 11 4 ((mI μ3 11 4) ||| ((1 : Int32) <<< (a &&& 31))))))) (fun e μ3 => rtM i_SO_away Φ (.inr e) 1 6 μ3))) (fun e μ2 => rtM i_SO_away Φ (.inr e) 1 6 μ2))) (fun e μ1 => rtM i_SO_away Φ (.inr e) 1 6 μ1))) : WW g i_SO_away 0 Φ 0 0 0 [(0, .ref 0), (1, .int a), (2, .int b)] [] μ :=
  reg1_sound (cs := []) T_SO_away po_SO (rtM_ok H_SO_away) 31 H
set_option maxRecDepth 100000 in
set_option maxHeartbeats 4000000 in
theorem v_SO_change_0 {g : Gl} {Φ : Out → Mem → Prop} {μ : Mem} {a : Int32} {b : Int32} (H : Spec g i_SO_needTwo 0 [.ref 0, .int a, .int b] μ (onV (fun μ1 => Spec g i_SO_remember 0 [.ref 0] μ1 (onV (fun μ2 => Spec g i_Sta_swapSeats 0 [.ref 11, .int a, .int b] μ2 (onV (fun μ3 => Spec g i_Sta_distance 0 [.ref 11, .int a, .int b] μ3 (onI (fun r5 μ4 => Φ (.inl (some (.int r5))) μ4) (fun e μ4 => rtM i_SO_change Φ (.inr e) 3 18 μ4))) (fun e μ3 => rtM i_SO_change Φ (.inr e) 3 18 μ3))) (fun e μ2 => rtM i_SO_change Φ (.inr e) 3 18 μ2))) (fun e μ1 => rtM i_SO_change Φ (.inr e) 3 18 μ1))) : WW g i_SO_change 0 Φ 0 0 0 [(0, .ref 0), (1, .int a), (2, .int b)] [] μ :=
  reg1_sound (cs := []) T_SO_change po_SO (rtM_ok H_SO_change) 19 H
set_option maxRecDepth 100000 in
set_option maxHeartbeats 4000000 in
theorem v_SO_term_0 {g : Gl} {Φ : Out → Mem → Prop} {μ : Mem} {a : Int32} (H : Spec g i_SO_needTerm 0 [.int a] μ (onV (fun μ1 => Spec g i_SO_remember 0 [.ref 0] μ1 (onV (fun μ2 => Spec g i_Sch_runTerm 0 [.ref 3, .int a] μ2 (onI (fun r4 μ3 => Φ (.inl (some (.int r4))) μ3) (fun e μ3 => rtM i_SO_term Φ (.inr e) 1 6 μ3))) (fun e μ2 => rtM i_SO_term Φ (.inr e) 1 6 μ2))) (fun e μ1 => rtM i_SO_term Φ (.inr e) 1 6 μ1))) : WW g i_SO_term 0 Φ 0 0 0 [(0, .ref 0), (1, .int a)] [] μ :=
  reg1_sound (cs := []) T_SO_term po_SO (rtM_ok H_SO_term) 9 H
set_option maxRecDepth 100000 in
set_option maxHeartbeats 4000000 in
theorem v_SO_needTerm_0 {g : Gl} {Φ : Out → Mem → Prop} {μ : Mem} {a : Int32} (H : (a < 0 → Φ (.inr 0) μ) ∧ (¬ a < 0 → (a ≤ (40 : Int32) → Φ (.inl none) μ) ∧ (¬ a ≤ (40 : Int32) → Φ (.inr 0) μ))) : WW g i_SO_needTerm 0 Φ 0 0 0 [(0, .int a)] [] μ :=
  reg1_sound (cs := []) T_SO_needTerm po_SO (rtM_ok H_SO_needTerm) 6 H
set_option maxRecDepth 100000 in
set_option maxHeartbeats 4000000 in
theorem v_SO_plan_0 {g : Gl} {Φ : Out → Mem → Prop} {μ : Mem} {a : Int32} {b : Int32} (H : Spec g i_SO_needThing 0 [.ref 0, .int a] μ (onV (fun μ1 => (b = 0 → Spec g i_Pl_fewestSayings 0 [.ref 65, .int a] μ1 (onI (fun r3 μ2 => Φ (.inl (some (.int r3))) μ2) (fun e μ2 => rtM i_SO_plan Φ (.inr e) 1 6 μ2))) ∧ (¬ b = 0 → Spec g i_Pl_firstSaying 0 [.ref 65, .int a] μ1 (onI (fun r5 μ4 => Φ (.inl (some (.int r5))) μ4) (fun e μ4 => rtM i_SO_plan Φ (.inr e) 1 6 μ4)))) (fun e μ1 => rtM i_SO_plan Φ (.inr e) 1 6 μ1))) : WW g i_SO_plan 0 Φ 0 0 0 [(0, .ref 0), (1, .int a), (2, .int b)] [] μ :=
  reg1_sound (cs := []) T_SO_plan po_SO (rtM_ok H_SO_plan) 11 H
set_option maxRecDepth 100000 in
set_option maxHeartbeats 4000000 in
theorem v_SO_kept_0 {g : Gl} {Φ : Out → Mem → Prop} {μ : Mem} {a : Int32} {b : Int32} (H : Spec g i_SO_needPerson 0 [.ref 0, .int a] μ (onV (fun μ1 => Spec g i_SO_needThing 0 [.ref 0, .int b] μ1 (onV (fun μ2 => Spec g i_Se_keptFrom 0 [.ref 68, .int a, .int b] μ2 (onI (fun r4 μ3 => Φ (.inl (some (.int r4))) μ3) (fun e μ3 => rtM i_SO_kept Φ (.inr e) 2 12 μ3))) (fun e μ2 => rtM i_SO_kept Φ (.inr e) 2 12 μ2))) (fun e μ1 => rtM i_SO_kept Φ (.inr e) 1 6 μ1))) : WW g i_SO_kept 0 Φ 0 0 0 [(0, .ref 0), (1, .int a), (2, .int b)] [] μ :=
  reg1_sound (cs := []) T_SO_kept po_SO (rtM_ok H_SO_kept) 12 H
set_option maxRecDepth 100000 in
set_option maxHeartbeats 4000000 in
theorem v_SO_seats_0 {g : Gl} {Φ : Out → Mem → Prop} {μ : Mem} {a : Int32} {b : Int32} {c : Int32} {d : Int32} (H : Spec g i_SO_needPerson 0 [.ref 0, .int a] μ (onV (fun μ1 => Spec g i_SO_needSaying 0 [.ref 0, .int b, .int c] μ1 (onV (fun μ2 => Spec g i_Se_bestSwap 0 [.ref 68, .int a, .int b, .int c] μ2 (onI (fun r4 μ3 => (¬ d = 0 → (¬ r4 = (-1 : Int32) → (¬ (10 : Int32) = 0) ∧ (¬ (10 : Int32) = 0) ∧ Spec g i_Se_hearersIfSwapped 0 [.ref 68, .int (r4 / (10 : Int32)), .int (r4 - r4 / (10 : Int32) * (10 : Int32)), .int a, .int b, .int c] μ3 (onI (fun r6 μ5 => Φ (.inl (some (.int r6))) μ5) (fun e μ5 => rtM i_SO_seats Φ (.inr e) 3 18 μ5))) ∧ (r4 = (-1 : Int32) → Spec g i_Sch_hearers 0 [.ref 3, .int a, .int b, .int c] μ3 (onI (fun r8 μ7 => Spec g i_Int_bitCount 0 [.int r8] μ7 (onI (fun r10 μ9 => Φ (.inl (some (.int r10))) μ9) (fun e μ9 => rtM i_SO_seats Φ (.inr e) 3 18 μ9))) (fun e μ7 => rtM i_SO_seats Φ (.inr e) 3 18 μ7)))) ∧ (d = 0 → Φ (.inl (some (.int r4))) μ3)) (fun e μ3 => rtM i_SO_seats Φ (.inr e) 3 18 μ3))) (fun e μ2 => rtM i_SO_seats Φ (.inr e) 3 18 μ2))) (fun e μ1 => rtM i_SO_seats Φ (.inr e) 1 6 μ1))) : WW g i_SO_seats 0 Φ 0 0 0 [(0, .ref 0), (1, .int a), (2, .int b), (3, .int c), (4, .int d)] [] μ :=
  reg1_sound (cs := []) T_SO_seats po_SO (rtM_ok H_SO_seats) 32 H
set_option maxRecDepth 100000 in
set_option maxHeartbeats 4000000 in
theorem v_SO_what_0 {g : Gl} {Φ : Out → Mem → Prop} {μ : Mem} {a : Int32} (H : Spec g i_Tape_useUp 0 [.ref 1] μ (onI (fun r2 μ1 => Spec g i_SO_needPerson 0 [.ref 0, .int a] μ1 (onV (fun μ3 => (r2 = (mI μ3 4 2) → WW g i_SO_what 0 Φ 1 6 40 [(0, .ref 0), (1, .int a), (2, .int r2), (3, .int (0 : Int32))] [] μ3) ∧ (¬ r2 = (mI μ3 4 2) → Φ (.inr 0) μ3)) (fun e μ3 => rtM i_SO_what Φ (.inr e) 1 6 μ3))) (fun e μ1 => rtM i_SO_what Φ (.inr e) 0 0 μ1))) : WW g i_SO_what 0 Φ 0 0 0 [(0, .ref 0), (1, .int a)] [] μ :=
  reg1_sound (cs := [(40, [0, 1, 2, 3]), (100, [0, 1, 3, 5]), (118, [0, 1, 3, 5, 6])]) T_SO_what po_SO (rtM_ok H_SO_what) 16 H
set_option maxRecDepth 100000 in
set_option maxHeartbeats 4000000 in
theorem v_SO_what_40 {g : Gl} {Φ : Out → Mem → Prop} {μ : Mem} {x1 : Int32} {x2 : Int32} {x3 : Int32} (H : (x2 ≤ x3 → WW g i_SO_what 0 Φ 1 6 100 [(0, .ref 0), (1, .int x1), (3, .long (0 : Int64)), (5, .int (0 : Int32))] [] μ) ∧ (¬ x2 ≤ x3 → Spec g i_Tape_byteAt 0 [.ref 1, .int x3] μ (onI (fun r2 μ1 => (r2 < (mI μ1 4 0) → WW g i_SO_what 0 Φ 1 6 40 [(0, .ref 0), (1, .int x1), (2, .int x2), (3, .int (x3 + (1 : Int32)))] [] μ1) ∧ (¬ r2 < (mI μ1 4 0) → (r2 = (255 : Int32) → WW g i_SO_what 0 Φ 1 6 40 [(0, .ref 0), (1, .int x1), (2, .int x2), (3, .int (x3 + (1 : Int32)))] [] μ1) ∧ (¬ r2 = (255 : Int32) → Φ (.inr 0) μ1))) (fun e μ1 => rtM i_SO_what Φ (.inr e) 1 6 μ1)))) : WW g i_SO_what 0 Φ 1 6 40 [(0, .ref 0), (1, .int x1), (2, .int x2), (3, .int x3)] [] μ :=
  reg1_sound (cs := [(40, [0, 1, 2, 3]), (100, [0, 1, 3, 5]), (118, [0, 1, 3, 5, 6])]) T_SO_what po_SO (rtM_ok H_SO_what) 20 H
set_option maxRecDepth 100000 in
set_option maxHeartbeats 4000000 in
theorem v_SO_what_100 {g : Gl} {Φ : Out → Mem → Prop} {μ : Mem} {x1 : Int32} {x3 : Int64} {x5 : Int32} (H : ((mI μ 4 0) ≤ x5 → Φ (.inl (some (.long x3))) μ) ∧ (¬ (mI μ 4 0) ≤ x5 → WW g i_SO_what 0 Φ 1 6 118 [(0, .ref 0), (1, .int x1), (3, .long x3), (5, .int x5), (6, .int (0 : Int32))] [] μ)) : WW g i_SO_what 0 Φ 1 6 100 [(0, .ref 0), (1, .int x1), (3, .long x3), (5, .int x5)] [] μ :=
  reg1_sound (cs := [(40, [0, 1, 2, 3]), (100, [0, 1, 3, 5]), (118, [0, 1, 3, 5, 6])]) T_SO_what po_SO (rtM_ok H_SO_what) 9 H
set_option maxRecDepth 100000 in
set_option maxHeartbeats 4000000 in
theorem v_SO_what_118 {g : Gl} {Φ : Out → Mem → Prop} {μ : Mem} {x1 : Int32} {x3 : Int64} {x5 : Int32} {x6 : Int32} (H : vp_in x5 10 ∧ ((mI μ 5 (nx x5)) ≤ x6 → WW g i_SO_what 0 Φ 1 6 100 [(0, .ref 0), (1, .int x1), (3, .long x3), (5, .int (x5 + (1 : Int32)))] [] μ) ∧ (¬ (mI μ 5 (nx x5)) ≤ x6 → Spec g i_SO_comesAsTold 0 [.ref 0, .int x1, .int x5, .int x6] μ (onI (fun r2 μ1 => (r2 = 0 → WW g i_SO_what 0 Φ 1 6 118 [(0, .ref 0), (1, .int x1), (3, .long x3), (5, .int x5), (6, .int (x6 + (1 : Int32)))] [] μ1) ∧ (¬ r2 = 0 → Spec g i_SO_numberOf 0 [.int x5, .int x6] μ1 (onI (fun r4 μ3 => WW g i_SO_what 0 Φ 1 6 118 [(0, .ref 0), (1, .int x1), (3, .long (x3 ||| ((1 : Int64) <<< (r4.toInt64 &&& 63)))), (5, .int x5), (6, .int (x6 + (1 : Int32)))] [] μ3) (fun e μ3 => rtM i_SO_what Φ (.inr e) 1 6 μ3)))) (fun e μ1 => rtM i_SO_what Φ (.inr e) 1 6 μ1)))) : WW g i_SO_what 0 Φ 1 6 118 [(0, .ref 0), (1, .int x1), (3, .long x3), (5, .int x5), (6, .int x6)] [] μ :=
  reg1_sound (cs := [(40, [0, 1, 2, 3]), (100, [0, 1, 3, 5]), (118, [0, 1, 3, 5, 6])]) T_SO_what po_SO (rtM_ok H_SO_what) 25 H
set_option maxRecDepth 100000 in
set_option maxHeartbeats 4000000 in
theorem v_SO_comesAsTold_0 {g : Gl} {Φ : Out → Mem → Prop} {μ : Mem} {a : Int32} {b : Int32} {c : Int32} (H : WW g i_SO_comesAsTold 0 Φ 0 0 3 [(0, .ref 0), (1, .int a), (2, .int b), (3, .int c), (4, .int (0 : Int32))] [] μ) : WW g i_SO_comesAsTold 0 Φ 0 0 0 [(0, .ref 0), (1, .int a), (2, .int b), (3, .int c)] [] μ :=
  reg1_sound (cs := [(3, [0, 1, 2, 3, 4])]) T_SO_comesAsTold po_SO (rtM_ok H_SO_comesAsTold) 3 H
set_option maxRecDepth 100000 in
set_option maxHeartbeats 4000000 in
theorem v_SO_comesAsTold_3 {g : Gl} {Φ : Out → Mem → Prop} {μ : Mem} {x1 : Int32} {x2 : Int32} {x3 : Int32} {x4 : Int32} (H : ((mI μ 4 2) ≤ x4 → ((1 : Int32) = 0 ∨ (1 : Int32) = 1) ∧ Φ (.inl (some (.int (1 : Int32)))) μ) ∧ (¬ (mI μ 4 2) ≤ x4 → Spec g i_Tape_byteAt 0 [.ref 1, .int x4] μ (onI (fun r2 μ1 => (¬ r2 = (255 : Int32) → Spec g i_Tape_byteAt 0 [.ref 1, .int x4] μ1 (onI (fun r4 μ3 => (x4 = x1 → WW g i_SO_comesAsTold 0 Φ 0 0 3 [(0, .ref 0), (1, .int x1), (2, .int x2), (3, .int x3), (4, .int (x4 + (1 : Int32)))] [] μ3) ∧ (¬ x4 = x1 → Spec g i_Sch_takenNow 0 [.ref 3, .int x1, .int x2, .int x3, .int x4] μ3 (onI (fun r6 μ5 => (r6 = r4 → WW g i_SO_comesAsTold 0 Φ 0 0 3 [(0, .ref 0), (1, .int x1), (2, .int x2), (3, .int x3), (4, .int (x4 + (1 : Int32)))] [] μ5) ∧ (¬ r6 = r4 → ((0 : Int32) = 0 ∨ (0 : Int32) = 1) ∧ Φ (.inl (some (.int (0 : Int32)))) μ5)) (fun e μ5 => rtM i_SO_comesAsTold Φ (.inr e) 0 0 μ5)))) (fun e μ3 => rtM i_SO_comesAsTold Φ (.inr e) 0 0 μ3))) ∧ (r2 = (255 : Int32) → (x4 = x1 → WW g i_SO_comesAsTold 0 Φ 0 0 3 [(0, .ref 0), (1, .int x1), (2, .int x2), (3, .int x3), (4, .int (x4 + (1 : Int32)))] [] μ1) ∧ (¬ x4 = x1 → Spec g i_Sch_takenNow 0 [.ref 3, .int x1, .int x2, .int x3, .int x4] μ1 (onI (fun r8 μ7 => (r8 = (-1 : Int32) → WW g i_SO_comesAsTold 0 Φ 0 0 3 [(0, .ref 0), (1, .int x1), (2, .int x2), (3, .int x3), (4, .int (x4 + (1 : Int32)))] [] μ7) ∧ (¬ r8 = (-1 : Int32) → ((0 : Int32) = 0 ∨ (0 : Int32) = 1) ∧ Φ (.inl (some (.int (0 : Int32)))) μ7)) (fun e μ7 => rtM i_SO_comesAsTold Φ (.inr e) 0 0 μ7))))) (fun e μ1 => rtM i_SO_comesAsTold Φ (.inr e) 0 0 μ1)))) : WW g i_SO_comesAsTold 0 Φ 0 0 3 [(0, .ref 0), (1, .int x1), (2, .int x2), (3, .int x3), (4, .int x4)] [] μ :=
  reg1_sound (cs := [(3, [0, 1, 2, 3, 4])]) T_SO_comesAsTold po_SO (rtM_ok H_SO_comesAsTold) 32 H
set_option maxRecDepth 100000 in
set_option maxHeartbeats 4000000 in
theorem v_SO_alike_0 {g : Gl} {Φ : Out → Mem → Prop} {μ : Mem} {a : Int32} {b : Int32} (H : Spec g i_SO_needTwo 0 [.ref 0, .int a, .int b] μ (onV (fun μ1 => Spec g i_Sch_allThings 0 [.ref 3] μ1 (onI (fun r3 μ2 => vp_in a 10 ∧ vp_in b 10 ∧ Φ (.inl (some (.int (r3 &&& (((mI μ2 12 (nx a)) ^^^ (mI μ2 12 (nx b))) ^^^ (-1 : Int32)))))) μ2) (fun e μ2 => rtM i_SO_alike Φ (.inr e) 3 18 μ2))) (fun e μ1 => rtM i_SO_alike Φ (.inr e) 3 18 μ1))) : WW g i_SO_alike 0 Φ 0 0 0 [(0, .ref 0), (1, .int a), (2, .int b)] [] μ :=
  reg1_sound (cs := []) T_SO_alike po_SO (rtM_ok H_SO_alike) 24 H
set_option maxRecDepth 100000 in
set_option maxHeartbeats 4000000 in
theorem v_SO_ask_0 {g : Gl} {Φ : Out → Mem → Prop} {μ : Mem} {a : Int32} {b : Int32} (H : Spec g i_SO_needTwo 0 [.ref 0, .int a, .int b] μ (onV (fun μ1 => vp_in a 10 ∧ vp_in b 10 ∧ (¬ ((mI μ1 12 (nx a)) ^^^ (mI μ1 12 (nx b))) = 0 → Spec g i_Int_numberOfTrailingZeros 0 [.int ((mI μ1 12 (nx a)) ^^^ (mI μ1 12 (nx b)))] μ1 (onI (fun r3 μ2 => Φ (.inl (some (.int r3))) μ2) (fun e μ2 => rtM i_SO_ask Φ (.inr e) 3 18 μ2))) ∧ (((mI μ1 12 (nx a)) ^^^ (mI μ1 12 (nx b))) = 0 → Φ (.inl (some (.int (-1 : Int32)))) μ1)) (fun e μ1 => rtM i_SO_ask Φ (.inr e) 3 18 μ1))) : WW g i_SO_ask 0 Φ 0 0 0 [(0, .ref 0), (1, .int a), (2, .int b)] [] μ :=
  reg1_sound (cs := []) T_SO_ask po_SO (rtM_ok H_SO_ask) 23 H
set_option maxRecDepth 100000 in
set_option maxHeartbeats 4000000 in
theorem v_SO_keeps_0 {g : Gl} {Φ : Out → Mem → Prop} {μ : Mem} {a : Int32} {b : Int32} (H : Spec g i_SO_needTwo 0 [.ref 0, .int a, .int b] μ (onV (fun μ1 => Spec g i_SO_lead 0 [.ref 0, .int a, .int b] μ1 (onI (fun r3 μ2 => (r3 ≤ 0 → ((0 : Int32) = 0 ∨ (0 : Int32) = 1) ∧ Φ (.inl (some (.int (0 : Int32)))) μ2) ∧ (¬ r3 ≤ 0 → ((1 : Int32) = 0 ∨ (1 : Int32) = 1) ∧ Φ (.inl (some (.int (1 : Int32)))) μ2)) (fun e μ2 => rtM i_SO_keeps Φ (.inr e) 3 18 μ2))) (fun e μ1 => rtM i_SO_keeps Φ (.inr e) 3 18 μ1))) : WW g i_SO_keeps 0 Φ 0 0 0 [(0, .ref 0), (1, .int a), (2, .int b)] [] μ :=
  reg1_sound (cs := []) T_SO_keeps po_SO (rtM_ok H_SO_keeps) 12 H
set_option maxRecDepth 100000 in
set_option maxHeartbeats 4000000 in
theorem v_SO_lead_0 {g : Gl} {Φ : Out → Mem → Prop} {μ : Mem} {a : Int32} {b : Int32} (H : vp_in a 10 ∧ vp_in b 10 ∧ Spec g i_Sch_countLeftOf 0 [.ref 3, .int ((mI μ 12 (nx a)) &&& (mI μ 12 (nx b)))] μ (onI (fun r2 μ1 => Spec g i_Sch_countLeftOf 0 [.ref 3, .int ((mI μ 12 (nx a)) &&& ((mI μ 12 (nx b)) ^^^ (-1 : Int32)))] μ1 (onI (fun r4 μ3 => Spec g i_Sch_countLeftOf 0 [.ref 3, .int ((mI μ 12 (nx b)) &&& ((mI μ 12 (nx a)) ^^^ (-1 : Int32)))] μ3 (onI (fun r6 μ5 => (¬ (2 : Int32) = 0) ∧ Φ (.inl (some (.int ((r4 - r6) + (r2 - r2 / (2 : Int32) * (2 : Int32)))))) μ5) (fun e μ5 => rtM i_SO_lead Φ (.inr e) 0 0 μ5))) (fun e μ3 => rtM i_SO_lead Φ (.inr e) 0 0 μ3))) (fun e μ1 => rtM i_SO_lead Φ (.inr e) 0 0 μ1))) : WW g i_SO_lead 0 Φ 0 0 0 [(0, .ref 0), (1, .int a), (2, .int b)] [] μ :=
  reg1_sound (cs := []) T_SO_lead po_SO (rtM_ok H_SO_lead) 43 H
set_option maxRecDepth 100000 in
set_option maxHeartbeats 4000000 in
theorem v_SO_margin_0 {g : Gl} {Φ : Out → Mem → Prop} {μ : Mem} {a : Int32} {b : Int32} (H : Spec g i_SO_needTwo 0 [.ref 0, .int a, .int b] μ (onV (fun μ1 => Spec g i_SO_lead 0 [.ref 0, .int a, .int b] μ1 (onI (fun r3 μ2 => Φ (.inl (some (.int r3))) μ2) (fun e μ2 => rtM i_SO_margin Φ (.inr e) 3 18 μ2))) (fun e μ1 => rtM i_SO_margin Φ (.inr e) 3 18 μ1))) : WW g i_SO_margin 0 Φ 0 0 0 [(0, .ref 0), (1, .int a), (2, .int b)] [] μ :=
  reg1_sound (cs := []) T_SO_margin po_SO (rtM_ok H_SO_margin) 9 H
set_option maxRecDepth 100000 in
set_option maxHeartbeats 4000000 in
theorem v_SO_call_0 {g : Gl} {Φ : Out → Mem → Prop} {μ : Mem} {a : Int32} {b : Int32} (H : Spec g i_SO_needThing 0 [.ref 0, .int a] μ (onV (fun μ1 => Spec g i_Se_bestCaller 0 [.ref 68, .int a] μ1 (onI (fun r3 μ2 => (¬ b = 0 → (¬ r3 = (-1 : Int32) → Spec g i_Se_worthOfCalling 0 [.ref 68, .int r3, .int a] μ2 (onI (fun r5 μ4 => Φ (.inl (some (.int r5))) μ4) (fun e μ4 => rtM i_SO_call Φ (.inr e) 1 6 μ4))) ∧ (r3 = (-1 : Int32) → Φ (.inl (some (.int (0 : Int32)))) μ2)) ∧ (b = 0 → Φ (.inl (some (.int r3))) μ2)) (fun e μ2 => rtM i_SO_call Φ (.inr e) 1 6 μ2))) (fun e μ1 => rtM i_SO_call Φ (.inr e) 1 6 μ1))) : WW g i_SO_call 0 Φ 0 0 0 [(0, .ref 0), (1, .int a), (2, .int b)] [] μ :=
  reg1_sound (cs := []) T_SO_call po_SO (rtM_ok H_SO_call) 19 H
set_option maxRecDepth 100000 in
set_option maxHeartbeats 4000000 in
theorem v_SO_trial_0 {g : Gl} {Φ : Out → Mem → Prop} {μ : Mem} {a : Int32} {b : Int32} (H : (b = (-1 : Int32) → Spec g i_SO_needTerm 0 [.int a] μ (onV (fun μ1 => Spec g i_Sch_tryTerm 0 [.ref 3, .int a, .int (mI μ1 11 6), .int b] μ1 (onI (fun r3 μ2 => Φ (.inl (some (.int r3))) μ2) (fun e μ2 => rtM i_SO_trial Φ (.inr e) 1 6 μ2))) (fun e μ1 => rtM i_SO_trial Φ (.inr e) 1 6 μ1))) ∧ (¬ b = (-1 : Int32) → Spec g i_SO_needThing 0 [.ref 0, .int b] μ (onV (fun μ4 => Spec g i_SO_needTerm 0 [.int a] μ4 (onV (fun μ5 => Spec g i_Sch_tryTerm 0 [.ref 3, .int a, .int (mI μ5 11 6), .int b] μ5 (onI (fun r7 μ6 => Φ (.inl (some (.int r7))) μ6) (fun e μ6 => rtM i_SO_trial Φ (.inr e) 2 12 μ6))) (fun e μ5 => rtM i_SO_trial Φ (.inr e) 2 12 μ5))) (fun e μ4 => rtM i_SO_trial Φ (.inr e) 1 6 μ4)))) : WW g i_SO_trial 0 Φ 0 0 0 [(0, .ref 0), (1, .int a), (2, .int b)] [] μ :=
  reg1_sound (cs := []) T_SO_trial po_SO (rtM_ok H_SO_trial) 18 H
set_option maxRecDepth 100000 in
set_option maxHeartbeats 4000000 in
theorem v_SO_span_0 {g : Gl} {Φ : Out → Mem → Prop} {μ : Mem} {a : Int32} {b : Int32} (H : Spec g i_SO_needTerm 0 [.int a] μ (onV (fun μ1 => Spec g i_Sch_tryTerm 0 [.ref 3, .int a, .int (1 : Int32), .int (-1 : Int32)] μ1 (onI (fun r3 μ2 => WW g i_SO_span 0 Φ 1 6 18 [(0, .ref 0), (1, .int a), (2, .int b), (3, .int r3), (4, .int (2 : Int32))] [] μ2) (fun e μ2 => rtM i_SO_span Φ (.inr e) 1 6 μ2))) (fun e μ1 => rtM i_SO_span Φ (.inr e) 1 6 μ1))) : WW g i_SO_span 0 Φ 0 0 0 [(0, .ref 0), (1, .int a), (2, .int b)] [] μ :=
  reg1_sound (cs := [(18, [0, 1, 2, 3, 4])]) T_SO_span po_SO (rtM_ok H_SO_span) 12 H
set_option maxRecDepth 100000 in
set_option maxHeartbeats 4000000 in
theorem v_SO_span_18 {g : Gl} {Φ : Out → Mem → Prop} {μ : Mem} {x1 : Int32} {x2 : Int32} {x3 : Int32} {x4 : Int32} (H : ((6 : Int32) < x4 → Φ (.inl (some (.int x3))) μ) ∧ (¬ (6 : Int32) < x4 → Spec g i_Sch_tryTerm 0 [.ref 3, .int x1, .int x4, .int (-1 : Int32)] μ (onI (fun r2 μ1 => (x2 = 0 → WW g i_SO_span 0 Φ 1 6 18 [(0, .ref 0), (1, .int x1), (2, .int x2), (3, .int (mmin x3 r2)), (4, .int (x4 + (1 : Int32)))] [] μ1) ∧ (¬ x2 = 0 → WW g i_SO_span 0 Φ 1 6 18 [(0, .ref 0), (1, .int x1), (2, .int x2), (3, .int (mmax x3 r2)), (4, .int (x4 + (1 : Int32)))] [] μ1)) (fun e μ1 => rtM i_SO_span Φ (.inr e) 1 6 μ1)))) : WW g i_SO_span 0 Φ 1 6 18 [(0, .ref 0), (1, .int x1), (2, .int x2), (3, .int x3), (4, .int x4)] [] μ :=
  reg1_sound (cs := [(18, [0, 1, 2, 3, 4])]) T_SO_span po_SO (rtM_ok H_SO_span) 20 H
set_option maxRecDepth 100000 in
set_option maxHeartbeats 4000000 in
theorem v_SO_how_0 {g : Gl} {Φ : Out → Mem → Prop} {μ : Mem} {a : Int32} {b : Int32} (H : Spec g i_SO_needPerson 0 [.ref 0, .int a] μ (onV (fun μ1 => Spec g i_SO_needThing 0 [.ref 0, .int b] μ1 (onV (fun μ2 => Spec g i_Log_rowBefore 0 [.ref 22, .int (mI μ2 11 7), .int a, .int b] μ2 (onI (fun r4 μ3 => (¬ r4 = (-1 : Int32) → Φ (.inl (some (.int (((mI μ3 11 7) - (1 : Int32)) - r4)))) μ3) ∧ (r4 = (-1 : Int32) → Φ (.inl (some (.int (-1 : Int32)))) μ3)) (fun e μ3 => rtM i_SO_how Φ (.inr e) 2 12 μ3))) (fun e μ2 => rtM i_SO_how Φ (.inr e) 2 12 μ2))) (fun e μ1 => rtM i_SO_how Φ (.inr e) 1 6 μ1))) : WW g i_SO_how 0 Φ 0 0 0 [(0, .ref 0), (1, .int a), (2, .int b)] [] μ :=
  reg1_sound (cs := []) T_SO_how po_SO (rtM_ok H_SO_how) 29 H
set_option maxRecDepth 100000 in
set_option maxHeartbeats 4000000 in
theorem v_SO_chain_0 {g : Gl} {Φ : Out → Mem → Prop} {μ : Mem} {a : Int32} {b : Int32} {c : Int32} (H : Spec g i_SO_needPerson 0 [.ref 0, .int a] μ (onV (fun μ1 => Spec g i_SO_needThing 0 [.ref 0, .int b] μ1 (onV (fun μ2 => Spec g i_Sta_isKnown 0 [.ref 11, .int a, .int b] μ2 (onI (fun r4 μ3 => (¬ r4 = 0 → (c = 0 → Spec g i_Log_chainLength 0 [.ref 22, .int (mI μ3 11 7), .int a, .int b] μ3 (onI (fun r6 μ5 => Φ (.inl (some (.int r6))) μ5) (fun e μ5 => rtM i_SO_chain Φ (.inr e) 2 12 μ5))) ∧ (¬ c = 0 → Spec g i_Log_chainBegin 0 [.ref 22, .int (mI μ3 11 7), .int a, .int b] μ3 (onI (fun r8 μ7 => Φ (.inl (some (.int r8))) μ7) (fun e μ7 => rtM i_SO_chain Φ (.inr e) 2 12 μ7)))) ∧ (r4 = 0 → (c = 0 → Φ (.inl (some (.int (0 : Int32)))) μ3) ∧ (¬ c = 0 → Φ (.inl (some (.int (-1 : Int32)))) μ3))) (fun e μ3 => rtM i_SO_chain Φ (.inr e) 2 12 μ3))) (fun e μ2 => rtM i_SO_chain Φ (.inr e) 2 12 μ2))) (fun e μ1 => rtM i_SO_chain Φ (.inr e) 1 6 μ1))) : WW g i_SO_chain 0 Φ 0 0 0 [(0, .ref 0), (1, .int a), (2, .int b), (3, .int c)] [] μ :=
  reg1_sound (cs := []) T_SO_chain po_SO (rtM_ok H_SO_chain) 27 H
set_option maxRecDepth 100000 in
set_option maxHeartbeats 4000000 in
theorem v_SO_spot_0 {g : Gl} {Φ : Out → Mem → Prop} {μ : Mem} {a : Int32} {b : Int32} {c : Int32} {d : Int32} (H : Spec g i_SO_needSaying 0 [.ref 0, .int c, .int d] μ (onV (fun μ1 => Spec g i_SO_needTwo 0 [.ref 0, .int a, .int b] μ1 (onV (fun μ2 => Spec g i_Se_spotFor 0 [.ref 68, .int a, .int b, .int c, .int d] μ2 (onI (fun r4 μ3 => Φ (.inl (some (.int r4))) μ3) (fun e μ3 => rtM i_SO_spot Φ (.inr e) 5 30 μ3))) (fun e μ2 => rtM i_SO_spot Φ (.inr e) 5 30 μ2))) (fun e μ1 => rtM i_SO_spot Φ (.inr e) 2 12 μ1))) : WW g i_SO_spot 0 Φ 0 0 0 [(0, .ref 0), (1, .int a), (2, .int b), (3, .int c), (4, .int d)] [] μ :=
  reg1_sound (cs := []) T_SO_spot po_SO (rtM_ok H_SO_spot) 16 H
set_option maxRecDepth 100000 in
set_option maxHeartbeats 4000000 in
theorem v_SO_speakers_0 {g : Gl} {Φ : Out → Mem → Prop} {μ : Mem} {a : Int32} (H : Spec g i_SO_needThing 0 [.ref 0, .int a] μ (onV (fun μ1 => Spec g i_Se_fewestSpeakers 0 [.ref 68, .int a] μ1 (onI (fun r3 μ2 => Φ (.inl (some (.int r3))) μ2) (fun e μ2 => rtM i_SO_speakers Φ (.inr e) 1 6 μ2))) (fun e μ1 => rtM i_SO_speakers Φ (.inr e) 1 6 μ1))) : WW g i_SO_speakers 0 Φ 0 0 0 [(0, .ref 0), (1, .int a)] [] μ :=
  reg1_sound (cs := []) T_SO_speakers po_SO (rtM_ok H_SO_speakers) 8 H
set_option maxRecDepth 100000 in
set_option maxHeartbeats 4000000 in
theorem v_SO_between_0 {g : Gl} {Φ : Out → Mem → Prop} {μ : Mem} {a : Int32} {b : Int32} (H : Spec g i_SO_needTwo 0 [.ref 0, .int a, .int b] μ (onV (fun μ1 => WW g i_SO_between 0 Φ 3 18 11 [(0, .ref 0), (1, .int a), (2, .int b), (3, .int (0 : Int32)), (4, .int (0 : Int32))] [] μ1) (fun e μ1 => rtM i_SO_between Φ (.inr e) 3 18 μ1))) : WW g i_SO_between 0 Φ 0 0 0 [(0, .ref 0), (1, .int a), (2, .int b)] [] μ :=
  reg1_sound (cs := [(11, [0, 1, 2, 3, 4]), (29, [0, 1, 2, 3, 4, 5])]) T_SO_between po_SO (rtM_ok H_SO_between) 9 H
set_option maxRecDepth 100000 in
set_option maxHeartbeats 4000000 in
theorem v_SO_between_11 {g : Gl} {Φ : Out → Mem → Prop} {μ : Mem} {x1 : Int32} {x2 : Int32} {x3 : Int32} {x4 : Int32} (H : ((mI μ 4 0) ≤ x4 → Φ (.inl (some (.int x3))) μ) ∧ (¬ (mI μ 4 0) ≤ x4 → WW g i_SO_between 0 Φ 3 18 29 [(0, .ref 0), (1, .int x1), (2, .int x2), (3, .int x3), (4, .int x4), (5, .int (0 : Int32))] [] μ)) : WW g i_SO_between 0 Φ 3 18 11 [(0, .ref 0), (1, .int x1), (2, .int x2), (3, .int x3), (4, .int x4)] [] μ :=
  reg1_sound (cs := [(11, [0, 1, 2, 3, 4]), (29, [0, 1, 2, 3, 4, 5])]) T_SO_between po_SO (rtM_ok H_SO_between) 9 H
set_option maxRecDepth 100000 in
set_option maxHeartbeats 4000000 in
theorem v_SO_between_29 {g : Gl} {Φ : Out → Mem → Prop} {μ : Mem} {x1 : Int32} {x2 : Int32} {x3 : Int32} {x4 : Int32} {x5 : Int32} (H : vp_in x4 10 ∧ ((mI μ 5 (nx x4)) ≤ x5 → WW g i_SO_between 0 Φ 3 18 11 [(0, .ref 0), (1, .int x1), (2, .int x2), (3, .int x3), (4, .int (x4 + (1 : Int32)))] [] μ) ∧ (¬ (mI μ 5 (nx x4)) ≤ x5 → Spec g i_Sch_canTell 0 [.ref 3, .int x1, .int x4] μ (onI (fun r2 μ1 => (r2 = 0 → WW g i_SO_between 0 Φ 3 18 29 [(0, .ref 0), (1, .int x1), (2, .int x2), (3, .int x3), (4, .int x4), (5, .int (x5 + (1 : Int32)))] [] μ1) ∧ (¬ r2 = 0 → Spec g i_Sch_isLeft 0 [.ref 3, .int x4, .int x5] μ1 (onI (fun r4 μ3 => (r4 = 0 → WW g i_SO_between 0 Φ 3 18 29 [(0, .ref 0), (1, .int x1), (2, .int x2), (3, .int x3), (4, .int x4), (5, .int (x5 + (1 : Int32)))] [] μ3) ∧ (¬ r4 = 0 → Spec g i_Sch_takenNow 0 [.ref 3, .int x1, .int x4, .int x5, .int x2] μ3 (onI (fun r6 μ5 => (¬ r6 = (-1 : Int32) → WW g i_SO_between 0 Φ 3 18 29 [(0, .ref 0), (1, .int x1), (2, .int x2), (3, .int (x3 ||| ((1 : Int32) <<< (r6 &&& 31)))), (4, .int x4), (5, .int (x5 + (1 : Int32)))] [] μ5) ∧ (r6 = (-1 : Int32) → WW g i_SO_between 0 Φ 3 18 29 [(0, .ref 0), (1, .int x1), (2, .int x2), (3, .int (x3 ||| (0 : Int32))), (4, .int x4), (5, .int (x5 + (1 : Int32)))] [] μ5)) (fun e μ5 => rtM i_SO_between Φ (.inr e) 3 18 μ5)))) (fun e μ3 => rtM i_SO_between Φ (.inr e) 3 18 μ3)))) (fun e μ1 => rtM i_SO_between Φ (.inr e) 3 18 μ1)))) : WW g i_SO_between 0 Φ 3 18 29 [(0, .ref 0), (1, .int x1), (2, .int x2), (3, .int x3), (4, .int x4), (5, .int x5)] [] μ :=
  reg1_sound (cs := [(11, [0, 1, 2, 3, 4]), (29, [0, 1, 2, 3, 4, 5])]) T_SO_between po_SO (rtM_ok H_SO_between) 40 H
set_option maxRecDepth 100000 in
set_option maxHeartbeats 4000000 in
theorem v_SO_echo_0 {g : Gl} {Φ : Out → Mem → Prop} {μ : Mem} {a : Int32} {b : Int32} {c : Int32} {d : Int32} (H : Spec g i_SO_needPerson 0 [.ref 0, .int a] μ (onV (fun μ1 => Spec g i_SO_needSaying 0 [.ref 0, .int b, .int c] μ1 (onV (fun μ2 => WW g i_SO_echo 0 Φ 3 18 23 [(0, .ref 0), (1, .int a), (2, .int b), (3, .int c), (4, .int d), (5, .int (0 : Int32)), (6, .int (-1 : Int32)), (7, .int (0 : Int32)), (8, .int (0 : Int32))] [] μ2) (fun e μ2 => rtM i_SO_echo Φ (.inr e) 3 18 μ2))) (fun e μ1 => rtM i_SO_echo Φ (.inr e) 1 6 μ1))) : WW g i_SO_echo 0 Φ 0 0 0 [(0, .ref 0), (1, .int a), (2, .int b), (3, .int c), (4, .int d)] [] μ :=
  reg1_sound (cs := [(23, [0, 1, 2, 3, 4, 5, 6, 7, 8])]) T_SO_echo po_SO (rtM_ok H_SO_echo) 16 H
set_option maxRecDepth 100000 in
set_option maxHeartbeats 4000000 in
theorem v_SO_echo_23 {g : Gl} {Φ : Out → Mem → Prop} {μ : Mem} {x1 : Int32} {x2 : Int32} {x3 : Int32} {x4 : Int32} {x5 : Int32} {x6 : Int32} {x7 : Int32} {x8 : Int32} (H : ((mI μ 4 0) ≤ x8 → (x4 = 0 → Φ (.inl (some (.int x5))) μ) ∧ (¬ x4 = 0 → Φ (.inl (some (.int x6))) μ)) ∧ (¬ (mI μ 4 0) ≤ x8 → Spec g i_Sch_takers 0 [.ref 3, .int x1, .int x2, .int x3, .int x8] μ (onI (fun r2 μ1 => Spec g i_Int_bitCount 0 [.int r2] μ1 (onI (fun r4 μ3 => (r4 ≤ 0 → (r4 ≤ x7 → WW g i_SO_echo 0 Φ 3 18 23 [(0, .ref 0), (1, .int x1), (2, .int x2), (3, .int x3), (4, .int x4), (5, .int (x5 + (0 : Int32))), (6, .int x6), (7, .int x7), (8, .int (x8 + (1 : Int32)))] [] μ3) ∧ (¬ r4 ≤ x7 → WW g i_SO_echo 0 Φ 3 18 23 [(0, .ref 0), (1, .int x1), (2, .int x2), (3, .int x3), (4, .int x4), (5, .int (x5 + (0 : Int32))), (6, .int x8), (7, .int r4), (8, .int (x8 + (1 : Int32)))] [] μ3)) ∧ (¬ r4 ≤ 0 → (r4 ≤ x7 → WW g i_SO_echo 0 Φ 3 18 23 [(0, .ref 0), (1, .int x1), (2, .int x2), (3, .int x3), (4, .int x4), (5, .int (x5 + (1 : Int32))), (6, .int x6), (7, .int x7), (8, .int (x8 + (1 : Int32)))] [] μ3) ∧ (¬ r4 ≤ x7 → WW g i_SO_echo 0 Φ 3 18 23 [(0, .ref 0), (1, .int x1), (2, .int x2), (3, .int x3), (4, .int x4), (5, .int (x5 + (1 : Int32))), (6, .int x8), (7, .int r4), (8, .int (x8 + (1 : Int32)))] [] μ3))) (fun e μ3 => rtM i_SO_echo Φ (.inr e) 3 18 μ3))) (fun e μ1 => rtM i_SO_echo Φ (.inr e) 3 18 μ1)))) : WW g i_SO_echo 0 Φ 3 18 23 [(0, .ref 0), (1, .int x1), (2, .int x2), (3, .int x3), (4, .int x4), (5, .int x5), (6, .int x6), (7, .int x7), (8, .int x8)] [] μ :=
  reg1_sound (cs := [(23, [0, 1, 2, 3, 4, 5, 6, 7, 8])]) T_SO_echo po_SO (rtM_ok H_SO_echo) 32 H
set_option maxRecDepth 100000 in
set_option maxHeartbeats 4000000 in
theorem v_SO_learnt_0 {g : Gl} {Φ : Out → Mem → Prop} {μ : Mem} {a : Int32} {b : Int32} (H : Spec g i_SO_needPerson 0 [.ref 0, .int b] μ (onV (fun μ1 => Spec g i_SO_rowAgo 0 [.ref 0, .int a] μ1 (onI (fun r3 μ2 => (¬ r3 = (-1 : Int32) → Spec g i_Log_learntBy 0 [.ref 22, .int r3, .int b] μ2 (onI (fun r5 μ4 => Φ (.inl (some (.int r5))) μ4) (fun e μ4 => rtM i_SO_learnt Φ (.inr e) 1 6 μ4))) ∧ (r3 = (-1 : Int32) → Φ (.inl (some (.int (-1 : Int32)))) μ2)) (fun e μ2 => rtM i_SO_learnt Φ (.inr e) 1 6 μ2))) (fun e μ1 => rtM i_SO_learnt Φ (.inr e) 1 6 μ1))) : WW g i_SO_learnt 0 Φ 0 0 0 [(0, .ref 0), (1, .int a), (2, .int b)] [] μ :=
  reg1_sound (cs := []) T_SO_learnt po_SO (rtM_ok H_SO_learnt) 17 H
set_option maxRecDepth 100000 in
set_option maxHeartbeats 4000000 in
theorem v_SO_rowAgo_0 {g : Gl} {Φ : Out → Mem → Prop} {μ : Mem} {a : Int32} (H : (a < 0 → Φ (.inl (some (.int (-1 : Int32)))) μ) ∧ (¬ a < 0 → (a < (mI μ 11 7) → Φ (.inl (some (.int (((mI μ 11 7) - (1 : Int32)) - a)))) μ) ∧ (¬ a < (mI μ 11 7) → Φ (.inl (some (.int (-1 : Int32)))) μ))) : WW g i_SO_rowAgo 0 Φ 0 0 0 [(0, .ref 0), (1, .int a)] [] μ :=
  reg1_sound (cs := []) T_SO_rowAgo po_SO (rtM_ok H_SO_rowAgo) 17 H
set_option maxRecDepth 100000 in
set_option maxHeartbeats 4000000 in
theorem v_SO_log_0 {g : Gl} {Φ : Out → Mem → Prop} {μ : Mem} {a : Int32} {b : Int32} (H : (b < 0 → Φ (.inr 3) μ) ∧ (¬ b < 0 → (b ≤ (4 : Int32) → Spec g i_SO_rowAgo 0 [.ref 0, .int a] μ (onI (fun r2 μ1 => (¬ r2 = (-1 : Int32) → (b = (0 : Int32) → vp_in r2 60 ∧ Φ (.inl (some (.int (mI μ1 23 (nx r2))))) μ1) ∧ (¬ b = (0 : Int32) → (b = (1 : Int32) → vp_in r2 60 ∧ Φ (.inl (some (.int (mI μ1 24 (nx r2))))) μ1) ∧ (¬ b = (1 : Int32) → (b = (2 : Int32) → vp_in r2 60 ∧ Φ (.inl (some (.int (mI μ1 25 (nx r2))))) μ1) ∧ (¬ b = (2 : Int32) → (b = (3 : Int32) → vp_in r2 60 ∧ Φ (.inl (some (.int (mI μ1 26 (nx r2))))) μ1) ∧ (¬ b = (3 : Int32) → vp_in r2 60 ∧ ((mI μ1 28 (nx r2)) = 0 → Φ (.inl (some (.int (0 : Int32)))) μ1) ∧ (¬ (mI μ1 28 (nx r2)) = 0 → Φ (.inl (some (.int (1 : Int32)))) μ1)))))) ∧ (r2 = (-1 : Int32) → Φ (.inl (some (.int (-1 : Int32)))) μ1)) (fun e μ1 => rtM i_SO_log Φ (.inr e) 0 0 μ1))) ∧ (¬ b ≤ (4 : Int32) → Φ (.inr 3) μ))) : WW g i_SO_log 0 Φ 0 0 0 [(0, .ref 0), (1, .int a), (2, .int b)] [] μ :=
  reg1_sound (cs := []) T_SO_log po_SO (rtM_ok H_SO_log) 24 H
