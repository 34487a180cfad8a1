/-! the law's cases: questions, by program (wip/whole/gen_case.py) -/
theorem b_thing (w : WD) (a : Int32) (b : Int32) : (q_thing w a b).1 ≤ 2 := by
  unfold q_thing
  repeat first | exact Nat.zero_le _ | exact Nat.le_refl _ | exact (by decide : 1 ≤ 2) | exact gdx_le (by decide) (fun _ => Nat.zero_le _) | (refine gdx_le (by decide) fun _ => ?_) | (refine ite_le ?_ ?_)
set_option maxRecDepth 100000 in
set_option maxHeartbeats 4000000 in
theorem J_5 {g : Gl} {nc ns : Nat} {i : Int32} {μ : Mem} (hsc : ScI g i) (h : J9 μ) (h1 : nc ≤ 50000) (h2 : ns ≤ 500000) (hK : ∀ K μ', K ≤ 5 → J9 μ' → WL g (nc + K) (ns + 6 * K) 23 [(0, .ref 2000), (1, .ref 0), (2, .ref 140), (3, .ref 154), (4, .int (i + (6 : Int32)))] [] μ') : WL g nc ns 451 [(0, .ref 2000), (1, .ref 0), (2, .ref 140), (3, .ref 154), (4, .int i)] [] μ := by
  obtain ⟨w, n, r, V, h⟩ := h
  refine v_LAW_5 ⟨sc_in hsc (k := 1) (by decide), sc_in hsc (k := 2) (by decide), ?_⟩
  refine isT_of (rmL (by decide +kernel) (by omega) (by omega)) (L_thing (C_thing h.1 (RC_HK (by decide) (b_thing _ _ _) fun μ1 e1 c1 => ?_)))
  have j1 : JX (outm fJ (q_thing w (gX g (nx (i + (1 : Int32)))) (gX g (nx (i + (2 : Int32))))) μ1) w n r V := JW_outm (JW_C h e1 c1)
  exact oI ⟨sc_in hsc (k := 1) (by decide), sc_in hsc (k := 2) (by decide), isT_of (rmL (by decide +kernel) (by omega) (by omega)) (M_thing j1.2.1 fun μ3 e3 t3 m3 => oI (tail9 (by omega) (by omega) (b_thing _ _ _) t3 (fun hz => (rdL1 e3 rfl).trans (outm_L hz)) (hK 2 μ3 (by decide) ⟨w, n, r, V, JW_M j1 e3 m3⟩)))⟩
theorem b_person (w : WD) (a : Int32) (b : Int32) : (q_person w a b).1 ≤ 2 := by
  unfold q_person
  repeat first | exact Nat.zero_le _ | exact Nat.le_refl _ | exact (by decide : 1 ≤ 2) | exact gdx_le (by decide) (fun _ => Nat.zero_le _) | (refine gdx_le (by decide) fun _ => ?_) | (refine ite_le ?_ ?_)
set_option maxRecDepth 100000 in
set_option maxHeartbeats 4000000 in
theorem J_6 {g : Gl} {nc ns : Nat} {i : Int32} {μ : Mem} (hsc : ScI g i) (h : J9 μ) (h1 : nc ≤ 50000) (h2 : ns ≤ 500000) (hK : ∀ K μ', K ≤ 5 → J9 μ' → WL g (nc + K) (ns + 6 * K) 23 [(0, .ref 2000), (1, .ref 0), (2, .ref 140), (3, .ref 154), (4, .int (i + (6 : Int32)))] [] μ') : WL g nc ns 519 [(0, .ref 2000), (1, .ref 0), (2, .ref 140), (3, .ref 154), (4, .int i)] [] μ := by
  obtain ⟨w, n, r, V, h⟩ := h
  refine v_LAW_6 ⟨sc_in hsc (k := 1) (by decide), sc_in hsc (k := 2) (by decide), ?_⟩
  refine isT_of (rmL (by decide +kernel) (by omega) (by omega)) (L_person (C_person h.1 (RC_HK (by decide) (b_person _ _ _) fun μ1 e1 c1 => ?_)))
  have j1 : JX (outm fJ (q_person w (gX g (nx (i + (1 : Int32)))) (gX g (nx (i + (2 : Int32))))) μ1) w n r V := JW_outm (JW_C h e1 c1)
  exact oI ⟨sc_in hsc (k := 1) (by decide), sc_in hsc (k := 2) (by decide), isT_of (rmL (by decide +kernel) (by omega) (by omega)) (M_person j1.2.1 fun μ3 e3 t3 m3 => oI (tail9 (by omega) (by omega) (b_person _ _ _) t3 (fun hz => (rdL1 e3 rfl).trans (outm_L hz)) (hK 2 μ3 (by decide) ⟨w, n, r, V, JW_M j1 e3 m3⟩)))⟩
theorem b_rule (w : WD) (a : Int32) (b : Int32) : (q_rule w a b).1 ≤ 1 := by
  unfold q_rule
  repeat first | exact Nat.zero_le _ | exact Nat.le_refl _ | exact (by decide : 1 ≤ 2) | exact gdx_le (by decide) (fun _ => Nat.zero_le _) | (refine gdx_le (by decide) fun _ => ?_) | (refine ite_le ?_ ?_)
set_option maxRecDepth 100000 in
set_option maxHeartbeats 4000000 in
theorem J_7 {g : Gl} {nc ns : Nat} {i : Int32} {μ : Mem} (hsc : ScI g i) (h : J9 μ) (h1 : nc ≤ 50000) (h2 : ns ≤ 500000) (hK : ∀ K μ', K ≤ 5 → J9 μ' → WL g (nc + K) (ns + 6 * K) 23 [(0, .ref 2000), (1, .ref 0), (2, .ref 140), (3, .ref 154), (4, .int (i + (6 : Int32)))] [] μ') : WL g nc ns 587 [(0, .ref 2000), (1, .ref 0), (2, .ref 140), (3, .ref 154), (4, .int i)] [] μ := by
  obtain ⟨w, n, r, V, h⟩ := h
  refine v_LAW_7 ⟨sc_in hsc (k := 1) (by decide), sc_in hsc (k := 2) (by decide), ?_⟩
  refine isT_of (rmL (by decide +kernel) (by omega) (by omega)) (L_rule (C_rule h.1 (RC_HK1 (e3 := 9) (b_rule _ _ _) fun μ1 e1 c1 => ?_)))
  have j1 : JX (outm fJ (q_rule w (gX g (nx (i + (1 : Int32)))) (gX g (nx (i + (2 : Int32))))) μ1) w n r V := JW_outm (JW_C h e1 c1)
  exact oI ⟨sc_in hsc (k := 1) (by decide), sc_in hsc (k := 2) (by decide), isT_of (rmL (by decide +kernel) (by omega) (by omega)) (M_rule j1.2.1 fun μ3 e3 t3 m3 => oI (tail9 (by omega) (by omega) (Nat.le_succ_of_le (b_rule _ _ _)) t3 (fun hz => (rdL1 e3 rfl).trans (outm_L hz)) (hK 1 μ3 (by decide) ⟨w, n, r, V, JW_M j1 e3 m3⟩)))⟩
theorem b_apart (w : WD) (a : Int32) (b : Int32) : (q_apart w a b).1 ≤ 2 := by
  unfold q_apart
  repeat first | exact Nat.zero_le _ | exact Nat.le_refl _ | exact (by decide : 1 ≤ 2) | exact gdx_le (by decide) (fun _ => Nat.zero_le _) | (refine gdx_le (by decide) fun _ => ?_) | (refine ite_le ?_ ?_)
set_option maxRecDepth 100000 in
set_option maxHeartbeats 4000000 in
theorem J_9 {g : Gl} {nc ns : Nat} {i : Int32} {μ : Mem} (hsc : ScI g i) (h : J9 μ) (h1 : nc ≤ 50000) (h2 : ns ≤ 500000) (hK : ∀ K μ', K ≤ 5 → J9 μ' → WL g (nc + K) (ns + 6 * K) 23 [(0, .ref 2000), (1, .ref 0), (2, .ref 140), (3, .ref 154), (4, .int (i + (6 : Int32)))] [] μ') : WL g nc ns 669 [(0, .ref 2000), (1, .ref 0), (2, .ref 140), (3, .ref 154), (4, .int i)] [] μ := by
  obtain ⟨w, n, r, V, h⟩ := h
  refine v_LAW_9 ⟨sc_in hsc (k := 1) (by decide), sc_in hsc (k := 2) (by decide), ?_⟩
  refine isT_of (rmL (by decide +kernel) (by omega) (by omega)) (L_apart (C_apart h.1 (RC_HK (by decide) (b_apart _ _ _) fun μ1 e1 c1 => ?_)))
  have j1 : JX (outm fJ (q_apart w (gX g (nx (i + (1 : Int32)))) (gX g (nx (i + (2 : Int32))))) μ1) w n r V := JW_outm (JW_C h e1 c1)
  exact oI ⟨sc_in hsc (k := 1) (by decide), sc_in hsc (k := 2) (by decide), isT_of (rmL (by decide +kernel) (by omega) (by omega)) (M_apart j1.2.1 fun μ3 e3 t3 m3 => oI (tail9 (by omega) (by omega) (b_apart _ _ _) t3 (fun hz => (rdL1 e3 rfl).trans (outm_L hz)) (hK 3 μ3 (by decide) ⟨w, n, r, V, JW_M j1 e3 m3⟩)))⟩
theorem b_hears (w : WD) (a : Int32) (b : Int32) (c : Int32) (d : Int32) : (q_hears w a b c d).1 ≤ 2 := by
  unfold q_hears
  repeat first | exact Nat.zero_le _ | exact Nat.le_refl _ | exact (by decide : 1 ≤ 2) | exact gdx_le (by decide) (fun _ => Nat.zero_le _) | (refine gdx_le (by decide) fun _ => ?_) | (refine ite_le ?_ ?_)
set_option maxRecDepth 100000 in
set_option maxHeartbeats 4000000 in
theorem J_10 {g : Gl} {nc ns : Nat} {i : Int32} {μ : Mem} (hsc : ScI g i) (h : J9 μ) (h1 : nc ≤ 50000) (h2 : ns ≤ 500000) (hK : ∀ K μ', K ≤ 5 → J9 μ' → WL g (nc + K) (ns + 6 * K) 23 [(0, .ref 2000), (1, .ref 0), (2, .ref 140), (3, .ref 154), (4, .int (i + (6 : Int32)))] [] μ') : WL g nc ns 737 [(0, .ref 2000), (1, .ref 0), (2, .ref 140), (3, .ref 154), (4, .int i)] [] μ := by
  obtain ⟨w, n, r, V, h⟩ := h
  refine v_LAW_10 ⟨sc_in hsc (k := 1) (by decide), sc_in hsc (k := 2) (by decide), sc_in hsc (k := 3) (by decide), sc_in hsc (k := 4) (by decide), ?_⟩
  refine isT_of (rmL (by decide +kernel) (by omega) (by omega)) (L_hears (C_hears h.1 (RC_HK (by decide) (b_hears _ _ _ _ _) fun μ1 e1 c1 => ?_)))
  have j1 : JX (outm fJ (q_hears w (gX g (nx (i + (1 : Int32)))) (gX g (nx (i + (2 : Int32)))) (gX g (nx (i + (3 : Int32)))) (gX g (nx (i + (4 : Int32))))) μ1) w n r V := JW_outm (JW_C h e1 c1)
  exact oI ⟨sc_in hsc (k := 1) (by decide), sc_in hsc (k := 2) (by decide), sc_in hsc (k := 3) (by decide), sc_in hsc (k := 4) (by decide), isT_of (rmL (by decide +kernel) (by omega) (by omega)) (M_hears j1.2.1 fun μ3 e3 t3 m3 => oI (tail9 (by omega) (by omega) (b_hears _ _ _ _ _) t3 (fun hz => (rdL1 e3 rfl).trans (outm_L hz)) (hK 5 μ3 (by decide) ⟨w, n, r, V, JW_M j1 e3 m3⟩)))⟩
theorem b_audience (w : WD) (a : Int32) (b : Int32) (c : Int32) (d : Bool) : (q_audience w a b c d).1 ≤ 1 := by
  unfold q_audience
  repeat first | exact Nat.zero_le _ | exact Nat.le_refl _ | exact (by decide : 1 ≤ 2) | exact gdx_le (by decide) (fun _ => Nat.zero_le _) | (refine gdx_le (by decide) fun _ => ?_) | (refine ite_le ?_ ?_)
set_option maxRecDepth 100000 in
set_option maxHeartbeats 4000000 in
theorem J_11 {g : Gl} {nc ns : Nat} {i : Int32} {μ : Mem} (hsc : ScI g i) (h : J9 μ) (h1 : nc ≤ 50000) (h2 : ns ≤ 500000) (hK : ∀ K μ', K ≤ 5 → J9 μ' → WL g (nc + K) (ns + 6 * K) 23 [(0, .ref 2000), (1, .ref 0), (2, .ref 140), (3, .ref 154), (4, .int (i + (6 : Int32)))] [] μ') : WL g nc ns 829 [(0, .ref 2000), (1, .ref 0), (2, .ref 140), (3, .ref 154), (4, .int i)] [] μ := by
  obtain ⟨w, n, r, V, h⟩ := h
  refine v_LAW_11 ⟨sc_in hsc (k := 1) (by decide), sc_in hsc (k := 2) (by decide), sc_in hsc (k := 3) (by decide), sc_in hsc (k := 4) (by decide), fun z => ?_, fun z => ?_⟩
  · refine isT_of (rmL (by decide +kernel) (by omega) (by omega)) (L_audience (C_audience (d := false) h.1 (RC_HK1 (e3 := 9) (b_audience _ _ _ _ _) fun μ1 e1 c1 => ?_)))
    have j1 : JX (outm fJ (q_audience w (gX g (nx (i + (1 : Int32)))) (gX g (nx (i + (2 : Int32)))) (gX g (nx (i + (3 : Int32)))) false) μ1) w n r V := JW_outm (JW_C h e1 c1)
    exact oI ⟨sc_in hsc (k := 1) (by decide), sc_in hsc (k := 2) (by decide), sc_in hsc (k := 3) (by decide), sc_in hsc (k := 4) (by decide), fun _ => isT_of (rmL (by decide +kernel) (by omega) (by omega)) (M_audience (d := false) j1.2.1 fun μ3 e3 t3 m3 => oI (tail9 (by omega) (by omega) (Nat.le_succ_of_le (b_audience _ _ _ _ _)) t3 (fun hz => (rdL1 e3 rfl).trans (outm_L hz)) (hK 3 μ3 (by decide) ⟨w, n, r, V, JW_M j1 e3 m3⟩))), fun z9 => absurd z z9⟩
  · refine isT_of (rmL (by decide +kernel) (by omega) (by omega)) (L_audience (C_audience (d := true) h.1 (RC_HK1 (e3 := 9) (b_audience _ _ _ _ _) fun μ1 e1 c1 => ?_)))
    have j1 : JX (outm fJ (q_audience w (gX g (nx (i + (1 : Int32)))) (gX g (nx (i + (2 : Int32)))) (gX g (nx (i + (3 : Int32)))) true) μ1) w n r V := JW_outm (JW_C h e1 c1)
    exact oI ⟨sc_in hsc (k := 1) (by decide), sc_in hsc (k := 2) (by decide), sc_in hsc (k := 3) (by decide), sc_in hsc (k := 4) (by decide), fun z9 => absurd z9 z, fun _ => isT_of (rmL (by decide +kernel) (by omega) (by omega)) (M_audience (d := true) j1.2.1 fun μ3 e3 t3 m3 => oI (tail9 (by omega) (by omega) (Nat.le_succ_of_le (b_audience _ _ _ _ _)) t3 (fun hz => (rdL1 e3 rfl).trans (outm_L hz)) (hK 3 μ3 (by decide) ⟨w, n, r, V, JW_M j1 e3 m3⟩)))⟩
set_option maxRecDepth 100000 in
set_option maxHeartbeats 4000000 in
theorem J_18 {g : Gl} {nc ns : Nat} {i : Int32} {μ : Mem} (hsc : ScI g i) (h : J9 μ) (h1 : nc ≤ 50000) (h2 : ns ≤ 500000) (hK : ∀ K μ', K ≤ 5 → J9 μ' → WL g (nc + K) (ns + 6 * K) 23 [(0, .ref 2000), (1, .ref 0), (2, .ref 140), (3, .ref 154), (4, .int (i + (6 : Int32)))] [] μ') : WL g nc ns 1301 [(0, .ref 2000), (1, .ref 0), (2, .ref 140), (3, .ref 154), (4, .int i)] [] μ := by
  obtain ⟨w, n, r, V, h⟩ := h
  refine v_LAW_18 (isT_of (rmL (by decide +kernel) (by omega) (by omega)) (C_sayable h.1 fun μ1 e1 c1 => ?_))
  exact oI (isT_of (rmL (by decide +kernel) (by omega) (by omega)) (M_sayable (JW_C h e1 c1).2.1 fun μ3 e3 t3 m3 => oI ⟨fun _ => hK 0 μ3 (by decide) ⟨w, n, r, V, JW_M (JW_C h e1 c1) e3 m3⟩, fun hn => absurd rfl hn⟩))
set_option maxRecDepth 100000 in
set_option maxHeartbeats 4000000 in
theorem J_19 {g : Gl} {nc ns : Nat} {i : Int32} {μ : Mem} (hsc : ScI g i) (h : J9 μ) (h1 : nc ≤ 50000) (h2 : ns ≤ 500000) (hK : ∀ K μ', K ≤ 5 → J9 μ' → WL g (nc + K) (ns + 6 * K) 23 [(0, .ref 2000), (1, .ref 0), (2, .ref 140), (3, .ref 154), (4, .int (i + (6 : Int32)))] [] μ') : WL g nc ns 1314 [(0, .ref 2000), (1, .ref 0), (2, .ref 140), (3, .ref 154), (4, .int i)] [] μ := by
  obtain ⟨w, n, r, V, h⟩ := h
  refine v_LAW_19 (isT_of (rmL (by decide +kernel) (by omega) (by omega)) (C_dumb h.1 fun μ1 e1 c1 => ?_))
  exact oI (isT_of (rmL (by decide +kernel) (by omega) (by omega)) (M_dumb (JW_C h e1 c1).2.1 fun μ3 e3 t3 m3 => oI ⟨fun _ => hK 0 μ3 (by decide) ⟨w, n, r, V, JW_M (JW_C h e1 c1) e3 m3⟩, fun hn => absurd rfl hn⟩))
set_option maxRecDepth 100000 in
set_option maxHeartbeats 4000000 in
theorem J_20 {g : Gl} {nc ns : Nat} {i : Int32} {μ : Mem} (hsc : ScI g i) (h : J9 μ) (h1 : nc ≤ 50000) (h2 : ns ≤ 500000) (hK : ∀ K μ', K ≤ 5 → J9 μ' → WL g (nc + K) (ns + 6 * K) 23 [(0, .ref 2000), (1, .ref 0), (2, .ref 140), (3, .ref 154), (4, .int (i + (6 : Int32)))] [] μ') : WL g nc ns 1327 [(0, .ref 2000), (1, .ref 0), (2, .ref 140), (3, .ref 154), (4, .int i)] [] μ := by
  obtain ⟨w, n, r, V, h⟩ := h
  refine v_LAW_20 (isT_of (rmL (by decide +kernel) (by omega) (by omega)) (C_silent h.1 fun μ1 e1 c1 => ?_))
  exact oI (isT_of (rmL (by decide +kernel) (by omega) (by omega)) (M_silent (JW_C h e1 c1).2.1 fun μ3 e3 t3 m3 => oI ⟨fun _ => hK 0 μ3 (by decide) ⟨w, n, r, V, JW_M (JW_C h e1 c1) e3 m3⟩, fun hn => absurd rfl hn⟩))
theorem b_plan (w : WD) (a : Int32) (b : Int32) : (q_plan w a b).1 ≤ 1 := by
  unfold q_plan
  repeat first | exact Nat.zero_le _ | exact Nat.le_refl _ | exact (by decide : 1 ≤ 2) | exact gdx_le (by decide) (fun _ => Nat.zero_le _) | (refine gdx_le (by decide) fun _ => ?_) | (refine ite_le ?_ ?_)
set_option maxRecDepth 100000 in
set_option maxHeartbeats 4000000 in
theorem J_21 {g : Gl} {nc ns : Nat} {i : Int32} {μ : Mem} (hsc : ScI g i) (h : J9 μ) (h1 : nc ≤ 50000) (h2 : ns ≤ 500000) (hK : ∀ K μ', K ≤ 5 → J9 μ' → WL g (nc + K) (ns + 6 * K) 23 [(0, .ref 2000), (1, .ref 0), (2, .ref 140), (3, .ref 154), (4, .int (i + (6 : Int32)))] [] μ') : WL g nc ns 1340 [(0, .ref 2000), (1, .ref 0), (2, .ref 140), (3, .ref 154), (4, .int i)] [] μ := by
  obtain ⟨w, n, r, V, h⟩ := h
  refine v_LAW_21 ⟨sc_in hsc (k := 1) (by decide), sc_in hsc (k := 2) (by decide), fun z => ?_, fun z => ?_⟩
  · refine isT_of (rmL (by decide +kernel) (by omega) (by omega)) (L_plan (C_plan h.1 (RC_HK1 (e3 := 9) (b_plan _ _ _) fun μ1 e1 c1 => ?_)))
    have j1 : JX (outm fJ (q_plan w (gX g (nx (i + (1 : Int32)))) (0 : Int32)) μ1) w n r V := JW_outm (JW_C h e1 c1)
    exact oI ⟨sc_in hsc (k := 1) (by decide), sc_in hsc (k := 2) (by decide), fun _ => isT_of (rmL (by decide +kernel) (by omega) (by omega)) (M_plan j1.2.1 fun μ3 e3 t3 m3 => oI (tail9 (by omega) (by omega) (Nat.le_succ_of_le (b_plan _ _ _)) t3 (fun hz => (rdL1 e3 rfl).trans (outm_L hz)) (hK 1 μ3 (by decide) ⟨w, n, r, V, JW_M j1 e3 m3⟩))), fun z9 => absurd z z9⟩
  · refine isT_of (rmL (by decide +kernel) (by omega) (by omega)) (L_plan (C_plan h.1 (RC_HK1 (e3 := 9) (b_plan _ _ _) fun μ1 e1 c1 => ?_)))
    have j1 : JX (outm fJ (q_plan w (gX g (nx (i + (1 : Int32)))) (1 : Int32)) μ1) w n r V := JW_outm (JW_C h e1 c1)
    exact oI ⟨sc_in hsc (k := 1) (by decide), sc_in hsc (k := 2) (by decide), fun z9 => absurd z9 z, fun _ => isT_of (rmL (by decide +kernel) (by omega) (by omega)) (M_plan j1.2.1 fun μ3 e3 t3 m3 => oI (tail9 (by omega) (by omega) (Nat.le_succ_of_le (b_plan _ _ _)) t3 (fun hz => (rdL1 e3 rfl).trans (outm_L hz)) (hK 1 μ3 (by decide) ⟨w, n, r, V, JW_M j1 e3 m3⟩)))⟩
theorem b_kept (w : WD) (a : Int32) (b : Int32) : (q_kept w a b).1 ≤ 1 := by
  unfold q_kept
  repeat first | exact Nat.zero_le _ | exact Nat.le_refl _ | exact (by decide : 1 ≤ 2) | exact gdx_le (by decide) (fun _ => Nat.zero_le _) | (refine gdx_le (by decide) fun _ => ?_) | (refine ite_le ?_ ?_)
set_option maxRecDepth 100000 in
set_option maxHeartbeats 4000000 in
theorem J_22 {g : Gl} {nc ns : Nat} {i : Int32} {μ : Mem} (hsc : ScI g i) (h : J9 μ) (h1 : nc ≤ 50000) (h2 : ns ≤ 500000) (hK : ∀ K μ', K ≤ 5 → J9 μ' → WL g (nc + K) (ns + 6 * K) 23 [(0, .ref 2000), (1, .ref 0), (2, .ref 140), (3, .ref 154), (4, .int (i + (6 : Int32)))] [] μ') : WL g nc ns 1424 [(0, .ref 2000), (1, .ref 0), (2, .ref 140), (3, .ref 154), (4, .int i)] [] μ := by
  obtain ⟨w, n, r, V, h⟩ := h
  refine v_LAW_22 ⟨sc_in hsc (k := 1) (by decide), sc_in hsc (k := 2) (by decide), ?_⟩
  refine isT_of (rmL (by decide +kernel) (by omega) (by omega)) (L_kept (C_kept h.1 (RC_HK1 (e3 := 9) (b_kept _ _ _) fun μ1 e1 c1 => ?_)))
  have j1 : JX (outm fJ (q_kept w (gX g (nx (i + (1 : Int32)))) (gX g (nx (i + (2 : Int32))))) μ1) w n r V := JW_outm (JW_C h e1 c1)
  exact oI ⟨sc_in hsc (k := 1) (by decide), sc_in hsc (k := 2) (by decide), isT_of (rmL (by decide +kernel) (by omega) (by omega)) (M_kept j1.2.1 fun μ3 e3 t3 m3 => oI (tail9 (by omega) (by omega) (Nat.le_succ_of_le (b_kept _ _ _)) t3 (fun hz => (rdL1 e3 rfl).trans (outm_L hz)) (hK 2 μ3 (by decide) ⟨w, n, r, V, JW_M j1 e3 m3⟩)))⟩
theorem b_seats (w : WD) (a : Int32) (b : Int32) (c : Int32) (d : Int32) : (q_seats w a b c d).1 ≤ 1 := by
  unfold q_seats
  repeat first | exact Nat.zero_le _ | exact Nat.le_refl _ | exact (by decide : 1 ≤ 2) | exact gdx_le (by decide) (fun _ => Nat.zero_le _) | (refine gdx_le (by decide) fun _ => ?_) | (refine ite_le ?_ ?_)
set_option maxRecDepth 100000 in
set_option maxHeartbeats 4000000 in
theorem J_23 {g : Gl} {nc ns : Nat} {i : Int32} {μ : Mem} (hsc : ScI g i) (h : J9 μ) (h1 : nc ≤ 50000) (h2 : ns ≤ 500000) (hK : ∀ K μ', K ≤ 5 → J9 μ' → WL g (nc + K) (ns + 6 * K) 23 [(0, .ref 2000), (1, .ref 0), (2, .ref 140), (3, .ref 154), (4, .int (i + (6 : Int32)))] [] μ') : WL g nc ns 1492 [(0, .ref 2000), (1, .ref 0), (2, .ref 140), (3, .ref 154), (4, .int i)] [] μ := by
  obtain ⟨w, n, r, V, h⟩ := h
  refine v_LAW_23 ⟨sc_in hsc (k := 1) (by decide), sc_in hsc (k := 2) (by decide), sc_in hsc (k := 3) (by decide), sc_in hsc (k := 4) (by decide), fun z => ?_, fun z => ?_⟩
  · refine isT_of (rmL (by decide +kernel) (by omega) (by omega)) (L_seats (C_seats h.1 (RC_HK1 (e3 := 9) (b_seats _ _ _ _ _) fun μ1 e1 c1 => ?_)))
    have j1 : JX (outm fJ (q_seats w (gX g (nx (i + (1 : Int32)))) (gX g (nx (i + (2 : Int32)))) (gX g (nx (i + (3 : Int32)))) (0 : Int32)) μ1) w n r V := JW_outm (JW_C h e1 c1)
    exact oI ⟨sc_in hsc (k := 1) (by decide), sc_in hsc (k := 2) (by decide), sc_in hsc (k := 3) (by decide), sc_in hsc (k := 4) (by decide), fun _ => isT_of (rmL (by decide +kernel) (by omega) (by omega)) (M_seats j1.2.1 fun μ3 e3 t3 m3 => oI (tail9 (by omega) (by omega) (Nat.le_succ_of_le (b_seats _ _ _ _ _)) t3 (fun hz => (rdL1 e3 rfl).trans (outm_L hz)) (hK 3 μ3 (by decide) ⟨w, n, r, V, JW_M j1 e3 m3⟩))), fun z9 => absurd z z9⟩
  · refine isT_of (rmL (by decide +kernel) (by omega) (by omega)) (L_seats (C_seats h.1 (RC_HK1 (e3 := 9) (b_seats _ _ _ _ _) fun μ1 e1 c1 => ?_)))
    have j1 : JX (outm fJ (q_seats w (gX g (nx (i + (1 : Int32)))) (gX g (nx (i + (2 : Int32)))) (gX g (nx (i + (3 : Int32)))) (1 : Int32)) μ1) w n r V := JW_outm (JW_C h e1 c1)
    exact oI ⟨sc_in hsc (k := 1) (by decide), sc_in hsc (k := 2) (by decide), sc_in hsc (k := 3) (by decide), sc_in hsc (k := 4) (by decide), fun z9 => absurd z9 z, fun _ => isT_of (rmL (by decide +kernel) (by omega) (by omega)) (M_seats j1.2.1 fun μ3 e3 t3 m3 => oI (tail9 (by omega) (by omega) (Nat.le_succ_of_le (b_seats _ _ _ _ _)) t3 (fun hz => (rdL1 e3 rfl).trans (outm_L hz)) (hK 3 μ3 (by decide) ⟨w, n, r, V, JW_M j1 e3 m3⟩)))⟩
set_option maxRecDepth 100000 in
set_option maxHeartbeats 4000000 in
theorem J_25 {g : Gl} {nc ns : Nat} {i : Int32} {μ : Mem} (hsc : ScI g i) (h : J9 μ) (h1 : nc ≤ 50000) (h2 : ns ≤ 500000) (hK : ∀ K μ', K ≤ 5 → J9 μ' → WL g (nc + K) (ns + 6 * K) 23 [(0, .ref 2000), (1, .ref 0), (2, .ref 140), (3, .ref 154), (4, .int (i + (6 : Int32)))] [] μ') : WL g nc ns 1655 [(0, .ref 2000), (1, .ref 0), (2, .ref 140), (3, .ref 154), (4, .int i)] [] μ := by
  obtain ⟨w, n, r, V, h⟩ := h
  refine v_LAW_25 (isT_of (rmL (by decide +kernel) (by omega) (by omega)) (C_exam h.1 fun μ1 e1 c1 => ?_))
  exact oI (isT_of (rmL (by decide +kernel) (by omega) (by omega)) (M_exam (JW_C h e1 c1).2.1 fun μ3 e3 t3 m3 => oI ⟨fun _ => hK 0 μ3 (by decide) ⟨w, n, r, V, JW_M (JW_C h e1 c1) e3 m3⟩, fun hn => absurd rfl hn⟩))
set_option maxRecDepth 100000 in
set_option maxHeartbeats 4000000 in
theorem J_26 {g : Gl} {nc ns : Nat} {i : Int32} {μ : Mem} (hsc : ScI g i) (h : J9 μ) (h1 : nc ≤ 50000) (h2 : ns ≤ 500000) (hK : ∀ K μ', K ≤ 5 → J9 μ' → WL g (nc + K) (ns + 6 * K) 23 [(0, .ref 2000), (1, .ref 0), (2, .ref 140), (3, .ref 154), (4, .int (i + (6 : Int32)))] [] μ') : WL g nc ns 1668 [(0, .ref 2000), (1, .ref 0), (2, .ref 140), (3, .ref 154), (4, .int i)] [] μ := by
  obtain ⟨w, n, r, V, h⟩ := h
  refine v_LAW_26 (isT_of (rmL (by decide +kernel) (by omega) (by omega)) (C_last h.1 fun μ1 e1 c1 => ?_))
  exact oI (isT_of (rmL (by decide +kernel) (by omega) (by omega)) (M_last (JW_C h e1 c1).2.1 fun μ3 e3 t3 m3 => oI ⟨fun _ => hK 0 μ3 (by decide) ⟨w, n, r, V, JW_M (JW_C h e1 c1) e3 m3⟩, fun hn => absurd rfl hn⟩))
theorem b_alike (w : WD) (a : Int32) (b : Int32) : (q_alike w a b).1 ≤ 2 := by
  unfold q_alike
  repeat first | exact Nat.zero_le _ | exact Nat.le_refl _ | exact (by decide : 1 ≤ 2) | exact gdx_le (by decide) (fun _ => Nat.zero_le _) | (refine gdx_le (by decide) fun _ => ?_) | (refine ite_le ?_ ?_)
set_option maxRecDepth 100000 in
set_option maxHeartbeats 4000000 in
theorem J_27 {g : Gl} {nc ns : Nat} {i : Int32} {μ : Mem} (hsc : ScI g i) (h : J9 μ) (h1 : nc ≤ 50000) (h2 : ns ≤ 500000) (hK : ∀ K μ', K ≤ 5 → J9 μ' → WL g (nc + K) (ns + 6 * K) 23 [(0, .ref 2000), (1, .ref 0), (2, .ref 140), (3, .ref 154), (4, .int (i + (6 : Int32)))] [] μ') : WL g nc ns 1681 [(0, .ref 2000), (1, .ref 0), (2, .ref 140), (3, .ref 154), (4, .int i)] [] μ := by
  obtain ⟨w, n, r, V, h⟩ := h
  refine v_LAW_27 ⟨sc_in hsc (k := 1) (by decide), sc_in hsc (k := 2) (by decide), ?_⟩
  refine isT_of (rmL (by decide +kernel) (by omega) (by omega)) (L_alike (C_alike h.1 (RC_HK (by decide) (b_alike _ _ _) fun μ1 e1 c1 => ?_)))
  have j1 : JX (outm fJ (q_alike w (gX g (nx (i + (1 : Int32)))) (gX g (nx (i + (2 : Int32))))) μ1) w n r V := JW_outm (JW_C h e1 c1)
  exact oI ⟨sc_in hsc (k := 1) (by decide), sc_in hsc (k := 2) (by decide), isT_of (rmL (by decide +kernel) (by omega) (by omega)) (M_alike j1.2.1 fun μ3 e3 t3 m3 => oI (tail9 (by omega) (by omega) (b_alike _ _ _) t3 (fun hz => (rdL1 e3 rfl).trans (outm_L hz)) (hK 3 μ3 (by decide) ⟨w, n, r, V, JW_M j1 e3 m3⟩)))⟩
theorem b_ask (w : WD) (a : Int32) (b : Int32) : (q_ask w a b).1 ≤ 2 := by
  unfold q_ask
  repeat first | exact Nat.zero_le _ | exact Nat.le_refl _ | exact (by decide : 1 ≤ 2) | exact gdx_le (by decide) (fun _ => Nat.zero_le _) | (refine gdx_le (by decide) fun _ => ?_) | (refine ite_le ?_ ?_)
set_option maxRecDepth 100000 in
set_option maxHeartbeats 4000000 in
theorem J_28 {g : Gl} {nc ns : Nat} {i : Int32} {μ : Mem} (hsc : ScI g i) (h : J9 μ) (h1 : nc ≤ 50000) (h2 : ns ≤ 500000) (hK : ∀ K μ', K ≤ 5 → J9 μ' → WL g (nc + K) (ns + 6 * K) 23 [(0, .ref 2000), (1, .ref 0), (2, .ref 140), (3, .ref 154), (4, .int (i + (6 : Int32)))] [] μ') : WL g nc ns 1749 [(0, .ref 2000), (1, .ref 0), (2, .ref 140), (3, .ref 154), (4, .int i)] [] μ := by
  obtain ⟨w, n, r, V, h⟩ := h
  refine v_LAW_28 ⟨sc_in hsc (k := 1) (by decide), sc_in hsc (k := 2) (by decide), ?_⟩
  refine isT_of (rmL (by decide +kernel) (by omega) (by omega)) (L_ask (C_ask h.1 (RC_HK (by decide) (b_ask _ _ _) fun μ1 e1 c1 => ?_)))
  have j1 : JX (outm fJ (q_ask w (gX g (nx (i + (1 : Int32)))) (gX g (nx (i + (2 : Int32))))) μ1) w n r V := JW_outm (JW_C h e1 c1)
  exact oI ⟨sc_in hsc (k := 1) (by decide), sc_in hsc (k := 2) (by decide), isT_of (rmL (by decide +kernel) (by omega) (by omega)) (M_ask j1.2.1 fun μ3 e3 t3 m3 => oI (tail9 (by omega) (by omega) (b_ask _ _ _) t3 (fun hz => (rdL1 e3 rfl).trans (outm_L hz)) (hK 3 μ3 (by decide) ⟨w, n, r, V, JW_M j1 e3 m3⟩)))⟩
set_option maxRecDepth 100000 in
set_option maxHeartbeats 4000000 in
theorem J_29 {g : Gl} {nc ns : Nat} {i : Int32} {μ : Mem} (hsc : ScI g i) (h : J9 μ) (h1 : nc ≤ 50000) (h2 : ns ≤ 500000) (hK : ∀ K μ', K ≤ 5 → J9 μ' → WL g (nc + K) (ns + 6 * K) 23 [(0, .ref 2000), (1, .ref 0), (2, .ref 140), (3, .ref 154), (4, .int (i + (6 : Int32)))] [] μ') : WL g nc ns 1817 [(0, .ref 2000), (1, .ref 0), (2, .ref 140), (3, .ref 154), (4, .int i)] [] μ := by
  obtain ⟨w, n, r, V, h⟩ := h
  refine v_LAW_29 ⟨sc_in hsc (k := 1) (by decide), fun z => isT_of (rmL (by decide +kernel) (by omega) (by omega)) (C_groups h.1 fun μ1 e1 c1 => ?_), fun z => isT_of (rmL (by decide +kernel) (by omega) (by omega)) (C_groups h.1 fun μ1 e1 c1 => ?_)⟩
  · exact oI ⟨sc_in hsc (k := 1) (by decide), fun _ => isT_of (rmL (by decide +kernel) (by omega) (by omega)) (M_groups (JW_C h e1 c1).2.1 fun μ3 e3 t3 m3 => oI ⟨fun _ => hK 0 μ3 (by decide) ⟨w, n, r, V, JW_M (JW_C h e1 c1) e3 m3⟩, fun hn => absurd rfl hn⟩), fun z9 => absurd z z9⟩
  · exact oI ⟨sc_in hsc (k := 1) (by decide), fun z9 => absurd z9 z, fun _ => isT_of (rmL (by decide +kernel) (by omega) (by omega)) (M_groups (JW_C h e1 c1).2.1 fun μ3 e3 t3 m3 => oI ⟨fun _ => hK 0 μ3 (by decide) ⟨w, n, r, V, JW_M (JW_C h e1 c1) e3 m3⟩, fun hn => absurd rfl hn⟩)⟩
theorem b_keeps (w : WD) (a : Int32) (b : Int32) : (q_keeps w a b).1 ≤ 2 := by
  unfold q_keeps
  repeat first | exact Nat.zero_le _ | exact Nat.le_refl _ | exact (by decide : 1 ≤ 2) | exact gdx_le (by decide) (fun _ => Nat.zero_le _) | (refine gdx_le (by decide) fun _ => ?_) | (refine ite_le ?_ ?_)
set_option maxRecDepth 100000 in
set_option maxHeartbeats 4000000 in
theorem J_30 {g : Gl} {nc ns : Nat} {i : Int32} {μ : Mem} (hsc : ScI g i) (h : J9 μ) (h1 : nc ≤ 50000) (h2 : ns ≤ 500000) (hK : ∀ K μ', K ≤ 5 → J9 μ' → WL g (nc + K) (ns + 6 * K) 23 [(0, .ref 2000), (1, .ref 0), (2, .ref 140), (3, .ref 154), (4, .int (i + (6 : Int32)))] [] μ') : WL g nc ns 1858 [(0, .ref 2000), (1, .ref 0), (2, .ref 140), (3, .ref 154), (4, .int i)] [] μ := by
  obtain ⟨w, n, r, V, h⟩ := h
  refine v_LAW_30 ⟨sc_in hsc (k := 1) (by decide), sc_in hsc (k := 2) (by decide), ?_⟩
  refine isT_of (rmL (by decide +kernel) (by omega) (by omega)) (L_keeps (C_keeps h.1 (RC_HK (by decide) (b_keeps _ _ _) fun μ1 e1 c1 => ?_)))
  have j1 : JX (outm fB (q_keeps w (gX g (nx (i + (1 : Int32)))) (gX g (nx (i + (2 : Int32))))) μ1) w n r V := JW_outm (JW_C h e1 c1)
  exact oI ⟨sc_in hsc (k := 1) (by decide), sc_in hsc (k := 2) (by decide), isT_of (rmL (by decide +kernel) (by omega) (by omega)) (M_keeps j1.2.1 fun μ3 e3 t3 m3 => oI (tail9b (by omega) (by omega) (b_keeps _ _ _) t3 (fun hz => (rdL1 e3 rfl).trans (outm_L hz)) (hK 3 μ3 (by decide) ⟨w, n, r, V, JW_M j1 e3 m3⟩)))⟩
theorem b_margin (w : WD) (a : Int32) (b : Int32) : (q_margin w a b).1 ≤ 2 := by
  unfold q_margin
  repeat first | exact Nat.zero_le _ | exact Nat.le_refl _ | exact (by decide : 1 ≤ 2) | exact gdx_le (by decide) (fun _ => Nat.zero_le _) | (refine gdx_le (by decide) fun _ => ?_) | (refine ite_le ?_ ?_)
set_option maxRecDepth 100000 in
set_option maxHeartbeats 4000000 in
theorem J_31 {g : Gl} {nc ns : Nat} {i : Int32} {μ : Mem} (hsc : ScI g i) (h : J9 μ) (h1 : nc ≤ 50000) (h2 : ns ≤ 500000) (hK : ∀ K μ', K ≤ 5 → J9 μ' → WL g (nc + K) (ns + 6 * K) 23 [(0, .ref 2000), (1, .ref 0), (2, .ref 140), (3, .ref 154), (4, .int (i + (6 : Int32)))] [] μ') : WL g nc ns 1933 [(0, .ref 2000), (1, .ref 0), (2, .ref 140), (3, .ref 154), (4, .int i)] [] μ := by
  obtain ⟨w, n, r, V, h⟩ := h
  refine v_LAW_31 ⟨sc_in hsc (k := 1) (by decide), sc_in hsc (k := 2) (by decide), ?_⟩
  refine isT_of (rmL (by decide +kernel) (by omega) (by omega)) (L_margin (C_margin h.1 (RC_HK (by decide) (b_margin _ _ _) fun μ1 e1 c1 => ?_)))
  have j1 : JX (outm fJ (q_margin w (gX g (nx (i + (1 : Int32)))) (gX g (nx (i + (2 : Int32))))) μ1) w n r V := JW_outm (JW_C h e1 c1)
  exact oI ⟨sc_in hsc (k := 1) (by decide), sc_in hsc (k := 2) (by decide), isT_of (rmL (by decide +kernel) (by omega) (by omega)) (M_margin j1.2.1 fun μ3 e3 t3 m3 => oI (tail9 (by omega) (by omega) (b_margin _ _ _) t3 (fun hz => (rdL1 e3 rfl).trans (outm_L hz)) (hK 3 μ3 (by decide) ⟨w, n, r, V, JW_M j1 e3 m3⟩)))⟩
theorem b_call (w : WD) (a : Int32) (b : Int32) : (q_call w a b).1 ≤ 1 := by
  unfold q_call
  repeat first | exact Nat.zero_le _ | exact Nat.le_refl _ | exact (by decide : 1 ≤ 2) | exact gdx_le (by decide) (fun _ => Nat.zero_le _) | (refine gdx_le (by decide) fun _ => ?_) | (refine ite_le ?_ ?_)
set_option maxRecDepth 100000 in
set_option maxHeartbeats 4000000 in
theorem J_32 {g : Gl} {nc ns : Nat} {i : Int32} {μ : Mem} (hsc : ScI g i) (h : J9 μ) (h1 : nc ≤ 50000) (h2 : ns ≤ 500000) (hK : ∀ K μ', K ≤ 5 → J9 μ' → WL g (nc + K) (ns + 6 * K) 23 [(0, .ref 2000), (1, .ref 0), (2, .ref 140), (3, .ref 154), (4, .int (i + (6 : Int32)))] [] μ') : WL g nc ns 2001 [(0, .ref 2000), (1, .ref 0), (2, .ref 140), (3, .ref 154), (4, .int i)] [] μ := by
  obtain ⟨w, n, r, V, h⟩ := h
  refine v_LAW_32 ⟨sc_in hsc (k := 1) (by decide), sc_in hsc (k := 2) (by decide), fun z => ?_, fun z => ?_⟩
  · refine isT_of (rmL (by decide +kernel) (by omega) (by omega)) (L_call (C_call h.1 (RC_HK1 (e3 := 9) (b_call _ _ _) fun μ1 e1 c1 => ?_)))
    have j1 : JX (outm fJ (q_call w (gX g (nx (i + (1 : Int32)))) (0 : Int32)) μ1) w n r V := JW_outm (JW_C h e1 c1)
    exact oI ⟨sc_in hsc (k := 1) (by decide), sc_in hsc (k := 2) (by decide), fun _ => isT_of (rmL (by decide +kernel) (by omega) (by omega)) (M_call j1.2.1 fun μ3 e3 t3 m3 => oI (tail9 (by omega) (by omega) (Nat.le_succ_of_le (b_call _ _ _)) t3 (fun hz => (rdL1 e3 rfl).trans (outm_L hz)) (hK 1 μ3 (by decide) ⟨w, n, r, V, JW_M j1 e3 m3⟩))), fun z9 => absurd z z9⟩
  · refine isT_of (rmL (by decide +kernel) (by omega) (by omega)) (L_call (C_call h.1 (RC_HK1 (e3 := 9) (b_call _ _ _) fun μ1 e1 c1 => ?_)))
    have j1 : JX (outm fJ (q_call w (gX g (nx (i + (1 : Int32)))) (1 : Int32)) μ1) w n r V := JW_outm (JW_C h e1 c1)
    exact oI ⟨sc_in hsc (k := 1) (by decide), sc_in hsc (k := 2) (by decide), fun z9 => absurd z9 z, fun _ => isT_of (rmL (by decide +kernel) (by omega) (by omega)) (M_call j1.2.1 fun μ3 e3 t3 m3 => oI (tail9 (by omega) (by omega) (Nat.le_succ_of_le (b_call _ _ _)) t3 (fun hz => (rdL1 e3 rfl).trans (outm_L hz)) (hK 1 μ3 (by decide) ⟨w, n, r, V, JW_M j1 e3 m3⟩)))⟩
theorem b_trial (w : WD) (a : Int32) (b : Int32) : (q_trial w a b).1 ≤ 2 := by
  unfold q_trial
  repeat first | exact Nat.zero_le _ | exact Nat.le_refl _ | exact (by decide : 1 ≤ 2) | exact gdx_le (by decide) (fun _ => Nat.zero_le _) | (refine gdx_le (by decide) fun _ => ?_) | (refine ite_le ?_ ?_)
set_option maxRecDepth 100000 in
set_option maxHeartbeats 4000000 in
theorem J_33 {g : Gl} {nc ns : Nat} {i : Int32} {μ : Mem} (hsc : ScI g i) (h : J9 μ) (h1 : nc ≤ 50000) (h2 : ns ≤ 500000) (hK : ∀ K μ', K ≤ 5 → J9 μ' → WL g (nc + K) (ns + 6 * K) 23 [(0, .ref 2000), (1, .ref 0), (2, .ref 140), (3, .ref 154), (4, .int (i + (6 : Int32)))] [] μ') : WL g nc ns 2085 [(0, .ref 2000), (1, .ref 0), (2, .ref 140), (3, .ref 154), (4, .int i)] [] μ := by
  obtain ⟨w, n, r, V, h⟩ := h
  refine v_LAW_33 ⟨sc_in hsc (k := 1) (by decide), sc_in hsc (k := 2) (by decide), ?_⟩
  refine isT_of (rmL (by decide +kernel) (by omega) (by omega)) (L_trial (C_trial h.1 (RC_HK (by decide) (b_trial _ _ _) fun μ1 e1 c1 => ?_)))
  have j1 : JX (outm fJ (q_trial w (gX g (nx (i + (1 : Int32)))) (gX g (nx (i + (2 : Int32))))) μ1) w n r V := JW_outm (JW_C h e1 c1)
  exact oI ⟨sc_in hsc (k := 1) (by decide), sc_in hsc (k := 2) (by decide), isT_of (rmL (by decide +kernel) (by omega) (by omega)) (M_trial j1.2.1 fun μ3 e3 t3 m3 => oI (tail9 (by omega) (by omega) (b_trial _ _ _) t3 (fun hz => (rdL1 e3 rfl).trans (outm_L hz)) (hK 2 μ3 (by decide) ⟨w, n, r, V, JW_M j1 e3 m3⟩)))⟩
theorem b_span (w : WD) (a : Int32) (b : Int32) : (q_span w a b).1 ≤ 1 := by
  unfold q_span
  repeat first | exact Nat.zero_le _ | exact Nat.le_refl _ | exact (by decide : 1 ≤ 2) | exact gdx_le (by decide) (fun _ => Nat.zero_le _) | (refine gdx_le (by decide) fun _ => ?_) | (refine ite_le ?_ ?_)
set_option maxRecDepth 100000 in
set_option maxHeartbeats 4000000 in
theorem J_34 {g : Gl} {nc ns : Nat} {i : Int32} {μ : Mem} (hsc : ScI g i) (h : J9 μ) (h1 : nc ≤ 50000) (h2 : ns ≤ 500000) (hK : ∀ K μ', K ≤ 5 → J9 μ' → WL g (nc + K) (ns + 6 * K) 23 [(0, .ref 2000), (1, .ref 0), (2, .ref 140), (3, .ref 154), (4, .int (i + (6 : Int32)))] [] μ') : WL g nc ns 2153 [(0, .ref 2000), (1, .ref 0), (2, .ref 140), (3, .ref 154), (4, .int i)] [] μ := by
  obtain ⟨w, n, r, V, h⟩ := h
  refine v_LAW_34 ⟨sc_in hsc (k := 1) (by decide), sc_in hsc (k := 2) (by decide), fun z => ?_, fun z => ?_⟩
  · refine isT_of (rmL (by decide +kernel) (by omega) (by omega)) (L_span (C_span h.1 (RC_HK1 (e3 := 9) (b_span _ _ _) fun μ1 e1 c1 => ?_)))
    have j1 : JX (outm fJ (q_span w (gX g (nx (i + (1 : Int32)))) (0 : Int32)) μ1) w n r V := JW_outm (JW_C h e1 c1)
    exact oI ⟨sc_in hsc (k := 1) (by decide), sc_in hsc (k := 2) (by decide), fun _ => isT_of (rmL (by decide +kernel) (by omega) (by omega)) (M_span j1.2.1 fun μ3 e3 t3 m3 => oI (tail9 (by omega) (by omega) (Nat.le_succ_of_le (b_span _ _ _)) t3 (fun hz => (rdL1 e3 rfl).trans (outm_L hz)) (hK 1 μ3 (by decide) ⟨w, n, r, V, JW_M j1 e3 m3⟩))), fun z9 => absurd z z9⟩
  · refine isT_of (rmL (by decide +kernel) (by omega) (by omega)) (L_span (C_span h.1 (RC_HK1 (e3 := 9) (b_span _ _ _) fun μ1 e1 c1 => ?_)))
    have j1 : JX (outm fJ (q_span w (gX g (nx (i + (1 : Int32)))) (1 : Int32)) μ1) w n r V := JW_outm (JW_C h e1 c1)
    exact oI ⟨sc_in hsc (k := 1) (by decide), sc_in hsc (k := 2) (by decide), fun z9 => absurd z9 z, fun _ => isT_of (rmL (by decide +kernel) (by omega) (by omega)) (M_span j1.2.1 fun μ3 e3 t3 m3 => oI (tail9 (by omega) (by omega) (Nat.le_succ_of_le (b_span _ _ _)) t3 (fun hz => (rdL1 e3 rfl).trans (outm_L hz)) (hK 1 μ3 (by decide) ⟨w, n, r, V, JW_M j1 e3 m3⟩)))⟩
theorem b_how (w : WD) (a : Int32) (b : Int32) : (q_how w a b).1 ≤ 1 := by
  unfold q_how
  repeat first | exact Nat.zero_le _ | exact Nat.le_refl _ | exact (by decide : 1 ≤ 2) | exact gdx_le (by decide) (fun _ => Nat.zero_le _) | (refine gdx_le (by decide) fun _ => ?_) | (refine ite_le ?_ ?_)
set_option maxRecDepth 100000 in
set_option maxHeartbeats 4000000 in
theorem J_35 {g : Gl} {nc ns : Nat} {i : Int32} {μ : Mem} (hsc : ScI g i) (h : J9 μ) (h1 : nc ≤ 50000) (h2 : ns ≤ 500000) (hK : ∀ K μ', K ≤ 5 → J9 μ' → WL g (nc + K) (ns + 6 * K) 23 [(0, .ref 2000), (1, .ref 0), (2, .ref 140), (3, .ref 154), (4, .int (i + (6 : Int32)))] [] μ') : WL g nc ns 2237 [(0, .ref 2000), (1, .ref 0), (2, .ref 140), (3, .ref 154), (4, .int i)] [] μ := by
  obtain ⟨w, n, r, V, h⟩ := h
  refine v_LAW_35 ⟨sc_in hsc (k := 1) (by decide), sc_in hsc (k := 2) (by decide), ?_⟩
  refine isT_of (rmL (by decide +kernel) (by omega) (by omega)) (L_how (C_how h.1 (RC_HK1 (e3 := 9) (b_how _ _ _) fun μ1 e1 c1 => ?_)))
  have j1 : JX (outm fJ (q_how w (gX g (nx (i + (1 : Int32)))) (gX g (nx (i + (2 : Int32))))) μ1) w n r V := JW_outm (JW_C h e1 c1)
  exact oI ⟨sc_in hsc (k := 1) (by decide), sc_in hsc (k := 2) (by decide), isT_of (rmL (by decide +kernel) (by omega) (by omega)) (M_how j1.2.1 fun μ3 e3 t3 m3 => oI (tail9 (by omega) (by omega) (Nat.le_succ_of_le (b_how _ _ _)) t3 (fun hz => (rdL1 e3 rfl).trans (outm_L hz)) (hK 2 μ3 (by decide) ⟨w, n, r, V, JW_M j1 e3 m3⟩)))⟩
set_option maxRecDepth 100000 in
set_option maxHeartbeats 4000000 in
theorem J_36 {g : Gl} {nc ns : Nat} {i : Int32} {μ : Mem} (hsc : ScI g i) (h : J9 μ) (h1 : nc ≤ 50000) (h2 : ns ≤ 500000) (hK : ∀ K μ', K ≤ 5 → J9 μ' → WL g (nc + K) (ns + 6 * K) 23 [(0, .ref 2000), (1, .ref 0), (2, .ref 140), (3, .ref 154), (4, .int (i + (6 : Int32)))] [] μ') : WL g nc ns 2305 [(0, .ref 2000), (1, .ref 0), (2, .ref 140), (3, .ref 154), (4, .int i)] [] μ := by
  obtain ⟨w, n, r, V, h⟩ := h
  refine v_LAW_36 (isT_of (rmL (by decide +kernel) (by omega) (by omega)) (C_teacher h.1 fun μ1 e1 c1 => ?_))
  exact oI (isT_of (rmL (by decide +kernel) (by omega) (by omega)) (M_teacher (JW_C h e1 c1).2.1 fun μ3 e3 t3 m3 => oI ⟨fun _ => hK 0 μ3 (by decide) ⟨w, n, r, V, JW_M (JW_C h e1 c1) e3 m3⟩, fun hn => absurd rfl hn⟩))
theorem b_chain (w : WD) (a : Int32) (b : Int32) (c : Int32) : (q_chain w a b c).1 ≤ 1 := by
  unfold q_chain
  repeat first | exact Nat.zero_le _ | exact Nat.le_refl _ | exact (by decide : 1 ≤ 2) | exact gdx_le (by decide) (fun _ => Nat.zero_le _) | (refine gdx_le (by decide) fun _ => ?_) | (refine ite_le ?_ ?_)
set_option maxRecDepth 100000 in
set_option maxHeartbeats 4000000 in
theorem J_37 {g : Gl} {nc ns : Nat} {i : Int32} {μ : Mem} (hsc : ScI g i) (h : J9 μ) (h1 : nc ≤ 50000) (h2 : ns ≤ 500000) (hK : ∀ K μ', K ≤ 5 → J9 μ' → WL g (nc + K) (ns + 6 * K) 23 [(0, .ref 2000), (1, .ref 0), (2, .ref 140), (3, .ref 154), (4, .int (i + (6 : Int32)))] [] μ') : WL g nc ns 2318 [(0, .ref 2000), (1, .ref 0), (2, .ref 140), (3, .ref 154), (4, .int i)] [] μ := by
  obtain ⟨w, n, r, V, h⟩ := h
  refine v_LAW_37 ⟨sc_in hsc (k := 1) (by decide), sc_in hsc (k := 2) (by decide), sc_in hsc (k := 3) (by decide), fun z => ?_, fun z => ?_⟩
  · refine isT_of (rmL (by decide +kernel) (by omega) (by omega)) (L_chain (C_chain h.1 (RC_HK1 (e3 := 9) (b_chain _ _ _ _) fun μ1 e1 c1 => ?_)))
    have j1 : JX (outm fJ (q_chain w (gX g (nx (i + (1 : Int32)))) (gX g (nx (i + (2 : Int32)))) (0 : Int32)) μ1) w n r V := JW_outm (JW_C h e1 c1)
    exact oI ⟨sc_in hsc (k := 1) (by decide), sc_in hsc (k := 2) (by decide), sc_in hsc (k := 3) (by decide), fun _ => isT_of (rmL (by decide +kernel) (by omega) (by omega)) (M_chain j1.2.1 fun μ3 e3 t3 m3 => oI (tail9 (by omega) (by omega) (Nat.le_succ_of_le (b_chain _ _ _ _)) t3 (fun hz => (rdL1 e3 rfl).trans (outm_L hz)) (hK 2 μ3 (by decide) ⟨w, n, r, V, JW_M j1 e3 m3⟩))), fun z9 => absurd z z9⟩
  · refine isT_of (rmL (by decide +kernel) (by omega) (by omega)) (L_chain (C_chain h.1 (RC_HK1 (e3 := 9) (b_chain _ _ _ _) fun μ1 e1 c1 => ?_)))
    have j1 : JX (outm fJ (q_chain w (gX g (nx (i + (1 : Int32)))) (gX g (nx (i + (2 : Int32)))) (1 : Int32)) μ1) w n r V := JW_outm (JW_C h e1 c1)
    exact oI ⟨sc_in hsc (k := 1) (by decide), sc_in hsc (k := 2) (by decide), sc_in hsc (k := 3) (by decide), fun z9 => absurd z9 z, fun _ => isT_of (rmL (by decide +kernel) (by omega) (by omega)) (M_chain j1.2.1 fun μ3 e3 t3 m3 => oI (tail9 (by omega) (by omega) (Nat.le_succ_of_le (b_chain _ _ _ _)) t3 (fun hz => (rdL1 e3 rfl).trans (outm_L hz)) (hK 2 μ3 (by decide) ⟨w, n, r, V, JW_M j1 e3 m3⟩)))⟩
theorem b_spot (w : WD) (a : Int32) (b : Int32) (c : Int32) (d : Int32) : (q_spot w a b c d).1 ≤ 2 := by
  unfold q_spot
  repeat first | exact Nat.zero_le _ | exact Nat.le_refl _ | exact (by decide : 1 ≤ 2) | exact gdx_le (by decide) (fun _ => Nat.zero_le _) | (refine gdx_le (by decide) fun _ => ?_) | (refine ite_le ?_ ?_)
set_option maxRecDepth 100000 in
set_option maxHeartbeats 4000000 in
theorem J_38 {g : Gl} {nc ns : Nat} {i : Int32} {μ : Mem} (hsc : ScI g i) (h : J9 μ) (h1 : nc ≤ 50000) (h2 : ns ≤ 500000) (hK : ∀ K μ', K ≤ 5 → J9 μ' → WL g (nc + K) (ns + 6 * K) 23 [(0, .ref 2000), (1, .ref 0), (2, .ref 140), (3, .ref 154), (4, .int (i + (6 : Int32)))] [] μ') : WL g nc ns 2414 [(0, .ref 2000), (1, .ref 0), (2, .ref 140), (3, .ref 154), (4, .int i)] [] μ := by
  obtain ⟨w, n, r, V, h⟩ := h
  refine v_LAW_38 ⟨sc_in hsc (k := 1) (by decide), sc_in hsc (k := 2) (by decide), sc_in hsc (k := 3) (by decide), sc_in hsc (k := 4) (by decide), ?_⟩
  refine isT_of (rmL (by decide +kernel) (by omega) (by omega)) (L_spot (C_spot h.1 h.2.2.1 (RC_HK (by decide) (b_spot _ _ _ _ _) fun μ1 e1 c1 => ?_)))
  have j1 : JX (outm fJ (q_spot w (gX g (nx (i + (1 : Int32)))) (gX g (nx (i + (2 : Int32)))) (gX g (nx (i + (3 : Int32)))) (gX g (nx (i + (4 : Int32))))) μ1) w n r V := JW_outm (JW_C h e1 c1)
  exact oI ⟨sc_in hsc (k := 1) (by decide), sc_in hsc (k := 2) (by decide), sc_in hsc (k := 3) (by decide), sc_in hsc (k := 4) (by decide), isT_of (rmL (by decide +kernel) (by omega) (by omega)) (M_spot j1.2.1 j1.2.2.1 fun μ3 e3 t3 m3 => oI (tail9 (by omega) (by omega) (b_spot _ _ _ _ _) t3 (fun hz => (rdL1 e3 rfl).trans (outm_L hz)) (hK 5 μ3 (by decide) ⟨w, n, r, V, JW_M j1 e3 m3⟩)))⟩
theorem b_speakers (w : WD) (a : Int32) : (q_speakers w a).1 ≤ 1 := by
  unfold q_speakers
  repeat first | exact Nat.zero_le _ | exact Nat.le_refl _ | exact (by decide : 1 ≤ 2) | exact gdx_le (by decide) (fun _ => Nat.zero_le _) | (refine gdx_le (by decide) fun _ => ?_) | (refine ite_le ?_ ?_)
set_option maxRecDepth 100000 in
set_option maxHeartbeats 4000000 in
theorem J_39 {g : Gl} {nc ns : Nat} {i : Int32} {μ : Mem} (hsc : ScI g i) (h : J9 μ) (h1 : nc ≤ 50000) (h2 : ns ≤ 500000) (hK : ∀ K μ', K ≤ 5 → J9 μ' → WL g (nc + K) (ns + 6 * K) 23 [(0, .ref 2000), (1, .ref 0), (2, .ref 140), (3, .ref 154), (4, .int (i + (6 : Int32)))] [] μ') : WL g nc ns 2506 [(0, .ref 2000), (1, .ref 0), (2, .ref 140), (3, .ref 154), (4, .int i)] [] μ := by
  obtain ⟨w, n, r, V, h⟩ := h
  refine v_LAW_39 ⟨sc_in hsc (k := 1) (by decide), ?_⟩
  refine isT_of (rmL (by decide +kernel) (by omega) (by omega)) (L_speakers (C_speakers h.1 (RC_HK1 (e3 := 9) (b_speakers _ _) fun μ1 e1 c1 => ?_)))
  have j1 : JX (outm fJ (q_speakers w (gX g (nx (i + (1 : Int32))))) μ1) w n r V := JW_outm (JW_C h e1 c1)
  exact oI ⟨sc_in hsc (k := 1) (by decide), isT_of (rmL (by decide +kernel) (by omega) (by omega)) (M_speakers j1.2.1 fun μ3 e3 t3 m3 => oI (tail9 (by omega) (by omega) (Nat.le_succ_of_le (b_speakers _ _)) t3 (fun hz => (rdL1 e3 rfl).trans (outm_L hz)) (hK 1 μ3 (by decide) ⟨w, n, r, V, JW_M j1 e3 m3⟩)))⟩
theorem b_between (w : WD) (a : Int32) (b : Int32) : (q_between w a b).1 ≤ 2 := by
  unfold q_between
  repeat first | exact Nat.zero_le _ | exact Nat.le_refl _ | exact (by decide : 1 ≤ 2) | exact gdx_le (by decide) (fun _ => Nat.zero_le _) | (refine gdx_le (by decide) fun _ => ?_) | (refine ite_le ?_ ?_)
set_option maxRecDepth 100000 in
set_option maxHeartbeats 4000000 in
theorem J_40 {g : Gl} {nc ns : Nat} {i : Int32} {μ : Mem} (hsc : ScI g i) (h : J9 μ) (h1 : nc ≤ 50000) (h2 : ns ≤ 500000) (hK : ∀ K μ', K ≤ 5 → J9 μ' → WL g (nc + K) (ns + 6 * K) 23 [(0, .ref 2000), (1, .ref 0), (2, .ref 140), (3, .ref 154), (4, .int (i + (6 : Int32)))] [] μ') : WL g nc ns 2562 [(0, .ref 2000), (1, .ref 0), (2, .ref 140), (3, .ref 154), (4, .int i)] [] μ := by
  obtain ⟨w, n, r, V, h⟩ := h
  refine v_LAW_40 ⟨sc_in hsc (k := 1) (by decide), sc_in hsc (k := 2) (by decide), ?_⟩
  refine isT_of (rmL (by decide +kernel) (by omega) (by omega)) (L_between (C_between h.1 (RC_HK (by decide) (b_between _ _ _) fun μ1 e1 c1 => ?_)))
  have j1 : JX (outm fJ (q_between w (gX g (nx (i + (1 : Int32)))) (gX g (nx (i + (2 : Int32))))) μ1) w n r V := JW_outm (JW_C h e1 c1)
  exact oI ⟨sc_in hsc (k := 1) (by decide), sc_in hsc (k := 2) (by decide), isT_of (rmL (by decide +kernel) (by omega) (by omega)) (M_between j1.2.1 fun μ3 e3 t3 m3 => oI (tail9 (by omega) (by omega) (b_between _ _ _) t3 (fun hz => (rdL1 e3 rfl).trans (outm_L hz)) (hK 3 μ3 (by decide) ⟨w, n, r, V, JW_M j1 e3 m3⟩)))⟩
theorem b_echo (w : WD) (a : Int32) (b : Int32) (c : Int32) (d : Int32) : (q_echo w a b c d).1 ≤ 1 := by
  unfold q_echo
  repeat first | exact Nat.zero_le _ | exact Nat.le_refl _ | exact (by decide : 1 ≤ 2) | exact gdx_le (by decide) (fun _ => Nat.zero_le _) | (refine gdx_le (by decide) fun _ => ?_) | (refine ite_le ?_ ?_)
set_option maxRecDepth 100000 in
set_option maxHeartbeats 4000000 in
theorem J_41 {g : Gl} {nc ns : Nat} {i : Int32} {μ : Mem} (hsc : ScI g i) (h : J9 μ) (h1 : nc ≤ 50000) (h2 : ns ≤ 500000) (hK : ∀ K μ', K ≤ 5 → J9 μ' → WL g (nc + K) (ns + 6 * K) 23 [(0, .ref 2000), (1, .ref 0), (2, .ref 140), (3, .ref 154), (4, .int (i + (6 : Int32)))] [] μ') : WL g nc ns 2630 [(0, .ref 2000), (1, .ref 0), (2, .ref 140), (3, .ref 154), (4, .int i)] [] μ := by
  obtain ⟨w, n, r, V, h⟩ := h
  refine v_LAW_41 ⟨sc_in hsc (k := 1) (by decide), sc_in hsc (k := 2) (by decide), sc_in hsc (k := 3) (by decide), sc_in hsc (k := 4) (by decide), fun z => ?_, fun z => ?_⟩
  · refine isT_of (rmL (by decide +kernel) (by omega) (by omega)) (L_echo (C_echo h.1 (RC_HK1 (e3 := 9) (b_echo _ _ _ _ _) fun μ1 e1 c1 => ?_)))
    have j1 : JX (outm fJ (q_echo w (gX g (nx (i + (1 : Int32)))) (gX g (nx (i + (2 : Int32)))) (gX g (nx (i + (3 : Int32)))) (0 : Int32)) μ1) w n r V := JW_outm (JW_C h e1 c1)
    exact oI ⟨sc_in hsc (k := 1) (by decide), sc_in hsc (k := 2) (by decide), sc_in hsc (k := 3) (by decide), sc_in hsc (k := 4) (by decide), fun _ => isT_of (rmL (by decide +kernel) (by omega) (by omega)) (M_echo j1.2.1 fun μ3 e3 t3 m3 => oI (tail9 (by omega) (by omega) (Nat.le_succ_of_le (b_echo _ _ _ _ _)) t3 (fun hz => (rdL1 e3 rfl).trans (outm_L hz)) (hK 3 μ3 (by decide) ⟨w, n, r, V, JW_M j1 e3 m3⟩))), fun z9 => absurd z z9⟩
  · refine isT_of (rmL (by decide +kernel) (by omega) (by omega)) (L_echo (C_echo h.1 (RC_HK1 (e3 := 9) (b_echo _ _ _ _ _) fun μ1 e1 c1 => ?_)))
    have j1 : JX (outm fJ (q_echo w (gX g (nx (i + (1 : Int32)))) (gX g (nx (i + (2 : Int32)))) (gX g (nx (i + (3 : Int32)))) (1 : Int32)) μ1) w n r V := JW_outm (JW_C h e1 c1)
    exact oI ⟨sc_in hsc (k := 1) (by decide), sc_in hsc (k := 2) (by decide), sc_in hsc (k := 3) (by decide), sc_in hsc (k := 4) (by decide), fun z9 => absurd z9 z, fun _ => isT_of (rmL (by decide +kernel) (by omega) (by omega)) (M_echo j1.2.1 fun μ3 e3 t3 m3 => oI (tail9 (by omega) (by omega) (Nat.le_succ_of_le (b_echo _ _ _ _ _)) t3 (fun hz => (rdL1 e3 rfl).trans (outm_L hz)) (hK 3 μ3 (by decide) ⟨w, n, r, V, JW_M j1 e3 m3⟩)))⟩
theorem b_learnt (w : WD) (a : Int32) (b : Int32) : (q_learnt w a b).1 ≤ 1 := by
  unfold q_learnt
  repeat first | exact Nat.zero_le _ | exact Nat.le_refl _ | exact (by decide : 1 ≤ 2) | exact gdx_le (by decide) (fun _ => Nat.zero_le _) | (refine gdx_le (by decide) fun _ => ?_) | (refine ite_le ?_ ?_)
set_option maxRecDepth 100000 in
set_option maxHeartbeats 4000000 in
theorem J_42 {g : Gl} {nc ns : Nat} {i : Int32} {μ : Mem} (hsc : ScI g i) (h : J9 μ) (h1 : nc ≤ 50000) (h2 : ns ≤ 500000) (hK : ∀ K μ', K ≤ 5 → J9 μ' → WL g (nc + K) (ns + 6 * K) 23 [(0, .ref 2000), (1, .ref 0), (2, .ref 140), (3, .ref 154), (4, .int (i + (6 : Int32)))] [] μ') : WL g nc ns 2738 [(0, .ref 2000), (1, .ref 0), (2, .ref 140), (3, .ref 154), (4, .int i)] [] μ := by
  obtain ⟨w, n, r, V, h⟩ := h
  refine v_LAW_42 ⟨sc_in hsc (k := 1) (by decide), sc_in hsc (k := 2) (by decide), ?_⟩
  refine isT_of (rmL (by decide +kernel) (by omega) (by omega)) (L_learnt (C_learnt h.1 (RC_HK1 (e3 := 9) (b_learnt _ _ _) fun μ1 e1 c1 => ?_)))
  have j1 : JX (outm fJ (q_learnt w (gX g (nx (i + (1 : Int32)))) (gX g (nx (i + (2 : Int32))))) μ1) w n r V := JW_outm (JW_C h e1 c1)
  exact oI ⟨sc_in hsc (k := 1) (by decide), sc_in hsc (k := 2) (by decide), isT_of (rmL (by decide +kernel) (by omega) (by omega)) (M_learnt j1.2.1 fun μ3 e3 t3 m3 => oI (tail9 (by omega) (by omega) (Nat.le_succ_of_le (b_learnt _ _ _)) t3 (fun hz => (rdL1 e3 rfl).trans (outm_L hz)) (hK 1 μ3 (by decide) ⟨w, n, r, V, JW_M j1 e3 m3⟩)))⟩
theorem b_log (w : WD) (a : Int32) (b : Int32) : (q_log w a b).1 ≤ 1 := by
  unfold q_log
  repeat first | exact Nat.zero_le _ | exact Nat.le_refl _ | exact (by decide : 1 ≤ 2) | exact gdx_le (by decide) (fun _ => Nat.zero_le _) | (refine gdx_le (by decide) fun _ => ?_) | (refine ite_le ?_ ?_)
set_option maxRecDepth 100000 in
set_option maxHeartbeats 4000000 in
theorem J_43 {g : Gl} {nc ns : Nat} {i : Int32} {μ : Mem} (hsc : ScI g i) (h : J9 μ) (h1 : nc ≤ 50000) (h2 : ns ≤ 500000) (hK : ∀ K μ', K ≤ 5 → J9 μ' → WL g (nc + K) (ns + 6 * K) 23 [(0, .ref 2000), (1, .ref 0), (2, .ref 140), (3, .ref 154), (4, .int (i + (6 : Int32)))] [] μ') : WL g nc ns 2806 [(0, .ref 2000), (1, .ref 0), (2, .ref 140), (3, .ref 154), (4, .int i)] [] μ := by
  obtain ⟨w, n, r, V, h⟩ := h
  refine v_LAW_43 ⟨sc_in hsc (k := 1) (by decide), sc_in hsc (k := 2) (by decide), ?_⟩
  refine isT_of (rmL (by decide +kernel) (by omega) (by omega)) (L_log (C_log h.1 (RC_HK1 (e3 := 9) (b_log _ _ _) fun μ1 e1 c1 => ?_)))
  have j1 : JX (outm fJ (q_log w (gX g (nx (i + (1 : Int32)))) (gX g (nx (i + (2 : Int32))))) μ1) w n r V := JW_outm (JW_C h e1 c1)
  exact oI ⟨sc_in hsc (k := 1) (by decide), sc_in hsc (k := 2) (by decide), isT_of (rmL (by decide +kernel) (by omega) (by omega)) (M_log j1.2.1 fun μ3 e3 t3 m3 => oI (tail9 (by omega) (by omega) (Nat.le_succ_of_le (b_log _ _ _)) t3 (fun hz => (rdL1 e3 rfl).trans (outm_L hz)) (hK 1 μ3 (by decide) ⟨w, n, r, V, JW_M j1 e3 m3⟩)))⟩
