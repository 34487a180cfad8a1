/-! the law's cases: acts, by program (wip/whole/gen_case.py) -/
set_option maxRecDepth 100000 in
set_option maxHeartbeats 4000000 in
theorem J_12 {g : Gl} {nc ns : Nat} {i : Int32} {μ : Mem} (hsc : ScI g i) (h : J9 μ) (h1 : nc ≤ 50000) (h2 : ns ≤ 500000) (hK : ∀ K μ', K ≤ 5 → J9 μ' → WL g (nc + K) (ns + 6 * K) 23 [(0, .ref 2000), (1, .ref 0), (2, .ref 140), (3, .ref 154), (4, .int (i + (6 : Int32)))] [] μ') : WL g nc ns 937 [(0, .ref 2000), (1, .ref 0), (2, .ref 140), (3, .ref 154), (4, .int i)] [] μ := by
  obtain ⟨w, n, r, V, h⟩ := h
  have ac := h.2.2.2.2.2.1
  have am := h.2.2.2.2.2.2.1
  have kx : ACK 2 w (a_say w (gX g (nx (i + (1 : Int32)))) (gX g (nx (i + (2 : Int32)))) (gX g (nx (i + (3 : Int32))))) := k_say h.1.2
  refine v_LAW_12 ⟨sc_in hsc (k := 1) (by decide), sc_in hsc (k := 2) (by decide), sc_in hsc (k := 3) (by decide), ?_⟩
  refine isT_of (rmL (by decide +kernel) (by omega) (by omega)) (L_say (C_say h.1 ac (EC_HK (by decide) kx.1 fun μ1 f1 c1 => ?_)))
  have m2 : MW (outm fJ (a_say w (gX g (nx (i + (1 : Int32)))) (gX g (nx (i + (2 : Int32)))) (gX g (nx (i + (3 : Int32))))).1 μ1) w := MW_z outm_O (fun _ => rfl) rfl (MW_F f1 h.2.1)
  have a2 : ACTM (outm fJ (a_say w (gX g (nx (i + (1 : Int32)))) (gX g (nx (i + (2 : Int32)))) (gX g (nx (i + (3 : Int32))))).1 μ1) r V := ACTM_J (Lz_up zO_J outm_O) (ACTM_F f1 am)
  exact oI ⟨sc_in hsc (k := 1) (by decide), sc_in hsc (k := 2) (by decide), sc_in hsc (k := 3) (by decide), isT_of (rmL (by decide +kernel) (by omega) (by omega)) (M_say ac.1 m2 a2 fun μ3 e3 t3 m3 => oI (tail9 (by omega) (by omega) kx.1 t3 (fun hz => (rdL1 e3 rfl).trans (outm_L hz)) (hK 4 μ3 (by decide) (act_J h kx f1 c1 outm_O e3 m3))))⟩
set_option maxRecDepth 100000 in
set_option maxHeartbeats 4000000 in
theorem J_13 {g : Gl} {nc ns : Nat} {i : Int32} {μ : Mem} (hsc : ScI g i) (h : J9 μ) (h1 : nc ≤ 50000) (h2 : ns ≤ 500000) (hK : ∀ K μ', K ≤ 5 → J9 μ' → WL g (nc + K) (ns + 6 * K) 23 [(0, .ref 2000), (1, .ref 0), (2, .ref 140), (3, .ref 154), (4, .int (i + (6 : Int32)))] [] μ') : WL g nc ns 1017 [(0, .ref 2000), (1, .ref 0), (2, .ref 140), (3, .ref 154), (4, .int i)] [] μ := by
  obtain ⟨w, n, r, V, h⟩ := h
  have ac := h.2.2.2.2.2.1
  have am := h.2.2.2.2.2.2.1
  have kx : ACK 1 w (a_think w (gX g (nx (i + (1 : Int32))))) := k_think h.1.2
  refine v_LAW_13 ⟨sc_in hsc (k := 1) (by decide), ?_⟩
  refine isT_of (rmL (by decide +kernel) (by omega) (by omega)) (L_think (C_think h.1 ac (EC_HK1 (e3 := 9) kx.1 fun μ1 f1 c1 => ?_)))
  have m2 : MW (outm fJ (a_think w (gX g (nx (i + (1 : Int32))))).1 μ1) w := MW_z outm_O (fun _ => rfl) rfl (MW_F f1 h.2.1)
  have a2 : ACTM (outm fJ (a_think w (gX g (nx (i + (1 : Int32))))).1 μ1) r V := ACTM_J (Lz_up zO_J outm_O) (ACTM_F f1 am)
  exact oI ⟨sc_in hsc (k := 1) (by decide), isT_of (rmL (by decide +kernel) (by omega) (by omega)) (M_think ac.1 m2 a2 fun μ3 e3 t3 m3 => oI (tail9 (by omega) (by omega) (Nat.le_succ_of_le kx.1) t3 (fun hz => (rdL1 e3 rfl).trans (outm_L hz)) (hK 1 μ3 (by decide) (act_J h kx f1 c1 outm_O e3 m3))))⟩
set_option maxRecDepth 100000 in
set_option maxHeartbeats 4000000 in
theorem J_14 {g : Gl} {nc ns : Nat} {i : Int32} {μ : Mem} (hsc : ScI g i) (h : J9 μ) (h1 : nc ≤ 50000) (h2 : ns ≤ 500000) (hK : ∀ K μ', K ≤ 5 → J9 μ' → WL g (nc + K) (ns + 6 * K) 23 [(0, .ref 2000), (1, .ref 0), (2, .ref 140), (3, .ref 154), (4, .int (i + (6 : Int32)))] [] μ') : WL g nc ns 1073 [(0, .ref 2000), (1, .ref 0), (2, .ref 140), (3, .ref 154), (4, .int i)] [] μ := by
  obtain ⟨w, n, r, V, h⟩ := h
  have ac := h.2.2.2.2.2.1
  have am := h.2.2.2.2.2.2.1
  refine v_LAW_14 ⟨sc_in hsc (k := 1) (by decide), sc_in hsc (k := 2) (by decide), fun z => ?_, fun z => ?_⟩
  · have kx : ACK 1 w (a_away w (gX g (nx (i + (1 : Int32)))) false) := k_away h.1.2
    refine isT_of (rmL (by decide +kernel) (by omega) (by omega)) (L_away (C_away (d := false) h.1 ac (EC_HK1 (e3 := 9) kx.1 fun μ1 f1 c1 => ?_)))
    have m2 : MW (outm fB (a_away w (gX g (nx (i + (1 : Int32)))) false).1 μ1) w := MW_z outm_O (fun _ => rfl) rfl (MW_F f1 h.2.1)
    have a2 : ACTM (outm fB (a_away w (gX g (nx (i + (1 : Int32)))) false).1 μ1) r V := ACTM_J (Lz_up zO_J outm_O) (ACTM_F f1 am)
    exact oI ⟨sc_in hsc (k := 1) (by decide), sc_in hsc (k := 2) (by decide), fun _ => isT_of (rmL (by decide +kernel) (by omega) (by omega)) (M_away (d := false) ac.1 m2 a2 fun μ3 e3 t3 m3 => oI (tail9b (by omega) (by omega) (Nat.le_succ_of_le kx.1) t3 (fun hz => (rdL1 e3 rfl).trans (outm_L hz)) (hK 1 μ3 (by decide) (act_J h kx f1 c1 outm_O e3 m3)))), fun z9 => absurd z z9⟩
  · have kx : ACK 1 w (a_away w (gX g (nx (i + (1 : Int32)))) true) := k_away h.1.2
    refine isT_of (rmL (by decide +kernel) (by omega) (by omega)) (L_away (C_away (d := true) h.1 ac (EC_HK1 (e3 := 9) kx.1 fun μ1 f1 c1 => ?_)))
    have m2 : MW (outm fB (a_away w (gX g (nx (i + (1 : Int32)))) true).1 μ1) w := MW_z outm_O (fun _ => rfl) rfl (MW_F f1 h.2.1)
    have a2 : ACTM (outm fB (a_away w (gX g (nx (i + (1 : Int32)))) true).1 μ1) r V := ACTM_J (Lz_up zO_J outm_O) (ACTM_F f1 am)
    exact oI ⟨sc_in hsc (k := 1) (by decide), sc_in hsc (k := 2) (by decide), fun z9 => absurd z9 z, fun _ => isT_of (rmL (by decide +kernel) (by omega) (by omega)) (M_away (d := true) ac.1 m2 a2 fun μ3 e3 t3 m3 => oI (tail9b (by omega) (by omega) (Nat.le_succ_of_le kx.1) t3 (fun hz => (rdL1 e3 rfl).trans (outm_L hz)) (hK 1 μ3 (by decide) (act_J h kx f1 c1 outm_O e3 m3))))⟩
set_option maxRecDepth 100000 in
set_option maxHeartbeats 4000000 in
theorem J_15 {g : Gl} {nc ns : Nat} {i : Int32} {μ : Mem} (hsc : ScI g i) (h : J9 μ) (h1 : nc ≤ 50000) (h2 : ns ≤ 500000) (hK : ∀ K μ', K ≤ 5 → J9 μ' → WL g (nc + K) (ns + 6 * K) 23 [(0, .ref 2000), (1, .ref 0), (2, .ref 140), (3, .ref 154), (4, .int (i + (6 : Int32)))] [] μ') : WL g nc ns 1164 [(0, .ref 2000), (1, .ref 0), (2, .ref 140), (3, .ref 154), (4, .int i)] [] μ := by
  obtain ⟨w, n, r, V, h⟩ := h
  have ac := h.2.2.2.2.2.1
  have am := h.2.2.2.2.2.2.1
  have kx : ACK 2 w (a_change w (gX g (nx (i + (1 : Int32)))) (gX g (nx (i + (2 : Int32))))) := k_change h.1.2
  refine v_LAW_15 ⟨sc_in hsc (k := 1) (by decide), sc_in hsc (k := 2) (by decide), ?_⟩
  refine isT_of (rmL (by decide +kernel) (by omega) (by omega)) (L_change (C_change h.1 ac (EC_HK (by decide) kx.1 fun μ1 f1 c1 => ?_)))
  have m2 : MW (outm fJ (a_change w (gX g (nx (i + (1 : Int32)))) (gX g (nx (i + (2 : Int32))))).1 μ1) w := MW_z outm_O (fun _ => rfl) rfl (MW_F f1 h.2.1)
  have a2 : ACTM (outm fJ (a_change w (gX g (nx (i + (1 : Int32)))) (gX g (nx (i + (2 : Int32))))).1 μ1) r V := ACTM_J (Lz_up zO_J outm_O) (ACTM_F f1 am)
  exact oI ⟨sc_in hsc (k := 1) (by decide), sc_in hsc (k := 2) (by decide), isT_of (rmL (by decide +kernel) (by omega) (by omega)) (M_change ac.1 m2 a2 fun μ3 e3 t3 m3 => oI (tail9 (by omega) (by omega) kx.1 t3 (fun hz => (rdL1 e3 rfl).trans (outm_L hz)) (hK 3 μ3 (by decide) (act_J h kx f1 c1 outm_O e3 m3))))⟩
set_option maxRecDepth 100000 in
set_option maxHeartbeats 4000000 in
theorem J_17 {g : Gl} {nc ns : Nat} {i : Int32} {μ : Mem} (hsc : ScI g i) (h : J9 μ) (h1 : nc ≤ 50000) (h2 : ns ≤ 500000) (hK : ∀ K μ', K ≤ 5 → J9 μ' → WL g (nc + K) (ns + 6 * K) 23 [(0, .ref 2000), (1, .ref 0), (2, .ref 140), (3, .ref 154), (4, .int (i + (6 : Int32)))] [] μ') : WL g nc ns 1245 [(0, .ref 2000), (1, .ref 0), (2, .ref 140), (3, .ref 154), (4, .int i)] [] μ := by
  obtain ⟨w, n, r, V, h⟩ := h
  have ac := h.2.2.2.2.2.1
  have am := h.2.2.2.2.2.2.1
  have kx : ACK 1 w (a_term w (gX g (nx (i + (1 : Int32))))) := k_term h.1.2
  refine v_LAW_17 ⟨sc_in hsc (k := 1) (by decide), ?_⟩
  refine isT_of (rmL (by decide +kernel) (by omega) (by omega)) (L_term (C_term h.1 ac (EC_HK1 (e3 := 9) kx.1 fun μ1 f1 c1 => ?_)))
  have m2 : MW (outm fJ (a_term w (gX g (nx (i + (1 : Int32))))).1 μ1) w := MW_z outm_O (fun _ => rfl) rfl (MW_F f1 h.2.1)
  have a2 : ACTM (outm fJ (a_term w (gX g (nx (i + (1 : Int32))))).1 μ1) r V := ACTM_J (Lz_up zO_J outm_O) (ACTM_F f1 am)
  exact oI ⟨sc_in hsc (k := 1) (by decide), isT_of (rmL (by decide +kernel) (by omega) (by omega)) (M_term ac.1 m2 a2 fun μ3 e3 t3 m3 => oI (tail9 (by omega) (by omega) (Nat.le_succ_of_le kx.1) t3 (fun hz => (rdL1 e3 rfl).trans (outm_L hz)) (hK 1 μ3 (by decide) (act_J h kx f1 c1 outm_O e3 m3))))⟩
set_option maxRecDepth 100000 in
set_option maxHeartbeats 4000000 in
theorem J_16 {g : Gl} {nc ns : Nat} {i : Int32} {μ : Mem} (hsc : ScI g i) (h : J9 μ) (h1 : nc ≤ 50000) (h2 : ns ≤ 500000) (hK : ∀ K μ', K ≤ 5 → J9 μ' → WL g (nc + K) (ns + 6 * K) 23 [(0, .ref 2000), (1, .ref 0), (2, .ref 140), (3, .ref 154), (4, .int (i + (6 : Int32)))] [] μ') : WL g nc ns 1232 [(0, .ref 2000), (1, .ref 0), (2, .ref 140), (3, .ref 154), (4, .int i)] [] μ := by
  obtain ⟨w, n, r, V, h⟩ := h
  have ac := h.2.2.2.2.2.1
  have am := h.2.2.2.2.2.2.1
  have kx : ACK 0 w (a_day w) := k_day h.1.2
  refine v_LAW_16 (isT_of (rmL (by decide +kernel) (by omega) (by omega)) (C_day h.1 ac fun μ1 f1 c1 => ?_))
  exact oI (isT_of (rmL (by decide +kernel) (by omega) (by omega)) (M_day ac.1 (MW_F f1 h.2.1) (ACTM_F f1 am) fun μ3 e3 t3 m3 => oI ⟨fun _ => hK 0 μ3 (by decide) (act_J h kx f1 c1 rfl e3 m3), fun hn => absurd rfl hn⟩))
