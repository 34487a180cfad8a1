/-! the law's cases that stand alone (wip/whole/gen_spc.py) -/
theorem JX_new {μ μ' : Mem} {w w' : WD} {n r : Nat} {V : Nat → WD} (h : JX μ w n r V) (e : Lz zJ μ' = Lz zJ μ) (c : CI μ' w') (m : MW μ' w') (s : STP w w') : JX μ' w' n r V := by
  obtain ⟨-, -, h3, h4, h5, h6, h7, h8, h9⟩ := h
  exact ⟨c, m, s.2.2 h3, TPE_J e h4, IMG_J e h5, ACTC_J e h6, ACTM_J e h7, PST_st h8 s.1 s.2.1, by rw [rdI e (k := 2) (fun _ => rfl), rdI e (k := 147) (fun _ => rfl)]; exact h9⟩
theorem STP_sd {w : WD} {a : Int32} (hp : pe w ≤ 10) : STP w (sdW w a) :=
  STP_ag (fun j h5 h8 h => upd_n h8) (DS_10 hp (congrArg nx (show upd w.1 8 a 1 = w.1 1 from upd_n (by decide))) fun p c h1 h2 => (show upd w.1 8 a (19 + 6 * p + c) = w.1 (19 + 6 * p + c) from upd_n (by omega)))
def zTT (k j : Nat) : Bool := Nat.beq k 2 || ((Nat.beq k 1 && Nat.ble 1 j) || ((Nat.ble 147 k && Nat.ble k 148) || (Nat.beq k 140 && (Nat.beq j 0 || (Nat.ble 14 j && Nat.ble j 19)))))
theorem zTp_T {μ μ' : Mem} (e : Lz zTp μ' = Lz zTp μ) : Lz zTT μ' = Lz zTT μ := Lz_up (fun k j h => by
  unfold zTp at h; unfold zTT
  simp only [Bool.or_eq_true, Bool.and_eq_true, Nat.ble_eq, Nat.beq_eq] at h ⊢
  omega) e
theorem zTm_T {μ μ' : Mem} (e : Lz zTm μ' = Lz zTm μ) : Lz zTT μ' = Lz zTT μ := Lz_up (fun k j h => by
  unfold zTm at h; unfold zTT
  simp only [Bool.or_eq_true, Bool.and_eq_true, Nat.ble_eq, Nat.beq_eq] at h ⊢
  omega) e
section TTX
variable {μ μ' : Mem} {w : WD} {n r k : Nat} {V : Nat → WD}
theorem CI_lT : CI (Lz zTT μ) w ↔ CI μ w := Iff.rfl
theorem IMG_lT : IMG (Lz zTT μ) ↔ IMG μ := Iff.rfl
theorem ACTM_lT : ACTM (Lz zTT μ) r V ↔ ACTM μ r V := Iff.rfl
theorem JX_T (h : JX μ w n r V) (e : Lz zTT μ' = Lz zTT μ) (t : TPE k μ') (s : mI μ' 2 = mI μ' 147) : JX μ' w k r V := by
  obtain ⟨c0, m0, d0, -, i0, a0, b0, p0, -⟩ := h
  refine ⟨CI_lT.mp (by rw [e]; exact c0), MW_z e (fun _ => rfl) rfl m0, d0, t, IMG_lT.mp (by rw [e]; exact i0), ACTC_z e rfl (fun a j h1 h2 => b_no fun q => ?_) a0, ACTM_lT.mp (by rw [e]; exact b0), p0, s⟩
  unfold zTT at q
  simp only [Bool.or_eq_true, Bool.and_eq_true, Nat.ble_eq, Nat.beq_eq] at q
  omega
end TTX
theorem fd_byt {f : Nat → Int32} {n : Nat} {x : Nat → Int32} {i : Nat} (h : byt (f i)) : byt (fdR f n x i) := by
  unfold fdR
  split
  · exact byt_8 _
  · exact h
theorem sI_rd {μ : Mem} {k j a b : Nat} {x : Int32} (h : ¬ (a = k ∧ b = j)) : mI (sI μ k j x) a b = mI μ a b := by
  by_cases e : a = k
  · subst e; exact mI_other (fun z => h ⟨rfl, z⟩)
  · exact mI_ne e
set_option maxRecDepth 100000 in
set_option maxHeartbeats 4000000 in
theorem J_4 {g : Gl} {nc ns : Nat} {i : Int32} {μ : Mem} (hsc : ScI g i) (h : J9 μ) (h1 : nc ≤ 50000) (h2 : ns ≤ 500000) (hK : ∀ K μ', K ≤ 5 → J9 μ' → WL g (nc + K) (ns + 6 * K) 23 [(0, .ref 2000), (1, .ref 0), (2, .ref 140), (3, .ref 154), (4, .int (i + (6 : Int32)))] [] μ') : WL g nc ns 438 [(0, .ref 2000), (1, .ref 0), (2, .ref 140), (3, .ref 154), (4, .int i)] [] μ := by
  obtain ⟨w, n, r, V, h⟩ := h
  have ac := h.2.2.2.2.2.1
  have am := h.2.2.2.2.2.2.1
  have tp := h.2.2.2.1
  have p10 := (wf_pe h.1.2.1).2
  refine v_LAW_4 (isT_of (rmL (by decide +kernel) (by omega) (by omega)) (C_fault (oI (isT_of (rmL (by decide +kernel) (by omega) (by omega)) (M_fault (oI ⟨fun _ => hK 0 _ (by decide) ⟨w, n, r, V, JW_0 h⟩, fun hn => absurd ?_ hn⟩))))))
  exact tp.2.2.2.1
set_option maxRecDepth 100000 in
set_option maxHeartbeats 4000000 in
theorem J_8 {g : Gl} {nc ns : Nat} {i : Int32} {μ : Mem} (hsc : ScI g i) (h : J9 μ) (h1 : nc ≤ 50000) (h2 : ns ≤ 500000) (hK : ∀ K μ', K ≤ 5 → J9 μ' → WL g (nc + K) (ns + 6 * K) 23 [(0, .ref 2000), (1, .ref 0), (2, .ref 140), (3, .ref 154), (4, .int (i + (6 : Int32)))] [] μ') : WL g nc ns 655 [(0, .ref 2000), (1, .ref 0), (2, .ref 140), (3, .ref 154), (4, .int i)] [] μ := by
  obtain ⟨w, n, r, V, h⟩ := h
  have ac := h.2.2.2.2.2.1
  have am := h.2.2.2.2.2.2.1
  have tp := h.2.2.2.1
  have p10 := (wf_pe h.1.2.1).2
  exact v_LAW_8 (isT_of (rmL (by decide +kernel) (by omega) (by omega)) (C_store h.1 (oL (isT_of (rmL (by decide +kernel) (by omega) (by omega)) (M_store h.2.1 (oL ⟨fun _ => hK 0 _ (by decide) ⟨w, n, r, V, JW_0 h⟩, fun hn => absurd (lgc0 rfl) hn⟩))))))
set_option maxRecDepth 100000 in
set_option maxHeartbeats 4000000 in
theorem J_44 {g : Gl} {nc ns : Nat} {i : Int32} {μ : Mem} (hsc : ScI g i) (h : J9 μ) (h1 : nc ≤ 50000) (h2 : ns ≤ 500000) (hK : ∀ K μ', K ≤ 5 → J9 μ' → WL g (nc + K) (ns + 6 * K) 23 [(0, .ref 2000), (1, .ref 0), (2, .ref 140), (3, .ref 154), (4, .int (i + (6 : Int32)))] [] μ') : WL g nc ns 2874 [(0, .ref 2000), (1, .ref 0), (2, .ref 140), (3, .ref 154), (4, .int i)] [] μ := by
  obtain ⟨w, n, r, V, h⟩ := h
  have ac := h.2.2.2.2.2.1
  have am := h.2.2.2.2.2.2.1
  have tp := h.2.2.2.1
  have p10 := (wf_pe h.1.2.1).2
  refine v_LAW_44 ⟨sc_in hsc (k := 1) (by decide), isT_of (rmL (by decide +kernel) (by omega) (by omega)) (C_seed h.1 fun c1 => oI ⟨sc_in hsc (k := 1) (by decide), isT_of (rmL (by decide +kernel) (by omega) (by omega)) (M_seed (MW_z (z := zQ) (Lz_I rfl) (fun _ => rfl) rfl h.2.1) fun m2 => oI ⟨fun _ => hK 0 _ (by decide) ⟨sdW w (gX g (nx (i + (1 : Int32)))), n, r, V, ?_⟩, fun hn => absurd rfl hn⟩)⟩)⟩
  have eM : ∀ ν : Mem, Lz zLs (sI (sI ν 140 0 0) 141 8 (gX g (nx (i + (1 : Int32))))) = Lz zLs ν := fun ν => (Lz_I rfl).trans (Lz_I rfl)
  exact JX_new h ((Lz_up zLs_J (eM _)).trans (Lz_up zQ_J (Lz_I rfl))) (CI_hi (eM _) zLs_hi c1) m2 (STP_sd p10)
set_option maxRecDepth 100000 in
set_option maxHeartbeats 4000000 in
theorem J_48 {g : Gl} {nc ns : Nat} {i : Int32} {μ : Mem} (hsc : ScI g i) (h : J9 μ) (h1 : nc ≤ 50000) (h2 : ns ≤ 500000) (hK : ∀ K μ', K ≤ 5 → J9 μ' → WL g (nc + K) (ns + 6 * K) 23 [(0, .ref 2000), (1, .ref 0), (2, .ref 140), (3, .ref 154), (4, .int (i + (6 : Int32)))] [] μ') : WL g nc ns 2936 [(0, .ref 2000), (1, .ref 0), (2, .ref 140), (3, .ref 154), (4, .int i)] [] μ := by
  obtain ⟨w, n, r, V, h⟩ := h
  have ac := h.2.2.2.2.2.1
  have am := h.2.2.2.2.2.2.1
  have tp := h.2.2.2.1
  have p10 := (wf_pe h.1.2.1).2
  exact v_LAW_48 ⟨sc_in hsc (k := 1) (by decide), isT_of (rmL (by decide +kernel) (by omega) (by omega)) (C_count h.1 ac.2.1 (oI ⟨sc_in hsc (k := 1) (by decide), isT_of (rmL (by decide +kernel) (by omega) (by omega)) (M_count h.2.1 am.1 (oI ⟨fun _ => hK 0 _ (by decide) ⟨w, n, r, V, JW_0 h⟩, fun hn => absurd rfl hn⟩))⟩))⟩
set_option maxRecDepth 100000 in
set_option maxHeartbeats 4000000 in
theorem J_1 {g : Gl} {nc ns : Nat} {i : Int32} {μ : Mem} (hsc : ScI g i) (h : J9 μ) (h1 : nc ≤ 50000) (h2 : ns ≤ 500000) (hK : ∀ K μ', K ≤ 5 → J9 μ' → WL g (nc + K) (ns + 6 * K) 23 [(0, .ref 2000), (1, .ref 0), (2, .ref 140), (3, .ref 154), (4, .int (i + (6 : Int32)))] [] μ') : WL g nc ns 325 [(0, .ref 2000), (1, .ref 0), (2, .ref 140), (3, .ref 154), (4, .int i)] [] μ := by
  obtain ⟨w, n, r, V, h⟩ := h
  have ac := h.2.2.2.2.2.1
  have am := h.2.2.2.2.2.2.1
  have tp := h.2.2.2.1
  have p10 := (wf_pe h.1.2.1).2
  obtain ⟨t1, t2, t3, t4, t5⟩ := tp
  refine v_LAW_1 ⟨sc_in hsc (k := 1) (by decide), isT_of (rmL (by decide +kernel) (by omega) (by omega)) (C_end t1 t2 (fun e0 => oI ⟨sc_in hsc (k := 1) (by decide), isT_of (rmL (by decide +kernel) (by omega) (by omega)) (M_end t1 t3 (fun _ => oI ⟨fun _ => hK 0 _ (by decide) ⟨w, n, r, V, JW_0 h⟩, fun hn => absurd rfl hn⟩) fun k hk e1 => absurd (e0.symm.trans e1) (fun z => nomatch z))⟩) fun k hk e1 => oI ⟨sc_in hsc (k := 1) (by decide), isT_of (rmL (by decide +kernel) (by omega) (by omega)) (M_end t1 (by rw [sI_rd (by omega)]; exact t3) (fun e0 => absurd (e0.symm.trans e1) (fun z => nomatch z)) fun k2 hk2 e2 => oI ⟨fun _ => hK 0 _ (by decide) ⟨w, k, r, V, ?_⟩, fun hn => absurd rfl hn⟩)⟩)⟩
  cases (Option.some.inj (e1.symm.trans e2))
  refine JX_T h ((Lz_I rfl).trans ((Lz_I rfl).trans (Lz_I rfl))) ⟨by omega, ?_, ?_, ?_, fun i9 hi => ?_⟩ ?_
  · rw [sI_rd (by omega), sI_rd (by omega), mI_self]
  · rw [mI_self]
  · rw [sI_rd (by omega), sI_rd (by omega), sI_rd (by omega), sI_rd (by omega), sI_rd (by omega), sI_rd (by omega)]; exact t4
  · rw [sI_rd (by omega), sI_rd (by omega), sI_rd (by omega), sI_rd (by omega), sI_rd (by omega), sI_rd (by omega)]; exact t5 i9 hi
  · funext j
    rw [sI_rd (by omega), sI_rd (by omega), sI_rd (by omega), sI_rd (by omega), sI_rd (by omega), sI_rd (by omega), h.2.2.2.2.2.2.2.2]
set_option maxRecDepth 100000 in
set_option maxHeartbeats 4000000 in
theorem J_0 {g : Gl} {nc ns : Nat} {i : Int32} {μ : Mem} (hsc : ScI g i) (h : J9 μ) (h1 : nc ≤ 50000) (h2 : ns ≤ 500000) (hK : ∀ K μ', K ≤ 5 → J9 μ' → WL g (nc + K) (ns + 6 * K) 23 [(0, .ref 2000), (1, .ref 0), (2, .ref 140), (3, .ref 154), (4, .int (i + (6 : Int32)))] [] μ') : WL g nc ns 252 [(0, .ref 2000), (1, .ref 0), (2, .ref 140), (3, .ref 154), (4, .int i)] [] μ := by
  obtain ⟨w, n, r, V, h⟩ := h
  have ac := h.2.2.2.2.2.1
  have am := h.2.2.2.2.2.2.1
  have tp := h.2.2.2.1
  have p10 := (wf_pe h.1.2.1).2
  obtain ⟨t1, t2, t3, t4, t5⟩ := tp
  have s0 := h.2.2.2.2.2.2.2.2
  refine v_LAW_0 ⟨sc_in hsc (k := 1) (by decide), sc_in hsc (k := 2) (by decide), sc_in hsc (k := 3) (by decide), sc_in hsc (k := 4) (by decide), sc_in hsc (k := 5) (by decide), isT_of (rmL (by decide +kernel) (by omega) (by omega)) (C_feed t1 t2 (fun q => oI ⟨sc_in hsc (k := 1) (by decide), sc_in hsc (k := 2) (by decide), sc_in hsc (k := 3) (by decide), sc_in hsc (k := 4) (by decide), sc_in hsc (k := 5) (by decide), isT_of (rmL (by decide +kernel) (by omega) (by omega)) (M_feed t1 t3 (fun _ => oI ⟨fun _ => hK 0 _ (by decide) ⟨w, n, r, V, JW_0 h⟩, fun hn => absurd rfl hn⟩) fun q2 => absurd q2 (by omega))⟩) fun q μ1 e1 l1 f1 => oI ⟨sc_in hsc (k := 1) (by decide), sc_in hsc (k := 2) (by decide), sc_in hsc (k := 3) (by decide), sc_in hsc (k := 4) (by decide), sc_in hsc (k := 5) (by decide), isT_of (rmL (by decide +kernel) (by omega) (by omega)) (M_feed t1 ((rdI1 e1 rfl).trans t3) (fun q2 => absurd q2 (by omega)) fun _ μ3 e3 l3 f3 => oI ⟨fun _ => hK 0 _ (by decide) ⟨w, n + 20, r, V, ?_⟩, fun hn => absurd rfl hn⟩)⟩)⟩
  have g2 : mI μ3 2 = mI μ1 2 := rdI e3 fun _ => rfl
  have g147 : mI μ1 147 = mI μ 147 := rdI e1 fun _ => rfl
  have s3 : mI μ3 2 = mI μ3 147 := by
    funext j
    rw [g2, f1 j, f3 j, g147, s0]
  refine JX_T h ((zTm_T e3).trans (zTp_T e1)) ⟨by omega, (rdI1 e3 rfl).trans l1, l3, ?_, fun j hj => ⟨by rw [s3], ?_⟩⟩ s3
  · rw [rdI1 e3 (k := 1) (j := 2) rfl, rdI1 e1 (k := 1) (j := 2) rfl, rdI1 e3 (k := 140) (j := 19) rfl, rdI1 e1 (k := 140) (j := 19) rfl]; exact t4
  · rw [g2, f1 j]; exact fd_byt (t5 j hj).2
theorem b_what (w : WD) (n : Nat) (f : Nat → Int32) (a : Int32) : (q_what w n f a).1 ≤ 2 := by
  unfold q_what
  split
  · exact (by decide : 1 ≤ 2)
  · split
    · exact Nat.zero_le _
    · exact Nat.le_refl _
def outl (r : Nat × Int64) (μ : Mem) : Mem := match r.1 with
  | 0 => sL μ 154 (nx (0 : Int32)) r.2
  | _ => μ
theorem outl_O {q : Nat × Int64} {μ : Mem} : Lz zO (outl q μ) = Lz zO μ := by
  unfold outl
  split
  · exact Lz_L rfl
  · rfl
theorem outl_L {q : Nat × Int64} {μ : Mem} (h : q.1 = 0) : mL (outl q μ) 154 (nx (0 : Int32)) = q.2 := by
  obtain ⟨k, v⟩ := q
  have h : k = 0 := h
  subst h
  show u2 (mL μ) 154 (nx (0 : Int32)) v 154 (nx (0 : Int32)) = v
  rw [u2_self, if_pos rfl]
theorem HKl_out {Φ : Out → Mem → Prop} {e1 e2 : Nat} {q : Nat × Int64} {μ : Mem} (he : e2 ≠ e1) (hq : q.1 ≤ 2) (h : Φ (.inl (some (.int (nI q.1)))) (outl q μ)) : HKl Φ e1 e2 (outRL e1 e2 q) μ := by
  obtain ⟨k, v⟩ := q
  match k, hq with
  | 0, _ => exact h
  | 1, _ => show (if e1 = e1 then _ else _); rw [if_pos rfl]; exact h
  | 2, _ => show (if e2 = e1 then _ else _); rw [if_neg he, if_pos rfl]; exact h
theorem zWt_J {μ μ' : Mem} (e : Lz zWt μ' = Lz zWt μ) : Lz (fun k j => zTT k j || zQ k j) μ' = Lz (fun k j => zTT k j || zQ k j) μ := Lz_up (fun k j h => by
  unfold zWt zT at h; show (zTT k j || zQ k j) = true; unfold zTT zQ
  simp only [Bool.or_eq_true, Bool.and_eq_true, Nat.ble_eq, Nat.beq_eq] at h ⊢
  omega) e
def zWw (k j : Nat) : Bool := (Nat.beq k 1 && Nat.ble 1 j) || ((Nat.ble 3 k && Nat.ble k 33) || ((Nat.ble 65 k && Nat.ble k 90) || ((Nat.ble 141 k && (Nat.beq k 141 || Nat.ble 143 k && Nat.ble k 144)) || (Nat.ble 149 k || (Nat.beq k 140 && (Nat.beq j 0 || (Nat.beq j 6 || (Nat.ble 8 j && Nat.ble j 9 || (Nat.ble 14 j && Nat.ble j 19 || Nat.ble 21 j)))))))))
section WWX
variable {μ μ' : Mem} {r : Nat} {V : Nat → WD}
theorem IMG_lW : IMG (Lz zWw μ) ↔ IMG μ := Iff.rfl
theorem ACTM_lW : ACTM (Lz zWw μ) r V ↔ ACTM μ r V := Iff.rfl
theorem ACTC_W (e : Lz zWw μ' = Lz zWw μ) (a : ACTC μ r V) : ACTC μ' r V := ACTC_z e rfl (fun k j h1 h2 => b_no fun q => by
  unfold zWw at q
  simp only [Bool.or_eq_true, Bool.and_eq_true, Nat.ble_eq, Nat.beq_eq] at q
  omega) a
end WWX
set_option maxRecDepth 100000 in
set_option maxHeartbeats 4000000 in
theorem J_24 {g : Gl} {nc ns : Nat} {i : Int32} {μ : Mem} (hsc : ScI g i) (h : J9 μ) (h1 : nc ≤ 50000) (h2 : ns ≤ 500000) (hK : ∀ K μ', K ≤ 5 → J9 μ' → WL g (nc + K) (ns + 6 * K) 23 [(0, .ref 2000), (1, .ref 0), (2, .ref 140), (3, .ref 154), (4, .int (i + (6 : Int32)))] [] μ') : WL g nc ns 1600 [(0, .ref 2000), (1, .ref 0), (2, .ref 140), (3, .ref 154), (4, .int i)] [] μ := by
  obtain ⟨w, n, r, V, h⟩ := h
  have ac := h.2.2.2.2.2.1
  have am := h.2.2.2.2.2.2.1
  have tp := h.2.2.2.1
  have p10 := (wf_pe h.1.2.1).2
  obtain ⟨t1, t2, t3, t4, t5⟩ := tp
  have s0 := h.2.2.2.2.2.2.2.2
  refine v_LAW_24 ⟨sc_in hsc (k := 1) (by decide), isT_of (rmL (by decide +kernel) (by omega) (by omega)) (L_what (C_what h.1 t1 t2 (fun j hj => (t5 j hj).2) fun μ1 e1 l1 c1 => HKl_out (by decide) (b_what _ _ _ _) (oI ⟨sc_in hsc (k := 1) (by decide), ?_⟩)))⟩
  have w1 : Lz zWw μ1 = Lz zWw μ := Lz_up (fun k j h => by
    unfold zWt zT at h; unfold zWw
    simp only [Bool.or_eq_true, Bool.and_eq_true, Nat.ble_eq, Nat.beq_eq] at h ⊢
    omega) e1
  have w2 : Lz zWw (outl (q_what w n (fun k => mI μ 2 k &&& 255) (gX g (nx (i + (1 : Int32))))) μ1) = Lz zWw μ1 := Lz_up (fun k j h => by
    unfold zO at h; unfold zWw
    simp only [Bool.or_eq_true, Bool.and_eq_true, Nat.ble_eq, Nat.beq_eq] at h ⊢
    omega) outl_O
  have m2 : MW (outl (q_what w n (fun k => mI μ 2 k &&& 255) (gX g (nx (i + (1 : Int32))))) μ1) w := MW_z outl_O (fun _ => rfl) rfl (MW_z e1 (fun _ => rfl) rfl h.2.1)
  have g147 : mI (outl (q_what w n (fun k => mI μ 2 k &&& 255) (gX g (nx (i + (1 : Int32))))) μ1) 147 = mI μ 147 := (rdI outl_O fun _ => rfl).trans (rdI e1 fun _ => rfl)
  refine isT_of (rmL (by decide +kernel) (by omega) (by omega)) (M_what m2 t1 ((rdI1 outl_O rfl).trans ((rdI1 e1 rfl).trans t3)) (fun j hj => by rw [g147]; rw [← (t5 j hj).1]; exact (t5 j hj).2) fun μ3 e3 l3 m3 c3 => ?_)
  rw [g147, ← s0] at c3 ⊢
  refine oL (tail9 (by omega) (by omega) (b_what _ _ _ _) c3 (fun hz => (rdL1 e3 rfl).trans (outl_L hz)) (hK 2 μ3 (by decide) ⟨w, 0, r, V, ?_⟩))
  have w3 : Lz zWw μ3 = Lz zWw (outl (q_what w n (fun k => mI μ 2 k &&& 255) (gX g (nx (i + (1 : Int32))))) μ1) := Lz_up (fun k j h => by
    unfold zWm zLs zW zM zK at h; unfold zWw
    simp only [Bool.or_eq_true, Bool.and_eq_true, Nat.ble_eq, Nat.beq_eq] at h ⊢
    omega) e3
  have ww : Lz zWw μ3 = Lz zWw μ := w3.trans (w2.trans w1)
  have s3 : mI μ3 2 = mI μ3 147 := by rw [rdI ww (k := 2) (fun _ => rfl), rdI ww (k := 147) (fun _ => rfl)]; exact s0
  have cc : CI μ3 w := CI_hi e3 (fun k j h => by
    unfold zWm zLs zW zM zK at h
    simp only [Bool.or_eq_true, Bool.and_eq_true, Nat.ble_eq, Nat.beq_eq] at h
    omega) (CI_hi outl_O (fun k j h => by
    unfold zO at h
    simp only [Nat.beq_eq] at h
    omega) c1)
  refine ⟨cc, m3, h.2.2.1, ⟨Nat.zero_le _, ?_, l3, ?_, fun j hj => ⟨by rw [s3], ?_⟩⟩, IMG_lW.mp (by rw [ww]; exact h.2.2.2.2.1), ACTC_W ww ac, ACTM_lW.mp (by rw [ww]; exact am), h.2.2.2.2.2.2.2.1, s3⟩
  · exact (rdI1 e3 rfl).trans ((rdI1 outl_O rfl).trans l1)
  · rw [rdI1 e3 (k := 1) (j := 2) rfl, rdI1 outl_O (k := 1) (j := 2) rfl, rdI1 e1 (k := 1) (j := 2) rfl, rdI1 e3 (k := 140) (j := 19) rfl, rdI1 outl_O (k := 140) (j := 19) rfl, rdI1 e1 (k := 140) (j := 19) rfl]; exact t4
  · rw [rdI ww (k := 2) (fun _ => rfl)]; exact (t5 j hj).2
