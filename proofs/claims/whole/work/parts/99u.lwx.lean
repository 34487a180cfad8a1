/-! law: the class -/
def RLr (b : Nat) (s : LST) (μ : Mem) : Prop := mI μ b 0 = nI s.1.length ∧ mI μ b 5 = nI s.2.length ∧ (∀ i, i < s.1.length → mI μ (b + 1) i = kdc (lgn s i).1 ∧ mI μ (b + 2) i = (lgn s i).2.1 ∧ mI μ (b + 3) i = nI (lgn s i).2.2) ∧ ∀ i, i < s.2.length → mI μ (b + 4) i = cdn s i
def zLf (k j : Nat) : Bool := zLL k j || (Nat.beq k 1 && Nat.beq j 2)
theorem zLL_f {μ μ' : Mem} (e : Lz zLL μ' = Lz zLL μ) : Lz zLf μ' = Lz zLf μ := Lz_up (fun k j h => by unfold zLf; rw [h]; rfl) e
theorem zLf_Cs {μ1 μ2 : Mem} (e : Lz zLf μ2 = Lz zLf μ1) : Lz zCs μ2 = Lz zCs μ1 := Lz_up (fun k j h => by
  unfold zLf zLL at h; unfold zCs
  simp only [Bool.or_eq_true, Bool.and_eq_true, Nat.ble_eq, Nat.beq_eq] at h ⊢
  omega) e
theorem zLf_n {k j : Nat} (h : k ≠ 1 ∧ ¬ (82 ≤ k ∧ k ≤ 90)) : zLf k j = false := b_no fun q => by
  unfold zLf zLL at q
  simp only [Bool.or_eq_true, Bool.and_eq_true, Nat.ble_eq, Nat.beq_eq] at q
  omega
def ERl (Φ : Out → Mem → Prop) (μ : Mem) (r : PRt LST) : Prop := ∀ μ', Lz zLf μ' = Lz zLf μ → (match r with
  | .inl x => CO x.1.2 μ' → LIa x.1 μ' → mI μ' 1 2 = -1 → Φ (.inl (some (.int (nI x.1.1.length)))) μ'
  | .inr b => mI μ' 1 2 = nI b → Φ (.inl (some (.int (-1)))) μ')
section LWC
variable {g : Gl} {Φ : Out → Mem → Prop} {μ : Mem} {f : Nat → Int32} {n a : Nat} {w v : WD} {s : LST}
variable {b : Nat}
theorem L_RSet (h : L15 w v) (k : RSet b μ w) : RSet b μ v := by
  obtain ⟨a1, a2, a3, a4, a5, a6, a7, a8⟩ := k
  refine ⟨?_, ?_, ?_, ?_, ?_, fun t ht => ?_, fun p hp => ?_, fun k hk => ?_⟩
  · rw [h.1 0 (by omega) (by omega)]; exact a1
  · rw [h.1 1 (by omega) (by omega)]; exact a2
  · rw [h.1 2 (by omega) (by omega)]; exact a3
  · rw [h.1 6 (by omega) (by omega)]; exact a4
  · rw [h.1 3 (by omega) (by omega)]; exact a5
  · rw [h.1 (9 + t) (by omega) (by omega)]; exact a6 t ht
  · rw [L_pf h hp (by omega), L_pf h hp (by omega)]; exact a7 p hp
  · rw [h.1 (79 + 3 * k) (by omega) (by omega), h.1 (79 + 3 * k + 1) (by omega) (by omega), h.1 (79 + 3 * k + 2) (by omega) (by omega)]; exact a8 k hk
theorem L_her (h : L15 w v) {p : Nat} (hp : p < 10) : her v p = her w p := by unfold her; rw [L_pf h hp (by omega)]
theorem L_RSta (h : L15 w v) (k : RSta b μ w) : RSta b μ v := by
  obtain ⟨a1, a2, a3, a4, a5, a6⟩ := k
  refine ⟨?_, ?_, ?_, ?_, fun p hp => ?_, ?_⟩
  · rw [h.2]; exact a1
  · rw [h.1 5 (by omega) (by omega)]; exact a2
  · rw [h.1 8 (by omega) (by omega)]; exact a3
  · rw [h.1 7 (by omega) (by omega)]; exact a4
  · rw [L_pf h hp (by omega), L_pf h hp (by omega), L_pf h hp (by omega)]; exact a5 p hp
  · rw [a6]; exact msk_cong fun p hp => by rw [L_her h hp]
theorem L_RLog (h : L15 w v) (hl : lg w ≤ 60) (k : RLog b μ w) : RLog b μ v := by
  refine ⟨fun r hr => ?_, k.2⟩
  rw [L_lg h] at hr ⊢
  obtain ⟨a1, a2, a3, a4, a5, a6⟩ := k.1 r hr
  rw [L_lw h (by omega) (by omega), L_lw h (by omega) (by omega), L_lw h (by omega) (by omega), L_lw h (by omega) (by omega), L_lw h (by omega) (by omega)]
  exact ⟨a1, a2, a3, a4, a5, fun p hp hb => by rw [L_lw h (by omega) (by omega)]; exact a6 p hp hb⟩
theorem L_RLaw (h : LWV w s v) (ho : OKL s) (h12 : s.1.length ≤ 12) (h4 : s.2.length ≤ 400) (k : RLr b s μ) : RLaw b μ v := by
  obtain ⟨a1, a2, a3, a4⟩ := k
  refine ⟨?_, ?_, fun i hi => ?_, fun i hi => ?_⟩
  · rw [if_pos h.2.1, h.2.2.1]; exact a1
  · rw [LWV_cle h ho h12 h4]; exact a2
  · rw [LWV_li h h12] at hi
    obtain ⟨e0, e1, e2, e3⟩ := h.2.2.2.1 i hi
    rw [e0, e1, e3]; exact a3 i hi
  · rw [LWV_cle h ho h12 h4] at hi
    rw [(LWV_cod h ho hi).1]; exact a4 i hi
theorem c_lLs : ∀ d s a μ, s.1.length + d = 12 → TK f n a μ → LIa s μ → CO s.2 μ → OKL s → s.2.length ≤ a → mI μ 1 2 = -1 → ERl Φ μ (lnsL f n d s a) → WW g i_LineR_readLines 0 Φ 0 0 21 [(0, .ref 82), (1, .int 12), (2, .int (nI (s.1.length + 1)))] [] μ := by
  intro d
  induction d with
  | zero =>
    intro s a μ hL t hi hO ok hl h2 H
    refine v_LineR_readLines_L_21 ⟨fun _ => ?_, fun q => absurd ?_ q⟩
    · rw [TK_st t]
      exact H _ (Lz_I rfl) (by rw [rI_I, if_pos rfl, upd_s])
    · rw [show s.1.length = 12 by omega]; decide
  | succ d ih =>
    intro s a μ hL t hi hO ok hl h2 H
    refine v_LineR_readLines_L_21 ⟨fun q => absurd q (nI_nlt (a := 12) (b := s.1.length + 1) (by omega) (by omega)), fun _ => c_lLn t hi hO (by omega) hl fun μ2 e2 => ?_⟩
    unfold lnsL at H
    cases hr : lnL f n s a with
    | inr b =>
      intro hb
      rw [hr] at H
      simp only [bdP] at H
      refine oI ⟨fun q => absurd rfl q, fun _ => ?_⟩
      rw [hb]
      exact H _ ((Lz_I rfl).trans (zLL_f e2)) (by rw [rI_I, if_pos rfl, upd_s])
    | inl x =>
      intro t2 o2 i2
      rw [hr] at H
      simp only [bdP] at H
      obtain ⟨k1, k2, k3, k4, k5⟩ := lnL_ok t.2.1 ok hr
      have h22 : mI μ2 1 2 = -1 := (rdI1 e2 rfl).trans h2
      refine oI ⟨fun _ => c_aE t2 (oI ⟨fun q => ?_, fun q => ?_⟩), fun q => absurd q (by decide)⟩
      · have hk := of_decide_eq_false (b2i_0.mp q)
        have := kd_n0 hk
        rw [if_neg (by omega)] at H
        refine c_tS t2 (fun h3 => oI ⟨fun q => absurd rfl q, fun _ => ?_⟩) (fun h3 μ3 e3 t3 => oI ⟨fun _ => ?_, fun q => absurd q (by decide)⟩)
        · rw [if_neg (by rw [h3]; decide)] at H
          rw [TK_st t2]
          exact H _ ((Lz_I rfl).trans (zLL_f e2)) (by rw [rI_I, if_pos rfl, upd_s])
        · rw [if_pos h3] at H
          have hg := nxt_gt (sgn_k h3)
          rw [← nI_succ, ← k2]
          exact ih x.1 (nxt f n x.2) μ3 (by omega) t3 (LIa_tk e3 i2) (CO_em e3 rfl (fun _ => rfl) o2) k1 (by omega) ((rdI1 e3 rfl).trans h22) fun μ4 e4 => H μ4 (e4.trans ((zLL_f (zLC_L (zTk_LC e3))).trans (zLL_f e2)))
      · have hk := of_decide_eq_true (b2i_n0.mp q)
        rw [if_pos (kd_0 hk)] at H
        rw [← k2]
        exact H μ2 (zLL_f e2) o2 i2 h22
theorem c_lL0 (hn : n ≤ 400) (hf : mI μ 2 = f) (h1 : mI μ 1 1 = nI n) (i0 : LIa ([], []) μ) (o0 : CO [] μ) (H : ERl Φ μ (rdLw f n)) : Spec g i_LineR_readLines 0 [.ref 82, .int 12] μ Φ := by
  refine spi o_LineR_readLines rfl (v_LineR_readLines_L_0 (c_open hn hf h1 fun μ1 e1 t1 => oV ?_))
  have e1' : Lz zLf μ1 = Lz zLf μ := (zLL_f (zLC_L (zTk_LC e1))).trans (Lz_I rfl)
  have i1 : LIa ([], []) μ1 := LIa_tk e1 i0
  have o1 : CO [] μ1 := CO_em e1 rfl (fun _ => rfl) o0
  have h2 : mI μ1 1 2 = -1 := (rdI1 e1 rfl).trans (by rw [rI_I, if_pos rfl, upd_s])
  unfold rdLw at H
  refine c_aE t1 (oI ⟨fun q => ?_, fun q => ?_⟩)
  · have hk := of_decide_eq_false (b2i_0.mp q)
    have hlt := kd_n0 hk
    rw [if_neg (by omega)] at H
    exact c_lLs 12 ([], []) _ μ1 rfl t1 i1 o1 OKL_0 (Nat.zero_le _) h2 fun μ' e' => H μ' (e'.trans e1')
  · have hk := of_decide_eq_true (b2i_n0.mp q)
    rw [if_pos (kd_0 hk)] at H
    exact H μ1 e1' o1 i1 h2
theorem c_cpR (hi : LIa s μ) (hO : CO s.2 μ) (h12 : s.1.length ≤ 12) (h4 : s.2.length ≤ 400) (H : ∀ μ', Lz (zR 15 4) μ' = Lz (zR 15 4) μ → RLr 15 s μ' → Φ (.inl none) μ') : Spec g i_Law_copyFrom 0 [.ref 15, .ref 83] μ Φ := by
  have a0 : acpOK 0 0 (mI μ 83 5) 87 19 := by
    rw [hO.1]
    refine ⟨by decide, by decide, nI_pos (by omega), ?_, ?_⟩
    · show 0 + nx (nI s.2.length) ≤ 400; rw [nx_nI (by omega)]; omega
    · show 0 + nx (nI s.2.length) ≤ 400; rw [nx_nI (by omega)]; omega
  refine spi o_Law_copyFrom rfl (v_Law_copyFrom_15_83_0 ⟨acp0 (n := 12) rfl, acp0 (n := 12) rfl, acp0 (n := 12) rfl, a0, H _ ?_ ⟨hi.1, hO.1, fun i hi2 => ?_, fun i hi2 => ?_⟩⟩)
  · exact (Lz_RI fun _ => rfl).trans ((Lz_RI fun _ => rfl).trans ((Lz_RI fun _ => rfl).trans ((Lz_RI fun _ => rfl).trans ((Lz_I rfl).trans (Lz_I rfl)))))
  · obtain ⟨t1, t2, t3⟩ := hi.2 i hi2
    exact ⟨(cpI (n := 12) (by decide) (by omega)).trans t1, (cpI (n := 12) (by decide) (by omega)).trans t2, (cpI (n := 12) (by decide) (by omega)).trans t3⟩
  · show va_cpy (mI μ 87) (mI μ 19) (nx 0) (nx 0) (nx (mI μ 83 5)) i = _
    rw [hO.1, cpI (by omega) hi2]; exact hO.2 i hi2
theorem C_law (c : CI μ w) (hn : n ≤ 400) (hf : mI μ 2 = f) (h1 : mI μ 1 1 = nI n)
    (H : ∀ μ', Lz zCs μ' = Lz zCs μ → mI μ' 1 1 = 0 → (match rdLw f n with
      | .inr b => CI μ' w → mI μ' 0 8 = mI μ 0 8 → mI μ' 1 2 = nI b → Φ (.inr 0) μ'
      | .inl x => (∀ v, LWV w x.1 v → CI μ' v) → mI μ' 0 8 = 0 → mI μ' 1 2 = -1 → Φ (.inl (some (.int (nI x.1.1.length)))) μ')) : Spec g i_SO_law 0 [.ref 0] μ Φ := by
  refine spi o_SO_law rfl (v_SO_law_0 (spi o_LawR_begin rfl (v_LawR_begin_0 (spi o_Law_clear rfl (v_Law_clear_0 (oV (oV ?_)))))))
  have z1 : Lz zCs (sI (sI μ 83 0 0) 83 5 0) = Lz zCs μ := (Lz_I rfl).trans (Lz_I rfl)
  have c1 : CI (sI (sI μ 83 0 0) 83 5 0) w := CI_mem (fun k k1 k2 => by rw [rI_I, if_neg (by omega), rI_I, if_neg (by omega)]) (fun k k1 k2 => rfl) c
  have f1 : mI (sI (sI μ 83 0 0) 83 5 0) 2 = f := hf
  have n1 : mI (sI (sI μ 83 0 0) 83 5 0) 1 1 = nI n := h1
  have i1 : LIa ([], []) (sI (sI μ 83 0 0) 83 5 0) := ⟨rfl, fun i hi => absurd hi (Nat.not_lt_zero _)⟩
  have o1 : CO [] (sI (sI μ 83 0 0) 83 5 0) := ⟨rfl, fun i hi => absurd hi (Nat.not_lt_zero _)⟩
  have r1 : mI (sI (sI μ 83 0 0) 83 5 0) 0 8 = mI μ 0 8 := rfl
  generalize (sI (sI μ 83 0 0) 83 5 0) = μ1 at *
  refine c_lL0 hn f1 n1 i1 o1 fun μ2 e2 => ?_
  have z2 : Lz zCs (sI μ2 1 1 0) = Lz zCs μ := (Lz_I rfl).trans ((zLf_Cs e2).trans z1)
  have c2 : CI (sI μ2 1 1 0) w := CI_mem (fun k k1 k2 => by rw [rI_I, if_neg (by omega)]; exact rdI e2 fun j => zLf_n (by omega)) (fun k k1 k2 => (rdL e2 fun j => zLf_n (by omega) : mL μ2 k = mL μ1 k)) c1
  have r2 : mI (sI μ2 1 1 0) 0 8 = mI μ 0 8 := (rdI1 e2 (zLf_n (by omega)) : mI μ2 0 8 = mI μ1 0 8).trans r1
  have t2 : mI (sI μ2 1 1 0) 1 1 = 0 := rfl
  have k2 : mI (sI μ2 1 1 0) 1 2 = mI μ2 1 2 := rfl
  cases hr : rdLw f n with
  | inr b =>
    intro h2
    refine oI (spi o_Tape_useUp rfl (v_Tape_useUp_0 (oI ⟨fun q => absurd rfl q, fun _ => ?_⟩)))
    have := H (sI μ2 1 1 0) z2 t2
    rw [hr] at this
    exact this c2 r2 h2
  | inl x =>
    intro oE iE h2
    obtain ⟨ok, k12, k4⟩ := rdLw_ok hr
    refine oI (spi o_Tape_useUp rfl (v_Tape_useUp_0 (oI ⟨fun _ => ?_, fun q => absurd (show (0 : Int32) ≤ -1 by rw [← q]; exact n0le (by omega)) n1nl⟩)))
    have oE' : CO x.1.2 (sI μ2 1 1 0) := oE
    have iE' : LIa x.1 (sI μ2 1 1 0) := iE
    have h2' : mI (sI μ2 1 1 0) 1 2 = -1 := h2
    generalize (sI μ2 1 1 0) = μ3 at *
    refine c_cpR iE' oE' k12 (by omega) fun μ4 e4 r4 => oV ?_
    have := H (sI μ4 0 8 0) ((Lz_I rfl).trans ((zR_Cs (by omega) e4).trans z2)) ((rdI1 e4 (zR_no (by omega)) : mI μ4 1 1 = mI μ3 1 1).trans t2)
    rw [hr] at this
    refine this (fun v hV => ?_) rfl ((rdI1 e4 (zR_no (by omega)) : mI μ4 1 2 = mI μ3 1 2).trans h2')
    have hw := LWV_WF hV c.2 ok k12 (by omega)
    refine ⟨⟨?_, ?_, ?_, ?_⟩, hw⟩
    · exact RSet_mem (fun k h1 h2 => by rw [rI_I, if_neg (by omega)]; exact rdI e4 fun j => zR_no (by omega)) (L_RSet hV.1 c2.1.1)
    · exact RSta_mem (fun k h1 h2 => by rw [rI_I, if_neg (by omega)]; exact rdI e4 fun j => zR_no (by omega)) (rdL e4 fun j => zR_no (by omega) : mL μ4 11 = mL μ3 11) (L_RSta hV.1 c2.1.2.1)
    · exact RLaw_mem (μ := μ4) (by rw [rI_I, if_neg (by decide)]) (by rw [rI_I, if_neg (by decide)]) (fun k h1 h2 => by rw [rI_I, if_neg (by omega)]) (L_RLaw hV ok k12 (by omega) r4)
    · exact RLog_mem (fun k h1 h2 => by rw [rI_I, if_neg (by omega)]; exact rdI e4 fun j => zR_no (by omega)) (rdL e4 fun j => zR_no (by omega) : mL μ4 27 = mL μ3 27) (L_RLog hV.1 (wf_l60 c.2.1) c2.1.2.2.2)
end LWC
