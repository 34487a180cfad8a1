/-! trial, span; what was said -/
def q_trial (w : WD) (a b : Int32) : Nat × Int32 := if b = -1 then gdx 41 a 2 fun n => (0, nI (tyA w (w.1 8) n none)) else gdx (th w) b 1 fun t => gdx 41 a 2 fun n => (0, nI (tyA w (w.1 8) n (some t)))
def spN (w : WD) (d : Int32) (n : Nat) : Nat → Nat
  | 0 => tyA w (nI 1) n none
  | k + 1 => if d = 0 then min (spN w d n k) (tyA w (nI (k + 2)) n none) else max (spN w d n k) (tyA w (nI (k + 2)) n none)
def q_span (w : WD) (a d : Int32) : Nat × Int32 := gdx 41 a 1 fun n => (0, nI (spN w d n 5))
theorem sdW_self (w : WD) : sdW w (w.1 8) = w := by
  refine Prod.ext ?_ rfl
  funext j
  show upd w.1 8 (w.1 8) j = w.1 j
  by_cases h : j = 8
  · rw [h, upd_s]
  · rw [upd_n h]
theorem zNH_Q {μ μ' : Mem} (e : Lz zNH μ' = Lz zNH μ) : Lz zQ μ' = Lz zQ μ := Lz_up (fun k j h => by
  unfold zNH at h; unfold zQ
  simp only [Bool.or_eq_true, Bool.and_eq_true, Nat.ble_eq] at h ⊢
  omega) e
section TRI
variable {g : Gl} {Φ : Out → Mem → Prop} {μ : Mem} {w : WD}
theorem ty_le (h : WF w) {s : Int32} {n : Nat} : tyA w s n none ≤ n := (tmW_ok (sdW_WF h) n).2.2.2
theorem sp_le (h : WF w) {d : Int32} {n : Nat} : ∀ k, spN w d n k ≤ n := by
  intro k
  induction k with
  | zero => exact ty_le h
  | succ k ih =>
    have := ty_le h (s := nI (k + 2)) (n := n)
    show (if d = 0 then _ else _) ≤ n
    split <;> omega
theorem C_trial (c : CI μ w) {a b : Int32} (H : RC Φ μ w 2 0 (q_trial w a b)) : Spec g i_SO_trial 0 [.ref 0, .int a, .int b] μ Φ := by
  have t10 := ci_t10 c
  unfold q_trial at H
  refine spi o_SO_trial rfl (v_SO_trial_0 ⟨fun h => ?_, fun h => ?_⟩)
  · rw [if_pos h] at H
    rw [h]
    rcases ix_cs (n := 41) (by decide) a with ⟨en, hn⟩ | ⟨n, hn, rfl, en⟩
    · rw [gdx_n en] at H
      exact c_nM1 hn (oVx (RC_2 H c))
    rw [gdx_s en] at H
    refine c_nM0 (by omega) (oV ?_)
    rw [ci_see c]
    exact c_try c (o := none) (by omega) (fun t h => by cases h) fun μ2 e2 c2 _ => oI (RC_ok H (zNH_Q e2) c2)
  · rw [if_neg h] at H
    rcases ix_cs (n := th w) (by omega) b with ⟨et, ht⟩ | ⟨t, ht, rfl, et⟩
    · rw [gdx_n et] at H
      exact c_nT1 c ht (oVx (RC_1 H c))
    rw [gdx_s et] at H
    refine c_nT0 c ht (oV ?_)
    rcases ix_cs (n := 41) (by decide) a with ⟨en, hn⟩ | ⟨n, hn, rfl, en⟩
    · rw [gdx_n en] at H
      exact c_nM1 hn (oVx (RC_2 H c))
    rw [gdx_s en] at H
    refine c_nM0 (by omega) (oV ?_)
    rw [ci_see c]
    exact c_try c (o := some t) (by omega) (fun t' h => by cases h; exact ht) fun μ2 e2 c2 _ => oI (RC_ok H (zNH_Q e2) c2)
theorem C_span (c : CI μ w) {a d : Int32} (H : RC Φ μ w 0 0 (q_span w a d)) : Spec g i_SO_span 0 [.ref 0, .int a, .int d] μ Φ := by
  unfold q_span at H
  refine spi o_SO_span rfl (v_SO_span_0 ?_)
  rcases ix_cs (n := 41) (by decide) a with ⟨en, hn⟩ | ⟨n, hn, rfl, en⟩
  · rw [gdx_n en] at H
    exact c_nM1 hn (oVx (RC_1 H c))
  rw [gdx_s en] at H
  refine c_nM0 (by omega) (oV (c_try c (s := 1) (o := none) (by omega) (fun t h => by cases h) fun μ1 e1 c1 _ => oI ?_))
  refine zup (P := fun k => ∀ μ', Lz zQ μ' = Lz zQ μ → CI μ' w → WW g i_SO_span 0 Φ 1 6 18 [(0, .ref 0), (1, .int (nI n)), (2, .int d), (3, .int (nI (spN w d n k))), (4, .int (nI (k + 2)))] [] μ') 5 ?_ ?_ μ1 (zNH_Q e1) c1
  · intro μ' e' c'
    exact v_SO_span_18 ⟨fun _ => RC_ok H e' c', fun h => absurd (by decide) h⟩
  · intro k hk ih μ' e' c'
    refine v_SO_span_18 ⟨fun h => absurd h ?_, fun _ => ?_⟩
    · exact nI_nlt (a := 6) (b := k + 2) (by omega) (by omega)
    have hs := sp_le c.2 (d := d) (n := n) k
    have ht := ty_le c.2 (s := nI (k + 2)) (n := n)
    refine c_try c' (o := none) (by omega) (fun t h => by cases h) fun μ2 e2 c2 _ => oI ?_
    have ih' := ih μ2 ((zNH_Q e2).trans e') c2
    rw [mmin_nI (by omega) (by omega), mmax_nI (by omega) (by omega), ← nI_succ]
    have hd : spN w d n (k + 1) = if d = 0 then min (spN w d n k) (tyA w (nI (k + 2)) n none) else max (spN w d n k) (tyA w (nI (k + 2)) n none) := rfl
    rw [hd] at ih'
    refine ⟨fun h => ?_, fun h => ?_⟩
    · rw [if_pos h] at ih'; exact ih'
    · rw [if_neg h] at ih'; exact ih'
/-- a trial of the reference, kept and brought back -/
theorem m_tr {n : Nat} (hn : n < 2 ^ 31) {s : Int32} {μ0 : Mem} (h144 : ∀ j, j < 1015 → mI μ0 144 j = w.1 j) (h9 : mL μ0 140 9 = w.2) (hw : WF w) (m : MW μ0 (sdW w s))
    {K : Int32 → Mem → Prop} (H : ∀ μ', Lz zW μ' = Lz zW μ0 → MW μ' w → K (nI (tyA w s n none)) μ') {x : Nat → Mem → Prop} :
    Spec g i_Mo_sayings 0 [.ref 140, .int (nI n)] μ0 (onI (fun r μ1 => Spec g i_Mo_bringsBack 0 [.ref 140] μ1 (onV (fun μ2 => K r μ2) x)) x) := by
  refine m_run m hn fun μ1 e1 m1 => oI ?_
  have su : suS (sdW w s) (tmW (sdW w s) n).1 := (tmW_ok (sdW_WF hw) n).2.1
  refine m_back (v := w) (fun j hj => by rw [(rdI e1 fun _ => rfl : mI μ1 144 = mI μ0 144)]; exact h144 j hj) ((rdL1 e1 rfl).trans h9) (fun j hj => ?_) hw fun μ2 e2 m2 => oV (H μ2 (e2.trans e1) m2)
  rw [mw_i m1, su j (by omega) (by omega) (by omega) (by omega) (by omega)]
  exact upd_n (by omega)
theorem m_tr2 {n t : Nat} (hn : n < 2 ^ 31) (ht : t < th w) {s : Int32} {μ0 : Mem} (h144 : ∀ j, j < 1015 → mI μ0 144 j = w.1 j) (h9 : mL μ0 140 9 = w.2) (hw : WF w) (m : MW μ0 (sdW w s))
    {K : Int32 → Mem → Prop} (H : ∀ μ', Lz zW μ' = Lz zW μ0 → MW μ' w → K (nI (tyA w s n (some t))) μ') {x : Nat → Mem → Prop} :
    Spec g i_Mo_sayings 0 [.ref 140, .int (nI n)] μ0 (onI (fun _ μ1 => Spec g i_Mo_knowers 0 [.ref 140, .int (nI t)] μ1 (onI (fun r μ2 => Spec g i_Int_bitCount 0 [.int r] μ2 (onI (fun r3 μ3 => Spec g i_Mo_bringsBack 0 [.ref 140] μ3 (onV (fun μ4 => K r3 μ4) x)) x)) x)) x) := by
  have p10 := (wf_pe hw.1).2
  have t10 := (wf_th hw.1).2
  refine m_run m hn fun μ1 e1 m1 => oI (m_knr m1 (by omega) (oI (c_bc (oI ?_))))
  have su : suS (sdW w s) (tmW (sdW w s) n).1 := (tmW_ok (sdW_WF hw) n).2.1
  have ep : pe (tmW (sdW w s) n).1 = pe w := (suS_pe su).trans (agS_pe sdW_ag)
  rw [bc_msk (by rw [ep]; exact p10), ep]
  refine m_back (v := w) (fun j hj => by rw [(rdI e1 fun _ => rfl : mI μ1 144 = mI μ0 144)]; exact h144 j hj) ((rdL1 e1 rfl).trans h9) (fun j hj => ?_) hw fun μ2 e2 m2 => oV (H μ2 (e2.trans e1) m2)
  rw [mw_i m1, su j (by omega) (by omega) (by omega) (by omega) (by omega)]
  exact upd_n (by omega)
theorem M_trial (m : MW μ w) {a b : Int32} (H : RM Φ μ w (q_trial w a b)) : Spec g i_Mo_trial 0 [.ref 140, .int a, .int b] μ Φ := by
  have t10 := (wf_th m.2.1).2
  have m0 : MW (sI μ 140 0 0) w := MW_0 m
  unfold q_trial at H
  have fin : ∀ {v : Int32} {μ1 μ2 : Mem}, RM Φ μ w (0, v) → Lz zK μ1 = Lz zK (sI μ 140 0 0) → Lz zW μ2 = Lz zW μ1 → MW μ2 w → Φ (.inl (some (.int v))) μ2 := fun H e1 e2 m2 => by
    refine H _ ((zW_Ls e2).trans ((zK_Ls e1).trans (Lz_I rfl))) ?_ m2
    rw [rdI1 e2 rfl, rdI1 e1 rfl, rI_I, if_pos rfl, upd_s]; rfl
  refine spi o_Mo_trial rfl (v_Mo_trial_0 ⟨fun h => ?_, fun h => ?_⟩)
  · rw [if_pos h] at H
    refine thr0 (oI ⟨fun q => absurd rfl q, fun _ => ?_⟩)
    rcases ix_cs (n := 41) (by decide) a with ⟨en, hn⟩ | ⟨n, hn, rfl, en⟩
    · rw [gdx_n en] at H
      exact m_in0 (n := 40) (by decide) hn (oI ⟨fun q => absurd rfl q, fun _ => thr1 (oI ⟨fun q => absurd q (by decide), fun _ => RM_er H (by decide) m⟩)⟩)
    rw [gdx_s en] at H
    refine m_in1 (n := 40) (by decide) (by omega) (oI ⟨fun _ => thr0 (oI ⟨fun _ => m_keep m0 fun μ1 e1 h144 h9 => oV ?_, fun q => absurd rfl q⟩), fun q => absurd q (by decide)⟩)
    have m1 : MW μ1 w := MW_z e1 (fun _ => rfl) rfl m0
    have m1' : MW μ1 (sdW w (w.1 8)) := by rw [sdW_self]; exact m1
    refine m_run m1' (by omega) fun μ2 e2 m2 => oI ⟨fun q => absurd h q, fun _ => ?_⟩
    have su : suS (sdW w (w.1 8)) (tmW (sdW w (w.1 8)) n).1 := (tmW_ok (sdW_WF m.2) n).2.1
    refine m_back (v := w) (fun j hj => by rw [(rdI e2 fun _ => rfl : mI μ2 144 = mI μ1 144)]; exact h144 j hj) ((rdL1 e2 rfl).trans h9) (fun j hj => ?_) m.2 fun μ3 e3 m3 => oV (fin H e1 (e3.trans e2) m3)
    rw [mw_i m2, su j (by omega) (by omega) (by omega) (by omega) (by omega)]
    exact upd_n (by omega)
  · rw [if_neg h] at H
    rcases ix_cs (n := th w) (by omega) b with ⟨et, ht⟩ | ⟨t, ht, rfl, et⟩
    · rw [gdx_n et] at H
      exact m_nT1 m0 ht (oI ⟨fun q => absurd q (by decide), fun _ => thr1 (oI ⟨fun _ => RM_er H (by decide) m, fun q => absurd q (by decide)⟩)⟩)
    rw [gdx_s et] at H
    refine m_nT0 m0 ht (oI ⟨fun _ => thr0 (oI ⟨fun q => absurd rfl q, fun _ => ?_⟩), fun q => absurd rfl q⟩)
    rcases ix_cs (n := 41) (by decide) a with ⟨en, hn⟩ | ⟨n, hn, rfl, en⟩
    · rw [gdx_n en] at H
      exact m_in0 (n := 40) (by decide) hn (oI ⟨fun q => absurd rfl q, fun _ => thr1 (oI ⟨fun q => absurd q (by decide), fun _ => RM_er H (by decide) m⟩)⟩)
    rw [gdx_s en] at H
    refine m_in1 (n := 40) (by decide) (by omega) (oI ⟨fun _ => thr0 (oI ⟨fun _ => m_keep m0 fun μ1 e1 h144 h9 => oV ?_, fun q => absurd rfl q⟩), fun q => absurd q (by decide)⟩)
    have m1 : MW μ1 w := MW_z e1 (fun _ => rfl) rfl m0
    have m1' : MW μ1 (sdW w (w.1 8)) := by rw [sdW_self]; exact m1
    refine m_run m1' (by omega) fun μ2 e2 m2 => oI ⟨fun _ => m_knr m2 (by omega) (oI (c_bc (oI ?_))), fun q => absurd q h⟩
    have p10 := (wf_pe m.2.1).2
    have su : suS (sdW w (w.1 8)) (tmW (sdW w (w.1 8)) n).1 := (tmW_ok (sdW_WF m.2) n).2.1
    have ep : pe (tmW (sdW w (w.1 8)) n).1 = pe w := (suS_pe su).trans (agS_pe sdW_ag)
    rw [bc_msk (by rw [ep]; exact p10), ep]
    refine m_back (v := w) (fun j hj => by rw [(rdI e2 fun _ => rfl : mI μ2 144 = mI μ1 144)]; exact h144 j hj) ((rdL1 e2 rfl).trans h9) (fun j hj => ?_) m.2 fun μ3 e3 m3 => oV (fin H e1 (e3.trans e2) m3)
    rw [mw_i m2, su j (by omega) (by omega) (by omega) (by omega) (by omega)]
    exact upd_n (by omega)
theorem M_span (m : MW μ w) {a d : Int32} (H : RM Φ μ w (q_span w a d)) : Spec g i_Mo_span 0 [.ref 140, .int a, .int d] μ Φ := by
  have m0 : MW (sI μ 140 0 0) w := MW_0 m
  unfold q_span at H
  refine spi o_Mo_span rfl (v_Mo_span_0 ?_)
  rcases ix_cs (n := 41) (by decide) a with ⟨en, hn⟩ | ⟨n, hn, rfl, en⟩
  · rw [gdx_n en] at H
    exact m_in0 (n := 40) (by decide) hn (oI ⟨fun q => absurd rfl q, fun _ => thr1 (oI ⟨fun q => absurd q (by decide), fun _ => RM_er H (by decide) m⟩)⟩)
  rw [gdx_s en] at H
  refine m_in1 (n := 40) (by decide) (by omega) (oI ⟨fun _ => thr0 (oI ⟨fun _ => m_keep m0 fun μ1 e1 h144 h9 => oV ?_, fun q => absurd rfl q⟩), fun q => absurd q (by decide)⟩)
  have m1 : MW μ1 w := MW_z e1 (fun _ => rfl) rfl m0
  have one : ∀ {s : Int32} {μ' : Mem} {K : Int32 → Mem → Prop} {x : Nat → Mem → Prop}, Lz zW μ' = Lz zW μ1 → MW μ' w → (∀ μ2, Lz zW μ2 = Lz zW μ1 → MW μ2 w → K (nI (tyA w s n none)) μ2) →
      Spec g i_Mo_sayings 0 [.ref 140, .int (nI n)] (sI μ' 141 8 s) (onI (fun r μ1 => Spec g i_Mo_bringsBack 0 [.ref 140] μ1 (onV (fun μ2 => K r μ2) x)) x) := by
    intro s μ' K x e' m' hK
    have ew : sI μ' 141 8 s = sRI μ' 141 (sdW w s).1 := by
      rw [sI_RI, mw_i m']; rfl
    have ms : MW (sI μ' 141 8 s) (sdW w s) := by
      rw [ew]; exact MW_141 (v := sdW w s) (mw_l (w := w) m') (sdW_WF m.2)
    have e2 : Lz zW (sI μ' 141 8 s) = Lz zW μ1 := (Lz_I rfl).trans e'
    exact m_tr (by omega) (fun j hj => by rw [(rdI e2 fun _ => rfl : mI (sI μ' 141 8 s) 144 = mI μ1 144)]; exact h144 j hj) ((rdL1 e2 rfl).trans h9) m.2 ms fun μ2 e3 m2 => hK μ2 (e3.trans e2) m2
  have fin : ∀ {μ2 : Mem}, Lz zW μ2 = Lz zW μ1 → MW μ2 w → Φ (.inl (some (.int (nI (spN w d n 5))))) μ2 := fun e2 m2 => by
    refine H _ ((zW_Ls e2).trans ((zK_Ls e1).trans (Lz_I rfl))) ?_ m2
    rw [rdI1 e2 rfl, rdI1 e1 rfl, rI_I, if_pos rfl, upd_s]; rfl
  refine v_Mo_span_39 ⟨fun h => absurd h (by decide), fun _ => ⟨vin 8 rfl, one rfl m1 fun μ2 e2 m2 => ⟨fun h => absurd h (by decide), fun _ => ?_⟩⟩⟩
  refine zup (P := fun k => ∀ μ', Lz zW μ' = Lz zW μ1 → MW μ' w → WW g i_Mo_span 0 Φ 0 0 39 [(0, .ref 140), (1, .int (nI n)), (2, .int d), (3, .int (nI (spN w d n k))), (4, .int (nI (k + 2)))] [] μ') 5 ?_ ?_ μ2 e2 m2
  · intro μ' e' m'
    exact v_Mo_span_39 ⟨fun _ => fin e' m', fun h => absurd (by decide) h⟩
  · intro k hk ih μ' e' m'
    have hs := sp_le m.2 (d := d) (n := n) k
    have ht := ty_le m.2 (s := nI (k + 2)) (n := n)
    refine v_Mo_span_39 ⟨fun h => absurd h (nI_nlt (a := 6) (b := k + 2) (by omega) (by omega)), fun _ => ⟨vin 8 rfl, one e' m' fun μ3 e3 m3 => ⟨fun _ => ?_, fun h => absurd (nI_pos' (n := spN w d n k) (by omega)) h⟩⟩⟩
    have ih' := ih μ3 e3 m3
    rw [mmin_nI (by omega) (by omega), mmax_nI (by omega) (by omega), ← nI_succ]
    have hd : spN w d n (k + 1) = if d = 0 then min (spN w d n k) (tyA w (nI (k + 2)) n none) else max (spN w d n k) (tyA w (nI (k + 2)) n none) := rfl
    rw [hd] at ih'
    refine ⟨fun h => ?_, fun h => ?_⟩
    · rw [if_pos h] at ih'; exact ih'
    · rw [if_neg h] at ih'; exact ih'
end TRI
