/-! school: the reference -/
def zSA (k j : Nat) : Bool := zSM k j || (Nat.beq k 140 && (Nat.beq j 0 || (Nat.beq j 14 || (Nat.beq j 16 || Nat.beq j 21))))
theorem zSM_A {μ μ' : Mem} (e : Lz zSM μ' = Lz zSM μ) : Lz zSA μ' = Lz zSA μ := Lz_up (fun k j h => by unfold zSA; rw [h]; rfl) e
def zMs (k j : Nat) : Bool := zSA k j || (Nat.beq k 143 || (Nat.beq k 140 && (Nat.beq j 8 || (Nat.beq j 12 || Nat.beq j 19))))
theorem zSA_s {μ μ' : Mem} (e : Lz zSA μ' = Lz zSA μ) : Lz zMs μ' = Lz zMs μ := Lz_up (fun k j h => by unfold zMs; rw [h]; rfl) e
section SMF
variable {g : Gl} {Φ : Out → Mem → Prop} {μ : Mem} {f : Nat → Int32} {n a : Nat} {w : WD}
/-- how a reader of lines ends -/
def EA (Φ : Out → Mem → Prop) (μ : Mem) (r : PRt WD) : Prop := ∀ μ', Lz zSA μ' = Lz zSA μ → mI μ' 140 14 = 0 → mI μ' 140 0 = 0 → (match r with
  | .inl x => MW μ' x.1 → ∀ k, k < 100 → Φ (.inl (some (.int (nI k)))) μ'
  | .inr b => mI μ' 140 17 = nI b → Φ (.inl (some (.int (-1)))) μ')
theorem m_rLi {k : Nat} (S : SM f n a w μ) (hk : k < 14) (H : EG Φ μ f n (lnS f n w a)) : Spec g i_Mo_readLine 0 [.ref 140, .int 1, .int (nI k)] μ Φ := by
  refine spi o_Mo_readLine rfl (v_Mo_readLine_0 (m_let S.1 fun μ1 e1 hB1 hp1 hb1 => oV ⟨fun q => absurd q (by decide), fun _ => ⟨fun q => absurd q (nI_ge (b := 14) hk (by decide)), fun _ => ⟨fun q => absurd q (by decide), fun _ => ?_⟩⟩⟩))
  exact m_rSL hB1 S.1.2.1 hp1 hb1 (MW_pt S.2 e1) (EG_b (EG_tr H (zPt_SM e1)))
theorem m_rLi14 (S : SM f n a w μ) (H : ∀ μ', Lz zPt μ' = Lz zPt μ → mI μ' 140 17 = nI a → Φ (.inl (some (.int 0))) μ') : Spec g i_Mo_readLine 0 [.ref 140, .int 1, .int 14] μ Φ :=
  spi o_Mo_readLine rfl (v_Mo_readLine_0 (m_let S.1 fun μ1 e1 hB1 hp1 hb1 => oV ⟨fun q => absurd q (by decide), fun _ => ⟨fun _ => z01 (H μ1 e1 hb1), fun q => absurd (by decide) q⟩⟩))
theorem hc59 : (decide (97 ≤ (59 : Int32)) && decide ((59 : Int32) ≤ 122)) = false ∧ (decide (48 ≤ (59 : Int32)) && decide ((59 : Int32) ≤ 57)) = false := by decide
theorem m_rAl28 : ∀ d k a w μ, k + d = 14 → SM f n a w μ → mI μ 140 14 = 0 → mI μ 140 0 = 0 → EA Φ μ (lnsS f n d w a) → WW g i_Mo_readAll 0 Φ 0 0 28 [(0, .ref 140), (1, .int 1), (2, .int (nI k))] [] μ := by
  intro d
  induction d with
  | zero =>
    intro k a w μ hk S h14 h0 H
    refine v_Mo_readAll_28 ?_
    rw [show k = 14 by omega]
    refine m_rLi14 S fun μ2 e2 hb2 => oI ⟨fun q => absurd rfl q, fun _ => ?_⟩
    exact H μ2 (zSM_A (zPt_SM e2)) ((rdI1 e2 rfl).trans h14) ((rdI1 e2 rfl).trans h0) hb2
  | succ d ih =>
    intro k a w μ hk S h14 h0 H
    unfold lnsS at H
    refine v_Mo_readAll_28 (m_rLi S (by omega) fun μ2 e2 => ?_)
    cases hr : lnS f n w a with
    | inr b =>
      intro hb
      rw [hr] at H
      exact oI ⟨fun q => absurd rfl q, fun _ => H μ2 (zSM_A e2) ((rdI1 e2 rfl).trans h14) ((rdI1 e2 rfl).trans h0) hb⟩
    | inl x =>
      intro S2
      rw [hr] at H
      simp only [bdP] at H
      have n4 := S2.1.1.1
      refine oI ⟨fun _ => m_blk S2.1 fun μ3 e3 hB3 hp3 hb3 => oV ?_, fun q => absurd q (by decide)⟩
      have z3 : Lz zSA μ3 = Lz zSA μ := (zSM_A (zPt_SM e3)).trans (zSM_A e2)
      have t14 : mI μ3 140 14 = 0 := (rdI1 e3 rfl).trans ((rdI1 e2 rfl).trans h14)
      have t0 : mI μ3 140 0 = 0 := (rdI1 e3 rfl).trans ((rdI1 e2 rfl).trans h0)
      have hle := S2.1.2.1
      rw [hp3, hB3.2.2]
      refine ⟨fun hne => ?_, fun heq => ?_⟩
      · have hlt : x.2 < n := by
          have : x.2 ≠ n := fun e => hne (by rw [e])
          omega
        rw [if_neg (by omega)] at H
        refine m_isA hB3 hle hp3 (oI ?_)
        rw [← sgn_is hc59]
        refine ⟨fun q => ?_, fun q => ?_⟩
        · have hs := b2i_n0.mp q
          rw [if_pos hs] at H
          rw [← nI_succ, hp3, ← nI_succ]
          have he : en f n x.2 = x.2 + 1 := by unfold en; rw [sgn_3 hs]; rfl
          refine ih (k + 1) (nxt f n x.2) x.1 (sI μ3 140 15 (nI (x.2 + 1))) (by omega) ⟨RK_nx hB3 hle ?_, MW_pt S2.2 ((Lz_I rfl).trans e3)⟩ ?_ ?_ fun μ4 e4 => H μ4 (e4.trans ((Lz_I rfl).trans z3))
          · rw [rI_I, if_pos rfl, upd_s, he]
          · rw [rI_I, if_pos rfl, upd_n (by decide)]; exact t14
          · rw [rI_I, if_pos rfl, upd_n (by decide)]; exact t0
        · rw [if_neg (by rw [b2i_0.mp q]; decide)] at H
          exact H μ3 z3 t14 t0 hb3
      · have : x.2 = n := nI_inj (by omega) (by omega) heq
        rw [if_pos (by omega)] at H
        rw [← nI_succ]
        exact H μ3 z3 t14 t0 (MW_pt S2.2 e3) (k + 1) (by omega)
theorem m_rAl (m : MW μ w) (hn : n ≤ 400) (hf : mI μ 147 = f) (h14 : mI μ 140 14 = nI n) (H : EA Φ μ (rdS f n w)) : Spec g i_Mo_readAll 0 [.ref 140, .int 1] μ Φ := by
  refine spi o_Mo_readAll rfl (v_Mo_readAll_0 (spi o_Mo_uses rfl (v_Mo_uses_0 (oV ?_))))
  rw [h14]
  have z1 : Lz zSA (sI (sI (sI (sI (sI μ 140 0 0) 140 16 (nI n)) 140 14 0) 140 15 0) 140 21 0) = Lz zSA μ := (Lz_I rfl).trans ((Lz_I rfl).trans ((Lz_I rfl).trans ((Lz_I rfl).trans (Lz_I rfl))))
  have hB : RBf f n (sI (sI (sI (sI (sI μ 140 0 0) 140 16 (nI n)) 140 14 0) 140 15 0) 140 21 0) := ⟨hn, hf, rfl⟩
  have t14 : mI (sI (sI (sI (sI (sI μ 140 0 0) 140 16 (nI n)) 140 14 0) 140 15 0) 140 21 0) 140 14 = 0 := rfl
  have t0 : mI (sI (sI (sI (sI (sI μ 140 0 0) 140 16 (nI n)) 140 14 0) 140 15 0) 140 21 0) 140 0 = 0 := rfl
  have t15 : mI (sI (sI (sI (sI (sI μ 140 0 0) 140 16 (nI n)) 140 14 0) 140 15 0) 140 21 0) 140 15 = nI 0 := rfl
  have m1 : MW (sI (sI (sI (sI (sI μ 140 0 0) 140 16 (nI n)) 140 14 0) 140 15 0) 140 21 0) w := ⟨m.1, m.2⟩
  generalize (sI (sI (sI (sI (sI μ 140 0 0) 140 16 (nI n)) 140 14 0) 140 15 0) 140 21 0) = μ1 at *
  have R1 : RK f n (tks f n 0) μ1 := ⟨hB, tks_le (Nat.zero_le _), tks_tk 0, 0, Nat.zero_le _, t15, rfl⟩
  refine m_blk R1 fun μ2 e2 hB2 hp2 hb2 => oV ?_
  have z2 : Lz zSA μ2 = Lz zSA μ := (zSM_A (zPt_SM e2)).trans z1
  have s14 : mI μ2 140 14 = 0 := (rdI1 e2 rfl).trans t14
  have s0 : mI μ2 140 0 = 0 := (rdI1 e2 rfl).trans t0
  have hle := R1.2.1
  unfold rdS at H
  rw [hp2, hB2.2.2]
  refine ⟨fun hne => ?_, fun heq => ?_⟩
  · have : tks f n 0 ≠ n := fun e => hne (by rw [e])
    rw [if_neg (by omega)] at H
    exact m_rAl28 14 0 (tks f n 0) w μ2 (by omega) ⟨RK_at hB2 hle (tks_tk 0) hp2, MW_pt m1 e2⟩ s14 s0 fun μ' e' => H μ' (e'.trans z2)
  · have : tks f n 0 = n := nI_inj (by omega) (by omega) heq
    rw [if_pos (by omega)] at H
    exact H μ2 z2 s14 s0 (MW_pt m1 e2) 0 (by omega)
/-- what was kept is brought back -/
theorem m_res {w' : WD} {h : Nat → Int32} (hb : ∀ j, j < 1864 → mI μ 143 j = w.1 j) (h8 : mL μ 140 8 = w.2) (hw : WF w) (H : ∀ μ' wR, Lz (fun k j => Nat.beq k 141 || (Nat.beq k 140 && Nat.beq j 6)) μ' = Lz (fun k j => Nat.beq k 141 || (Nat.beq k 140 && Nat.beq j 6)) μ → E18 w wR → MW μ' wR → Φ (.inl (some (.int 0))) μ') :
    WW g i_Mo_school 0 Φ 0 0 100 [(0, .ref 140), (2, .int 0)] [] μ := by
  refine zup (P := fun k => ∀ μ', Lz (fun k j => Nat.beq k 141 || (Nat.beq k 140 && Nat.beq j 6)) μ' = Lz (fun k j => Nat.beq k 141 || (Nat.beq k 140 && Nat.beq j 6)) μ → (∀ j, j < k → mI μ' 141 j = w.1 j) → WW g i_Mo_school 0 Φ 0 0 100 [(0, .ref 140), (2, .int (nI k))] [] μ') 1864 ?_ ?_ μ rfl (fun j h => absurd h (Nat.not_lt_zero _))
  · intro μ' e hc
    refine v_Mo_school_100 ⟨fun _ => ?_, fun h => absurd (nI_le (a := 1864) (b := 1864) (by decide) (by decide)) h⟩
    have eL : E18 w (mI μ' 141, w.2) := ⟨fun j hj => hc j hj, rfl⟩
    refine H _ (mI μ' 141, w.2) ((Lz_L rfl).trans e) eL ⟨Prod.ext rfl ?_, E_WF eL hw⟩
    show mL (sL μ' 140 6 _) 140 6 = _
    rw [rL_L, if_pos rfl, updL_s]; exact (rdL1 e rfl).trans h8
  · intro k hk ih μ' e hc
    refine v_Mo_school_100 ⟨fun h => absurd h (nI_ge (b := 1864) hk (by decide)), fun _ => ?_⟩
    rw [nx_nI (by omega), ← nI_succ]
    refine ⟨vp_in_nI (by omega) (by decide), vp_in_nI (by omega) (by decide), ih _ ((Lz_I rfl).trans e) fun j hj => ?_⟩
    rw [rI_I, if_pos rfl]
    by_cases q1 : j = k
    · rw [q1, upd_s, (rdI e fun _ => rfl : mI μ' 143 = mI μ 143), hb k hk]
    · rw [upd_n q1]; exact hc j (by omega)
theorem M_school {m : Nat} (mw : MW μ w) (hd : DS w) (hn : n ≤ 400) (hf : mI μ 147 = f) (h14 : mI μ 140 14 = nI n) (h3 : w.1 3 = nI m) (hm : m ≤ 12)
    (H : ∀ μ', Lz zMs μ' = Lz zMs μ → mI μ' 140 14 = 0 → (match rdS f n w with
      | .inr b => ∀ wR, E18 w wR → MW μ' wR → mI μ' 140 12 = mI μ 140 12 → mI μ' 140 19 = nI b → mI μ' 140 0 = 1 → Φ (.inl (some (.int 0))) μ'
      | .inl x => mI μ' 140 19 = -1 → if m = 12 then (∀ wR, E18 w wR → MW μ' wR → mI μ' 140 12 = mI μ 140 12 → mI μ' 140 0 = 2 → Φ (.inl (some (.int 0))) μ') else MW μ' (txW x.1) → mI μ' 140 12 = 0 → mI μ' 140 0 = 0 → Φ (.inl (some (.int (nI (m + 1))))) μ')) : Spec g i_Mo_school 0 [.ref 140] μ Φ := by
  refine spi o_Mo_school rfl (v_Mo_school_0 ?_)
  refine zup (P := fun k => ∀ μ', Lz (fun k _ => Nat.beq k 143) μ' = Lz (fun k _ => Nat.beq k 143) μ → (∀ j, j < k → mI μ' 143 j = w.1 j) → WW g i_Mo_school 0 Φ 0 0 2 [(0, .ref 140), (1, .int (nI k))] [] μ') 1864 ?_ ?_ μ rfl (fun j h => absurd h (Nat.not_lt_zero _))
  · intro μ1 e1 hc
    refine v_Mo_school_2 ⟨fun _ => ?_, fun h => absurd (nI_le (a := 1864) (b := 1864) (by decide) (by decide)) h⟩
    have m1 : MW μ1 w := MW_z e1 (fun _ => rfl) rfl mw
    rw [mw_l m1]
    have z2 : Lz zMs (sL μ1 140 8 w.2) = Lz zMs μ := (Lz_L rfl).trans (Lz_up (fun k j h => by
      unfold zMs
      simp only [Bool.or_eq_true, Nat.beq_eq] at h ⊢
      omega) e1)
    have g8 : mL (sL μ1 140 8 w.2) 140 8 = w.2 := by rw [rL_L, if_pos rfl, updL_s]
    have g143 : ∀ j, j < 1864 → mI (sL μ1 140 8 w.2) 143 j = w.1 j := hc
    have m2 : MW (sL μ1 140 8 w.2) w := by
      refine MW_of (mw_i m1) ?_ m1.2
      rw [rL_L, if_pos rfl, updL_n (by decide)]; exact mw_l m1
    have f2 : mI (sL μ1 140 8 w.2) 147 = f := (rdI e1 fun _ => rfl : mI μ1 147 = mI μ 147).trans hf
    have t2 : mI (sL μ1 140 8 w.2) 140 14 = nI n := (rdI1 e1 rfl : mI μ1 140 14 = mI μ 140 14).trans h14
    have r2 : mI (sL μ1 140 8 w.2) 140 12 = mI μ 140 12 := (rdI1 e1 rfl : mI μ1 140 12 = mI μ 140 12)
    generalize (sL μ1 140 8 w.2) = μ2 at *
    refine m_rAl m2 hn f2 t2 fun μ3 e3 t14 t0 => ?_
    have z3 : Lz zMs μ3 = Lz zMs μ := (zSA_s e3).trans z2
    have r3 : mI μ3 140 12 = mI μ 140 12 := (rdI1 e3 rfl).trans r2
    have g3 : ∀ j, j < 1864 → mI μ3 143 j = w.1 j := fun j hj => by rw [(rdI e3 fun _ => rfl : mI μ3 143 = mI μ2 143)]; exact g143 j hj
    have l3 : mL μ3 140 8 = w.2 := (rdL1 e3 rfl).trans g8
    have zz : ∀ {μ4 μ5 : Mem}, Lz (fun k j => Nat.beq k 141 || (Nat.beq k 140 && Nat.beq j 6)) μ5 = Lz (fun k j => Nat.beq k 141 || (Nat.beq k 140 && Nat.beq j 6)) μ4 → Lz zMs μ5 = Lz zMs μ4 := fun e => Lz_up (fun k j h => by
      unfold zMs zSA zSM
      simp only [Bool.or_eq_true, Bool.and_eq_true, Nat.beq_eq] at h ⊢
      omega) e
    cases hr : rdS f n w with
    | inr b =>
      intro h17
      refine oI ⟨fun q => absurd q n1nl, fun _ => ⟨fun q => absurd q n1nl, fun _ => thr1 (oI ⟨fun _ => ?_, fun q => absurd q (by decide)⟩)⟩⟩
      rw [h17]
      refine m_res (w := w) (w' := w) (h := w.1) g3 l3 mw.2 fun μ5 wR e5 eR mR => ?_
      have := H μ5 ((zz e5).trans ((Lz_I rfl).trans ((Lz_I rfl).trans z3))) ((rdI1 e5 rfl).trans t14)
      rw [hr] at this
      refine this wR eR mR ((rdI1 e5 rfl).trans r3) ?_ ?_
      · rw [rdI1 e5 rfl, rI_I, if_pos rfl, upd_n (by decide), rI_I, if_pos rfl, upd_s]
      · rw [rdI1 e5 rfl, rI_I, if_pos rfl, upd_s]
    | inl x =>
      intro m3 k hk
      obtain ⟨ok, kp⟩ := rdS_ok ⟨mw.2, hd⟩ hr
      have hx3 : x.1.1 3 = nI m := (kp 3 (Or.inl rfl)).trans h3
      refine oI ⟨fun _ => ⟨fun _ => thr0 (oI ⟨fun q => absurd rfl q, fun _ => ?_⟩), fun q => absurd (n0le (by omega)) q⟩, fun q => absurd (n0le (by omega)) q⟩
      have e141 : mI (sI μ3 140 19 (-1)) 141 = x.1.1 := mw_i m3
      rw [e141]
      rw [show x.1.1 (nx 3) = nI m from hx3]
      refine ⟨vin 3 rfl, fun hne => thr0 (oI ⟨fun _ => ⟨vin 3 rfl, vin 3 rfl, vin 3 rfl, ?_⟩, fun q => absurd rfl q⟩), fun heq => thr1 (oI ⟨fun q => absurd q (by decide), fun _ => ?_⟩)⟩
      · have hm12 : m ≠ 12 := fun e => hne (by rw [e]; rfl)
        rw [e141, show x.1.1 (nx 3) = nI m from hx3, ← nI_succ]
        have e5 : sI (sI μ3 140 19 (-1)) 141 (nx 3) (nI (m + 1)) = sRI (sI μ3 140 19 (-1)) 141 (txW x.1).1 := by
          rw [sI_RI, e141]
          congr 1
          show upd x.1.1 3 (nI (m + 1)) = upd x.1.1 3 (x.1.1 3 + 1)
          rw [hx3, nI_succ]
        rw [e5]
        have := H (sI (sRI (sI μ3 140 19 (-1)) 141 (txW x.1).1) 140 12 0) ((Lz_I rfl).trans ((Lz_RI fun _ => rfl).trans ((Lz_I rfl).trans z3))) t14
        rw [hr] at this
        dsimp only at this
        rw [if_neg hm12] at this
        refine this ?_ ?_ ?_ ?_
        · rw [rI_I, if_pos rfl, upd_n (by decide), rI_RI, if_neg (by decide), rI_I, if_pos rfl, upd_s]
        · have q3 := mw_l m3
          refine MW_of ?_ q3 (txW_ok ok hx3 (by omega)).1
          rw [rI_I, if_neg (by decide), rI_RI, if_pos rfl]
        · rw [rI_I, if_pos rfl, upd_s]
        · rw [rI_I, if_pos rfl, upd_n (by decide), rI_RI, if_neg (by decide), rI_I, if_pos rfl, upd_n (by decide)]; exact t0
      · have hm12 : m = 12 := nI_inj (b := 12) (by omega) (by omega) heq
        refine m_res (w := w) (w' := w) (h := w.1) g3 l3 mw.2 fun μ5 wR e5 eR mR => ?_
        have := H μ5 ((zz e5).trans ((Lz_I rfl).trans ((Lz_I rfl).trans z3))) ((rdI1 e5 rfl).trans t14)
        rw [hr] at this
        dsimp only at this
        rw [if_pos hm12] at this
        refine this ?_ wR eR mR ((rdI1 e5 rfl).trans r3) ?_
        · rw [rdI1 e5 rfl, rI_I, if_pos rfl, upd_n (by decide), rI_I, if_pos rfl, upd_s]
        · rw [rdI1 e5 rfl, rI_I, if_pos rfl, upd_s]
  · intro k hk ih μ' e hc
    refine v_Mo_school_2 ⟨fun h => absurd h (nI_ge (b := 1864) hk (by decide)), fun _ => ?_⟩
    rw [nx_nI (by omega), ← nI_succ]
    refine ⟨vp_in_nI (by omega) (by decide), vp_in_nI (by omega) (by decide), ih _ ((Lz_I rfl).trans e) fun j hj => ?_⟩
    rw [rI_I, if_pos rfl]
    by_cases q1 : j = k
    · rw [q1, upd_s, (rdI e fun _ => rfl : mI μ' 141 = mI μ 141), mw_i mw]
    · rw [upd_n q1]; exact hc j (by omega)
end SMF
