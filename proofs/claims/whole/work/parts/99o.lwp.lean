/-! law: the reference -/
section LWR
variable {g : Gl} {Φ : Out → Mem → Prop} {μ : Mem} {f : Nat → Int32} {n a : Nat} {w : WD} {s : LST}
def ENa (Φ : Out → Mem → Prop) (μ : Mem) (w : WD) (r : PRt LST) : Prop := ∀ μ', Lz zLA μ' = Lz zLA μ → mI μ' 140 14 = 0 → mI μ' 140 0 = 0 → (match r with
  | .inl x => (∃ u, E18 w u ∧ MW μ' u ∧ LDr x.1 u) → Φ (.inl (some (.int (nI x.1.1.length)))) μ'
  | .inr b => mI μ' 140 17 = nI b → (∃ u, E18 w u ∧ MW μ' u) → Φ (.inl (some (.int (-1)))) μ')
theorem m_lLi (S : SN f n a w s μ) (h12 : s.1.length < 12) (hl : s.2.length ≤ a) (ho : OKL s) (H : ENl Φ μ f n w (lnL f n s a)) : Spec g i_Mo_readLine 0 [.ref 140, .int 0, .int (nI s.1.length)] μ Φ := by
  obtain ⟨R, ⟨u, h1, h2, h3⟩, hs⟩ := S
  refine spi o_Mo_readLine rfl (v_Mo_readLine_0 (m_let R fun μ1 e1 hB1 hp1 hb1 => oV ⟨fun _ => ⟨fun q => absurd q (nI_ge (b := 12) h12 (by decide)), fun _ => ⟨fun _ => ?_, fun q => absurd rfl q⟩⟩, fun q => absurd rfl q⟩))
  refine m_rLL hB1 R.2.1 hp1 hb1 h1 (MW_pt h2 e1) h3 ((rdI1 e1 rfl).trans hs) h12 hl ho fun μ2 e2 => ?_
  have H2 := H μ2 (e2.trans (zPt_LM e1))
  cases hr : lnL f n s a with
  | inr b =>
    rw [hr] at H2
    exact fun hb hu => oI ⟨fun _ => z01 (H2 hb hu), fun q => absurd rfl q⟩
  | inl x =>
    rw [hr] at H2
    exact fun S2 => oI ⟨fun q => absurd q (by decide), fun _ => z11 (H2 S2)⟩
theorem m_lLi12 (R : RK f n a μ) (H : ∀ μ', Lz zPt μ' = Lz zPt μ → mI μ' 140 17 = nI a → Φ (.inl (some (.int 0))) μ') : Spec g i_Mo_readLine 0 [.ref 140, .int 0, .int 12] μ Φ :=
  spi o_Mo_readLine rfl (v_Mo_readLine_0 (m_let R fun μ1 e1 hB1 hp1 hb1 => oV ⟨fun _ => ⟨fun _ => z01 (H μ1 e1 hb1), fun q => absurd (by decide) q⟩, fun q => absurd rfl q⟩))
theorem m_lAl28 : ∀ d a s μ, s.1.length + d = 12 → SN f n a w s μ → OKL s → s.2.length ≤ a → mI μ 140 14 = 0 → mI μ 140 0 = 0 → ENa Φ μ w (lnsL f n d s a) → WW g i_Mo_readAll 0 Φ 0 0 28 [(0, .ref 140), (1, .int 0), (2, .int (nI s.1.length))] [] μ := by
  intro d
  induction d with
  | zero =>
    intro a s μ hk S ho hl h14 h0 H
    refine v_Mo_readAll_28 ?_
    obtain ⟨R, ⟨u, h1, h2, h3⟩, hs⟩ := S
    rw [show s.1.length = 12 by omega]
    refine m_lLi12 R fun μ2 e2 hb2 => oI ⟨fun q => absurd rfl q, fun _ => ?_⟩
    exact H μ2 (zLM_A (zPt_LM e2)) ((rdI1 e2 rfl).trans h14) ((rdI1 e2 rfl).trans h0) hb2 ⟨u, h1, MW_pt h2 e2⟩
  | succ d ih =>
    intro a s μ hk S ho hl h14 h0 H
    have ha := S.1.2.1
    unfold lnsL at H
    refine v_Mo_readAll_28 (m_lLi S (by omega) hl ho fun μ2 e2 => ?_)
    cases hr : lnL f n s a with
    | inr b =>
      intro hb hu
      rw [hr] at H
      exact oI ⟨fun q => absurd rfl q, fun _ => H μ2 (zLM_A e2) ((rdI1 e2 rfl).trans h14) ((rdI1 e2 rfl).trans h0) hb hu⟩
    | inl x =>
      intro S2
      rw [hr] at H
      simp only [bdP] at H
      obtain ⟨o1, o2, o3, o4, o5⟩ := lnL_ok ha ho hr
      have n4 := S2.1.1.1
      refine oI ⟨fun _ => m_blk S2.1 fun μ3 e3 hB3 hp3 hb3 => oV ?_, fun q => absurd q (by decide)⟩
      have z3 : Lz zLA μ3 = Lz zLA μ := (zLM_A (zPt_LM e3)).trans (zLM_A e2)
      have t14 : mI μ3 140 14 = 0 := (rdI1 e3 rfl).trans ((rdI1 e2 rfl).trans h14)
      have t0 : mI μ3 140 0 = 0 := (rdI1 e3 rfl).trans ((rdI1 e2 rfl).trans h0)
      obtain ⟨R2, ⟨u, h1, h2, h3⟩, hs⟩ := S2
      rw [hp3, hB3.2.2]
      refine ⟨fun hne => ?_, fun heq => ?_⟩
      · have hlt : x.2 < n := by
          have : x.2 ≠ n := fun e => hne (by rw [e])
          omega
        rw [if_neg (by omega)] at H
        refine m_isA hB3 o4 hp3 (oI ?_)
        rw [← sgn_is hc59]
        refine ⟨fun q => ?_, fun q => ?_⟩
        · have hsg := b2i_n0.mp q
          rw [if_pos hsg] at H
          rw [← nI_succ, hp3, ← nI_succ, ← o2]
          have he : en f n x.2 = x.2 + 1 := by unfold en; rw [sgn_3 hsg]; rfl
          have hgt := nxt_gt (sgn_k hsg)
          refine ih (nxt f n x.2) x.1 (sI μ3 140 15 (nI (x.2 + 1))) (by omega) ⟨RK_nx hB3 o4 ?_, ⟨u, h1, ?_, h3⟩, ?_⟩ o1 (by omega) ?_ ?_ fun μ4 e4 => H μ4 (e4.trans ((Lz_I rfl).trans z3))
          · rw [rI_I, if_pos rfl, upd_s, he]
          · exact MW_pt h2 ((Lz_I rfl).trans e3)
          · rw [rI_I, if_pos rfl, upd_n (by decide)]; exact (rdI1 e3 rfl).trans hs
          · rw [rI_I, if_pos rfl, upd_n (by decide)]; exact t14
          · rw [rI_I, if_pos rfl, upd_n (by decide)]; exact t0
        · rw [if_neg (by rw [b2i_0.mp q]; decide)] at H
          exact H μ3 z3 t14 t0 hb3 ⟨u, h1, MW_pt h2 e3⟩
      · have : x.2 = n := nI_inj (by omega) (by omega) heq
        rw [if_pos (by omega)] at H
        rw [← nI_succ, ← o2]
        exact H μ3 z3 t14 t0 ⟨u, h1, MW_pt h2 e3, h3⟩
theorem m_lAl (m : MW μ w) (hn : n ≤ 400) (hf : mI μ 147 = f) (h14 : mI μ 140 14 = nI n) (H : ENa Φ μ w (rdLw f n)) : Spec g i_Mo_readAll 0 [.ref 140, .int 0] μ Φ := by
  refine spi o_Mo_readAll rfl (v_Mo_readAll_0 (spi o_Mo_uses rfl (v_Mo_uses_0 (oV ?_))))
  rw [h14]
  have z1 : Lz zLA (sI (sI (sI (sI (sI μ 140 0 0) 140 16 (nI n)) 140 14 0) 140 15 0) 140 21 0) = Lz zLA μ := (Lz_I rfl).trans ((Lz_I rfl).trans ((Lz_I rfl).trans ((Lz_I rfl).trans (Lz_I rfl))))
  have hB : RBf f n (sI (sI (sI (sI (sI μ 140 0 0) 140 16 (nI n)) 140 14 0) 140 15 0) 140 21 0) := ⟨hn, hf, rfl⟩
  have t14 : mI (sI (sI (sI (sI (sI μ 140 0 0) 140 16 (nI n)) 140 14 0) 140 15 0) 140 21 0) 140 14 = 0 := rfl
  have t0 : mI (sI (sI (sI (sI (sI μ 140 0 0) 140 16 (nI n)) 140 14 0) 140 15 0) 140 21 0) 140 0 = 0 := rfl
  have t15 : mI (sI (sI (sI (sI (sI μ 140 0 0) 140 16 (nI n)) 140 14 0) 140 15 0) 140 21 0) 140 15 = nI 0 := rfl
  have t21 : mI (sI (sI (sI (sI (sI μ 140 0 0) 140 16 (nI n)) 140 14 0) 140 15 0) 140 21 0) 140 21 = nI 0 := rfl
  have m1 : MW (sI (sI (sI (sI (sI μ 140 0 0) 140 16 (nI n)) 140 14 0) 140 15 0) 140 21 0) w := ⟨m.1, m.2⟩
  generalize (sI (sI (sI (sI (sI μ 140 0 0) 140 16 (nI n)) 140 14 0) 140 15 0) 140 21 0) = μ1 at *
  have R1 : RK f n (tks f n 0) μ1 := ⟨hB, tks_le (Nat.zero_le _), tks_tk 0, 0, Nat.zero_le _, t15, rfl⟩
  refine m_blk R1 fun μ2 e2 hB2 hp2 hb2 => oV ?_
  have z2 : Lz zLA μ2 = Lz zLA μ := (zLM_A (zPt_LM e2)).trans z1
  have s14 : mI μ2 140 14 = 0 := (rdI1 e2 rfl).trans t14
  have s0 : mI μ2 140 0 = 0 := (rdI1 e2 rfl).trans t0
  have s21 : mI μ2 140 21 = nI 0 := (rdI1 e2 rfl).trans t21
  have hle := R1.2.1
  have d0 : LDr ([], []) w := ⟨fun i hi => absurd hi (Nat.not_lt_zero _), fun i hi => absurd hi (Nat.not_lt_zero _)⟩
  unfold rdLw at H
  rw [hp2, hB2.2.2]
  refine ⟨fun hne => ?_, fun heq => ?_⟩
  · have : tks f n 0 ≠ n := fun e => hne (by rw [e])
    rw [if_neg (by omega)] at H
    exact m_lAl28 12 (tks f n 0) ([], []) μ2 rfl ⟨RK_at hB2 hle (tks_tk 0) hp2, ⟨w, E18_rfl, MW_pt m1 e2, d0⟩, s21⟩ OKL_0 (Nat.zero_le _) s14 s0 fun μ' e' => H μ' (e'.trans z2)
  · have : tks f n 0 = n := nI_inj (by omega) (by omega) heq
    rw [if_pos (by omega)] at H
    exact H μ2 z2 s14 s0 ⟨w, E18_rfl, MW_pt m1 e2, d0⟩
theorem M_law (mw : MW μ w) (hn : n ≤ 400) (hf : mI μ 147 = f) (h14 : mI μ 140 14 = nI n)
    (H : ∀ μ', Lz zMl μ' = Lz zMl μ → mI μ' 140 14 = 0 → (match rdLw f n with
      | .inr b => ∀ wR, E18 w wR → MW μ' wR → mI μ' 140 12 = mI μ 140 12 → mI μ' 140 19 = nI b → mI μ' 140 0 = 1 → Φ (.inl (some (.int 0))) μ'
      | .inl x => ∀ v, LWV w x.1 v → MW μ' v → mI μ' 140 19 = -1 → mI μ' 140 12 = 0 → mI μ' 140 0 = 0 → Φ (.inl (some (.int (nI x.1.1.length)))) μ')) : Spec g i_Mo_law 0 [.ref 140] μ Φ := by
  refine spi o_Mo_law rfl (v_Mo_law_0 (m_lAl mw hn hf h14 fun μ1 e1 t14 t0 => ?_))
  have z1 : Lz zMl μ1 = Lz zMl μ := zLA_l e1
  have r1 : mI μ1 140 12 = mI μ 140 12 := rdI1 e1 rfl
  cases hr : rdLw f n with
  | inr b =>
    intro h17 ⟨u, hu, mu⟩
    refine oI ⟨fun q => absurd q n1nl, fun _ => ⟨fun q => absurd q n1nl, fun _ => thr1 (oI ⟨fun q => absurd q (by decide), fun _ => ?_⟩)⟩⟩
    rw [h17]
    have := H (sI (sI μ1 140 19 (nI b)) 140 0 1) ((Lz_I rfl).trans ((Lz_I rfl).trans z1)) t14
    rw [hr] at this
    exact this u hu ⟨mu.1, mu.2⟩ r1 rfl rfl
  | inl x =>
    intro ⟨u, hu, mu, hd⟩
    obtain ⟨ok, k12, k4⟩ := rdLw_ok hr
    refine oI ⟨fun _ => ⟨fun _ => thr0 (oI ⟨fun _ => ⟨vin 1864 rfl, ?_⟩, fun q => absurd rfl q⟩), fun q => absurd (n0le (by omega)) q⟩, fun q => absurd (n0le (by omega)) q⟩
    rw [show nx 1864 = 1864 from rfl]
    have e141 : mI μ1 141 = u.1 := mw_i mu
    have el : mL μ1 140 6 = u.2 := mw_l mu
    have b2 : ∀ j, mI (sI (sI μ1 140 19 (-1)) 141 1864 (nI x.1.1.length)) 141 j = if j = 1864 then nI x.1.1.length else u.1 j := fun j => by
      rw [rI_I, if_pos rfl, rI_I, if_neg (by decide), e141]
      by_cases q : j = 1864
      · rw [if_pos q, q, upd_s]
      · rw [if_neg q, upd_n q]
    have z2 : Lz zMl (sI (sI μ1 140 19 (-1)) 141 1864 (nI x.1.1.length)) = Lz zMl μ := (Lz_I rfl).trans ((Lz_I rfl).trans z1)
    have l2 : mL (sI (sI μ1 140 19 (-1)) 141 1864 (nI x.1.1.length)) 140 6 = u.2 := el
    have p14 : mI (sI (sI μ1 140 19 (-1)) 141 1864 (nI x.1.1.length)) 140 14 = 0 := t14
    have p0 : mI (sI (sI μ1 140 19 (-1)) 141 1864 (nI x.1.1.length)) 140 0 = 0 := t0
    have p19 : mI (sI (sI μ1 140 19 (-1)) 141 1864 (nI x.1.1.length)) 140 19 = -1 := rfl
    generalize (sI (sI μ1 140 19 (-1)) 141 1864 (nI x.1.1.length)) = μ2 at *
    refine zup (P := fun k => ∀ μ', Lz (fun k _ => Nat.beq k 141) μ' = Lz (fun k _ => Nat.beq k 141) μ2 → (∀ j, mI μ' 141 j = if 1015 ≤ j ∧ j < 1015 + k then mI μ2 141 (j + 849) else mI μ2 141 j) → WW g i_Mo_law 0 Φ 0 0 52 [(0, .ref 140), (1, .int (nI x.1.1.length)), (2, .int (nI k))] [] μ') 849 ?_ ?_ μ2 rfl (fun j => (if_neg (by omega)).symm)
    · intro μ3 e3 hc
      refine v_Mo_law_52 ⟨fun _ => ⟨vin 4 rfl, ?_⟩, fun q => absurd (nI_le (a := 849) (b := 849) (by decide) (by decide)) q⟩
      rw [show nx 4 = 4 from rfl]
      have hV : LWV w x.1 (upd (mI μ3 141) 4 1, w.2) := by
        have up : ∀ j, j ≠ 4 → upd (mI μ3 141) 4 1 j = if 1015 ≤ j ∧ j < 1864 then mI μ2 141 (j + 849) else mI μ2 141 j := fun j hj => by rw [upd_n hj]; exact hc j
        have hi : ∀ j, 1015 < j → j < 1864 → upd (mI μ3 141) 4 1 j = u.1 (j + 849) := fun j h1 h2 => by rw [up j (by omega), if_pos (by omega), b2, if_neg (by omega)]
        refine ⟨⟨fun j h1 h2 => ?_, rfl⟩, upd_s (f := mI μ3 141) (k := 4) (x := 1), ?_, fun i hi' => ?_, fun i hi' => ?_⟩
        · show upd (mI μ3 141) 4 1 j = _
          rw [up j h2, if_neg (by omega), b2, if_neg (by omega)]; exact hu.1 j (by omega)
        · show upd (mI μ3 141) 4 1 1015 = _
          rw [up 1015 (by decide), if_pos (by omega), b2, if_pos rfl]
        · obtain ⟨q1, q2, q3, q4⟩ := hd.1 i hi'
          show upd (mI μ3 141) 4 1 (1016 + 4 * i + 0) = _ ∧ upd (mI μ3 141) 4 1 (1016 + 4 * i + 1) = _ ∧ upd (mI μ3 141) 4 1 (1016 + 4 * i + 2) = _ ∧ upd (mI μ3 141) 4 1 (1016 + 4 * i + 3) = _
          rw [hi _ (by omega) (by omega), hi _ (by omega) (by omega), hi _ (by omega) (by omega), hi _ (by omega) (by omega), show 1016 + 4 * i + 0 + 849 = 1865 + 4 * i by omega, show 1016 + 4 * i + 1 + 849 = 1865 + 4 * i + 1 by omega, show 1016 + 4 * i + 2 + 849 = 1865 + 4 * i + 2 by omega, show 1016 + 4 * i + 3 + 849 = 1865 + 4 * i + 3 by omega]
          exact ⟨q1, q2, q3, q4⟩
        · obtain ⟨q1, q2⟩ := hd.2 i hi'
          show upd (mI μ3 141) 4 1 (1064 + 2 * i) = _ ∧ upd (mI μ3 141) 4 1 (1065 + 2 * i) = _
          rw [hi _ (by omega) (by omega), hi _ (by omega) (by omega), show 1064 + 2 * i + 849 = 1913 + 2 * i by omega, show 1065 + 2 * i + 849 = 1913 + 2 * i + 1 by omega]
          exact ⟨q1, q2⟩
      have hl : mL μ3 140 6 = w.2 := (rdL1 e3 rfl).trans (l2.trans hu.2)
      have := H (sI (sI μ3 141 4 1) 140 12 0) ((Lz_I rfl).trans ((Lz_I rfl).trans ((Lz_up (fun k j h => by
        unfold zMl zLA zLM
        simp only [Bool.or_eq_true, Nat.beq_eq] at h ⊢
        omega) e3).trans z2))) ((rdI1 e3 rfl : mI μ3 140 14 = mI μ2 140 14).trans p14)
      rw [hr] at this
      refine this _ hV (MW_of ?_ hl (LWV_WF hV mw.2 ok k12 (by omega))) ((rdI1 e3 rfl : mI μ3 140 19 = mI μ2 140 19).trans p19) rfl ((rdI1 e3 rfl : mI μ3 140 0 = mI μ2 140 0).trans p0)
      rw [rI_I, if_neg (by decide), rI_I, if_pos rfl]
    · intro k hk ih μ' e hc
      refine v_Mo_law_52 ⟨fun h => absurd h (nI_ge (b := 849) hk (by decide)), fun _ => ?_⟩
      have j1 : (1864 : Int32) + nI k = nI (1864 + k) := nI_add 1864 k
      have j2 : (1015 : Int32) + nI k = nI (1015 + k) := nI_add 1015 k
      rw [j1, j2, nx_nI (by omega), nx_nI (by omega), ← nI_succ]
      refine ⟨vp_in_nI (by omega) (by decide), vp_in_nI (by omega) (by decide), ih _ ((Lz_I rfl).trans e) fun j => ?_⟩
      rw [rI_I, if_pos rfl]
      by_cases q1 : j = 1015 + k
      · rw [q1, upd_s, hc, if_neg (by omega), if_pos (by omega), show 1015 + k + 849 = 1864 + k by omega]
      · rw [upd_n q1, hc]
        by_cases q2 : 1015 ≤ j ∧ j < 1015 + k
        · rw [if_pos q2, if_pos (by omega)]
        · rw [if_neg q2, if_neg (by omega)]
end LWR
