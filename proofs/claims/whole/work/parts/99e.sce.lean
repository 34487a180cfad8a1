/-! school, on both sides -/
def txW (w : WD) : WD := (upd w.1 3 (w.1 3 + 1), w.2)
section SCE
variable {f : Nat → Int32} {n a : Nat} {w : WD}
theorem twP_l {bs : List Int32} {x : Unit × Nat} (h : twP f n a bs = .inl x) : wdm f n a bs = true ∧ x.2 = nxt f n a := by
  unfold twP at h
  split at h
  · rename_i q; exact ⟨q, by rw [← Sum.inl.inj h]⟩
  · cases h
theorem lnS_ok (hw : OKW w) {x : WD × Nat} (h : lnS f n w a = .inl x) : OKW x.1 := by
  have p10 := (wf_pe hw.1.1).2
  have r12 := (wf_ru hw.1.1).2
  have t10 := (wf_th hw.1.1).2
  unfold lnS at h
  split at h
  · unfold lnTh at h
    split at h
    · rename_i ht
      obtain ⟨y, k1, h⟩ := bdP_l h
      obtain ⟨q1, q2⟩ := tnP_l k1
      obtain ⟨k, j1, j2, j3⟩ := nok_b (lo := 1) (m := 6) (by omega) (by omega) q1
      rw [← Sum.inl.inj h, q2]
      dsimp only
      rw [j3, nx_nI (by omega)]
      exact ⟨adT_WF hw.1 ht j1 j2, DS_of hw.2 (congrArg nx (adT_lo (by omega) (by omega))) fun p c _ => adT_lo (by omega) (by omega)⟩
    · cases h
  · split at h
    · unfold lnPe at h
      split at h
      · rename_i hp
        obtain ⟨y, k1, h⟩ := bdP_l h
        obtain ⟨q1, q2⟩ := tnP_l k1
        obtain ⟨x0, -, x1, x2⟩ := nok_b (lo := 0) (m := 9) (by omega) (by omega) q1
        rw [q2] at h
        dsimp only at h
        rw [x2] at h
        split at h
        · rename_i hy
          obtain ⟨y0, -, y1, y2⟩ := nok_b (lo := 0) (m := 9) (by omega) (by omega) hy.1
          rw [y2] at h hy
          unfold lnP2 at h
          obtain ⟨u1, -, h⟩ := bdP_l h
          obtain ⟨u2, k2, h⟩ := bdP_l h
          obtain ⟨v1, v2⟩ := tnP_l k2
          obtain ⟨e0, -, e1, e2⟩ := nok_b (lo := 0) (m := 9) (by omega) (by omega) v1
          rw [v2] at h
          dsimp only at h
          rw [e2] at h
          obtain ⟨u3, -, h⟩ := bdP_l h
          obtain ⟨u4, k4, h⟩ := bdP_l h
          obtain ⟨v3, v4⟩ := tnP_l k4
          obtain ⟨s0, -, s1, s2⟩ := nok_b (lo := 0) (m := 100) (by omega) (by omega) v3
          rw [v4] at h
          dsimp only at h
          rw [s2] at h
          split at h
          · obtain ⟨u5, k5, h⟩ := bdP_l h
            have hb := thL_bits (f := f) (n := n) (w := w) t10 _ _ 0 u5 (fun i _ _ => b_0 i) k5
            have ho : pOK w (nI x0) (nI y0) (nI e0) (nI s0) u5.1 := ⟨⟨x0, x1, rfl⟩, ⟨y0, y1, rfl⟩, ⟨e0, e1, rfl⟩, ⟨s0, s1, rfl⟩, hb⟩
            rw [← Sum.inl.inj h]
            exact ⟨adP_WF hw.1 hp ho, adP_DS hw.2 hp hy.2⟩
          · have ho : pOK w (nI x0) (nI y0) (nI e0) (nI s0) 0 := ⟨⟨x0, x1, rfl⟩, ⟨y0, y1, rfl⟩, ⟨e0, e1, rfl⟩, ⟨s0, s1, rfl⟩, fun i _ _ => b_0 i⟩
            rw [← Sum.inl.inj h]
            exact ⟨adP_WF hw.1 hp ho, adP_DS hw.2 hp hy.2⟩
        · cases h
      · cases h
    · split at h
      · unfold lnFo at h
        split at h
        · rename_i hr
          obtain ⟨u1, k1, h⟩ := bdP_l h
          obtain ⟨v1, v2⟩ := tnP_l k1
          obtain ⟨x, x1, x2⟩ := nok_p (by omega) v1
          obtain ⟨u2, k2, h⟩ := bdP_l h
          obtain ⟨v3, v4⟩ := tnP_l k2
          obtain ⟨y, y1, y2⟩ := nok_p (by omega) v3
          obtain ⟨u3, k3, h⟩ := bdP_l h
          obtain ⟨v5, v6⟩ := tnP_l k3
          obtain ⟨z, z1, z2⟩ := nok_p (by omega) v5
          rw [← Sum.inl.inj h, v6, v4, v2]
          rw [v4, v2] at z2
          rw [v2] at y2
          dsimp only at y2 z2 ⊢
          rw [x2, y2, z2]
          refine ⟨adR_WF hw.1 hr x1 y1 z1, fun p q h1 h2 => ?_⟩
          have ep : pe (adR w (nI x) (nI y) (nI z)) = pe w := congrArg nx (adR_o (by omega) (by omega))
          have epf : ∀ p c, p < 10 → c < 6 → pf (adR w (nI x) (nI y) (nI z)) p c = pf w p c := fun p c hp hc => adR_o (by omega) (by omega)
          rw [ep] at h1
          rw [epf p 0 (by omega) (by omega), epf q 0 (by omega) (by omega), epf p 1 (by omega) (by omega), epf q 1 (by omega) (by omega)]
          exact hw.2 p q h1 h2
        · cases h
      · split at h
        · unfold lnSa at h
          obtain ⟨u1, k1, h⟩ := bdP_l h
          obtain ⟨v1, v2⟩ := tnP_l k1
          obtain ⟨t, t1, t2⟩ := nok_p (by omega) v1
          have w6 := (wf_wo hw.1.1 (show t < 10 by omega)).2.1
          rw [v2] at h
          dsimp only at h
          rw [t2, nx_nI (by omega)] at h
          obtain ⟨u2, k2, h⟩ := bdP_l h
          obtain ⟨v3, v4⟩ := tnP_l k2
          obtain ⟨q, q1, q2⟩ := nok_p (by omega) v3
          rw [← Sum.inl.inj h, v4]
          dsimp only
          rw [q2, nx_nI (by omega)]
          exact ⟨WF_st hw.1 (by omega) q1, DS_of hw.2 rfl fun _ _ _ => rfl⟩
        · split at h
          · unfold lnAb at h
            obtain ⟨y1, k1, h⟩ := bdP_l h
            obtain ⟨q1, q2⟩ := tnP_l k1
            obtain ⟨p, p2, p3⟩ := nok_p (by omega) q1
            rw [← Sum.inl.inj h, q2]
            dsimp only
            rw [p3, nx_nI (by omega)]
            exact ⟨abW_WF hw.1 p2, DS_of hw.2 (congrArg nx (upd_n (by omega))) fun o c hc => by rw [abW_pf (by omega), if_neg (by omega)]⟩
          · split at h
            · unfold lnLo at h
              obtain ⟨y1, k1, h⟩ := bdP_l h
              obtain ⟨q1, q2⟩ := tnP_l k1
              obtain ⟨k, -, k2, k3⟩ := nok_b (lo := 0) (m := 9) (by omega) (by omega) q1
              rw [← Sum.inl.inj h, q2]
              dsimp only
              rw [k3]
              exact ⟨hd_WF hw.1 (c := 6) (Or.inl rfl) rfl (fun j hj => upd_n hj) ⟨k, by omega, upd_s (f := w.1) (k := 6) (x := nI k)⟩, DS_of hw.2 (congrArg nx (upd_n (f := w.1) (k := 6) (j := 1) (x := nI k) (by decide))) fun p c _ => upd_n (by omega)⟩
            · cases h
theorem lnsS_ok : ∀ d w a x, OKW w → lnsS f n d w a = .inl x → OKW x.1 ∧ kpW w x.1 := by
  intro d
  induction d with
  | zero => intro w a x _ h; cases h
  | succ d ih =>
    intro w a x hw h
    unfold lnsS at h
    obtain ⟨y, k1, h⟩ := bdP_l h
    have o1 := lnS_ok hw k1
    have o2 := lnS_kp hw.1 k1
    split at h
    · rw [← Sum.inl.inj h]; exact ⟨o1, o2⟩
    · split at h
      · obtain ⟨i1, i2⟩ := ih y.1 _ x o1 h
        exact ⟨i1, kpW_tr o2 i2⟩
      · cases h
theorem rdS_ok {x : WD × Nat} (hw : OKW w) (h : rdS f n w = .inl x) : OKW x.1 ∧ kpW w x.1 := by
  unfold rdS at h
  split at h
  · rw [← Sum.inl.inj h]; exact ⟨hw, fun _ _ => rfl⟩
  · exact lnsS_ok 14 w _ x hw h
theorem txW_ok {m : Nat} (hw : OKW w) (h3 : w.1 3 = nI m) (hm : m < 12) : OKW (txW w) := by
  have e3 : (txW w).1 3 = nI (m + 1) := by
    show upd w.1 3 (w.1 3 + 1) 3 = _
    rw [upd_s, h3, nI_succ]
  exact ⟨hd_WF hw.1 (c := 3) (Or.inr rfl) rfl (fun j hj => upd_n hj) ⟨m + 1, by omega, e3⟩, DS_of hw.2 (congrArg nx (upd_n (f := w.1) (k := 3) (x := w.1 3 + 1) (j := 1) (by decide))) fun p c _ => upd_n (by omega)⟩
end SCE
def zCs (k j : Nat) : Bool := (Nat.beq k 1 && Nat.ble 1 j) || ((Nat.ble 4 k && Nat.ble k 28) || ((Nat.ble 71 k && Nat.ble k 90) || (Nat.beq k 0 && Nat.beq j 8)))
section SCG
variable {g : Gl} {Φ : Out → Mem → Prop} {μ : Mem} {f : Nat → Int32} {n a : Nat} {w : WD}
theorem c_rLS0 (hn : n ≤ 400) (hf : mI μ 2 = f) (h1 : mI μ 1 1 = nI n) (r1 : RSet 71 μ w) (r2 : RSta 78 μ w) (hw : OKW w)
    (H : ∀ μ', Lz zSRf μ' = Lz zSRf μ → (match rdS f n w with
      | .inl x => SC f n x.2 x.1 μ' → mI μ' 1 2 = -1 → ∀ k, ¬ k = -1 → Φ (.inl (some (.int k))) μ'
      | .inr b => mI μ' 1 2 = nI b → Φ (.inl (some (.int (-1)))) μ')) : Spec g i_LineR_readLines 0 [.ref 70, .int 14] μ Φ := by
  refine spi o_LineR_readLines rfl (v_LineR_readLines_S_0 (c_open hn hf h1 fun μ1 e1 t1 => oV ?_))
  have e1' : Lz zSRf μ1 = Lz zSRf μ := (zSR_f (zTk_SR e1)).trans (Lz_I rfl)
  have S1 : SC f n (tks f n 0) w μ1 := ⟨t1, RSet_mem (fun k h1 h2 => (rdI e1 fun j => zTk_n (by omega)).trans (by rw [rI_I, if_neg (by omega)])) r1, RSta_mem (fun k h1 h2 => (rdI e1 fun j => zTk_n (by omega)).trans (by rw [rI_I, if_neg (by omega)])) ((rdL e1 fun j => zTk_n (by omega)).trans rfl) r2, hw⟩
  have h2 : mI μ1 1 2 = -1 := (rdI1 e1 rfl).trans (by rw [rI_I, if_pos rfl, upd_s])
  unfold rdS at H
  refine c_aE t1 (oI ⟨fun q => ?_, fun q => ?_⟩)
  · have hk := of_decide_eq_false (b2i_0.mp q)
    have hlt := kd_n0 hk
    rw [if_neg (by omega)] at H
    exact c_rLs S1 h2 hlt fun μ' e' => H μ' (e'.trans e1')
  · have hk := of_decide_eq_true (b2i_n0.mp q)
    rw [if_pos (kd_0 hk)] at H
    exact H μ1 e1' S1 h2 0 (by decide)
theorem zCs_n {k j : Nat} (h : 29 ≤ k ∧ k ≤ 70 ∨ 91 ≤ k ∨ k = 2 ∨ k = 3) : zCs k j = false := b_no fun q => by
  unfold zCs at q
  simp only [Bool.or_eq_true, Bool.and_eq_true, Nat.ble_eq, Nat.beq_eq] at q
  omega
theorem zSRf_n {k j : Nat} (h : k ≠ 1 ∧ ¬ (71 ≤ k ∧ k ≤ 81)) : zSRf k j = false := b_no fun q => by
  unfold zSRf zSR at q
  simp only [Bool.or_eq_true, Bool.and_eq_true, Nat.ble_eq, Nat.beq_eq] at q
  omega
theorem zSRf_Cs {μ1 μ2 : Mem} (e : Lz zSRf μ2 = Lz zSRf μ1) : Lz zCs μ2 = Lz zCs μ1 := Lz_up (fun k j h => by
  unfold zSRf zSR at h; unfold zCs
  simp only [Bool.or_eq_true, Bool.and_eq_true, Nat.ble_eq, Nat.beq_eq] at h ⊢
  omega) e
theorem zR_Cs {a n : Nat} {μ1 μ2 : Mem} (h : 4 ≤ a ∧ a + n ≤ 28 ∨ 71 ≤ a ∧ a + n ≤ 90) (e : Lz (zR a n) μ2 = Lz (zR a n) μ1) : Lz zCs μ2 = Lz zCs μ1 := Lz_up (fun k j h2 => by
  unfold zR at h2; unfold zCs
  simp only [Bool.or_eq_true, Bool.and_eq_true, Nat.ble_eq, Nat.beq_eq] at h2 ⊢
  omega) e
theorem C_school {m : Nat} (c : CI μ w) (hd : DS w) (hn : n ≤ 400) (hf : mI μ 2 = f) (h1 : mI μ 1 1 = nI n) (h3 : w.1 3 = nI m) (hm : m ≤ 12)
    (H : ∀ μ', Lz zCs μ' = Lz zCs μ → mI μ' 1 1 = 0 → (match rdS f n w with
      | .inr b => CI μ' w → mI μ' 0 8 = mI μ 0 8 → mI μ' 1 2 = nI b → Φ (.inr 0) μ'
      | .inl x => mI μ' 1 2 = -1 → if m = 12 then CI μ' w → mI μ' 0 8 = mI μ 0 8 → Φ (.inr 1) μ' else CI μ' (txW x.1) → mI μ' 0 8 = 0 → Φ (.inl (some (.int (nI (m + 1))))) μ')) : Spec g i_SO_school 0 [.ref 0] μ Φ := by
  refine spi o_SO_school rfl (v_SO_school_0 (spi o_SchR_begin rfl (v_SchR_begin_0 (c_cpT_71_4 c.1.1 fun μ1 e1 r1 => oV ?_))))
  refine c_cpS_78_11 (w := w) (RSta_mem (fun a a1 a2 => rdI e1 fun j => zR_no (by omega)) (rdL e1 fun j => zR_no (by omega)) c.1.2.1) fun μ2 e2 r2 => oV (oV ?_)
  have r1' : RSet 71 μ2 w := RSet_mem (fun a a1 a2 => rdI e2 fun j => zR_no (by omega)) r1
  have z2 : Lz zCs μ2 = Lz zCs μ := (zR_Cs (by omega) e2).trans (zR_Cs (by omega) e1)
  have i2 : ∀ k, k < 71 → mI μ2 k = mI μ k := fun k hk => (rdI e2 fun j => zR_no (by omega)).trans (rdI e1 fun j => zR_no (by omega))
  have l2 : ∀ k, k < 71 → mL μ2 k = mL μ k := fun k hk => (rdL e2 fun j => zR_no (by omega)).trans (rdL e1 fun j => zR_no (by omega))
  refine c_rLS0 hn ((i2 2 (by omega)).trans hf) ((congrFun (i2 1 (by omega)) 1).trans h1) r1' r2 ⟨c.2, hd⟩ fun μ3 e3 => ?_
  have z3 : Lz zCs μ3 = Lz zCs μ := (zSRf_Cs e3).trans z2
  have i3 : ∀ k, k ≠ 1 → k < 71 → mI μ3 k = mI μ k := fun k h1 hk => (rdI e3 fun j => zSRf_n (by omega)).trans (i2 k hk)
  have l3 : ∀ k, k ≠ 1 → k < 71 → mL μ3 k = mL μ k := fun k h1 hk => (rdL e3 fun j => zSRf_n (by omega)).trans (l2 k hk)
  have hm3 : mI μ 4 10 = nI m := c.1.1.2.2.2.2.1.trans h3
  have fin0 : ∀ {μ4 : Mem}, μ4 = sI μ3 1 1 0 → CI μ4 w ∧ mI μ4 0 8 = mI μ 0 8 ∧ mI μ4 1 1 = 0 ∧ mI μ4 1 2 = mI μ3 1 2 ∧ mI μ4 4 10 = nI m := fun h => by
    subst h
    refine ⟨CI_mem (fun k k1 k2 => by rw [rI_I, if_neg (by omega)]; exact i3 k (by omega) (by omega)) (fun k k1 k2 => l3 k (by omega) (by omega)) c, ?_, ?_, ?_, ?_⟩
    · rw [rI_I, if_neg (by decide), i3 0 (by decide) (by decide)]
    · rw [rI_I, if_pos rfl, upd_s]
    · rw [rI_I, if_pos rfl, upd_n (by decide)]
    · rw [rI_I, if_neg (by decide), i3 4 (by decide) (by decide)]; exact hm3
  have H3 := fun μ' e => H μ' e
  cases hr : rdS f n w with
  | inr b =>
    intro h2
    refine oI (spi o_Tape_useUp rfl (v_Tape_useUp_0 (oI ⟨fun q => absurd rfl q, fun _ => ?_⟩)))
    obtain ⟨k1, k2, k3, k4, k5⟩ := fin0 rfl
    have := H (sI μ3 1 1 0) ((Lz_I rfl).trans z3) k3
    rw [hr] at this
    exact this k1 k2 (k4.trans h2)
  | inl x =>
    intro S3 h2 k hk
    refine oI (spi o_Tape_useUp rfl (v_Tape_useUp_0 (oI ⟨fun _ => ?_, fun q => absurd q hk⟩)))
    obtain ⟨k1, k2, k3, k4, k5⟩ := fin0 rfl
    rw [k5]
    refine ⟨fun hlt => ?_, fun hge => ?_⟩
    · rw [show (12 : Int32) = nI 12 from rfl, nI_ltI (by omega) (by omega)] at hlt
      have S4 : RSet 71 (sI μ3 1 1 0) x.1 := RSet_mem (fun a a1 a2 => by rw [rI_I, if_neg (by omega)]) S3.2.1
      have S5 : RSta 78 (sI μ3 1 1 0) x.1 := RSta_mem (fun a a1 a2 => by rw [rI_I, if_neg (by omega)]) rfl S3.2.2.1
      have z4 : Lz zCs (sI μ3 1 1 0) = Lz zCs μ := (Lz_I rfl).trans z3
      have h14 : mI (sI μ3 1 1 0) 1 2 = -1 := k4.trans h2
      generalize (sI μ3 1 1 0) = μ4 at *
      refine spi o_SchR_deliver rfl (v_SchR_deliver_0 (c_cpT_4_71 S4 fun μ5 e5 r5 => oV ?_))
      refine c_cpS_11_78 (w := x.1) (RSta_mem (fun a a1 a2 => rdI e5 fun j => zR_no (by omega)) (rdL e5 fun j => zR_no (by omega)) S5) fun μ6 e6 r6 => oV (oV ?_)
      have r5' : RSet 4 μ6 x.1 := RSet_mem (fun a a1 a2 => rdI e6 fun j => zR_no (by omega)) r5
      obtain ⟨ok, kp⟩ := rdS_ok ⟨c.2, hd⟩ hr
      have hx3 : x.1.1 3 = nI m := (kp 3 (Or.inl rfl)).trans h3
      have e10 : mI μ6 4 10 = nI m := r5'.2.2.2.2.1.trans hx3
      rw [e10, ← nI_succ]
      have := H (sI (sI μ6 4 10 (nI (m + 1))) 0 8 0) ((Lz_I rfl).trans ((Lz_I rfl).trans ((zR_Cs (by omega) e6).trans ((zR_Cs (by omega) e5).trans z4)))) ?_
      · rw [hr] at this
        dsimp only at this
        rw [if_neg (by omega)] at this
        have ok2 := txW_ok ok hx3 hlt
        have i6 : ∀ k, 15 ≤ k → k < 71 → mI μ6 k = mI μ4 k := fun k a1 a2 => (rdI e6 fun j => zR_no (by omega)).trans (rdI e5 fun j => zR_no (by omega))
        have l6 : ∀ k, 15 ≤ k → k < 71 → mL μ6 k = mL μ4 k := fun k a1 a2 => (rdL e6 fun j => zR_no (by omega)).trans (rdL e5 fun j => zR_no (by omega))
        have kt : ∀ j, j = 4 ∨ j = 7 ∨ 115 ≤ j → (txW x.1).1 j = w.1 j := fun j hj => (upd_n (by omega)).trans (kp j (by omega))
        refine this ?_ ⟨⟨?_, ?_, ?_, ?_⟩, ok2.1⟩ ?_
        · rw [rI_I, if_neg (by decide), rI_I, if_neg (by decide)]
          exact ((rdI1 e6 (zR_no (by omega))).trans (rdI1 e5 (zR_no (by omega)))).trans h14
        · obtain ⟨a1, a2, a3, a4, a5, a6, a7, a8⟩ := r5'
          have m4 : ∀ j, j ≠ 10 → mI (sI (sI μ6 4 10 (nI (m + 1))) 0 8 0) 4 j = mI μ6 4 j := fun j hj => by rw [rI_I, if_neg (by decide), rI_I, if_pos rfl, upd_n hj]
          have mk : ∀ b, b ≠ 4 → b ≠ 0 → mI (sI (sI μ6 4 10 (nI (m + 1))) 0 8 0) b = mI μ6 b := fun b h1 h2 => by rw [rI_I, if_neg h2, rI_I, if_neg h1]
          have lo : ∀ j, j ≠ 3 → (txW x.1).1 j = x.1.1 j := fun j hj => upd_n hj
          refine ⟨?_, ?_, ?_, ?_, ?_, fun t ht' => ?_, fun p hp => ?_, fun r hr2 => ?_⟩
          · rw [m4 0 (by omega), lo 0 (by omega)]; exact a1
          · rw [m4 2 (by omega), lo 1 (by omega)]; exact a2
          · rw [m4 5 (by omega), lo 2 (by omega)]; exact a3
          · rw [m4 9 (by omega), lo 6 (by omega)]; exact a4
          · rw [rI_I, if_neg (by decide), rI_I, if_pos rfl, upd_s]
            show _ = upd x.1.1 3 (x.1.1 3 + 1) 3
            rw [upd_s, hx3, nI_succ]
          · rw [mk 5 (by decide) (by decide), lo _ (by omega)]; exact a6 t ht'
          · have q2 : pf (txW x.1) p 2 = pf x.1 p 2 := lo _ (by omega)
            have q3 : pf (txW x.1) p 3 = pf x.1 p 3 := lo _ (by omega)
            rw [mk 6 (by decide) (by decide), mk 7 (by decide) (by decide), q2, q3]; exact a7 p hp
          · rw [mk 8 (by decide) (by decide), mk 9 (by decide) (by decide), mk 10 (by decide) (by decide), lo _ (by omega), lo (79 + 3 * r + 1) (by omega), lo (79 + 3 * r + 2) (by omega)]; exact a8 r hr2
        · exact RSta_of (RSta_mem (μ := μ6) (fun b h1 h2 => by rw [rI_I, if_neg (by omega), rI_I, if_neg (by omega)]) rfl r6) rfl (fun j hj => upd_n (by omega)) fun p c _ _ _ _ => upd_n (by omega)
        · have eL : E18 w (fun j => if j = 4 ∨ j = 7 ∨ 115 ≤ j then w.1 j else w.1 j, w.2) := ⟨fun j _ => by dsimp only; split <;> rfl, rfl⟩
          have rl := k1.1.2.2.1
          have ecod : cod (txW x.1) = cod w := by funext i; unfold cod; rw [kt _ (by omega), kt (1065 + 2 * i) (by omega)]
          have eli : li (txW x.1) = li w := by unfold li; rw [kt 4 (by omega), kt 1015 (by omega)]
          have eln : ∀ a b, ln (txW x.1) a b = ln w a b := fun a b => kt _ (by omega)
          have ecl : cle (txW x.1) = cle w := by unfold cle len; rw [eli, eln]
          have rl2 : RLaw 15 μ4 (txW x.1) := by
            unfold RLaw
            rw [kt 4 (by omega), kt 1015 (by omega), ecl, ecod, eli]
            refine ⟨rl.1, rl.2.1, fun a ha => ?_, rl.2.2.2⟩
            rw [eln, eln, eln]; exact rl.2.2.1 a ha
          refine RLaw_mem ?_ ?_ (fun b h1 h2 => ?_) rl2
          · rw [rI_I, if_neg (by decide), rI_I, if_neg (by decide)]; exact congrFun (i6 15 (by omega) (by omega)) 0
          · rw [rI_I, if_neg (by decide), rI_I, if_neg (by decide)]; exact congrFun (i6 15 (by omega) (by omega)) 5
          · rw [rI_I, if_neg (by omega), rI_I, if_neg (by omega)]; exact i6 b (by omega) (by omega)
        · have rg := k1.1.2.2.2
          have elg : lg (txW x.1) = lg w := congrArg nx (kt 7 (by omega))
          have elw : ∀ a b, lw (txW x.1) a b = lw w a b := fun a b => kt _ (by omega)
          have rg2 : RLog 22 μ4 (txW x.1) := by
            unfold RLog
            rw [elg]
            refine ⟨fun r hr2 => ?_, rg.2⟩
            simp only [elw]
            exact rg.1 r hr2
          refine RLog_mem (fun b h1 h2 => ?_) ?_ rg2
          · rw [rI_I, if_neg (by omega), rI_I, if_neg (by omega)]; exact i6 b (by omega) (by omega)
          · exact l6 _ (by omega) (by omega)
        · rw [rI_I, if_pos rfl, upd_s]
      · rw [rI_I, if_neg (by decide), rI_I, if_neg (by decide)]
        exact ((rdI1 e6 (zR_no (by omega))).trans (rdI1 e5 (zR_no (by omega)))).trans k3
    · rw [show (12 : Int32) = nI 12 from rfl, nI_ltI (by omega) (by omega)] at hge
      have := H (sI μ3 1 1 0) ((Lz_I rfl).trans z3) k3
      rw [hr] at this
      dsimp only at this
      rw [if_pos (by omega)] at this
      exact this (k4.trans h2) k1 k2
end SCG
