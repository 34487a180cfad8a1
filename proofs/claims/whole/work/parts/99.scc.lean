/-! a school's text: the class's reader -/
def zSR (k j : Nat) : Bool := (Nat.beq k 1 && Nat.ble 3 j) || (Nat.ble 71 k && Nat.ble k 81)
def SC (f : Nat → Int32) (n a : Nat) (w : WD) (μ : Mem) : Prop := TK f n a μ ∧ RSet 71 μ w ∧ RSta 78 μ w ∧ WF w ∧ DS w
theorem zTk_SR {μ μ' : Mem} (e : Lz zTk μ' = Lz zTk μ) : Lz zSR μ' = Lz zSR μ := Lz_up (fun k j h => by
  unfold zTk at h; unfold zSR
  simp only [Bool.or_eq_true, Bool.and_eq_true, Nat.ble_eq, Nat.beq_eq] at h ⊢
  omega) e
theorem zTk_n {k j : Nat} (h : k ≠ 1) : zTk k j = false := b_no fun q => by
  unfold zTk at q
  simp only [Bool.and_eq_true, Nat.ble_eq, Nat.beq_eq] at q
  omega
def ES (Φ : Out → Mem → Prop) (μ : Mem) (f : Nat → Int32) (n : Nat) (r : PRt WD) : Prop := ∀ μ', Lz zSR μ' = Lz zSR μ → (match r with
  | .inl x => SC f n x.2 x.1 μ' → Φ (.inl (some (.int 1))) μ'
  | .inr b => mI μ' 1 4 = nI b → Φ (.inl (some (.int 0))) μ')
section SCC
variable {g : Gl} {Φ : Out → Mem → Prop} {μ : Mem} {f : Nat → Int32} {n a : Nat} {w : WD}
theorem ES_ok {x : WD × Nat} {μ' : Mem} (H : ES Φ μ f n (.inl x)) (e : Lz zSR μ' = Lz zSR μ) (h : SC f n x.2 x.1 μ') : Φ (.inl (some (.int 1))) μ' := H μ' e h
theorem ES_no {b : Nat} {μ' : Mem} (H : ES Φ μ f n (.inr b)) (e : Lz zSR μ' = Lz zSR μ) (h : mI μ' 1 4 = nI b) : Φ (.inl (some (.int 0))) μ' := H μ' e h
theorem ES_tr {r : PRt WD} {μ1 : Mem} (H : ES Φ μ f n r) (e : Lz zSR μ1 = Lz zSR μ) : ES Φ μ1 f n r := fun μ' e' => H μ' (e'.trans e)
theorem TK_st (h : TK f n a μ) : mI μ 1 4 = nI a := h.2.2.2.2.2.2.1
theorem SC_tk {μ' : Mem} {a' : Nat} (h : SC f n a w μ) (e : Lz zTk μ' = Lz zTk μ) (t : TK f n a' μ') : SC f n a' w μ' :=
  ⟨t, RSet_mem (fun k h1 h2 => rdI e fun j => zTk_n (by omega)) h.2.1, RSta_mem (fun k h1 h2 => rdI e fun j => zTk_n (by omega)) (rdL e fun j => zTk_n (by omega)) h.2.2.1, h.2.2.2⟩
theorem sc_th (h : SC f n a w μ) : mI μ 71 0 = nI (th w) := h.2.1.1.trans (wf_th h.2.2.2.1.1).1
theorem sc_pe (h : SC f n a w μ) : mI μ 71 2 = nI (pe w) := h.2.1.2.1.trans (wf_pe h.2.2.2.1.1).1
theorem sc_ru (h : SC f n a w μ) : mI μ 71 5 = nI (ru w) := h.2.1.2.2.1.trans (wf_ru h.2.2.2.1.1).1
theorem sc_wo (h : SC f n a w μ) {t : Nat} (ht : t < 10) : mI μ 72 t = nI (wo w t) := (h.2.1.2.2.2.2.2.1 t ht).trans (wf_wo h.2.2.2.1.1 ht).1
/-- a number taken, or not -/
theorem c_tnS {lo hi : Int32} (S : SC f n a w μ) (H0 : nok f n a lo hi = false → Φ (.inl (some (.int (-1)))) μ) (H1 : nok f n a lo hi = true → ∀ μ', Lz zTk μ' = Lz zTk μ → SC f n (nxt f n a) w μ' → Φ (.inl (some (.int (nb f n a)))) μ') : Spec g i_Tape_takeNumber 0 [.ref 1, .int lo, .int hi] μ Φ :=
  c_tN S.1 H0 fun h μ' e t => H1 h μ' e (SC_tk S e t)
theorem nbn {m k : Nat} (h : nb f n a = nI k) (hk : k ≤ m) (hm : m < 2 ^ 30) : ¬ nb f n a = -1 := fun q => by
  rw [h] at q
  exact nI_pos (n := k) (by omega) (by rw [q]; decide)
theorem adT_RSet (h : WF w) {k : Nat} (ht : th w < 10) (hk : k ≤ 6) (r : RSet 71 μ w) : RSet 71 (sI (sI μ 72 (th w) (nI k)) 71 0 (nI (th w + 1))) (adT w k) := by
  obtain ⟨a1, a2, a3, a4, a5, a6, a7, a8⟩ := r
  have lo : ∀ j, j ≠ 0 → j ≠ 9 + th w → (adT w k).1 j = w.1 j := fun j => adT_lo
  have m71 : ∀ j, j ≠ 0 → mI (sI (sI μ 72 (th w) (nI k)) 71 0 (nI (th w + 1))) 71 j = mI μ 71 j := fun j hj => by rw [rI_I, if_pos rfl, upd_n hj, rI_I, if_neg (by decide)]
  have m7x : ∀ b, b ≠ 71 → b ≠ 72 → mI (sI (sI μ 72 (th w) (nI k)) 71 0 (nI (th w + 1))) b = mI μ b := fun b h1 h2 => by rw [rI_I, if_neg h1, rI_I, if_neg h2]
  refine ⟨?_, ?_, ?_, ?_, ?_, fun t ht' => ?_, fun p hp => ?_, fun r hr => ?_⟩
  · rw [rI_I, if_pos rfl, upd_s]
    show _ = (if (0 : Nat) = 9 + th w then nI k else if (0 : Nat) = 0 then nI (th w + 1) else w.1 0)
    rw [if_neg (by omega), if_pos rfl]
  · rw [m71 2 (by omega), lo 1 (by omega) (by omega)]; exact a2
  · rw [m71 5 (by omega), lo 2 (by omega) (by omega)]; exact a3
  · rw [m71 9 (by omega), lo 6 (by omega) (by omega)]; exact a4
  · rw [m71 10 (by omega), lo 3 (by omega) (by omega)]; exact a5
  · rw [rI_I, if_neg (by decide), rI_I, if_pos rfl]
    by_cases q : t = th w
    · rw [q, upd_s]
      show _ = (if 9 + th w = 9 + th w then nI k else _)
      rw [if_pos rfl]
    · rw [upd_n q, lo _ (by omega) (by omega)]; exact a6 t ht'
  · rw [m7x _ (by decide) (by decide), m7x _ (by decide) (by decide)]
    have e2 : pf (adT w k) p 2 = pf w p 2 := lo _ (by omega) (by omega)
    have e3 : pf (adT w k) p 3 = pf w p 3 := lo _ (by omega) (by omega)
    rw [e2, e3]; exact a7 p hp
  · rw [m7x _ (by decide) (by decide), m7x _ (by decide) (by decide), m7x _ (by decide) (by decide), lo _ (by omega) (by omega), lo (79 + 3 * r + 1) (by omega) (by omega), lo (79 + 3 * r + 2) (by omega) (by omega)]; exact a8 r hr
/-- the state's rows, of a world alike in them -/
theorem RSta_of {b : Nat} {v : WD} (r : RSta b μ w) (h2 : v.2 = w.2) (e : ∀ j, j = 5 ∨ j = 7 ∨ j = 8 → v.1 j = w.1 j) (ep : ∀ p c, p < 10 → c < 6 → c ≠ 2 → c ≠ 3 → pf v p c = pf w p c) : RSta b μ v := by
  obtain ⟨a1, a2, a3, a4, a5, a6⟩ := r
  refine ⟨by rw [h2]; exact a1, by rw [e 5 (by omega)]; exact a2, by rw [e 8 (by omega)]; exact a3, by rw [e 7 (by omega)]; exact a4, fun p hp => ?_, ?_⟩
  · rw [ep p 4 hp (by omega) (by omega) (by omega), ep p 0 hp (by omega) (by omega) (by omega), ep p 1 hp (by omega) (by omega) (by omega)]; exact a5 p hp
  · rw [a6]; apply msk_cong; intro p hp
    unfold her; rw [ep p 5 hp (by omega) (by omega) (by omega)]
theorem c_rTh (S : SC f n a w μ) (ht : th w < 10) (hka : ¬ kd f n a = 0) (H : ES Φ μ f n (lnTh f n w a)) : Spec g i_SchR_readThing 0 [.ref 70] μ Φ := by
  unfold lnTh at H
  rw [if_pos ht] at H
  refine spi o_SchR_readThing rfl (v_SchR_readThing_0 (c_nx S.1 fun μ1 e1 t1 => oV ?_))
  have S1 := SC_tk S e1 t1
  have H := ES_tr H (zTk_SR e1)
  refine c_tnS S1 (fun h => oI ⟨fun q => absurd rfl q, fun _ => z01 ?_⟩) (fun h μ2 e2 S2 => oI ?_)
  · unfold tnP at H
    rw [if_neg (by rw [h]; decide)] at H
    exact ES_no H rfl (TK_st t1)
  · obtain ⟨k, k1, k2, k3⟩ := nok_b (lo := 1) (m := 6) (by omega) (by omega) h
    unfold tnP at H
    rw [if_pos h] at H
    have H : ES Φ μ1 f n (.inl (adT w (nx (nb f n (nxt f n a))), nxt f n (nxt f n a))) := H
    rw [k3, nx_nI (by omega)] at H
    refine ⟨fun _ => ⟨?_, ?_⟩, fun q => absurd q (nbn (m := 6) k3 k2 (by omega))⟩
    · rw [sc_th S2]; exact vp_in_nI ht (by decide)
    · rw [sc_th S2, nx_nI (by omega), k3, ← nI_succ]
      refine z11 (ES_ok H ((Lz_I rfl).trans ((Lz_I rfl).trans (zTk_SR e2))) ⟨?_, adT_RSet S2.2.2.2.1 ht k2 S2.2.1, ?_, adT_WF S2.2.2.2.1 ht k1 k2, ?_⟩)
      · exact S2.1
      · refine RSta_of (RSta_mem (μ := μ2) (fun b h1 h2 => by rw [rI_I, if_neg (by omega), rI_I, if_neg (by omega)]) rfl S2.2.2.1) rfl (fun j hj => adT_lo (by omega) (by omega)) fun p c _ _ _ _ => adT_lo (by omega) (by omega)
      · exact DS_of S2.2.2.2.2 (congrArg nx (adT_lo (by omega) (by omega))) fun p c _ => adT_lo (by omega) (by omega)
theorem c_rLo (S : SC f n a w μ) (H : ES Φ μ f n (lnLo f n w a)) : Spec g i_SchR_readLoud 0 [.ref 70] μ Φ := by
  unfold lnLo tnP at H
  refine spi o_SchR_readLoud rfl (v_SchR_readLoud_0 (c_tnS S (fun h => oI ⟨fun q => absurd rfl q, fun _ => z01 ?_⟩) (fun h μ2 e2 S2 => oI ?_)))
  · rw [if_neg (by rw [h]; decide)] at H
    exact ES_no H rfl (TK_st S.1)
  · obtain ⟨k, -, k2, k3⟩ := nok_b (lo := 0) (m := 9) (by omega) (by omega) h
    rw [if_pos h] at H
    have H : ES Φ μ f n (.inl (adL w (nb f n a), nxt f n a)) := H
    refine ⟨fun _ => z11 (ES_ok H ((Lz_I rfl).trans (zTk_SR e2)) ⟨S2.1, ?_, ?_, ?_, ?_⟩), fun q => absurd q (nbn (m := 9) k3 k2 (by omega))⟩
    · obtain ⟨a1, a2, a3, a4, a5, a6, a7, a8⟩ := S2.2.1
      have m71 : ∀ j, j ≠ 9 → mI (sI μ2 71 9 (nb f n a)) 71 j = mI μ2 71 j := fun j hj => by rw [rI_I, if_pos rfl, upd_n hj]
      have lo : ∀ j, j ≠ 6 → (adL w (nb f n a)).1 j = w.1 j := fun j hj => upd_n hj
      refine ⟨?_, ?_, ?_, ?_, ?_, fun t ht' => ?_, fun p hp => ?_, fun r hr => ?_⟩
      · rw [m71 0 (by omega), lo 0 (by omega)]; exact a1
      · rw [m71 2 (by omega), lo 1 (by omega)]; exact a2
      · rw [m71 5 (by omega), lo 2 (by omega)]; exact a3
      · rw [rI_I, if_pos rfl, upd_s]; exact (upd_s (f := w.1) (k := 6)).symm
      · rw [m71 10 (by omega), lo 3 (by omega)]; exact a5
      · rw [rI_I, if_neg (by decide), lo _ (by omega)]; exact a6 t ht'
      · have e2 : pf (adL w (nb f n a)) p 2 = pf w p 2 := lo _ (by omega)
        have e3 : pf (adL w (nb f n a)) p 3 = pf w p 3 := lo _ (by omega)
        rw [rI_I, if_neg (by decide), rI_I, if_neg (by decide), e2, e3]; exact a7 p hp
      · rw [rI_I, if_neg (by decide), rI_I, if_neg (by decide), rI_I, if_neg (by decide), lo _ (by omega), lo (79 + 3 * r + 1) (by omega), lo (79 + 3 * r + 2) (by omega)]; exact a8 r hr
    · exact RSta_of (RSta_mem (μ := μ2) (fun b h1 h2 => by rw [rI_I, if_neg (by omega)]) rfl S2.2.2.1) rfl (fun j hj => upd_n (by omega)) fun p c _ _ _ _ => upd_n (by omega)
    · exact hd_WF S2.2.2.2.1 (c := 6) (Or.inl rfl) rfl (fun j hj => upd_n hj) ⟨k, by omega, by rw [← k3]; exact upd_s (f := w.1) (k := 6) (x := nb f n a)⟩
    · exact DS_of S2.2.2.2.2 (congrArg nx (upd_n (f := w.1) (k := 6) (j := 1) (x := nb f n a) (by decide))) fun p c _ => upd_n (by omega)
theorem c_rAb (S : SC f n a w μ) (H : ES Φ μ f n (lnAb f n w a)) : Spec g i_SchR_readAbsent 0 [.ref 70] μ Φ := by
  have p10 := (wf_pe S.2.2.2.1.1).2
  unfold lnAb tnP at H
  refine spi o_SchR_readAbsent rfl (v_SchR_readAbsent_0 ?_)
  rw [sc_pe S]
  refine c_tnS S (fun h => oI ⟨fun q => absurd rfl q, fun _ => z01 ?_⟩) (fun h μ2 e2 S2 => oI ?_)
  · rw [if_neg (by rw [h]; decide)] at H
    exact ES_no H rfl (TK_st S.1)
  · obtain ⟨p, k2, k3⟩ := nok_p (by omega) h
    rw [if_pos h] at H
    have H : ES Φ μ f n (.inl (abW w (nx (nb f n a)) true, nxt f n a)) := H
    rw [k3, nx_nI (by omega)] at H
    have lo : ∀ j, j ≠ 24 + 6 * p → (abW w p true).1 j = w.1 j := fun j hj => upd_n hj
    refine ⟨fun _ => ?_, fun q => absurd q (nbn (m := 9) k3 (by omega) (by omega))⟩
    rw [k3]
    refine z11 (ES_ok H ((Lz_I rfl).trans (zTk_SR e2)) ⟨S2.1, ?_, ?_, abW_WF S2.2.2.2.1 k2, ?_⟩)
    · obtain ⟨a1, a2, a3, a4, a5, a6, a7, a8⟩ := S2.2.1
      have m7 : ∀ b, b ≠ 78 → mI (sI μ2 78 4 (mI μ2 78 4 ||| ((1 : Int32) <<< (nI p &&& 31)))) b = mI μ2 b := fun b hb => by rw [rI_I, if_neg hb]
      refine ⟨?_, ?_, ?_, ?_, ?_, fun t ht' => ?_, fun o ho => ?_, fun r hr => ?_⟩
      · rw [m7 _ (by decide), lo 0 (by omega)]; exact a1
      · rw [m7 _ (by decide), lo 1 (by omega)]; exact a2
      · rw [m7 _ (by decide), lo 2 (by omega)]; exact a3
      · rw [m7 _ (by decide), lo 6 (by omega)]; exact a4
      · rw [m7 _ (by decide), lo 3 (by omega)]; exact a5
      · rw [m7 _ (by decide), lo _ (by omega)]; exact a6 t ht'
      · rw [m7 _ (by decide), m7 _ (by decide), abW_pf (by omega), abW_pf (by omega), if_neg (by omega), if_neg (by omega)]; exact a7 o ho
      · rw [m7 _ (by decide), m7 _ (by decide), m7 _ (by decide), lo _ (by omega), lo (79 + 3 * r + 1) (by omega), lo (79 + 3 * r + 2) (by omega)]; exact a8 r hr
    · obtain ⟨s1, s2, s3, s4, s5, s6⟩ := S2.2.2.1
      have m78 : ∀ j, j ≠ 4 → mI (sI μ2 78 4 (mI μ2 78 4 ||| ((1 : Int32) <<< (nI p &&& 31)))) 78 j = mI μ2 78 j := fun j hj => by rw [rI_I, if_pos rfl, upd_n hj]
      refine ⟨s1, by rw [m78 5 (by omega), lo 5 (by omega)]; exact s2, by rw [m78 6 (by omega), lo 8 (by omega)]; exact s3, by rw [m78 7 (by omega), lo 7 (by omega)]; exact s4, fun o ho => ?_, ?_⟩
      · rw [abW_pf (by omega), abW_pf (by omega), abW_pf (by omega), if_neg (by omega), if_neg (by omega), if_neg (by omega), rI_I, if_neg (by decide), rI_I, if_neg (by decide), rI_I, if_neg (by decide)]; exact s5 o ho
      · rw [rI_I, if_pos rfl, upd_s, s6]
        apply msk_ext (by omega)
        intro i hi
        rw [b_or, b_msk (by omega) hi, b_1s (by omega) hi]
        by_cases q : i < 10
        · have : her (abW w p true) i = (!decide (i = p) && her w i) := by
            unfold her
            rw [abW_pf (by omega)]
            by_cases q2 : i = p
            · rw [if_pos ⟨q2, rfl⟩]; simp [q2, b2i]
            · rw [if_neg (fun h => q2 h.1)]; simp [q2]
          rw [this]
          by_cases q2 : i = p
          · simp [q2]; omega
          · simp [q2, q]
        · simp [q]; omega
    · exact DS_of S2.2.2.2.2 (congrArg nx (lo 1 (by omega))) fun o c hc => by rw [abW_pf (by omega), if_neg (by omega)]
theorem c_rSa (S : SC f n a w μ) (H : ES Φ μ f n (lnSa f n w a)) : Spec g i_SchR_readSaid 0 [.ref 70] μ Φ := by
  have t10 := (wf_th S.2.2.2.1.1).2
  unfold lnSa tnP at H
  refine spi o_SchR_readSaid rfl (v_SchR_readSaid_0 ?_)
  rw [sc_th S]
  refine c_tnS S (fun h => oI ⟨fun q => absurd rfl q, fun _ => ⟨fun q => absurd rfl q, fun _ => z01 ?_⟩⟩) (fun h μ2 e2 S2 => oI ⟨fun _ => ?_, fun q => absurd q ?_⟩)
  · rw [if_neg (by rw [h]; decide)] at H
    exact ES_no H rfl (TK_st S.1)
  · obtain ⟨t, k2, k3⟩ := nok_p (by omega) h
    have w6 := (wf_wo S.2.2.2.1.1 (show t < 10 by omega)).2.1
    rw [if_pos h] at H
    have H := ES_tr H (zTk_SR e2)
    rw [k3, nx_nI (by omega), sc_wo S2 (by omega)]
    simp only [bdP] at H
    rw [k3, nx_nI (by omega)] at H
    refine ⟨vp_in_nI (by omega) (by decide), c_tnS S2 (fun h2 => oI ⟨fun q => absurd rfl q, fun _ => z01 ?_⟩) (fun h2 μ3 e3 S3 => oI ?_)⟩
    · rw [if_neg (by rw [h2]; decide)] at H
      exact ES_no H rfl (TK_st S2.1)
    · obtain ⟨q, j2, j3⟩ := nok_p (by omega) h2
      rw [if_pos h2] at H
      have H : ES Φ μ2 f n (.inl (stW w t (nx (nb f n (nxt f n a))), nxt f n (nxt f n a))) := H
      rw [j3, nx_nI (by omega)] at H
      rw [j3]
      refine ⟨fun _ => c_num t q (oI (z11 (ES_ok H ((Lz_L rfl).trans (zTk_SR e3)) ⟨S3.1, S3.2.1, ?_, WF_st S3.2.2.2.1 (by omega) j2, ?_⟩))), fun q2 => absurd (show nb f n (nxt f n a) = -1 from j3.trans q2) (nbn (m := 6) j3 (by omega) (by omega))⟩
      · obtain ⟨s1, s2, s3, s4, s5, s6⟩ := S3.2.2.1
        refine ⟨?_, s2, s3, s4, s5, s6⟩
        rw [rL_L, if_pos rfl, updL_s, s1]; rfl
      · exact DS_of S3.2.2.2.2 rfl fun _ _ _ => rfl
  · obtain ⟨t, k2, k3⟩ := nok_p (by omega) h
    exact nbn (m := 9) k3 (by omega) (by omega)
theorem c_rFo (S : SC f n a w μ) (hr : ru w < 12) (H : ES Φ μ f n (lnFo f n w a)) : Spec g i_SchR_readRule 0 [.ref 70] μ Φ := by
  have t10 := (wf_th S.2.2.2.1.1).2
  unfold lnFo at H
  rw [if_pos hr] at H
  refine spi o_SchR_readRule rfl (v_SchR_readRule_0 (c_nx S.1 fun μ1 e1 t1 => oV ?_))
  have S1 := SC_tk S e1 t1
  have H := ES_tr H (zTk_SR e1)
  unfold tnP at H
  rw [sc_th S1]
  refine c_tnS S1 (fun h => oI ⟨fun q => absurd rfl q, fun _ => ⟨fun q => absurd rfl q, fun _ => ⟨fun q => absurd rfl q, fun _ => z01 ?_⟩⟩⟩) (fun h μ2 e2 S2 => oI ⟨fun _ => ?_, fun q => absurd q ?_⟩)
  · rw [if_neg (by rw [h]; decide)] at H
    exact ES_no H rfl (TK_st t1)
  · obtain ⟨x, x2, x3⟩ := nok_p (by omega) h
    rw [if_pos h] at H
    simp only [bdP] at H
    have H := ES_tr H (zTk_SR e2)
    rw [sc_th S2]
    refine c_tnS S2 (fun h2 => oI ⟨fun q => absurd rfl q, fun _ => ⟨fun q => absurd rfl q, fun _ => z01 ?_⟩⟩) (fun h2 μ3 e3 S3 => oI ⟨fun _ => ?_, fun q => absurd q ?_⟩)
    · rw [if_neg (by rw [h2]; decide)] at H
      exact ES_no H rfl (TK_st S2.1)
    · obtain ⟨y, y2, y3⟩ := nok_p (by omega) h2
      rw [if_pos h2] at H
      have H := ES_tr H (zTk_SR e3)
      dsimp only at H
      rw [sc_th S3]
      refine c_tnS S3 (fun h3 => oI ⟨fun q => absurd rfl q, fun _ => z01 ?_⟩) (fun h3 μ4 e4 S4 => oI ⟨fun _ => ?_, fun q => absurd q ?_⟩)
      · rw [if_neg (by rw [h3]; decide)] at H
        exact ES_no H rfl (TK_st S3.1)
      · obtain ⟨z, z2, z3⟩ := nok_p (by omega) h3
        rw [if_pos h3] at H
        dsimp only at H
        rw [x3, y3, z3] at H
        rw [x3, y3, z3, sc_ru S4, nx_nI (by omega), ← nI_succ]
        have v := vp_in_nI (N := 12) hr (by decide)
        refine ⟨v, v, v, z11 (ES_ok H ((Lz_I rfl).trans ((Lz_I rfl).trans ((Lz_I rfl).trans ((Lz_I rfl).trans (zTk_SR e4))))) ⟨S4.1, ?_, ?_, adR_WF S4.2.2.2.1 hr x2 y2 z2, ?_⟩)⟩
        · obtain ⟨a1, a2, a3, a4, a5, a6, a7, a8⟩ := S4.2.1
          have lo : ∀ j, j ≠ 2 → ¬ (79 + 3 * ru w ≤ j ∧ j ≤ 81 + 3 * ru w) → (adR w (nI x) (nI y) (nI z)).1 j = w.1 j := fun j => adR_o
          have m71 : ∀ j, j ≠ 5 → mI (sI (sI (sI (sI μ4 75 (ru w) (nI x)) 76 (ru w) (nI y)) 77 (ru w) (nI z)) 71 5 (nI (ru w + 1))) 71 j = mI μ4 71 j := fun j hj => by
            rw [rI_I, if_pos rfl, upd_n hj, rI_I, if_neg (by decide), rI_I, if_neg (by decide), rI_I, if_neg (by decide)]
          have m7 : ∀ b, b ≠ 71 → b ≠ 75 → b ≠ 76 → b ≠ 77 → mI (sI (sI (sI (sI μ4 75 (ru w) (nI x)) 76 (ru w) (nI y)) 77 (ru w) (nI z)) 71 5 (nI (ru w + 1))) b = mI μ4 b := fun b h1 h2 h3 h4 => by
            rw [rI_I, if_neg h1, rI_I, if_neg h4, rI_I, if_neg h3, rI_I, if_neg h2]
          refine ⟨?_, ?_, ?_, ?_, ?_, fun t ht' => ?_, fun p hp => ?_, fun r hr2 => ?_⟩
          · rw [m71 0 (by omega), lo 0 (by omega) (by omega)]; exact a1
          · rw [m71 2 (by omega), lo 1 (by omega) (by omega)]; exact a2
          · rw [rI_I, if_pos rfl, upd_s]
            show _ = (if 2 = 79 + 3 * ru w then nI x else if 2 = 80 + 3 * ru w then nI y else if 2 = 81 + 3 * ru w then nI z else if 2 = 2 then nI (ru w + 1) else w.1 2)
            rw [if_neg (by omega), if_neg (by omega), if_neg (by omega), if_pos rfl]
          · rw [m71 9 (by omega), lo 6 (by omega) (by omega)]; exact a4
          · rw [m71 10 (by omega), lo 3 (by omega) (by omega)]; exact a5
          · rw [m7 72 (by decide) (by decide) (by decide) (by decide), lo _ (by omega) (by omega)]; exact a6 t ht'
          · have e2 : pf (adR w (nI x) (nI y) (nI z)) p 2 = pf w p 2 := lo _ (by omega) (by omega)
            have e3 : pf (adR w (nI x) (nI y) (nI z)) p 3 = pf w p 3 := lo _ (by omega) (by omega)
            rw [m7 73 (by decide) (by decide) (by decide) (by decide), m7 74 (by decide) (by decide) (by decide) (by decide), e2, e3]; exact a7 p hp
          · rw [rI_I, if_neg (by decide), rI_I, if_neg (by decide), rI_I, if_neg (by decide), rI_I, if_pos rfl]
            rw [rI_I, if_neg (by decide), rI_I, if_neg (by decide), rI_I, if_pos rfl, rI_I, if_neg (by decide)]
            rw [rI_I, if_neg (by decide), rI_I, if_pos rfl, rI_I, if_neg (by decide), rI_I, if_neg (by decide)]
            by_cases q : r = ru w
            · rw [q, upd_s, upd_s, upd_s]
              refine ⟨?_, ?_, ?_⟩
              · show _ = (if 79 + 3 * ru w = 79 + 3 * ru w then nI x else _)
                rw [if_pos rfl]
              · show _ = (if 79 + 3 * ru w + 1 = 79 + 3 * ru w then nI x else if 79 + 3 * ru w + 1 = 80 + 3 * ru w then nI y else _)
                rw [if_neg (by omega), if_pos (by omega)]
              · show _ = (if 79 + 3 * ru w + 2 = 79 + 3 * ru w then nI x else if 79 + 3 * ru w + 2 = 80 + 3 * ru w then nI y else if 79 + 3 * ru w + 2 = 81 + 3 * ru w then nI z else _)
                rw [if_neg (by omega), if_neg (by omega), if_pos (by omega)]
            · rw [upd_n q, upd_n q, upd_n q, lo _ (by omega) (by omega), lo (79 + 3 * r + 1) (by omega) (by omega), lo (79 + 3 * r + 2) (by omega) (by omega)]; exact a8 r hr2
        · exact RSta_of (RSta_mem (μ := μ4) (fun b h1 h2 => by rw [rI_I, if_neg (by omega), rI_I, if_neg (by omega), rI_I, if_neg (by omega), rI_I, if_neg (by omega)]) rfl S4.2.2.1) rfl (fun j hj => adR_o (by omega) (by omega)) fun p c hp hc _ _ => adR_o (by omega) (by omega)
        · refine fun p q h1 h2 => ?_
          have ep : pe (adR w (nI x) (nI y) (nI z)) = pe w := congrArg nx (adR_o (by omega) (by omega))
          have p10 := (wf_pe S.2.2.2.1.1).2
          have epf : ∀ p c, p < 10 → c < 6 → pf (adR w (nI x) (nI y) (nI z)) p c = pf w p c := fun p c hp hc => adR_o (by omega) (by omega)
          rw [ep] at h1
          rw [epf p 0 (by omega) (by omega), epf q 0 (by omega) (by omega), epf p 1 (by omega) (by omega), epf q 1 (by omega) (by omega)]
          exact S4.2.2.2.2 p q h1 h2
      · obtain ⟨z, z2, z3⟩ := nok_p (by omega) h3
        exact nbn (m := 9) z3 (by omega) (by omega)
    · obtain ⟨y, y2, y3⟩ := nok_p (by omega) h2
      exact nbn (m := 9) y3 (by omega) (by omega)
  · obtain ⟨x, x2, x3⟩ := nok_p (by omega) h
    exact nbn (m := 9) x3 (by omega) (by omega)
end SCC
