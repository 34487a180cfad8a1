/-! a school's text: the reference's reader -/
def zSM (k j : Nat) : Bool := Nat.beq k 141 || (Nat.beq k 140 && (Nat.beq j 6 || (Nat.beq j 15 || Nat.beq j 17)))
def SM (f : Nat → Int32) (n a : Nat) (w : WD) (μ : Mem) : Prop := RK f n a μ ∧ MW μ w
theorem zPt_SM {μ μ' : Mem} (e : Lz zPt μ' = Lz zPt μ) : Lz zSM μ' = Lz zSM μ := Lz_up (fun k j h => by
  unfold zPt at h; unfold zSM
  simp only [Bool.or_eq_true, Bool.and_eq_true, Nat.beq_eq] at h ⊢
  omega) e
def EG (Φ : Out → Mem → Prop) (μ : Mem) (f : Nat → Int32) (n : Nat) (r : PRt WD) : Prop := ∀ μ', Lz zSM μ' = Lz zSM μ → (match r with
  | .inl x => SM f n x.2 x.1 μ' → Φ (.inl (some (.int 1))) μ'
  | .inr b => mI μ' 140 17 = nI b → Φ (.inl (some (.int 0))) μ')
/-- a world other in what is not counted yet -/
theorem WF_slot {w v : WD} {s : Nat} (h : WF w) (h2 : v.2 = w.2) (hs : 79 + 3 * ru w ≤ s ∧ s < 115) (e : ∀ j, j ≠ s → v.1 j = w.1 j) : WF v := by
  obtain ⟨⟨k1, k2, k3, k4, k5, k6, k7, k8, k9, k10, k11, k12⟩, hl⟩ := h
  have e0 : th v = th w := congrArg nx (e 0 (by omega))
  have e1 : pe v = pe w := congrArg nx (e 1 (by omega))
  have e2 : ru v = ru w := congrArg nx (e 2 (by omega))
  have e7 : lg v = lg w := congrArg nx (e 7 (by omega))
  have elw : ∀ r c, lw v r c = lw w r c := fun r c => e _ (by omega)
  have eln : ∀ a c, ln v a c = ln w a c := fun a c => e _ (by omega)
  have ewo : ∀ t, t < 10 → wo v t = wo w t := fun t ht => congrArg nx (e _ (by omega))
  have ecod : cod v = cod w := by funext i; unfold cod; rw [e _ (by omega), e (1065 + 2 * i) (by omega)]
  have eli : li v = li w := by unfold li; rw [e 4 (by omega), e 1015 (by omega)]
  have epf : ∀ p c, p < 10 → c < 6 → pf v p c = pf w p c := fun p c hp hc => e _ (by omega)
  refine ⟨⟨?_, ?_, ?_, ?_, ?_, ?_, ?_, ?_, ?_, ?_, ?_, ?_⟩, ?_⟩
  · rw [e 0 (by omega)]; exact k1
  · rw [e 1 (by omega)]; exact k2
  · rw [e 2 (by omega)]; exact k3
  · rw [e 3 (by omega)]; exact k4
  · rw [e 6 (by omega)]; exact k5
  · rw [e 7 (by omega)]; exact k6
  · intro t ht
    rw [e _ (by omega), e0]; exact k7 t ht
  · intro p hp
    have := k8 p hp
    unfold WFp at *
    rw [epf p 0 hp (by omega), epf p 1 hp (by omega), epf p 2 hp (by omega), epf p 3 hp (by omega), epf p 4 hp (by omega), epf p 5 hp (by omega), e0, e1]; exact this
  · intro r hr j hj
    rw [e2] at hr
    rw [e _ (by omega), e0]; exact k9 r hr j hj
  · intro t ht q hq
    unfold sai; rw [h2, ewo t ht]; exact k10 t ht q hq
  · rw [h2, e7]; exact k11
  · intro r hr
    rw [e7] at hr
    have := k12 r hr
    unfold WFr at *
    simp only [elw, e0, e1]; exact this
  · unfold WFl TYl lst len at *
    rw [ecod, eli, e 4 (by omega), e 1015 (by omega)]
    refine ⟨hl.1, hl.2.1, fun a ha => ?_⟩
    have := hl.2.2 a ha
    rw [eln, eln, eln, eln, eln]
    obtain ⟨l1, l2, l3, l4, l5, l6⟩ := this
    exact ⟨l1, l2, l3, l4, l5, fun i hi => by rw [e _ (by omega), e (1065 + 2 * i) (by omega)]; exact l6 i hi⟩
section SCM
variable {g : Gl} {Φ : Out → Mem → Prop} {μ : Mem} {f : Nat → Int32} {n a : Nat} {w : WD}
theorem EG_ok {x : WD × Nat} {μ' : Mem} (H : EG Φ μ f n (.inl x)) (e : Lz zSM μ' = Lz zSM μ) (h : SM f n x.2 x.1 μ') : Φ (.inl (some (.int 1))) μ' := H μ' e h
theorem EG_no {b : Nat} {μ' : Mem} (H : EG Φ μ f n (.inr b)) (e : Lz zSM μ' = Lz zSM μ) (h : mI μ' 140 17 = nI b) : Φ (.inl (some (.int 0))) μ' := H μ' e h
theorem EG_tr {r : PRt WD} {μ1 : Mem} (H : EG Φ μ f n r) (e : Lz zSM μ1 = Lz zSM μ) : EG Φ μ1 f n r := fun μ' e' => H μ' (e'.trans e)
theorem MW_pt {μ' : Mem} (m : MW μ w) (e : Lz zPt μ' = Lz zPt μ) : MW μ' w := MW_z e (fun _ => rfl) rfl m
theorem RK_w {x : Nat → Int32} (h : RK f n a μ) : RK f n a (sRI μ 141 x) := h
theorem RK_6 {x : Int64} (h : RK f n a μ) : RK f n a (sL μ 140 6 x) := h
/-- a world written -/
theorem MW_of {v : WD} {μ' : Mem} (h : mI μ' 141 = v.1) (h2 : mL μ' 140 6 = v.2) (hv : WF v) : MW μ' v := ⟨Prod.ext h h2, hv⟩
theorem m_nuS {lo hi : Int32} (S : SM f n a w μ) (h999 : hi ≤ 999) (H0 : nok f n a lo hi = false → ∀ μ', Lz zPt μ' = Lz zPt μ → RBf f n μ' → mI μ' 140 17 = nI a → Φ (.inl (some (.int (-1)))) μ') (H1 : nok f n a lo hi = true → ∀ μ', Lz zPt μ' = Lz zPt μ → SM f n (nxt f n a) w μ' → Φ (.inl (some (.int (nb f n a)))) μ') : Spec g i_Mo_number 0 [.ref 140, .int lo, .int hi] μ Φ :=
  m_num S.1 h999 H0 fun h μ' e hR _ => H1 h μ' e ⟨hR, MW_pt S.2 e⟩
theorem le999 {m : Nat} (h : m ≤ 10) : nI m - 1 ≤ 999 := (by decide : ∀ m, m ≤ 10 → nI m - 1 ≤ 999) m h
theorem m_ttS (S : SM f n a w μ) (H0 : nok f n a 0 (nI (th w) - 1) = false → ∀ μ', Lz zPt μ' = Lz zPt μ → RBf f n μ' → mI μ' 140 17 = nI a → Φ (.inl (some (.int (-1)))) μ') (H1 : nok f n a 0 (nI (th w) - 1) = true → ∀ μ', Lz zPt μ' = Lz zPt μ → SM f n (nxt f n a) w μ' → Φ (.inl (some (.int (nb f n a)))) μ') : Spec g i_Mo_thingTold 0 [.ref 140] μ Φ := by
  have t10 := (wf_th S.2.2.1).2
  exact spi o_Mo_thingTold rfl (v_Mo_thingTold_0 (m_th S.2 (oI (m_nuS S (le999 t10) (fun h μ' e hB hb => oI (H0 h μ' e hB hb)) fun h μ' e S' => oI (H1 h μ' e S')))))
theorem n0le {k : Nat} (hk : k < 2 ^ 30) : (0 : Int32) ≤ nI k := nI_pos' (by omega)
theorem n1lt : (-1 : Int32) < 0 := by decide
theorem n1nl : ¬ (0 : Int32) ≤ -1 := by decide
theorem m_rTh (S : SM f n (nxt f n a) w μ) (hb : mI μ 140 17 = nI a) (H : EG Φ μ f n (lnTh f n w a)) : Spec g i_Mo_readThing 0 [.ref 140] μ Φ := by
  have t10 := (wf_th S.2.2.1).2
  unfold lnTh tnP at H
  refine spi o_Mo_readThing rfl (v_Mo_readThing_0 (m_th S.2 (oI ⟨fun hne => ?_, fun he => z01 ?_⟩)))
  · have ht : th w < 10 := by
      have : th w ≠ 10 := fun e => hne (by rw [e]; rfl)
      omega
    rw [if_pos ht] at H
    refine m_nuS S (by decide) (fun h μ2 e2 hB2 hb2 => oI ⟨fun q => absurd q n1nl, fun _ => z01 ?_⟩) (fun h μ2 e2 S2 => oI ?_)
    · rw [if_neg (by rw [h]; decide)] at H
      exact EG_no H (zPt_SM e2) hb2
    · obtain ⟨k, k1, k2, k3⟩ := nok_b (lo := 1) (m := 6) (by omega) (by omega) h
      rw [if_pos h] at H
      have H : EG Φ μ f n (.inl (adT w (nx (nb f n (nxt f n a))), nxt f n (nxt f n a))) := H
      rw [k3, nx_nI (by omega)] at H
      rw [k3]
      refine ⟨fun _ => m_th S2.2 (oI ?_), fun q => absurd (n0le (by omega)) q⟩
      rw [show (9 : Int32) = nI 9 from rfl, nI_add, nx_nI (by omega)]
      have e3 : sI (sI μ2 141 (9 + th w) (nI k)) 141 (nx 0) (mI (sI μ2 141 (9 + th w) (nI k)) 141 (nx 0) + 1) = sRI μ2 141 (adT w k).1 := by
        rw [sI_RI, sI_RI, sRI_sRI]
        congr 1
        rw [rI_RI, if_pos rfl, mw_i S2.2]
        funext j
        show (if j = 0 then (upd w.1 (9 + th w) (nI k)) 0 + 1 else upd w.1 (9 + th w) (nI k) j) = (if j = 9 + th w then nI k else if j = 0 then nI (th w + 1) else w.1 j)
        by_cases q : j = 0
        · rw [if_pos q, if_neg (by omega), if_pos q, upd_n (by omega), (wf_th S.2.2.1).1, nI_succ]
        · rw [if_neg q]
          by_cases q2 : j = 9 + th w
          · rw [if_pos q2, q2, upd_s]
          · rw [if_neg q2, if_neg q, upd_n q2]
      rw [e3]
      exact ⟨vp_in_nI (by omega) (by decide), vin 0 rfl, vin 0 rfl, z11 (EG_ok H ((Lz_RI fun _ => rfl).trans (zPt_SM e2)) ⟨RK_w S2.1, MW_141 (v := adT w k) (mw_l (w := w) S2.2) (adT_WF S2.2.2 ht k1 k2)⟩)⟩
  · have : th w = 10 := nI_inj (by omega) (by omega) he
    rw [if_neg (by omega)] at H
    exact EG_no H rfl hb
theorem m_rLo (S : SM f n a w μ) {Ψ : Int32 → Mem → Prop} {X : Nat → Mem → Prop} (H : EG Φ μ f n (lnLo f n w a))
    (hΨ0 : ∀ μ', Φ (.inl (some (.int 0))) μ' → Ψ (-1) μ') (hΨ1 : ∀ k μ', k < 10 → Φ (.inl (some (.int 1))) (sI μ' 141 (nx 6) (nI k)) → Ψ (nI k) μ') : Spec g i_Mo_number 0 [.ref 140, .int 0, .int 9] μ (onI Ψ X) := by
  unfold lnLo tnP at H
  refine m_nuS S (by decide) (fun h μ2 e2 hB2 hb2 => oI (hΨ0 _ ?_)) (fun h μ2 e2 S2 => oI ?_)
  · rw [if_neg (by rw [h]; decide)] at H
    exact EG_no H (zPt_SM e2) hb2
  · obtain ⟨k, -, k2, k3⟩ := nok_b (lo := 0) (m := 9) (by omega) (by omega) h
    rw [if_pos h] at H
    have H : EG Φ μ f n (.inl (adL w (nb f n a), nxt f n a)) := H
    rw [k3] at H ⊢
    refine hΨ1 k μ2 (by omega) ?_
    have e3 : sI μ2 141 (nx 6) (nI k) = sRI μ2 141 (adL w (nI k)).1 := by
      rw [sI_RI, mw_i S2.2]; rfl
    rw [e3]
    refine EG_ok H ((Lz_RI fun _ => rfl).trans (zPt_SM e2)) ⟨RK_w S2.1, MW_141 (v := adL w (nI k)) (mw_l (w := w) S2.2) ?_⟩
    exact hd_WF S2.2.2 (c := 6) (Or.inl rfl) rfl (fun j hj => upd_n hj) ⟨k, by omega, upd_s (f := w.1) (k := 6) (x := nI k)⟩
theorem m_rAb (S : SM f n a w μ) {Ψ : Int32 → Mem → Prop} {X : Nat → Mem → Prop} (H : EG Φ μ f n (lnAb f n w a))
    (hΨ0 : ∀ μ', Φ (.inl (some (.int 0))) μ' → Ψ (-1) μ') (hΨ1 : ∀ p μ', p < 10 → Φ (.inl (some (.int 1))) (sI μ' 141 (nx (nI (19 + 6 * p + 5))) 1) → Ψ (nI p) μ') : Spec g i_Mo_number 0 [.ref 140, .int 0, .int (nI (pe w) - 1)] μ (onI Ψ X) := by
  have p10 := (wf_pe S.2.2.1).2
  unfold lnAb tnP at H
  refine m_nuS S (le999 p10) (fun h μ2 e2 hB2 hb2 => oI (hΨ0 _ ?_)) (fun h μ2 e2 S2 => oI ?_)
  · rw [if_neg (by rw [h]; decide)] at H
    exact EG_no H (zPt_SM e2) hb2
  · obtain ⟨p, k2, k3⟩ := nok_p (by omega) h
    rw [if_pos h] at H
    have H : EG Φ μ f n (.inl (abW w (nx (nb f n a)) true, nxt f n a)) := H
    rw [k3, nx_nI (by omega)] at H
    rw [k3]
    refine hΨ1 p μ2 (by omega) ?_
    have e3 : sI μ2 141 (nx (nI (19 + 6 * p + 5))) 1 = sRI μ2 141 (abW w p true).1 := by
      rw [sI_RI, mw_i S2.2, nx_nI (by omega), show 19 + 6 * p + 5 = 24 + 6 * p by omega]; rfl
    rw [e3]
    exact EG_ok H ((Lz_RI fun _ => rfl).trans (zPt_SM e2)) ⟨RK_w S2.1, MW_141 (v := abW w p true) (mw_l (w := w) S2.2) (abW_WF S2.2.2 k2)⟩
theorem m_rSa (S : SM f n a w μ) (H : EG Φ μ f n (lnSa f n w a)) : Spec g i_Mo_readSaid 0 [.ref 140] μ Φ := by
  have t10 := (wf_th S.2.2.1).2
  unfold lnSa tnP at H
  refine spi o_Mo_readSaid rfl (v_Mo_readSaid_0 (m_ttS S (fun h μ2 e2 hB2 hb2 => oI ⟨fun q => absurd q n1nl, fun _ => ⟨fun _ => ⟨fun _ => z01 ?_, fun q => absurd n1lt q⟩, fun q => absurd n1lt q⟩⟩) (fun h μ2 e2 S2 => oI ?_)))
  · rw [if_neg (by rw [h]; decide)] at H
    exact EG_no H (zPt_SM e2) hb2
  · obtain ⟨t, k2, k3⟩ := nok_p (by omega) h
    have w6 := (wf_wo S.2.2.1 (show t < 10 by omega)).2.1
    rw [if_pos h] at H
    simp only [bdP] at H
    rw [k3, nx_nI (by omega)] at H
    rw [k3]
    have H := EG_tr H (zPt_SM e2)
    refine ⟨fun _ => m_wo S2.2 (by omega) (oI (m_nuS S2 (le999 (by omega)) (fun h2 μ3 e3 hB3 hb3 => oI ⟨fun _ => ⟨fun _ => z01 ?_, fun q => absurd n1lt q⟩, fun q => absurd n1lt q⟩) (fun h2 μ3 e3 S3 => oI ?_))), fun q => absurd (n0le (by omega)) q⟩
    · rw [if_neg (by rw [h2]; decide)] at H
      exact EG_no H (zPt_SM e3) hb3
    · obtain ⟨q, j2, j3⟩ := nok_p (by omega) h2
      rw [if_pos h2] at H
      have H : EG Φ μ2 f n (.inl (stW w t (nx (nb f n (nxt f n a))), nxt f n (nxt f n a))) := H
      rw [j3, nx_nI (by omega)] at H
      rw [j3, show (6 : Int32) = nI 6 from rfl, pk_mul, nI_add, mw_l S3.2]
      have hq0 : ¬ nI q < 0 := nI_pos (by omega)
      refine ⟨fun q2 => absurd q2 hq0, fun _ => ⟨fun q2 => absurd q2 hq0, fun _ => z11 (EG_ok H ((Lz_L rfl).trans (zPt_SM e3)) ⟨RK_6 S3.1, ?_⟩)⟩⟩
      refine MW_of ?_ ?_ (WF_st S3.2.2 (by omega) j2)
      · exact (mw_i (w := w) S3.2 : mI μ3 141 = w.1)
      · rw [rL_L, if_pos rfl, updL_s]; rfl
theorem m_rFo (S : SM f n (nxt f n a) w μ) (hb : mI μ 140 17 = nI a) (H : EG Φ μ f n (lnFo f n w a)) : Spec g i_Mo_readRule 0 [.ref 140] μ Φ := by
  have t10 := (wf_th S.2.2.1).2
  have r12 := (wf_ru S.2.2.1).2
  unfold lnFo tnP at H
  refine spi o_Mo_readRule rfl (v_Mo_readRule_0 (m_ru S.2 (oI ⟨fun hne => ?_, fun he => z01 ?_⟩)))
  · have hr : ru w < 12 := by
      have : ru w ≠ 12 := fun e => hne (by rw [e]; rfl)
      omega
    rw [if_pos hr] at H
    -- one of the three
    have one : ∀ {b i : Nat} {v : WD} {μ1 : Mem} {K : Mem → Prop} {X : Nat → Mem → Prop}, i < 3 → SM f n b v μ1 → ru v = ru w → th v = th w → (nok f n b 0 (nI (th w) - 1) = false → ∀ μ2, Lz zPt μ2 = Lz zPt μ1 → mI μ2 140 17 = nI b → Φ (.inl (some (.int 0))) μ2) →
        (nok f n b 0 (nI (th w) - 1) = true → ∀ k, k < th w → nb f n b = nI k → ∀ μ2, Lz zSM μ2 = Lz zSM μ1 → SM f n (nxt f n b) (upd v.1 (79 + 3 * ru w + i) (nI k), v.2) μ2 → K μ2) →
        Spec g i_Mo_thingTold 0 [.ref 140] μ1 (onI (fun r2 μ1 => (0 ≤ r2 → Spec g i_Mo_rules 0 [.ref 140] μ1 (onI (fun r4 μ3 => vp_in (79 + 3 * r4 + nI i) 2713 ∧ K (sI μ3 141 (nx (79 + 3 * r4 + nI i)) r2)) X)) ∧ (¬ 0 ≤ r2 → ((0 : Int32) = 0 ∨ (0 : Int32) = 1) ∧ Φ (.inl (some (.int 0))) μ1)) X) := by
      intro b i v μ1 K X hi S1 er et H0 H1
      have S1' : SM f n b v μ1 := S1
      refine m_ttS S1 (fun h μ2 e2 hB2 hb2 => oI ⟨fun q => absurd q n1nl, fun _ => z01 (H0 (by rw [← et]; exact h) μ2 e2 hb2)⟩) (fun h μ2 e2 S2 => oI ?_)
      rw [et] at h
      obtain ⟨k, k2, k3⟩ := nok_p (by omega) h
      rw [k3]
      refine ⟨fun _ => m_ru S2.2 (oI ?_), fun q => absurd (n0le (by omega)) q⟩
      rw [er, show (79 : Int32) = nI 79 from rfl, show (3 : Int32) = nI 3 from rfl, pk_mul, nI_add, nI_add, nx_nI (by omega)]
      refine ⟨vp_in_nI (by omega) (by decide), H1 h k k2 k3 _ ((Lz_I rfl).trans (zPt_SM e2)) ?_⟩
      rw [sI_RI, mw_i S2.2]
      refine ⟨RK_w S2.1, MW_141 (v := (upd v.1 (79 + 3 * ru w + i) (nI k), v.2)) (mw_l (w := v) S2.2) (WF_slot (s := 79 + 3 * ru w + i) S2.2.2 rfl (by omega) fun j hj => upd_n hj)⟩
    have ru1 : ∀ {v : WD} {i : Nat} {x : Int32}, ru (upd v.1 (79 + 3 * ru w + i) x, v.2) = ru v := fun {v i x} => congrArg nx (upd_n (f := v.1) (k := 79 + 3 * ru w + i) (x := x) (j := 2) (by omega))
    have th1 : ∀ {v : WD} {i : Nat} {x : Int32}, th (upd v.1 (79 + 3 * ru w + i) x, v.2) = th v := fun {v i x} => congrArg nx (upd_n (f := v.1) (k := 79 + 3 * ru w + i) (x := x) (j := 0) (by omega))
    refine v_Mo_readRule_13 ⟨fun h => absurd h (by decide), fun _ => ?_⟩
    refine one (i := 0) (by omega) S rfl rfl (fun h μ2 e2 hb2 => ?_) (fun h x x2 x3 μ2 e2 S2 => ?_)
    · rw [if_neg (by rw [h]; decide)] at H
      exact EG_no H (zPt_SM e2) hb2
    rw [if_pos h] at H
    simp only [bdP] at H
    rw [x3] at H
    have H := EG_tr H e2
    refine v_Mo_readRule_13 ⟨fun h => absurd h (by decide), fun _ => ?_⟩
    refine one (i := 1) (by omega) S2 ru1 th1 (fun h2 μ3 e3 hb3 => ?_) (fun h2 y y2 y3 μ3 e3 S3 => ?_)
    · rw [if_neg (by rw [h2]; decide)] at H
      exact EG_no H (zPt_SM e3) hb3
    rw [if_pos h2] at H
    dsimp only at H
    rw [y3] at H
    have H := EG_tr H e3
    refine v_Mo_readRule_13 ⟨fun h => absurd h (by decide), fun _ => ?_⟩
    refine one (i := 2) (by omega) S3 (ru1.trans ru1) (th1.trans th1) (fun h3 μ4 e4 hb4 => ?_) (fun h3 z z2 z3 μ4 e4 S4 => ?_)
    · rw [if_neg (by rw [h3]; decide)] at H
      exact EG_no H (zPt_SM e4) hb4
    rw [if_pos h3] at H
    dsimp only at H
    rw [z3] at H
    have H := EG_tr H e4
    refine v_Mo_readRule_13 ⟨fun _ => ⟨vin 2 rfl, vin 2 rfl, z11 ?_⟩, fun h => absurd (by decide) h⟩
    have e5 : sI μ4 141 (nx 2) (mI μ4 141 (nx 2) + 1) = sRI μ4 141 (adR w (nI x) (nI y) (nI z)).1 := by
      rw [sI_RI, mw_i S4.2]
      congr 1
      funext j
      show (if j = 2 then upd (upd (upd w.1 (79 + 3 * ru w + 0) (nI x)) (79 + 3 * ru w + 1) (nI y)) (79 + 3 * ru w + 2) (nI z) 2 + 1 else upd (upd (upd w.1 (79 + 3 * ru w + 0) (nI x)) (79 + 3 * ru w + 1) (nI y)) (79 + 3 * ru w + 2) (nI z) j) = (if j = 79 + 3 * ru w then nI x else if j = 80 + 3 * ru w then nI y else if j = 81 + 3 * ru w then nI z else if j = 2 then nI (ru w + 1) else w.1 j)
      by_cases q : j = 2
      · rw [if_pos q, if_neg (by omega), if_neg (by omega), if_neg (by omega), if_pos q, upd_n (by omega), upd_n (by omega), upd_n (by omega), (wf_ru S.2.2.1).1, nI_succ]
      · rw [if_neg q]
        by_cases q2 : j = 81 + 3 * ru w
        · rw [if_neg (by omega), if_neg (by omega), if_pos q2, q2, show 81 + 3 * ru w = 79 + 3 * ru w + 2 by omega, upd_s]
        · rw [upd_n (by omega)]
          by_cases q1 : j = 80 + 3 * ru w
          · rw [if_neg (by omega), if_pos q1, q1, show 80 + 3 * ru w = 79 + 3 * ru w + 1 by omega, upd_s]
          · rw [upd_n (by omega)]
            by_cases q0 : j = 79 + 3 * ru w
            · rw [if_pos q0, q0]; exact upd_s
            · rw [upd_n (by omega), if_neg q0, if_neg q1, if_neg q2, if_neg q]
    rw [e5]
    have q4 := mw_l S4.2
    refine EG_ok H (Lz_RI fun _ => rfl) ⟨RK_w S4.1, MW_141 (v := adR w (nI x) (nI y) (nI z)) q4 (adR_WF S.2.2 hr x2 y2 z2)⟩
  · have : ru w = 12 := nI_inj (by omega) (by omega) he
    rw [if_neg (by omega)] at H
    exact EG_no H rfl hb
end SCM
