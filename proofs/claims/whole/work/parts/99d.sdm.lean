/-! a school's text: the reference's reader, persons and lines -/
section SDM
variable {g : Gl} {Φ : Out → Mem → Prop} {μ : Mem} {f : Nat → Int32} {n a : Nat} {w : WD}
theorem EG_r {r : PRt WD} {X : Nat → Mem → Prop} (H : EG Φ μ f n r) : EG (onI (fun r μ => (r = 0 ∨ r = 1) ∧ Φ (.inl (some (.int r))) μ) X) μ f n r := fun μ' e => by
  have := H μ' e
  cases r with
  | inl x => exact fun h => oI ⟨Or.inr rfl, this h⟩
  | inr b => exact fun h => oI ⟨Or.inl rfl, this h⟩
theorem EG_b {r : PRt WD} {X : Nat → Mem → Prop} (H : EG Φ μ f n r) : EG (onI (fun r μ => (r = 0 → ((0 : Int32) = 0 ∨ (0 : Int32) = 1) ∧ Φ (.inl (some (.int 0))) μ) ∧ (¬ r = 0 → ((1 : Int32) = 0 ∨ (1 : Int32) = 1) ∧ Φ (.inl (some (.int 1))) μ)) X) μ f n r := fun μ' e => by
  have := H μ' e
  cases r with
  | inl x => exact fun h => oI ⟨fun q => absurd q (by decide), fun _ => z11 (this h)⟩
  | inr b => exact fun h => oI ⟨fun _ => z01 (this h), fun q => absurd rfl q⟩
theorem psW_pe {x y e s kn : Int32} : pe (psW w x y e s kn) = pe w := congrArg nx (psW_o (by omega))
theorem psW_th {x y e s kn : Int32} : th (psW w x y e s kn) = th w := congrArg nx (psW_o (by omega))
/-- the next person is counted -/
theorem m_cnt {b : Nat} {x y e s kn : Int32} (hp : pe w < 10) (hw : WF w) (ho : pOK w x y e s kn) (S : SM f n b (psW w x y e s kn) μ) {ψ : Mem} (H : EG Φ ψ f n (.inl (adP w x y e s kn, b))) (e0 : Lz zSM μ = Lz zSM ψ) :
    vp_in 1 2713 ∧ vp_in 1 2713 ∧ ((1 : Int32) = 0 ∨ (1 : Int32) = 1) ∧ Φ (.inl (some (.int 1))) (sI μ 141 (nx 1) (mI μ 141 (nx 1) + 1)) := by
  have e1 : sI μ 141 (nx 1) (mI μ 141 (nx 1) + 1) = sRI μ 141 (adP w x y e s kn).1 := by
    rw [sI_RI, mw_i S.2]
    congr 1
    have e2 : (psW w x y e s kn).1 (nx 1) = nI (pe w) := (psW_o (j := 1) (by omega)).trans (wf_pe hw.1).1
    rw [e2, ← nI_succ]
    show upd (psW w x y e s kn).1 1 (nI (pe w + 1)) = upd (psW w x y e s kn).1 1 (nI (pe (psW w x y e s kn) + 1))
    rw [psW_pe]
  rw [e1]
  have q4 := mw_l S.2
  exact ⟨vin 1 rfl, vin 1 rfl, z11 (EG_ok H ((Lz_RI fun _ => rfl).trans e0) ⟨RK_w S.1, MW_141 (v := adP w x y e s kn) q4 (adP_WF hw hp ho)⟩)⟩
theorem m_kno {x y e s : Int32} (hp : pe w < 10) (hw : WF w) {ψ : Mem} : ∀ d a acc μ, pOK w x y e s acc → SM f n a (psW w x y e s acc) μ → n + 1 ≤ a + d → Lz zSM μ = Lz zSM ψ →
    EG Φ ψ f n (bdP (thL f n w d a acc) fun kn b => .inl (adP w x y e s kn, b)) → WW g i_Mo_readPerson 0 Φ 0 0 167 [(0, .ref 140), (1, .int (nI (pe w)))] [] μ := by
  have t10 := (wf_th hw.1).2
  intro d
  induction d with
  | zero => intro a acc μ ho S h1; have := S.1.2.1; omega
  | succ d ih =>
    intro a acc μ ho S h1 e0 H
    unfold thL at H
    refine v_Mo_readPerson_167 (m_ttS S (fun h μ2 e2 hB2 hb2 => oI ⟨fun q => absurd q n1nl, fun _ => z01 ?_⟩) (fun h μ2 e2 S2 => oI ?_))
    · rw [psW_th] at h
      rw [if_neg (by rw [h]; decide)] at H
      exact EG_no H ((zPt_SM e2).trans e0) hb2
    · rw [psW_th] at h
      obtain ⟨k, k2, k3⟩ := nok_p (by omega) h
      rw [if_pos h] at H
      rw [k3] at H ⊢
      have ho2 : pOK w x y e s (acc ||| ((1 : Int32) <<< (nI k &&& 31))) := ⟨ho.1, ho.2.1, ho.2.2.1, ho.2.2.2.1, bits_or ho.2.2.2.2 k2 t10⟩
      refine ⟨fun _ => m_at (k := 4) (oI ⟨vp_in_nI (by omega) (by decide), vp_in_nI (by omega) (by decide), ?_⟩), fun q => absurd (n0le (by omega)) q⟩
      rw [nx_nI (by omega), mw_i S2.2]
      have e4 : (psW w x y e s acc).1 (19 + 6 * pe w + 4) = acc := by
        have := psW_pf (w := w) (x := x) (y := y) (e := e) (s := s) (kn := acc) (p := pe w) (c := 4) (by omega)
        rw [if_pos rfl] at this; exact this
      rw [e4]
      have e5 : sI μ2 141 (19 + 6 * pe w + 4) (acc ||| ((1 : Int32) <<< (nI k &&& 31))) = sRI μ2 141 (psW w x y e s (acc ||| ((1 : Int32) <<< (nI k &&& 31)))).1 := by
        rw [sI_RI, mw_i S2.2]
        congr 1
        funext j
        by_cases q : j = 19 + 6 * pe w + 4
        · rw [q, upd_s]
          have := psW_pf (w := w) (x := x) (y := y) (e := e) (s := s) (kn := acc ||| ((1 : Int32) <<< (nI k &&& 31))) (p := pe w) (c := 4) (by omega)
          rw [if_pos rfl] at this; exact this.symm
        · rw [upd_n q]
          show (if j = 19 + 6 * pe w then x else if j = 20 + 6 * pe w then y else if j = 21 + 6 * pe w then e else if j = 22 + 6 * pe w then s else if j = 23 + 6 * pe w then acc else if j = 24 + 6 * pe w then 0 else w.1 j) = (if j = 19 + 6 * pe w then x else if j = 20 + 6 * pe w then y else if j = 21 + 6 * pe w then e else if j = 22 + 6 * pe w then s else if j = 23 + 6 * pe w then (acc ||| ((1 : Int32) <<< (nI k &&& 31))) else if j = 24 + 6 * pe w then 0 else w.1 j)
          rw [if_neg (show ¬ j = 23 + 6 * pe w by omega), if_neg (show ¬ j = 23 + 6 * pe w by omega)]
      rw [e5]
      have q4 := mw_l S2.2
      have S3 : SM f n (nxt f n a) (psW w x y e s (acc ||| ((1 : Int32) <<< (nI k &&& 31)))) (sRI μ2 141 (psW w x y e s (acc ||| ((1 : Int32) <<< (nI k &&& 31)))).1) := ⟨RK_w S2.1, MW_141 (v := psW w x y e s (acc ||| ((1 : Int32) <<< (nI k &&& 31)))) q4 (psW_WF hw hp ho2)⟩
      have e6 : Lz zSM (sRI μ2 141 (psW w x y e s (acc ||| ((1 : Int32) <<< (nI k &&& 31)))).1) = Lz zSM ψ := (Lz_RI fun _ => rfl).trans ((zPt_SM e2).trans e0)
      have hgt := nxt_gt (f := f) (n := n) (a := a) (by rw [kd_nok h]; decide)
      refine m_fig S3.1 fun μ4 e4' R4 => oI ⟨fun q => ?_, fun q => ?_⟩
      · have q := of_decide_eq_true (b2i_n0.mp q)
        rw [if_pos q] at H
        exact ih (nxt f n a) _ μ4 ho2 ⟨R4, MW_pt S3.2 e4'⟩ (by omega) ((zPt_SM e4').trans e6) H
      · have q := of_decide_eq_false (b2i_0.mp q)
        rw [if_neg q] at H
        exact m_cnt hp hw ho2 ⟨R4, MW_pt S3.2 e4'⟩ H ((zPt_SM e4').trans e6)
theorem m_rPe (S : SM f n (nxt f n a) w μ) (hb : mI μ 140 17 = nI a) (H : EG Φ μ f n (lnPe f n w a)) : Spec g i_Mo_readPerson 0 [.ref 140] μ Φ := by
  have t10 := (wf_th S.2.2.1).2
  have p10 := (wf_pe S.2.2.1).2
  unfold lnPe tnP at H
  refine spi o_Mo_readPerson rfl (v_Mo_readPerson_0 (m_pe S.2 (oI ⟨fun hne => ?_, fun he => z01 ?_⟩)))
  rotate_left
  · have : pe w = 10 := nI_inj (by omega) (by omega) he
    rw [if_neg (by omega)] at H
    exact EG_no H rfl hb
  have hp : pe w < 10 := by
    have : pe w ≠ 10 := fun e => hne (by rw [e]; rfl)
    omega
  rw [if_pos hp] at H
  refine m_nuS S (by decide) (fun h μ2 e2 hB2 hb2 => oI ⟨fun q => absurd q n1nl, fun _ => ⟨fun _ => z01 ?_, fun q => absurd n1lt q⟩⟩) (fun h μ2 e2 S2 => oI ?_)
  · rw [if_neg (by rw [h]; decide)] at H
    exact EG_no H (zPt_SM e2) hb2
  obtain ⟨x, -, x2, x3⟩ := nok_b (lo := 0) (m := 9) (by omega) (by omega) h
  rw [if_pos h] at H
  simp only [bdP] at H
  rw [x3] at H ⊢
  have H := EG_tr H (zPt_SM e2)
  generalize nxt f n (nxt f n a) = a1 at *
  refine ⟨fun _ => m_num S2.1 (by decide) (fun h2 μ3 e3 hB3 hb3 => oI ⟨fun _ => z01 ?_, fun q => absurd n1lt q⟩) (fun hy μ3 e3 R3 hb3 => oI ?_), fun q => absurd (n0le (by omega)) q⟩
  · rw [if_neg (fun e => by rw [e.1] at h2; cases h2)] at H
    exact EG_no H (zPt_SM e3) hb3
  have S3 : SM f n (nxt f n a1) w μ3 := ⟨R3, MW_pt S2.2 e3⟩
  obtain ⟨y, -, y2, y3⟩ := nok_b (lo := 0) (m := 9) (by omega) (by omega) hy
  rw [y3] at H ⊢
  refine ⟨fun q => absurd q (nI_pos (by omega)), fun _ => m_sit S3.2 fun o o0 o1 => oI ⟨fun q => ?_, fun q => z01 ?_⟩⟩
  rotate_left
  · have hs : ¬ sat w (nI x) (nI y) = false := fun hs => by
      have hs := of_decide_eq_false hs
      cases ho : o with
      | none => rw [ho] at q; exact q (by decide)
      | some r =>
        obtain ⟨r1, r2, -⟩ := o1 r ho
        exact hs ⟨r, r1, r2⟩
    rw [if_neg (fun e => hs e.2)] at H
    exact EG_no H (zPt_SM e3) hb3
  have hs : sat w (nI x) (nI y) = false := by
    cases ho : o with
    | none => exact decide_eq_false fun ⟨p, h1, h2⟩ => o0 ho p h1 h2
    | some r =>
      rw [ho] at q
      obtain ⟨r1, -⟩ := o1 r ho
      exact absurd q (nI_pos (n := r) (by omega))
  rw [if_pos ⟨hy, hs⟩] at H
  have H := EG_tr H (zPt_SM e3)
  generalize nxt f n a1 = a2 at *
  unfold lnP2 twP tnP at H
  refine m_aft S3.1 (bs := bEa) wk_1041 rfl (by decide) (by decide) (by decide) (fun h4 μ4 e4 hB4 hb4 => oI ⟨fun q => absurd q n1nl, fun _ => ⟨fun q => absurd q n1nl, fun _ => z01 ?_⟩⟩) (fun h4 h5 μ4 e4 hB4 hb4 => oI ⟨fun q => absurd q n1nl, fun _ => ⟨fun q => absurd q n1nl, fun _ => z01 ?_⟩⟩) (fun h4 h5 μ4 e4 R4 => oI ?_)
  · rw [if_neg (by rw [h4]; decide)] at H
    exact EG_no H (zPt_SM e4) hb4
  · rw [if_pos h4] at H
    simp only [bdP] at H
    rw [if_neg (by rw [h5]; decide)] at H
    exact EG_no H (zPt_SM e4) hb4
  obtain ⟨e, -, e2', e3'⟩ := nok_b (lo := 0) (m := 9) (by omega) (by omega) h5
  rw [if_pos h4] at H
  simp only [bdP] at H
  rw [if_pos h5] at H
  dsimp only at H
  rw [e3'] at H ⊢
  have H := EG_tr H (zPt_SM e4)
  generalize nxt f n (nxt f n a2) = a3 at *
  refine ⟨fun _ => ?_, fun q => absurd (n0le (by omega)) q⟩
  refine m_aft R4 (bs := bSt) wk_1042 rfl (by decide) (by decide) (by decide) (fun h6 μ5 e5 hB5 hb5 => oI ⟨fun q => absurd q n1nl, fun _ => z01 ?_⟩) (fun h6 h7 μ5 e5 hB5 hb5 => oI ⟨fun q => absurd q n1nl, fun _ => z01 ?_⟩) (fun h6 h7 μ5 e5 R5 => oI ?_)
  · rw [if_neg (by rw [h6]; decide)] at H
    exact EG_no H (zPt_SM e5) hb5
  · rw [if_pos h6] at H
    dsimp only at H
    rw [if_neg (by rw [h7]; decide)] at H
    exact EG_no H (zPt_SM e5) hb5
  obtain ⟨s, -, s2, s3⟩ := nok_b (lo := 0) (m := 100) (by omega) (by omega) h7
  rw [if_pos h6] at H
  dsimp only at H
  rw [if_pos h7] at H
  dsimp only at H
  rw [s3] at H ⊢
  have H := EG_tr H (zPt_SM e5)
  generalize nxt f n (nxt f n a3) = a4 at *
  have m5 : MW μ5 w := MW_pt (MW_pt S3.2 e4) e5
  have ho : pOK w (nI x) (nI y) (nI e) (nI s) 0 := ⟨⟨x, x2, rfl⟩, ⟨y, y2, rfl⟩, ⟨e, e2', rfl⟩, ⟨s, s2, rfl⟩, fun i _ _ => b_0 i⟩
  have v : ∀ k, k < 6 → vp_in (nI (19 + 6 * pe w + k)) 2713 := fun k hk => vp_in_nI (by omega) (by decide)
  refine ⟨fun _ => m_at (k := 0) (oI ⟨v 0 (by omega), m_at (k := 1) (oI ⟨v 1 (by omega), m_at (k := 2) (oI ⟨v 2 (by omega), m_at (k := 3) (oI ⟨v 3 (by omega), m_at (k := 4) (oI ⟨v 4 (by omega), m_at (k := 5) (oI ⟨v 5 (by omega), ?_⟩)⟩)⟩)⟩)⟩)⟩), fun q => absurd (n0le (by omega)) q⟩
  have e6 : sI (sI (sI (sI (sI (sI μ5 141 (nx (nI (19 + 6 * pe w + 0))) (nI x)) 141 (nx (nI (19 + 6 * pe w + 1))) (nI y)) 141 (nx (nI (19 + 6 * pe w + 2))) (nI e)) 141 (nx (nI (19 + 6 * pe w + 3))) (nI s)) 141 (nx (nI (19 + 6 * pe w + 4))) 0) 141 (nx (nI (19 + 6 * pe w + 5))) 0 = sRI μ5 141 (psW w (nI x) (nI y) (nI e) (nI s) 0).1 := by
    rw [nx_nI (by omega), nx_nI (by omega), nx_nI (by omega), nx_nI (by omega), nx_nI (by omega), nx_nI (by omega), sI_RI μ5, sI_sRI, sI_sRI, sI_sRI, sI_sRI, sI_sRI, mw_i m5]
    congr 1
    funext j
    show _ = (if j = 19 + 6 * pe w then nI x else if j = 20 + 6 * pe w then nI y else if j = 21 + 6 * pe w then nI e else if j = 22 + 6 * pe w then nI s else if j = 23 + 6 * pe w then 0 else if j = 24 + 6 * pe w then 0 else w.1 j)
    by_cases q5 : j = 19 + 6 * pe w + 5
    · rw [if_neg (by omega), if_neg (by omega), if_neg (by omega), if_neg (by omega), if_neg (by omega), if_pos (by omega), q5, upd_s]
    · rw [upd_n q5]
      by_cases q4 : j = 19 + 6 * pe w + 4
      · rw [if_neg (by omega), if_neg (by omega), if_neg (by omega), if_neg (by omega), if_pos (by omega), q4, upd_s]
      · rw [upd_n q4]
        by_cases q3 : j = 19 + 6 * pe w + 3
        · rw [if_neg (by omega), if_neg (by omega), if_neg (by omega), if_pos (by omega), q3, upd_s]
        · rw [upd_n q3]
          by_cases q2 : j = 19 + 6 * pe w + 2
          · rw [if_neg (by omega), if_neg (by omega), if_pos (by omega), q2, upd_s]
          · rw [upd_n q2]
            by_cases q1 : j = 19 + 6 * pe w + 1
            · rw [if_neg (by omega), if_pos (by omega), q1, upd_s]
            · rw [upd_n q1]
              by_cases q0 : j = 19 + 6 * pe w + 0
              · rw [if_pos (by omega), q0, upd_s]
              · rw [upd_n q0, if_neg (by omega), if_neg (by omega), if_neg (by omega), if_neg (by omega), if_neg (by omega), if_neg (by omega)]
  rw [e6]
  have q5 := mw_l m5
  have S6 : SM f n a4 (psW w (nI x) (nI y) (nI e) (nI s) 0) (sRI μ5 141 (psW w (nI x) (nI y) (nI e) (nI s) 0).1) := ⟨RK_w R5, MW_141 (v := psW w (nI x) (nI y) (nI e) (nI s) 0) q5 (psW_WF S.2.2 hp ho)⟩
  have z6 : Lz zSM (sRI μ5 141 (psW w (nI x) (nI y) (nI e) (nI s) 0).1) = Lz zSM μ5 := Lz_RI fun _ => rfl
  refine m_pas S6.1 (bs := bKn) wk_1043 rfl (by decide) (by decide) (fun h8 μ7 e7 R7 _ => oI ⟨fun _ => ?_, fun q => absurd rfl q⟩) (fun h8 μ7 e7 R7 => oI ⟨fun q => absurd q (by decide), fun _ => ?_⟩)
  · rw [if_neg (by rw [h8]; decide)] at H
    exact m_cnt hp S.2.2 ho ⟨R7, MW_pt S6.2 e7⟩ H ((zPt_SM e7).trans z6)
  · rw [if_pos h8] at H
    exact m_kno hp S.2.2 (n + 1) (nxt f n a4) 0 μ7 ho ⟨R7, MW_pt S6.2 e7⟩ (by omega) ((zPt_SM e7).trans z6) H
/-- a line of a school, behind 'letters' -/
theorem m_rSL (hB : RBf f n μ) (ha : a ≤ n) (hp : mI μ 140 15 = nI (enL f n a)) (hb : mI μ 140 17 = nI a) (m : MW μ w) (H : EG Φ μ f n (lnS f n w a)) : Spec g i_Mo_readSchoolLine 0 [.ref 140] μ Φ := by
  have p10 := (wf_pe m.2.1).2
  unfold lnS at H
  have nx1 : ∀ {bs : List Int32}, wdm f n a bs = true → SM f n (nxt f n a) w μ := fun h => ⟨RK_L hB ha hp h, m⟩
  refine spi o_Mo_readSchoolLine rfl (v_Mo_readSchoolLine_0 (m_wL hB ha hp hb (bs := bTh) wk_1039 rfl (by decide) (by decide) (oI ⟨fun h1 => ?_, fun h1 => ?_⟩)))
  rotate_left
  · rw [if_pos (b2i_n0.mp h1)] at H
    exact m_rTh (nx1 (b2i_n0.mp h1)) hb (EG_r H)
  rw [if_neg (by rw [b2i_0.mp h1]; decide)] at H
  refine m_wL hB ha hp hb (bs := bPe) wk_1040 rfl (by decide) (by decide) (oI ⟨fun h2 => ?_, fun h2 => ?_⟩)
  rotate_left
  · rw [if_pos (b2i_n0.mp h2)] at H
    exact m_rPe (nx1 (b2i_n0.mp h2)) hb (EG_r H)
  rw [if_neg (by rw [b2i_0.mp h2]; decide)] at H
  refine m_wL hB ha hp hb (bs := bFo) wk_1044 rfl (by decide) (by decide) (oI ⟨fun h3 => ?_, fun h3 => ?_⟩)
  rotate_left
  · rw [if_pos (b2i_n0.mp h3)] at H
    exact m_rFo (nx1 (b2i_n0.mp h3)) hb (EG_r H)
  rw [if_neg (by rw [b2i_0.mp h3]; decide)] at H
  refine m_wL hB ha hp hb (bs := bSa) wk_1045 rfl (by decide) (by decide) (oI ⟨fun h4 => ?_, fun h4 => ?_⟩)
  rotate_left
  · rw [if_pos (b2i_n0.mp h4)] at H
    exact m_rSa (nx1 (b2i_n0.mp h4)) (EG_r H)
  rw [if_neg (by rw [b2i_0.mp h4]; decide)] at H
  refine m_wL hB ha hp hb (bs := bAb) wk_1046 rfl (by decide) (by decide) (oI ⟨fun h5 => ?_, fun h5 => ?_⟩)
  · have h5' := b2i_n0.mp h5
    rw [if_pos h5'] at H
    refine ⟨fun q => absurd q h5, fun _ => m_pe m (oI ?_)⟩
    refine m_rAb (nx1 h5') H (fun μ' h => ⟨fun _ => ⟨fun _ => z01 h, fun q => absurd n1lt q⟩, fun q => absurd n1lt q⟩) (fun p μ' hp10 h => ?_)
    have hq0 : ¬ nI p < 0 := nI_pos (by omega)
    refine ⟨fun q => absurd q hq0, fun _ => ⟨fun q => absurd q h5, fun _ => m_at (k := 5) (oI ⟨fun q => absurd q h5, fun _ => ⟨vp_in_nI (by omega) (by decide), fun q => absurd q hq0, fun _ => z11 h⟩⟩)⟩⟩
  · rw [if_neg (by rw [b2i_0.mp h5]; decide)] at H
    have h50 := b2i_0.mp h5
    refine m_wL hB ha hp hb (bs := bLo) wk_1047 rfl (by decide) (by decide) (oI ⟨fun h6 => ?_, fun h6 => z01 ?_⟩)
    · have h6' := b2i_n0.mp h6
      rw [if_pos h6'] at H
      refine ⟨fun _ => ?_, fun q => absurd h5 q⟩
      refine m_rLo (nx1 h6') H (fun μ' h => ⟨fun _ => ⟨fun _ => z01 h, fun q => absurd n1lt q⟩, fun q => absurd n1lt q⟩) (fun k μ' hk10 h => ?_)
      have hq0 : ¬ nI k < 0 := nI_pos (by omega)
      exact ⟨fun q => absurd q hq0, fun _ => ⟨fun _ => ⟨fun _ => ⟨vin 6 rfl, fun q => absurd q hq0, fun _ => z11 h⟩, fun q => absurd h5 q⟩, fun q => absurd h5 q⟩⟩
    · rw [if_neg (by rw [b2i_0.mp h6]; decide)] at H
      exact EG_no H rfl hb
end SDM
/-! what a school's text keeps of a world -/
def kpW (w v : WD) : Prop := ∀ j, j = 3 ∨ j = 4 ∨ j = 7 ∨ 115 ≤ j → v.1 j = w.1 j
section KPW
variable {f : Nat → Int32} {n a : Nat} {w : WD}
theorem kpW_tr {v u : WD} (h : kpW w v) (k : kpW v u) : kpW w u := fun j hj => (k j hj).trans (h j hj)
theorem bdP_l {α β : Type} {r : PRt α} {k : α → Nat → PRt β} {y : β × Nat} (h : bdP r k = .inl y) : ∃ x, r = .inl x ∧ k x.1 x.2 = .inl y := by
  cases r with
  | inl x => exact ⟨x, rfl, h⟩
  | inr b => cases h
theorem tnP_l {lo hi : Int32} {x : Int32 × Nat} (h : tnP f n a lo hi = .inl x) : nok f n a lo hi = true ∧ x = (nb f n a, nxt f n a) := by
  unfold tnP at h
  split at h
  · rename_i q; exact ⟨q, (Sum.inl.inj h).symm⟩
  · cases h
theorem lnS_kp (hw : WF w) {x : WD × Nat} (h : lnS f n w a = .inl x) : kpW w x.1 := by
  have p10 := (wf_pe hw.1).2
  have r12 := (wf_ru hw.1).2
  have t10 := (wf_th hw.1).2
  unfold lnS at h
  split at h
  · unfold lnTh at h
    split at h
    · obtain ⟨y, -, h⟩ := bdP_l h
      rw [← Sum.inl.inj h]
      exact fun j hj => adT_lo (by omega) (by omega)
    · cases h
  · split at h
    · unfold lnPe at h
      split at h
      · obtain ⟨y, -, h⟩ := bdP_l h
        split at h
        · unfold lnP2 at h
          obtain ⟨y1, -, h⟩ := bdP_l h
          obtain ⟨y2, -, h⟩ := bdP_l h
          obtain ⟨y3, -, h⟩ := bdP_l h
          obtain ⟨y4, -, h⟩ := bdP_l h
          split at h
          · obtain ⟨y5, -, h⟩ := bdP_l h
            rw [← Sum.inl.inj h]
            exact fun j hj => adP_o (by omega) (by omega)
          · rw [← Sum.inl.inj h]
            exact fun j hj => adP_o (by omega) (by omega)
        · cases h
      · cases h
    · split at h
      · unfold lnFo at h
        split at h
        · obtain ⟨y1, -, h⟩ := bdP_l h
          obtain ⟨y2, -, h⟩ := bdP_l h
          obtain ⟨y3, -, h⟩ := bdP_l h
          rw [← Sum.inl.inj h]
          exact fun j hj => adR_o (by omega) (by omega)
        · cases h
      · split at h
        · unfold lnSa at h
          obtain ⟨y1, -, h⟩ := bdP_l h
          obtain ⟨y2, -, h⟩ := bdP_l h
          rw [← Sum.inl.inj h]
          exact fun j hj => rfl
        · split at h
          · unfold lnAb at h
            obtain ⟨y1, k1, h⟩ := bdP_l h
            obtain ⟨q1, q2⟩ := tnP_l k1
            obtain ⟨p, p2, p3⟩ := nok_p (by omega) q1
            rw [← Sum.inl.inj h, q2]
            dsimp only
            rw [p3, nx_nI (by omega)]
            exact fun j hj => upd_n (by omega)
          · split at h
            · unfold lnLo at h
              obtain ⟨y1, -, h⟩ := bdP_l h
              rw [← Sum.inl.inj h]
              exact fun j hj => upd_n (by omega)
            · cases h
end KPW
