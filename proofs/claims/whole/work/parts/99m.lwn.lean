/-! a law's text: the reference's reader of a condition, all of it -/
def LGp (g : Gl) (m dx : Nat) (Φ : Out → Mem → Prop) (μ : Mem) : Prop := match m with
  | 0 => Spec g i_Mo_readAtom dx [.ref 140] μ Φ
  | 1 => Spec g i_Mo_readAllOf dx [.ref 140] μ Φ
  | 2 => WW g i_Mo_readAllOf dx Φ 0 0 9 [(0, .ref 140)] [] μ
  | 3 => Spec g i_Mo_readCond dx [.ref 140] μ Φ
  | _ => WW g i_Mo_readCond dx Φ 0 0 9 [(0, .ref 140)] [] μ
/-- how much room a mode wants -/
def roP (m k : Nat) : Nat := if m = 0 then 3 * (6 - k) else if m ≤ 2 then 3 * (6 - k) + 2 else 3 * (6 - k) + 3
section LWN
variable {g : Gl} {Φ : Out → Mem → Prop} {μ : Mem} {f : Nat → Int32} {n a st k : Nat} {u : WD}
theorem EL_ok {c : CLs} {b : Nat} {μ1 : Mem} {u' : WD} {st' : Nat} (H : EL Φ μ f n u st k (.inl (c, b))) (e : Lz zLM μ1 = Lz zLM μ) (S : SL f n b u' st' k μ1) (hu : u' = emL u st c) (hs : st' = st + c.length) : Φ (.inl (some (.int 1))) μ1 := by
  subst hu hs
  exact H μ1 e S
theorem SL_18 {k' : Nat} {x : Int32} (S : SL f n a u st k μ) (hx : x = nI k') : SL f n a u st k' (sI μ 140 18 x) := by
  subst hx
  obtain ⟨h1, h2, h3, -⟩ := S
  exact ⟨h1, ⟨h2.1, h2.2⟩, h3, by rw [rI_I, if_pos rfl, upd_s]⟩
theorem k_pred : nI (k + 1) - 1 = nI k := by rw [show (1 : Int32) = nI 1 from rfl, pk_sub (by omega)]; rfl
theorem m_cmp (S : SL f n a u st k μ) (h4 : st < a) {dx : Nat} (H : EL Φ μ f n u st k (cmP f n a)) {X8 X10 X12 X13 X14 X16 X18 X19 X20 : Nat → Mem → Prop} :
    isT (rmB (rm i_Mo_readAtom dx) i_Mo_readSum 0 0) (Spec g i_Mo_readSum 0 [.ref 140] μ (onI (fun r8 μ7 => (¬ r8 = 0 → isT (rmB (rm i_Mo_readAtom dx) i_Mo_sign 0 0) (Spec g i_Mo_sign 0 [.ref 140, .int 60] μ7 (onI (fun r10 μ9 => (¬ r10 = 0 → isT (rmB (rm i_Mo_readAtom dx) i_Mo_readSum 0 0) (Spec g i_Mo_readSum 0 [.ref 140] μ9 (onI (fun r12 μ11 => (¬ r12 = 0 → (r10 = 0 → isT (rmB (rm i_Mo_readAtom dx) i_Mo_emits 0 0) (Spec g i_Mo_emits 0 [.ref 140, .int 11, .int 0] μ11 (onV (fun μ13 => ((1 : Int32) = 0 ∨ (1 : Int32) = 1) ∧ Φ (.inl (some (.int 1))) μ13) X13))) ∧ (¬ r10 = 0 → isT (rmB (rm i_Mo_readAtom dx) i_Mo_emits 0 0) (Spec g i_Mo_emits 0 [.ref 140, .int 10, .int 0] μ11 (onV (fun μ14 => ((1 : Int32) = 0 ∨ (1 : Int32) = 1) ∧ Φ (.inl (some (.int 1))) μ14) X14)))) ∧ (r12 = 0 → ((0 : Int32) = 0 ∨ (0 : Int32) = 1) ∧ Φ (.inl (some (.int 0))) μ11)) X12))) ∧ (r10 = 0 → isT (rmB (rm i_Mo_readAtom dx) i_Mo_sign 0 0) (Spec g i_Mo_sign 0 [.ref 140, .int 62] μ9 (onI (fun r16 μ15 => (r16 = 0 → ((0 : Int32) = 0 ∨ (0 : Int32) = 1) ∧ Φ (.inl (some (.int 0))) μ15) ∧ (¬ r16 = 0 → isT (rmB (rm i_Mo_readAtom dx) i_Mo_readSum 0 0) (Spec g i_Mo_readSum 0 [.ref 140] μ15 (onI (fun r18 μ17 => (¬ r18 = 0 → (r10 = 0 → isT (rmB (rm i_Mo_readAtom dx) i_Mo_emits 0 0) (Spec g i_Mo_emits 0 [.ref 140, .int 11, .int 0] μ17 (onV (fun μ19 => ((1 : Int32) = 0 ∨ (1 : Int32) = 1) ∧ Φ (.inl (some (.int 1))) μ19) X19))) ∧ (¬ r10 = 0 → isT (rmB (rm i_Mo_readAtom dx) i_Mo_emits 0 0) (Spec g i_Mo_emits 0 [.ref 140, .int 10, .int 0] μ17 (onV (fun μ20 => ((1 : Int32) = 0 ∨ (1 : Int32) = 1) ∧ Φ (.inl (some (.int 1))) μ20) X20)))) ∧ (r18 = 0 → ((0 : Int32) = 0 ∨ (0 : Int32) = 1) ∧ Φ (.inl (some (.int 0))) μ17)) X18)))) X16)))) X10))) ∧ (r8 = 0 → ((0 : Int32) = 0 ∨ (0 : Int32) = 1) ∧ Φ (.inl (some (.int 0))) μ7)) X8)) := by
  have n4 := S.1.1.1
  have ha := S.1.2.1
  unfold cmP at H
  refine isT_rm rfl (m_smL S h4 fun μ1 e1 => ?_)
  cases hr : smF f n a with
  | inr b =>
    intro hb hu
    rw [hr] at H
    exact oI ⟨fun q => absurd rfl q, fun _ => z01 (H μ1 e1 hb hu)⟩
  | inl x =>
    intro S1
    rw [hr] at H
    simp only [bdP] at H
    obtain ⟨a1, a2, a3⟩ := smF_adv ha x hr
    obtain ⟨p1, -, -⟩ := smF_g ha x hr
    refine oI ⟨fun _ => isT_rm rfl ?_, fun q => absurd q (by decide)⟩
    refine m_sgnB (hcS (by decide)) S1.1 (fun h μ2 e2 R2 b2 => oI ⟨fun q => absurd rfl q, fun _ => isT_rm rfl ?_⟩) (fun h μ2 e2 R2 b2 => oI ⟨fun _ => isT_rm rfl ?_, fun q => absurd q (by decide)⟩)
    · rw [if_neg (by rw [h]; decide)] at H
      refine m_sgnB (hcS (by decide)) R2 (fun h3 μ3 e3 R3 b3 => oI ⟨fun _ => z01 ?_, fun q => absurd rfl q⟩) (fun h3 μ3 e3 R3 b3 => oI ⟨fun q => absurd q (by decide), fun _ => isT_rm rfl ?_⟩)
      · rw [if_neg (by rw [h3]; decide)] at H
        exact H μ3 ((zPt_LM e3).trans ((zPt_LM e2).trans e1)) b3 ⟨_, emL_18, MW_pt (MW_pt S1.2.1 e2) e3⟩
      · rw [if_pos h3] at H
        have hgt := nxt_gt (sgn_k h3)
        have hle := nxt_le (f := f) a2
        refine m_smL (SL_pt (SL_pt S1 e2 R2) e3 R3) (by omega) fun μ4 e4 => ?_
        cases hr2 : smF f n (nxt f n x.2) with
        | inr b =>
          intro hb ⟨u', h1, h2⟩
          rw [hr2] at H
          exact oI ⟨fun q => absurd rfl q, fun _ => z01 (H μ4 (e4.trans ((zPt_LM e3).trans ((zPt_LM e2).trans e1))) hb ⟨u', E18_tr emL_18 h1, h2⟩)⟩
        | inl y =>
          intro S4
          rw [hr2] at H
          obtain ⟨b1, b2, b3⟩ := smF_adv hle y hr2
          obtain ⟨q1, -, -⟩ := smF_g hle y hr2
          refine oI ⟨fun _ => ⟨fun _ => isT_rm rfl (m_emi S4.2.1 S4.2.2.1 (by omega) fun μ5 e5 m5 s5 => oV (z11 ?_)), fun q => absurd rfl q⟩, fun q => absurd q (by decide)⟩
          refine EL_ok H ((zEm_LM e5).trans (e4.trans ((zPt_LM e3).trans ((zPt_LM e2).trans e1)))) (⟨RK_em e5 S4.1, m5, s5, (rdI1 e5 rfl).trans S4.2.2.2⟩ : SL f n y.2 _ _ k μ5) ?_ ?_
          · rw [emL_app, emL_app]; rfl
          · simp only [List.length_append, List.length_cons, List.length_nil]; omega
    · rw [if_pos h] at H
      have hgt := nxt_gt (sgn_k h)
      have hle := nxt_le (f := f) a2
      refine m_smL (SL_pt S1 e2 R2) (by omega) fun μ4 e4 => ?_
      cases hr2 : smF f n (nxt f n x.2) with
      | inr b =>
        intro hb ⟨u', h1, h2⟩
        rw [hr2] at H
        exact oI ⟨fun q => absurd rfl q, fun _ => z01 (H μ4 (e4.trans ((zPt_LM e2).trans e1)) hb ⟨u', E18_tr emL_18 h1, h2⟩)⟩
      | inl y =>
        intro S4
        rw [hr2] at H
        obtain ⟨b1, b2, b3⟩ := smF_adv hle y hr2
        obtain ⟨q1, -, -⟩ := smF_g hle y hr2
        refine oI ⟨fun _ => ⟨fun q => absurd q (by decide), fun _ => isT_rm rfl (m_emi S4.2.1 S4.2.2.1 (by omega) fun μ5 e5 m5 s5 => oV (z11 ?_))⟩, fun q => absurd q (by decide)⟩
        refine EL_ok H ((zEm_LM e5).trans (e4.trans ((zPt_LM e2).trans e1))) (⟨RK_em e5 S4.1, m5, s5, (rdI1 e5 rfl).trans S4.2.2.2⟩ : SL f n y.2 _ _ k μ5) ?_ ?_
        · rw [emL_app, emL_app]; rfl
        · simp only [List.length_append, List.length_cons, List.length_nil]; omega
theorem m_LG : ∀ N m (Φ : Out → Mem → Prop) μ a u st k dx, m ≤ 4 → 4 * (n - a) + rkP m < N → SL f n a u st k μ → st < a → k ≤ 6 → roP m k ≤ dx → EL Φ μ f n u st k (LPu f n m a k) → LGp g m dx Φ μ := by
  intro N
  induction N with
  | zero => intro m Φ μ a u st k dx _ h; omega
  | succ N ih =>
    intro m Φ μ a u st k dx hm hN S hst hk hdx H
    have n4 := S.1.1.1
    have ha := S.1.2.1
    have ht := S.1.2.2.1
    have r0 : rkP 0 = 1 := rfl
    have r1 : rkP 1 = 2 := rfl
    have r2 : rkP 2 = 0 := rfl
    have r3 : rkP 3 = 3 := rfl
    have r4 : rkP 4 = 0 := rfl
    match m with
    | 0 =>
      have d0 : roP 0 k = 3 * (6 - k) := rfl
      have d0' : roP 0 (k + 1) = 3 * (6 - (k + 1)) := rfl
      have d3' : roP 3 (k + 1) = 3 * (6 - (k + 1)) + 3 := rfl
      rw [LPu_0 ha ht] at H
      show Spec g i_Mo_readAtom dx [.ref 140] μ Φ
      refine spi o_Mo_readAtom rfl (v_Mo_readAtom_0 (isT_rm rfl (m_sgnB (hcS (by decide)) S.1 (fun h μ1 e1 R1 b1 => oI ⟨fun _ => isT_rm rfl ?_, fun q => absurd rfl q⟩) (fun h μ1 e1 R1 b1 => oI ⟨fun q => absurd q (by decide), fun _ => ?_⟩))))
      · rw [if_neg (by rw [h]; decide)] at H
        have S1 := SL_pt S e1 R1
        refine m_pasB R1 (bs := bNo) wk_1052 rfl (by decide) (by decide) (fun h2 μ2 e2 R2 b2 => oI ⟨fun _ => isT_rm rfl ?_, fun q => absurd rfl q⟩) (fun h2 μ2 e2 R2 b2 => oI ⟨fun q => absurd q (by decide), fun _ => ?_⟩)
        · rw [if_neg (by rw [h2]; decide)] at H
          have S2 := SL_pt S1 e2 R2
          unfold fcP at H
          refine m_pasB R2 (bs := bKw) wk_1053 rfl (by decide) (by decide) (fun h3 μ3 e3 R3 b3 => oI ⟨fun _ => ?_, fun q => absurd rfl q⟩) (fun h3 μ3 e3 R3 b3 => oI ⟨fun q => absurd q (by decide), fun _ => isT_rm rfl ?_⟩)
          · rw [if_neg (by rw [h3]; decide)] at H
            exact m_cmp (SL_pt S2 e3 R3) hst (EL_tr H ((zPt_LM e3).trans ((zPt_LM e2).trans (zPt_LM e1))))
          · rw [if_pos h3] at H
            have S3 := SL_pt S2 e3 R3
            refine m_emi S3.2.1 S3.2.2.1 (by omega) fun μ4 e4 m4 s4 => oV (z11 ?_)
            exact EL_ok H ((zEm_LM e4).trans ((zPt_LM e3).trans ((zPt_LM e2).trans (zPt_LM e1)))) (⟨RK_em e4 S3.1, m4, s4, (rdI1 e4 rfl).trans S3.2.2.2⟩ : SL f n _ _ _ k μ4) rfl rfl
        · rw [if_pos h2] at H
          have hgt := nxt_gt (wdm_n0 h2)
          have hle := nxt_le (f := f) ha
          have S2 := SL_pt S1 e2 R2
          rw [S2.2.2.2]
          refine ⟨fun hne => ?_, fun heq => z01 ?_⟩
          · have hk6 : k ≠ 6 := fun e => hne (by rw [e]; rfl)
            rw [if_neg hk6] at H
            rw [← nI_succ]
            refine ⟨dx - 1, callR_rm (show 9 + (dx - 1) + 1 ≤ 9 + dx by omega) rfl, ?_⟩
            refine ih 0 _ _ (nxt f n a) u st (k + 1) (dx - 1) (by omega) (by omega) (SL_18 S2 rfl) (by omega) (by omega) (by omega) fun μ3 e3 => ?_
            have z3 : Lz zLM μ3 = Lz zLM μ := e3.trans ((Lz_I rfl).trans ((zPt_LM e2).trans (zPt_LM e1)))
            cases hr : LPu f n 0 (nxt f n a) (k + 1) with
            | inr b =>
              intro hb hu
              rw [hr] at H
              exact oI ⟨fun q => absurd rfl q, fun _ => z01 (H μ3 z3 hb hu)⟩
            | inl x =>
              intro S3
              rw [hr] at H
              obtain ⟨p1, -, -⟩ := LP_g _ 0 _ (k + 1) hle nxt_tk (by omega) x hr
              obtain ⟨a1, a2, a3⟩ := LPu_adv hle nxt_tk x hr
              refine oI ⟨fun _ => isT_rm rfl ?_, fun q => absurd q (by decide)⟩
              have S4 := SL_18 S3 (x := mI μ3 140 18 - 1) (k' := k) (by rw [S3.2.2.2, k_pred])
              refine m_emi S4.2.1 S4.2.2.1 (by omega) fun μ4 e4 m4 s4 => oV (z11 ?_)
              refine EL_ok H ((zEm_LM e4).trans ((Lz_I rfl).trans z3)) (⟨RK_em e4 S4.1, m4, s4, (rdI1 e4 rfl).trans S4.2.2.2⟩ : SL f n x.2 _ _ k μ4) ?_ ?_
              · rw [emL_app]; rfl
              · rw [List.length_append, ← Nat.add_assoc]; rfl
          · have hk6 : k = 6 := nI_inj (b := 6) (by omega) (by omega) heq
            rw [if_pos hk6] at H
            exact H μ2 ((zPt_LM e2).trans (zPt_LM e1)) b2 ⟨u, E18_rfl, S2.2.1⟩
      · rw [if_pos h] at H
        have hgt := nxt_gt (sgn_k h)
        have hle := nxt_le (f := f) ha
        have S2 := SL_pt S e1 R1
        rw [S2.2.2.2]
        refine ⟨fun hne => ?_, fun heq => z01 ?_⟩
        · have hk6 : k ≠ 6 := fun e => hne (by rw [e]; rfl)
          rw [if_neg hk6] at H
          rw [← nI_succ]
          refine ⟨dx, callR_rm (show 8 + dx + 1 ≤ 9 + dx by omega) rfl, ?_⟩
          refine ih 3 _ _ (nxt f n a) u st (k + 1) dx (by omega) (by omega) (SL_18 S2 rfl) (by omega) (by omega) (by omega) fun μ3 e3 => ?_
          have z3 : Lz zLM μ3 = Lz zLM μ := e3.trans ((Lz_I rfl).trans (zPt_LM e1))
          cases hr : LPu f n 3 (nxt f n a) (k + 1) with
          | inr b =>
            intro hb hu
            rw [hr] at H
            exact oI ⟨fun q => absurd rfl q, fun _ => z01 (H μ3 z3 hb hu)⟩
          | inl x =>
            intro S3
            rw [hr] at H
            simp only [bdP] at H
            refine oI ⟨fun _ => isT_rm rfl ?_, fun q => absurd q (by decide)⟩
            have S4 := SL_18 S3 (x := mI μ3 140 18 - 1) (k' := k) (by rw [S3.2.2.2, k_pred])
            refine m_sgnB (hcS (by decide)) S4.1 (fun h5 μ5 e5 R5 b5 => oI ⟨Or.inl rfl, ?_⟩) (fun h5 μ5 e5 R5 b5 => oI ⟨Or.inr rfl, ?_⟩)
            · rw [if_neg (by rw [h5]; decide)] at H
              exact H μ5 ((zPt_LM e5).trans ((Lz_I rfl).trans z3)) b5 ⟨_, emL_18, MW_pt S4.2.1 e5⟩
            · rw [if_pos h5] at H
              exact H μ5 ((zPt_LM e5).trans ((Lz_I rfl).trans z3)) (SL_pt S4 e5 R5)
        · have hk6 : k = 6 := nI_inj (b := 6) (by omega) (by omega) heq
          rw [if_pos hk6] at H
          exact H μ1 (zPt_LM e1) b1 ⟨u, E18_rfl, S2.2.1⟩
    | 1 =>
      have d1 : roP 1 k = 3 * (6 - k) + 2 := rfl
      have d2 : roP 2 k = 3 * (6 - k) + 2 := rfl
      have d0 : roP 0 k = 3 * (6 - k) := rfl
      rw [LPu_1 ha ht] at H
      show Spec g i_Mo_readAllOf dx [.ref 140] μ Φ
      refine spi o_Mo_readAllOf rfl (v_Mo_readAllOf_0 ⟨dx - 2, callR_rm (show 9 + (dx - 2) + 1 ≤ 8 + dx by omega) rfl, ?_⟩)
      refine ih 0 _ _ a u st k (dx - 2) (by omega) (by omega) S hst hk (by omega) fun μ1 e1 => ?_
      cases hr : LPu f n 0 a k with
      | inr b =>
        intro hb hu
        rw [hr] at H
        exact oI ⟨fun q => absurd rfl q, fun _ => z01 (H μ1 e1 hb hu)⟩
      | inl x =>
        intro S1
        rw [hr] at H
        obtain ⟨p1, -, -⟩ := LP_g _ 0 _ k ha ht hk x hr
        obtain ⟨a1, a2, a3⟩ := LPu_adv ha ht x hr
        rw [if_neg (by decide)] at a1
        exact oI ⟨fun _ => ih 2 _ _ x.2 _ _ k dx (by omega) (by omega) S1 (by omega) hk (by omega) (EL_pre H e1), fun q => absurd q (by decide)⟩
    | 2 =>
      have d2 : roP 2 k = 3 * (6 - k) + 2 := rfl
      have d0 : roP 0 k = 3 * (6 - k) := rfl
      rw [LPu_2 ha ht] at H
      show WW g i_Mo_readAllOf dx Φ 0 0 9 [(0, .ref 140)] [] μ
      refine v_Mo_readAllOf_9 (isT_rm rfl (m_pasB S.1 (bs := bAn) wk_1059 rfl (by decide) (by decide) (fun h μ1 e1 R1 b1 => oI ⟨fun _ => z11 ?_, fun q => absurd rfl q⟩) (fun h μ1 e1 R1 b1 => oI ⟨fun q => absurd q (by decide), fun _ => ?_⟩)))
      · rw [if_neg (by rw [h]; decide)] at H
        exact H μ1 (zPt_LM e1) (SL_pt S e1 R1)
      · rw [if_pos h] at H
        have hgt := nxt_gt (wdm_n0 h)
        have hle := nxt_le (f := f) ha
        refine ⟨dx - 2, callR_rm (show 9 + (dx - 2) + 1 ≤ 8 + dx by omega) rfl, ?_⟩
        refine ih 0 _ _ (nxt f n a) u st k (dx - 2) (by omega) (by omega) (SL_pt S e1 R1) (by omega) hk (by omega) fun μ2 e2 => ?_
        cases hr : LPu f n 0 (nxt f n a) k with
        | inr b =>
          intro hb hu
          rw [hr] at H
          exact oI ⟨fun q => absurd rfl q, fun _ => z01 (H μ2 (e2.trans (zPt_LM e1)) hb hu)⟩
        | inl x =>
          intro S2
          rw [hr] at H
          obtain ⟨p1, -, -⟩ := LP_g _ 0 _ k hle nxt_tk hk x hr
          obtain ⟨a1, a2, a3⟩ := LPu_adv hle nxt_tk x hr
          rw [if_neg (by decide)] at a1
          refine oI ⟨fun _ => isT_rm rfl ?_, fun q => absurd q (by decide)⟩
          refine m_emi S2.2.1 S2.2.2.1 (by omega) fun μ3 e3 m3 s3 => oV ?_
          have H3 := EL_pre H ((zEm_LM e3).trans (e2.trans (zPt_LM e1)))
          rw [emL_app, List.length_append, ← Nat.add_assoc] at H3
          exact ih 2 _ _ x.2 _ _ k dx (by omega) (by omega) ⟨RK_em e3 S2.1, m3, s3, (rdI1 e3 rfl).trans S2.2.2.2⟩ (by omega) hk (by omega) H3
    | 3 =>
      have d3 : roP 3 k = 3 * (6 - k) + 3 := rfl
      have d4 : roP 4 k = 3 * (6 - k) + 3 := rfl
      have d1 : roP 1 k = 3 * (6 - k) + 2 := rfl
      rw [LPu_3 ha ht] at H
      show Spec g i_Mo_readCond dx [.ref 140] μ Φ
      refine spi o_Mo_readCond rfl (v_Mo_readCond_0 ⟨dx - 1, callR_rm (show 8 + (dx - 1) + 1 ≤ 8 + dx by omega) rfl, ?_⟩)
      refine ih 1 _ _ a u st k (dx - 1) (by omega) (by omega) S hst hk (by omega) fun μ1 e1 => ?_
      cases hr : LPu f n 1 a k with
      | inr b =>
        intro hb hu
        rw [hr] at H
        exact oI ⟨fun q => absurd rfl q, fun _ => z01 (H μ1 e1 hb hu)⟩
      | inl x =>
        intro S1
        rw [hr] at H
        obtain ⟨p1, -, -⟩ := LP_g _ 1 _ k ha ht hk x hr
        obtain ⟨a1, a2, a3⟩ := LPu_adv ha ht x hr
        rw [if_neg (by decide)] at a1
        exact oI ⟨fun _ => ih 4 _ _ x.2 _ _ k dx (by omega) (by omega) S1 (by omega) hk (by omega) (EL_pre H e1), fun q => absurd q (by decide)⟩
    | 4 =>
      have d4 : roP 4 k = 3 * (6 - k) + 3 := rfl
      have d1 : roP 1 k = 3 * (6 - k) + 2 := rfl
      rw [LPu_4 ha ht] at H
      show WW g i_Mo_readCond dx Φ 0 0 9 [(0, .ref 140)] [] μ
      refine v_Mo_readCond_9 (isT_rm rfl (m_pasB S.1 (bs := bOr) wk_1060 rfl (by decide) (by decide) (fun h μ1 e1 R1 b1 => oI ⟨fun _ => z11 ?_, fun q => absurd rfl q⟩) (fun h μ1 e1 R1 b1 => oI ⟨fun q => absurd q (by decide), fun _ => ?_⟩)))
      · rw [if_neg (by rw [h]; decide)] at H
        exact H μ1 (zPt_LM e1) (SL_pt S e1 R1)
      · rw [if_pos h] at H
        have hgt := nxt_gt (wdm_n0 h)
        have hle := nxt_le (f := f) ha
        refine ⟨dx - 1, callR_rm (show 8 + (dx - 1) + 1 ≤ 8 + dx by omega) rfl, ?_⟩
        refine ih 1 _ _ (nxt f n a) u st k (dx - 1) (by omega) (by omega) (SL_pt S e1 R1) (by omega) hk (by omega) fun μ2 e2 => ?_
        cases hr : LPu f n 1 (nxt f n a) k with
        | inr b =>
          intro hb hu
          rw [hr] at H
          exact oI ⟨fun q => absurd rfl q, fun _ => z01 (H μ2 (e2.trans (zPt_LM e1)) hb hu)⟩
        | inl x =>
          intro S2
          rw [hr] at H
          obtain ⟨p1, -, -⟩ := LP_g _ 1 _ k hle nxt_tk hk x hr
          obtain ⟨a1, a2, a3⟩ := LPu_adv hle nxt_tk x hr
          rw [if_neg (by decide)] at a1
          refine oI ⟨fun _ => isT_rm rfl ?_, fun q => absurd q (by decide)⟩
          refine m_emi S2.2.1 S2.2.2.1 (by omega) fun μ3 e3 m3 s3 => oV ?_
          have H3 := EL_pre H ((zEm_LM e3).trans (e2.trans (zPt_LM e1)))
          rw [emL_app, List.length_append, ← Nat.add_assoc] at H3
          exact ih 4 _ _ x.2 _ _ k dx (by omega) (by omega) ⟨RK_em e3 S2.1, m3, s3, (rdI1 e3 rfl).trans S2.2.2.2⟩ (by omega) hk (by omega) H3
    | m + 5 => omega
theorem m_cond (S : SL f n a u st 0 μ) (hst : st < a) {dx : Nat} (hdx : 21 ≤ dx) (H : EL Φ μ f n u st 0 (LPu f n 3 a 0)) : Spec g i_Mo_readCond dx [.ref 140] μ Φ :=
  m_LG (g := g) (f := f) (n := n) _ 3 Φ μ a u st 0 dx (by omega) (Nat.lt_succ_self _) S hst (by omega) hdx H
end LWN
