/-! a law's text: the class's facts and conditions -/
theorem zAC_LC {μ μ' : Mem} (e : Lz zAC μ' = Lz zAC μ) : Lz zLC μ' = Lz zLC μ := zST_LC (zAC_ST e)
section FAC
variable {g : Gl} {Φ : Out → Mem → Prop} {μ : Mem} {f : Nat → Int32} {n a : Nat} {o W : CLs}
theorem EFc_cg {r r' : PRt CLs} (e : r = r') (H : EFc Φ μ f n o W r) : EFc Φ μ f n o W r' := e ▸ H
theorem EFc_pre {r : PRt CLs} {μ1 : Mem} {c : CLs} (H : EFc Φ μ f n o W (preP c r)) (e : Lz zLC μ1 = Lz zLC μ) : EFc Φ μ1 f n (o ++ c) W r := by
  intro μ' e'
  have H' := H μ' (e'.trans e)
  cases r with
  | inl x =>
    intro S
    refine H' ?_
    show CSt f n x.2 (o ++ (c ++ x.1)) W μ'
    rw [← List.append_assoc]; exact S
  | inr b => exact H'
/-- what is still to come behind a sum -/
def Tj (f : Nat → Int32) (n : Nat) (j : Int32) (b : Nat) : PRt CLs := if j = -1 then (if sgn f n b 60 = true then pp (smF f n (nxt f n b)) (fun b' => .inl ([-10], b')) else if sgn f n b 62 = true then pp (smF f n (nxt f n b)) (fun b' => .inl ([-11], b')) else .inr b) else .inl ([j], b)
def RL (f : Nat → Int32) (n : Nat) (j : Int32) (ad : CLs) (a : Nat) : PRt CLs := bdP (ptP f n a) fun c b => preP (c ++ ad) (pp (smU f n b) (Tj f n j))
theorem RL_0 {j : Int32} (hj : j ≠ -1 := by decide) : RL f n j [] a = pp (smF f n a) (fun b' => .inl ([j], b')) := by
  have e : Tj f n j = fun b' => .inl ([j], b') := by funext b; unfold Tj; rw [if_neg hj]
  unfold RL
  rw [e]
  show _ = pp (bdP (ptP f n a) fun c b => preP c (smU f n b)) _
  rw [pp_bd]
  refine bdP_cg rfl fun x _ => ?_
  rw [List.append_nil, pp_pre]
theorem RL_c : cmP f n a = RL f n (-1) [] a := by
  have e1 : cmP f n a = pp (smF f n a) (Tj f n (-1)) := by
    unfold cmP pp
    refine bdP_cg rfl fun x _ => ?_
    unfold Tj
    rw [if_pos rfl]
    by_cases h : sgn f n x.2 60 = true
    · rw [if_pos h, if_pos h]
      unfold pp
      cases smF f n (nxt f n x.2) with
      | inl y => rfl
      | inr b => rfl
    · rw [if_neg h, if_neg h]
      by_cases h : sgn f n x.2 62 = true
      · rw [if_pos h, if_pos h]
        unfold pp
        cases smF f n (nxt f n x.2) with
        | inl y => rfl
        | inr b => rfl
      · rw [if_neg h, if_neg h]; rfl
  rw [e1]
  show pp (bdP (ptP f n a) fun c b => preP c (smU f n b)) _ = _
  rw [pp_bd]
  refine bdP_cg rfl fun x _ => ?_
  rw [List.append_nil, pp_pre]
theorem c_prt (t : TK f n a μ) (H0 : ptP f n a = .inr a → Φ (.inl (some (.int (-16)))) μ) (H1 : ∀ c, ptP f n a = .inl ([c], nxt f n a) → ¬ c = -16 → Φ (.inl (some (.int c))) μ) : Spec g i_LawR_partHere 0 [.ref 82] μ Φ := by
  unfold ptP at H0 H1
  refine spi o_LawR_partHere rfl (v_LawR_partHere_0 (c_aN t (oI ⟨fun h => ?_, fun h => ?_⟩)))
  rotate_left
  · have hn := b2i_n0.mp h
    have hk : ¬ kd f n a = 1 := by rw [kd_nok hn]; decide
    obtain ⟨v, -, v1, v2⟩ := nok_b (lo := 0) (m := 999) (by omega) (by omega) hn
    have h0 : (0 : Int32) ≤ nb f n a := by rw [v2]; exact nI_pos' (by omega)
    rw [t.2.2.2.2.2.2.2.2]
    exact H1 _ (by rw [if_neg hk, if_pos hn]) (fun e => by rw [e] at h0; exact absurd h0 (by decide))
  have hn := b2i_0.mp h
  have wy : ∀ {bs : CLs}, wdm f n a bs = true → kd f n a = 1 := fun h => wdm_1 h
  refine c_aW t (bs := bTh) wk_1006 rfl (by decide) (oI ⟨fun h0 => ?_, fun h0 => H1 (-1) ?_ (by decide)⟩)
  rotate_left
  · have hw := b2i_n0.mp h0
    rw [if_pos (wy hw), if_pos hw]
  have w0 := b2i_0.mp h0
  refine c_aW t (bs := bWo) wk_1007 rfl (by decide) (oI ⟨fun h1 => ?_, fun h1 => H1 (-2) ?_ (by decide)⟩)
  rotate_left
  · have hw := b2i_n0.mp h1
    rw [if_pos (wy hw), if_neg (by rw [w0]; decide), if_pos hw]
  have w1 := b2i_0.mp h1
  refine c_aW t (bs := bWh) wk_1008 rfl (by decide) (oI ⟨fun h2 => ?_, fun h2 => H1 (-3) ?_ (by decide)⟩)
  rotate_left
  · have hw := b2i_n0.mp h2
    rw [if_pos (wy hw), if_neg (by rw [w0]; decide), if_neg (by rw [w1]; decide), if_pos hw]
  have w2 := b2i_0.mp h2
  refine c_aW t (bs := bWm) wk_1009 rfl (by decide) (oI ⟨fun h3 => ?_, fun h3 => H1 (-4) ?_ (by decide)⟩)
  rotate_left
  · have hw := b2i_n0.mp h3
    rw [if_pos (wy hw), if_neg (by rw [w0]; decide), if_neg (by rw [w1]; decide), if_neg (by rw [w2]; decide), if_pos hw]
  have w3 := b2i_0.mp h3
  refine c_aW t (bs := bAp) wk_1010 rfl (by decide) (oI ⟨fun h4 => ?_, fun h4 => H1 (-5) ?_ (by decide)⟩)
  rotate_left
  · have hw := b2i_n0.mp h4
    rw [if_pos (wy hw), if_neg (by rw [w0]; decide), if_neg (by rw [w1]; decide), if_neg (by rw [w2]; decide), if_neg (by rw [w3]; decide), if_pos hw]
  have w4 := b2i_0.mp h4
  refine c_aW t (bs := bEa) wk_1011 rfl (by decide) (oI ⟨fun h5 => ?_, fun h5 => H1 (-6) ?_ (by decide)⟩)
  rotate_left
  · have hw := b2i_n0.mp h5
    rw [if_pos (wy hw), if_neg (by rw [w0]; decide), if_neg (by rw [w1]; decide), if_neg (by rw [w2]; decide), if_neg (by rw [w3]; decide), if_neg (by rw [w4]; decide), if_pos hw]
  have w5 := b2i_0.mp h5
  refine c_aW t (bs := bDa) wk_1012 rfl (by decide) (oI ⟨fun h6 => ?_, fun h6 => H1 (-7) ?_ (by decide)⟩)
  rotate_left
  · have hw := b2i_n0.mp h6
    rw [if_pos (wy hw), if_neg (by rw [w0]; decide), if_neg (by rw [w1]; decide), if_neg (by rw [w2]; decide), if_neg (by rw [w3]; decide), if_neg (by rw [w4]; decide), if_neg (by rw [w5]; decide), if_pos hw]
  have w6 := b2i_0.mp h6
  refine H0 ?_
  rw [w0, w1, w2, w3, w4, w5, w6, hn]
  by_cases hk : kd f n a = 1
  · exact (if_pos hk).trans rfl
  · exact (if_neg hk).trans rfl
theorem c_fl : ∀ d j x2 x3 a ad o μ, n - a < d → (j = -1 ∨ j = -10 ∨ j = -11) → (x2 = 0 ∧ ad = [] ∨ ¬ x2 = 0 ∧ ad = [-9]) → CSt f n a o W μ → x3 + 1 ≤ a → o.length + W.length + 1 + ad.length + (if j = -1 then 0 else 1) ≤ a → EFc Φ μ f n o W (RL f n j ad a) → WW g i_LawR_readFact 0 Φ 0 0 29 [(0, .ref 82), (1, .int j), (2, .int x2), (3, .int (nI x3))] [] μ := by
  intro d
  induction d with
  | zero => intro j x2 x3 a ad o μ h; omega
  | succ d ih =>
    intro j x2 x3 a ad o μ hd hj hx S h3 hbd H
    have n4 := S.1.1
    have ha := S.1.2.1
    refine v_LawR_readFact_29 ⟨fun q => absurd q (nI_ge (b := 400) (by omega) (by decide)), fun _ => c_prt S.1 (fun hp => oI ⟨fun q => absurd rfl q, fun _ => z01 ?_⟩) (fun c hp hc => oI ⟨fun _ => ?_, fun q => absurd q hc⟩)⟩
    · unfold RL at H
      rw [hp] at H
      exact H μ rfl (TK_st S.1)
    obtain ⟨p1, p2, p3⟩ := ptP_adv ha _ hp
    dsimp only at p1 p2 p3
    unfold RL at H
    rw [hp] at H
    simp only [bdP] at H
    generalize hB : nxt f n a = b at *
    have hb := p2
    have ht := p3
    refine c_nx S.1 fun μ3 e3 t3 => oV ?_
    rw [hB] at t3
    refine c_aC (CSt_tk S e3 t3).2.1 (by omega) fun μ4 e4 o4 => oV ⟨fun hx0 => ?_, fun hx0 => ?_⟩
    · have hA : ad = [] := by
        rcases hx with h | h
        · exact h.2
        · exact absurd hx0 h.1
      subst hA
      have S4 := CSt_c (CSt_tk S e3 t3) e4 o4
      have H4 := EFc_pre H (μ1 := μ4) ((zAC_LC e4).trans (zTk_LC e3))
      rw [List.append_nil] at H4
      have hl : (o ++ [c]).length = o.length + 1 := List.length_append
      rw [List.length_nil] at hbd
      refine c_aS S4.1 (oI ⟨fun h => ?_, fun h => ?_⟩)
      · have hs := b2i_n0.mp h
        have hg := nxt_gt (sgn_k hs)
        rw [smU_eq hb ht, if_pos hs, pp_bd, show (bdP (ptP f n (nxt f n b)) fun c b => pp (preP (c ++ [-9]) (smU f n b)) (Tj f n j)) = RL f n j [-9] (nxt f n b) from bdP_cg rfl fun y _ => pp_pre] at H4
        refine ⟨fun _ => ⟨fun _ => c_nx S4.1 fun μ7 e7 t7 => oV ?_, fun q => absurd q h⟩, fun q => absurd q h⟩
        rw [← nI_succ]
        refine ih j _ (x3 + 1) _ [-9] (o ++ [c]) μ7 (by omega) hj (Or.inr ⟨h, rfl⟩) (CSt_tk S4 e7 t7) (by omega) (by rw [List.length_singleton]; omega) fun μ' e' => H4 μ' (e'.trans (zTk_LC e7))
      · have hs := b2i_0.mp h
        rw [smU_eq hb ht, if_neg (by rw [hs]; decide), pp_nil] at H4
        refine ⟨fun hq => ?_, fun hq => ?_⟩
        · rw [if_pos hq] at hbd
          unfold Tj at H4
          rw [if_pos hq] at H4
          refine ⟨fun q => absurd h q, fun _ => c_aS S4.1 (oI ⟨fun h2 => ?_, fun h2 => ?_⟩)⟩
          · rw [if_neg (by rw [b2i_0.mp h2]; decide)] at H4
            refine c_aS S4.1 (oI ⟨fun h3 => ?_, fun h3 => ?_⟩)
            · rw [if_neg (by rw [b2i_0.mp h3]; decide)] at H4
              exact ⟨fun q => absurd h q, fun _ => ⟨fun q => absurd rfl q, fun _ => z01 (H4 _ rfl (TK_st S4.1))⟩⟩
            · rw [if_pos (b2i_n0.mp h3), ← RL_0 (j := -11) (by decide)] at H4
              have hg := nxt_gt (sgn_k (b2i_n0.mp h3))
              refine ⟨fun q => absurd h q, fun _ => ⟨fun _ => c_nx S4.1 fun μ7 e7 t7 => oV ?_, fun q => absurd q (by decide)⟩⟩
              rw [← nI_succ]
              refine ih (-11) _ (x3 + 1) _ [] (o ++ [c]) μ7 (by omega) (by decide) (Or.inl ⟨h, rfl⟩) (CSt_tk S4 e7 t7) (by omega) (by rw [List.length_nil, if_neg (by decide)]; omega) fun μ' e' => H4 μ' (e'.trans (zTk_LC e7))
          · rw [if_pos (b2i_n0.mp h2), ← RL_0 (j := -10) (by decide)] at H4
            have hg := nxt_gt (sgn_k (b2i_n0.mp h2))
            refine ⟨fun q => absurd h q, fun _ => ⟨fun _ => c_nx S4.1 fun μ7 e7 t7 => oV ?_, fun q => absurd q (by decide)⟩⟩
            rw [← nI_succ]
            refine ih (-10) _ (x3 + 1) _ [] (o ++ [c]) μ7 (by omega) (by decide) (Or.inl ⟨h, rfl⟩) (CSt_tk S4 e7 t7) (by omega) (by rw [List.length_nil, if_neg (by decide)]; omega) fun μ' e' => H4 μ' (e'.trans (zTk_LC e7))
        · rw [if_neg hq] at hbd
          unfold Tj at H4
          rw [if_neg hq] at H4
          refine c_aC S4.2.1 (by omega) fun μ7 e7 o7 => oV (z11 ?_)
          exact H4 μ7 (zAC_LC e7) (CSt_c S4 e7 o7)
    · have hA : ad = [-9] := by
        rcases hx with h | h
        · exact absurd h.1 hx0
        · exact h.2
      subst hA
      rw [List.length_singleton] at hbd
      refine c_aC o4 (by rw [List.length_append, List.length_singleton]; omega) fun μ5 e5 o5 => oV ?_
      have S4 := CSt_c (CSt_c (CSt_tk S e3 t3) e4 o4) e5 o5
      have H4 := EFc_pre H (μ1 := μ5) ((zAC_LC e5).trans ((zAC_LC e4).trans (zTk_LC e3)))
      rw [show o ++ ([c] ++ [-9]) = o ++ [c] ++ [-9] from (List.append_assoc _ _ _).symm] at H4
      have hl : (o ++ [c] ++ [-9]).length = o.length + 2 := by simp only [List.length_append, List.length_singleton]
      refine c_aS S4.1 (oI ⟨fun h => ?_, fun h => ?_⟩)
      · have hs := b2i_n0.mp h
        have hg := nxt_gt (sgn_k hs)
        rw [smU_eq hb ht, if_pos hs, pp_bd, show (bdP (ptP f n (nxt f n b)) fun c b => pp (preP (c ++ [-9]) (smU f n b)) (Tj f n j)) = RL f n j [-9] (nxt f n b) from bdP_cg rfl fun y _ => pp_pre] at H4
        refine ⟨fun _ => ⟨fun _ => c_nx S4.1 fun μ7 e7 t7 => oV ?_, fun q => absurd q h⟩, fun q => absurd q h⟩
        rw [← nI_succ]
        refine ih j _ (x3 + 1) _ [-9] (o ++ [c] ++ [-9]) μ7 (by omega) hj (Or.inr ⟨h, rfl⟩) (CSt_tk S4 e7 t7) (by omega) (by rw [List.length_singleton]; omega) fun μ' e' => H4 μ' (e'.trans (zTk_LC e7))
      · have hs := b2i_0.mp h
        rw [smU_eq hb ht, if_neg (by rw [hs]; decide), pp_nil] at H4
        refine ⟨fun hq => ?_, fun hq => ?_⟩
        · rw [if_pos hq] at hbd
          unfold Tj at H4
          rw [if_pos hq] at H4
          refine ⟨fun q => absurd h q, fun _ => c_aS S4.1 (oI ⟨fun h2 => ?_, fun h2 => ?_⟩)⟩
          · rw [if_neg (by rw [b2i_0.mp h2]; decide)] at H4
            refine c_aS S4.1 (oI ⟨fun h3 => ?_, fun h3 => ?_⟩)
            · rw [if_neg (by rw [b2i_0.mp h3]; decide)] at H4
              exact ⟨fun q => absurd h q, fun _ => ⟨fun q => absurd rfl q, fun _ => z01 (H4 _ rfl (TK_st S4.1))⟩⟩
            · rw [if_pos (b2i_n0.mp h3), ← RL_0 (j := -11) (by decide)] at H4
              have hg := nxt_gt (sgn_k (b2i_n0.mp h3))
              refine ⟨fun q => absurd h q, fun _ => ⟨fun _ => c_nx S4.1 fun μ7 e7 t7 => oV ?_, fun q => absurd q (by decide)⟩⟩
              rw [← nI_succ]
              refine ih (-11) _ (x3 + 1) _ [] (o ++ [c] ++ [-9]) μ7 (by omega) (by decide) (Or.inl ⟨h, rfl⟩) (CSt_tk S4 e7 t7) (by omega) (by rw [List.length_nil, if_neg (by decide)]; omega) fun μ' e' => H4 μ' (e'.trans (zTk_LC e7))
          · rw [if_pos (b2i_n0.mp h2), ← RL_0 (j := -10) (by decide)] at H4
            have hg := nxt_gt (sgn_k (b2i_n0.mp h2))
            refine ⟨fun q => absurd h q, fun _ => ⟨fun _ => c_nx S4.1 fun μ7 e7 t7 => oV ?_, fun q => absurd q (by decide)⟩⟩
            rw [← nI_succ]
            refine ih (-10) _ (x3 + 1) _ [] (o ++ [c] ++ [-9]) μ7 (by omega) (by decide) (Or.inl ⟨h, rfl⟩) (CSt_tk S4 e7 t7) (by omega) (by rw [List.length_nil, if_neg (by decide)]; omega) fun μ' e' => H4 μ' (e'.trans (zTk_LC e7))
        · rw [if_neg hq] at hbd
          unfold Tj at H4
          rw [if_neg hq] at H4
          refine c_aC S4.2.1 (by omega) fun μ7 e7 o7 => oV (z11 ?_)
          exact H4 μ7 (zAC_LC e7) (CSt_c S4 e7 o7)
theorem c_fac (S : CSt f n a o W μ) (hbd : o.length + W.length + 1 ≤ a) (H : EFc Φ μ f n o W (fcP f n a)) : Spec g i_LawR_readFact 0 [.ref 82] μ Φ := by
  have n4 := S.1.1
  have ha := S.1.2.1
  unfold fcP at H
  refine spi o_LawR_readFact rfl (v_LawR_readFact_0 (c_tW S.1 (bs := bKw) wk_1005 rfl (by decide) (fun h => oI ⟨fun _ => ?_, fun q => absurd rfl q⟩) (fun h μ1 e1 t1 => oI ⟨fun q => absurd q (by decide), fun _ => ?_⟩)))
  · rw [if_neg (by rw [h]; decide), RL_c] at H
    exact c_fl (n + 1) (-1) 0 0 a [] o μ (by omega) (Or.inl rfl) (Or.inl ⟨rfl, rfl⟩) S (by omega) (by rw [List.length_nil, if_pos rfl]; omega) H
  · rw [if_pos h] at H
    have S1 := CSt_tk S e1 t1
    refine c_aC S1.2.1 (by omega) fun μ2 e2 o2 => oV (z11 ?_)
    exact H μ2 ((zAC_LC e2).trans (zTk_LC e1)) (CSt_c S1 e2 o2)
end FAC
